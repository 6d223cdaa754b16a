section
-- ===== PART A: goes FIRST, ahead of the names: the tables' words, and 'selects' of the private methods out of them =====
/-- a private method of a class that the tables say can be made, by its rows of tables_1 -/
def lw_okq (q : MethodName × Nat) : Prop := (q.1.cls ≠ "java/lang/invoke/MethodHandle" ∧ q.1.cls ≠ "java/lang/invoke/VarHandle") ∧ Cond.instantiable q.1.cls q.2 ∈ tables_1 ∧ Cond.privateMethod q.1 ∈ tables_1 ∧ Cond.instanceMethod q.1 ∈ tables_1
theorem lw_p0 : lw_okq (⟨"WhitePaw$Reader", "kind", "()I"⟩, 4) := ⟨⟨by decide +kernel, by decide +kernel⟩, List.mem_of_getElem? (i := 124) (by decide +kernel), List.mem_of_getElem? (i := 370) (by decide +kernel), List.mem_of_getElem? (i := 371) (by decide +kernel)⟩
theorem lw_p1 : lw_okq (⟨"WhitePaw$Reader", "readItem", "()Z"⟩, 4) := ⟨⟨by decide +kernel, by decide +kernel⟩, List.mem_of_getElem? (i := 124) (by decide +kernel), List.mem_of_getElem? (i := 377) (by decide +kernel), List.mem_of_getElem? (i := 378) (by decide +kernel)⟩
theorem lw_p2 : lw_okq (⟨"WhitePaw$Reader", "readLoud", "()Z"⟩, 4) := ⟨⟨by decide +kernel, by decide +kernel⟩, List.mem_of_getElem? (i := 124) (by decide +kernel), List.mem_of_getElem? (i := 381) (by decide +kernel), List.mem_of_getElem? (i := 382) (by decide +kernel)⟩
theorem lw_p3 : lw_okq (⟨"WhitePaw$Reader", "readSigns", "()I"⟩, 4) := ⟨⟨by decide +kernel, by decide +kernel⟩, List.mem_of_getElem? (i := 124) (by decide +kernel), List.mem_of_getElem? (i := 385) (by decide +kernel), List.mem_of_getElem? (i := 386) (by decide +kernel)⟩
theorem lw_p4 : lw_okq (⟨"WhitePaw$Reader", "readStop", "()Z"⟩, 4) := ⟨⟨by decide +kernel, by decide +kernel⟩, List.mem_of_getElem? (i := 124) (by decide +kernel), List.mem_of_getElem? (i := 395) (by decide +kernel), List.mem_of_getElem? (i := 396) (by decide +kernel)⟩
theorem lw_p5 : lw_okq (⟨"WhitePaw$Reader", "readKnocker", "()Z"⟩, 4) := ⟨⟨by decide +kernel, by decide +kernel⟩, List.mem_of_getElem? (i := 124) (by decide +kernel), List.mem_of_getElem? (i := 399) (by decide +kernel), List.mem_of_getElem? (i := 400) (by decide +kernel)⟩
theorem lw_p6 : lw_okq (⟨"WhitePaw$Reader", "readNumber", "(II)I"⟩, 4) := ⟨⟨by decide +kernel, by decide +kernel⟩, List.mem_of_getElem? (i := 124) (by decide +kernel), List.mem_of_getElem? (i := 403) (by decide +kernel), List.mem_of_getElem? (i := 404) (by decide +kernel)⟩
theorem lw_p7 : lw_okq (⟨"WhitePaw$Reader", "readErrand", "()Z"⟩, 4) := ⟨⟨by decide +kernel, by decide +kernel⟩, List.mem_of_getElem? (i := 124) (by decide +kernel), List.mem_of_getElem? (i := 408) (by decide +kernel), List.mem_of_getElem? (i := 409) (by decide +kernel)⟩
theorem lw_p8 : lw_okq (⟨"WhitePaw$Reader", "readNeed", "()I"⟩, 4) := ⟨⟨by decide +kernel, by decide +kernel⟩, List.mem_of_getElem? (i := 124) (by decide +kernel), List.mem_of_getElem? (i := 412) (by decide +kernel), List.mem_of_getElem? (i := 413) (by decide +kernel)⟩
theorem lw_p9 : lw_okq (⟨"WhitePaw$Reader", "readRule", "()Z"⟩, 4) := ⟨⟨by decide +kernel, by decide +kernel⟩, List.mem_of_getElem? (i := 124) (by decide +kernel), List.mem_of_getElem? (i := 416) (by decide +kernel), List.mem_of_getElem? (i := 417) (by decide +kernel)⟩
theorem lw_p10 : lw_okq (⟨"WhitePaw", "isKnocker", "(I)Z"⟩, 15) := ⟨⟨by decide +kernel, by decide +kernel⟩, List.mem_of_getElem? (i := 19) (by decide +kernel), List.mem_of_getElem? (i := 449) (by decide +kernel), List.mem_of_getElem? (i := 450) (by decide +kernel)⟩
theorem lw_p11 : lw_okq (⟨"WhitePaw", "signsOf", "(I)I"⟩, 15) := ⟨⟨by decide +kernel, by decide +kernel⟩, List.mem_of_getElem? (i := 19) (by decide +kernel), List.mem_of_getElem? (i := 454) (by decide +kernel), List.mem_of_getElem? (i := 455) (by decide +kernel)⟩
theorem lw_p12 : lw_okq (⟨"WhitePaw", "isLetIn", "(I)Z"⟩, 15) := ⟨⟨by decide +kernel, by decide +kernel⟩, List.mem_of_getElem? (i := 19) (by decide +kernel), List.mem_of_getElem? (i := 458) (by decide +kernel), List.mem_of_getElem? (i := 459) (by decide +kernel)⟩
theorem lw_p13 : lw_okq (⟨"WhitePaw", "rulesMet", "(I)I"⟩, 15) := ⟨⟨by decide +kernel, by decide +kernel⟩, List.mem_of_getElem? (i := 19) (by decide +kernel), List.mem_of_getElem? (i := 462) (by decide +kernel), List.mem_of_getElem? (i := 463) (by decide +kernel)⟩
theorem lw_p14 : lw_okq (⟨"WhitePaw", "hasEnough", "(II)Z"⟩, 15) := ⟨⟨by decide +kernel, by decide +kernel⟩, List.mem_of_getElem? (i := 19) (by decide +kernel), List.mem_of_getElem? (i := 466) (by decide +kernel), List.mem_of_getElem? (i := 467) (by decide +kernel)⟩
theorem lw_p15 : lw_okq (⟨"WhitePaw", "isErrand", "(I)Z"⟩, 15) := ⟨⟨by decide +kernel, by decide +kernel⟩, List.mem_of_getElem? (i := 19) (by decide +kernel), List.mem_of_getElem? (i := 475) (by decide +kernel), List.mem_of_getElem? (i := 476) (by decide +kernel)⟩
def lw_privs_1 : List (MethodName × Nat) := [(⟨"WhitePaw$Reader", "kind", "()I"⟩, 4), (⟨"WhitePaw$Reader", "readItem", "()Z"⟩, 4), (⟨"WhitePaw$Reader", "readLoud", "()Z"⟩, 4), (⟨"WhitePaw$Reader", "readSigns", "()I"⟩, 4), (⟨"WhitePaw$Reader", "readStop", "()Z"⟩, 4), (⟨"WhitePaw$Reader", "readKnocker", "()Z"⟩, 4), (⟨"WhitePaw$Reader", "readNumber", "(II)I"⟩, 4), (⟨"WhitePaw$Reader", "readErrand", "()Z"⟩, 4), (⟨"WhitePaw$Reader", "readNeed", "()I"⟩, 4), (⟨"WhitePaw$Reader", "readRule", "()Z"⟩, 4), (⟨"WhitePaw", "isKnocker", "(I)Z"⟩, 15), (⟨"WhitePaw", "signsOf", "(I)I"⟩, 15), (⟨"WhitePaw", "isLetIn", "(I)Z"⟩, 15), (⟨"WhitePaw", "rulesMet", "(I)I"⟩, 15), (⟨"WhitePaw", "hasEnough", "(II)Z"⟩, 15), (⟨"WhitePaw", "isErrand", "(I)Z"⟩, 15)]
theorem lw_r1 : ∀ q ∈ lw_privs_1, lw_okq q := List.forall_mem_cons.mpr ⟨lw_p0, List.forall_mem_cons.mpr ⟨lw_p1, List.forall_mem_cons.mpr ⟨lw_p2, List.forall_mem_cons.mpr ⟨lw_p3, List.forall_mem_cons.mpr ⟨lw_p4, List.forall_mem_cons.mpr ⟨lw_p5, List.forall_mem_cons.mpr ⟨lw_p6, List.forall_mem_cons.mpr ⟨lw_p7, List.forall_mem_cons.mpr ⟨lw_p8, List.forall_mem_cons.mpr ⟨lw_p9, List.forall_mem_cons.mpr ⟨lw_p10, List.forall_mem_cons.mpr ⟨lw_p11, List.forall_mem_cons.mpr ⟨lw_p12, List.forall_mem_cons.mpr ⟨lw_p13, List.forall_mem_cons.mpr ⟨lw_p14, List.forall_mem_cons.mpr ⟨lw_p15, fun _ h => absurd h List.not_mem_nil⟩⟩⟩⟩⟩⟩⟩⟩⟩⟩⟩⟩⟩⟩⟩⟩
theorem lw_p16 : lw_okq (⟨"WhitePaw", "isRule", "(I)Z"⟩, 15) := ⟨⟨by decide +kernel, by decide +kernel⟩, List.mem_of_getElem? (i := 19) (by decide +kernel), List.mem_of_getElem? (i := 483) (by decide +kernel), List.mem_of_getElem? (i := 484) (by decide +kernel)⟩
theorem lw_p17 : lw_okq (⟨"WhitePaw", "remember", "()V"⟩, 15) := ⟨⟨by decide +kernel, by decide +kernel⟩, List.mem_of_getElem? (i := 19) (by decide +kernel), List.mem_of_getElem? (i := 500) (by decide +kernel), List.mem_of_getElem? (i := 501) (by decide +kernel)⟩
theorem lw_p18 : lw_okq (⟨"WhitePaw$Moments", "row", "(I)LWhitePaw$Moment;"⟩, 1) := ⟨⟨by decide +kernel, by decide +kernel⟩, List.mem_of_getElem? (i := 167) (by decide +kernel), List.mem_of_getElem? (i := 508) (by decide +kernel), List.mem_of_getElem? (i := 509) (by decide +kernel)⟩
theorem lw_p19 : lw_okq (⟨"WhitePaw", "signsOfRules", "()I"⟩, 15) := ⟨⟨by decide +kernel, by decide +kernel⟩, List.mem_of_getElem? (i := 19) (by decide +kernel), List.mem_of_getElem? (i := 518) (by decide +kernel), List.mem_of_getElem? (i := 519) (by decide +kernel)⟩
theorem lw_p20 : lw_okq (⟨"WhitePaw", "letIn", "()I"⟩, 15) := ⟨⟨by decide +kernel, by decide +kernel⟩, List.mem_of_getElem? (i := 19) (by decide +kernel), List.mem_of_getElem? (i := 532) (by decide +kernel), List.mem_of_getElem? (i := 533) (by decide +kernel)⟩
theorem lw_p21 : lw_okq (⟨"WhitePaw", "rightOnes", "()I"⟩, 15) := ⟨⟨by decide +kernel, by decide +kernel⟩, List.mem_of_getElem? (i := 19) (by decide +kernel), List.mem_of_getElem? (i := 548) (by decide +kernel), List.mem_of_getElem? (i := 549) (by decide +kernel)⟩
theorem lw_p22 : lw_okq (⟨"WhitePaw", "soonestSet", "(II)I"⟩, 15) := ⟨⟨by decide +kernel, by decide +kernel⟩, List.mem_of_getElem? (i := 19) (by decide +kernel), List.mem_of_getElem? (i := 556) (by decide +kernel), List.mem_of_getElem? (i := 557) (by decide +kernel)⟩
theorem lw_p23 : lw_okq (⟨"WhitePaw$Ways", "lastOf", "(LWhitePaw$House;I)I"⟩, 3) := ⟨⟨by decide +kernel, by decide +kernel⟩, List.mem_of_getElem? (i := 183) (by decide +kernel), List.mem_of_getElem? (i := 565) (by decide +kernel), List.mem_of_getElem? (i := 566) (by decide +kernel)⟩
theorem lw_p24 : lw_okq (⟨"WhitePaw$Ways", "runLast", "(LWhitePaw$House;II)V"⟩, 3) := ⟨⟨by decide +kernel, by decide +kernel⟩, List.mem_of_getElem? (i := 183) (by decide +kernel), List.mem_of_getElem? (i := 575) (by decide +kernel), List.mem_of_getElem? (i := 576) (by decide +kernel)⟩
theorem lw_p25 : lw_okq (⟨"WhitePaw", "isSoon", "(III)Z"⟩, 15) := ⟨⟨by decide +kernel, by decide +kernel⟩, List.mem_of_getElem? (i := 19) (by decide +kernel), List.mem_of_getElem? (i := 587) (by decide +kernel), List.mem_of_getElem? (i := 588) (by decide +kernel)⟩
theorem lw_p26 : lw_okq (⟨"WhitePaw", "loneRule", "(II)I"⟩, 15) := ⟨⟨by decide +kernel, by decide +kernel⟩, List.mem_of_getElem? (i := 19) (by decide +kernel), List.mem_of_getElem? (i := 595) (by decide +kernel), List.mem_of_getElem? (i := 596) (by decide +kernel)⟩
theorem lw_p27 : lw_okq (⟨"WhitePaw", "gatherCrowd", "(I)V"⟩, 15) := ⟨⟨by decide +kernel, by decide +kernel⟩, List.mem_of_getElem? (i := 19) (by decide +kernel), List.mem_of_getElem? (i := 599) (by decide +kernel), List.mem_of_getElem? (i := 600) (by decide +kernel)⟩
theorem lw_p28 : lw_okq (⟨"WhitePaw", "leastNumber", "(I)I"⟩, 15) := ⟨⟨by decide +kernel, by decide +kernel⟩, List.mem_of_getElem? (i := 19) (by decide +kernel), List.mem_of_getElem? (i := 609) (by decide +kernel), List.mem_of_getElem? (i := 610) (by decide +kernel)⟩
theorem lw_p29 : lw_okq (⟨"WhitePaw", "canHaveBeen", "(I)Z"⟩, 15) := ⟨⟨by decide +kernel, by decide +kernel⟩, List.mem_of_getElem? (i := 19) (by decide +kernel), List.mem_of_getElem? (i := 649) (by decide +kernel), List.mem_of_getElem? (i := 650) (by decide +kernel)⟩
theorem lw_p30 : lw_okq (⟨"WhitePaw", "worstLeft", "(II)I"⟩, 15) := ⟨⟨by decide +kernel, by decide +kernel⟩, List.mem_of_getElem? (i := 19) (by decide +kernel), List.mem_of_getElem? (i := 658) (by decide +kernel), List.mem_of_getElem? (i := 659) (by decide +kernel)⟩
theorem lw_p31 : lw_okq (⟨"WhitePaw", "asKnocker", "(I)I"⟩, 15) := ⟨⟨by decide +kernel, by decide +kernel⟩, List.mem_of_getElem? (i := 19) (by decide +kernel), List.mem_of_getElem? (i := 668) (by decide +kernel), List.mem_of_getElem? (i := 669) (by decide +kernel)⟩
def lw_privs_2 : List (MethodName × Nat) := [(⟨"WhitePaw", "isRule", "(I)Z"⟩, 15), (⟨"WhitePaw", "remember", "()V"⟩, 15), (⟨"WhitePaw$Moments", "row", "(I)LWhitePaw$Moment;"⟩, 1), (⟨"WhitePaw", "signsOfRules", "()I"⟩, 15), (⟨"WhitePaw", "letIn", "()I"⟩, 15), (⟨"WhitePaw", "rightOnes", "()I"⟩, 15), (⟨"WhitePaw", "soonestSet", "(II)I"⟩, 15), (⟨"WhitePaw$Ways", "lastOf", "(LWhitePaw$House;I)I"⟩, 3), (⟨"WhitePaw$Ways", "runLast", "(LWhitePaw$House;II)V"⟩, 3), (⟨"WhitePaw", "isSoon", "(III)Z"⟩, 15), (⟨"WhitePaw", "loneRule", "(II)I"⟩, 15), (⟨"WhitePaw", "gatherCrowd", "(I)V"⟩, 15), (⟨"WhitePaw", "leastNumber", "(I)I"⟩, 15), (⟨"WhitePaw", "canHaveBeen", "(I)Z"⟩, 15), (⟨"WhitePaw", "worstLeft", "(II)I"⟩, 15), (⟨"WhitePaw", "asKnocker", "(I)I"⟩, 15)]
theorem lw_r2 : ∀ q ∈ lw_privs_2, lw_okq q := List.forall_mem_cons.mpr ⟨lw_p16, List.forall_mem_cons.mpr ⟨lw_p17, List.forall_mem_cons.mpr ⟨lw_p18, List.forall_mem_cons.mpr ⟨lw_p19, List.forall_mem_cons.mpr ⟨lw_p20, List.forall_mem_cons.mpr ⟨lw_p21, List.forall_mem_cons.mpr ⟨lw_p22, List.forall_mem_cons.mpr ⟨lw_p23, List.forall_mem_cons.mpr ⟨lw_p24, List.forall_mem_cons.mpr ⟨lw_p25, List.forall_mem_cons.mpr ⟨lw_p26, List.forall_mem_cons.mpr ⟨lw_p27, List.forall_mem_cons.mpr ⟨lw_p28, List.forall_mem_cons.mpr ⟨lw_p29, List.forall_mem_cons.mpr ⟨lw_p30, List.forall_mem_cons.mpr ⟨lw_p31, fun _ h => absurd h List.not_mem_nil⟩⟩⟩⟩⟩⟩⟩⟩⟩⟩⟩⟩⟩⟩⟩⟩
theorem lw_p32 : lw_okq (⟨"WhitePaw", "asMother", "(I)I"⟩, 15) := ⟨⟨by decide +kernel, by decide +kernel⟩, List.mem_of_getElem? (i := 19) (by decide +kernel), List.mem_of_getElem? (i := 672) (by decide +kernel), List.mem_of_getElem? (i := 673) (by decide +kernel)⟩
theorem lw_p33 : lw_okq (⟨"WhitePaw", "asWolf", "(I)I"⟩, 15) := ⟨⟨by decide +kernel, by decide +kernel⟩, List.mem_of_getElem? (i := 19) (by decide +kernel), List.mem_of_getElem? (i := 677) (by decide +kernel), List.mem_of_getElem? (i := 678) (by decide +kernel)⟩
theorem lw_p34 : lw_okq (⟨"WhitePaw", "asAunt", "(I)I"⟩, 15) := ⟨⟨by decide +kernel, by decide +kernel⟩, List.mem_of_getElem? (i := 19) (by decide +kernel), List.mem_of_getElem? (i := 682) (by decide +kernel), List.mem_of_getElem? (i := 683) (by decide +kernel)⟩
theorem lw_p35 : lw_okq (⟨"WhitePaw", "asMiller", "(I)I"⟩, 15) := ⟨⟨by decide +kernel, by decide +kernel⟩, List.mem_of_getElem? (i := 19) (by decide +kernel), List.mem_of_getElem? (i := 687) (by decide +kernel), List.mem_of_getElem? (i := 688) (by decide +kernel)⟩
theorem lw_p36 : lw_okq (⟨"WhitePaw", "asFox", "(I)I"⟩, 15) := ⟨⟨by decide +kernel, by decide +kernel⟩, List.mem_of_getElem? (i := 19) (by decide +kernel), List.mem_of_getElem? (i := 692) (by decide +kernel), List.mem_of_getElem? (i := 693) (by decide +kernel)⟩
theorem lw_p37 : lw_okq (⟨"WhitePawModel", "advances", "()V"⟩, 29) := ⟨⟨by decide +kernel, by decide +kernel⟩, List.mem_of_getElem? (i := 716) (by decide +kernel), List.mem_of_getElem? (i := 827) (by decide +kernel), List.mem_of_getElem? (i := 828) (by decide +kernel)⟩
theorem lw_p38 : lw_okq (⟨"WhitePawModel", "byteAt", "(I)I"⟩, 29) := ⟨⟨by decide +kernel, by decide +kernel⟩, List.mem_of_getElem? (i := 716) (by decide +kernel), List.mem_of_getElem? (i := 831) (by decide +kernel), List.mem_of_getElem? (i := 832) (by decide +kernel)⟩
theorem lw_p39 : lw_okq (⟨"WhitePawModel", "isWell", "()Z"⟩, 29) := ⟨⟨by decide +kernel, by decide +kernel⟩, List.mem_of_getElem? (i := 716) (by decide +kernel), List.mem_of_getElem? (i := 845) (by decide +kernel), List.mem_of_getElem? (i := 846) (by decide +kernel)⟩
theorem lw_p40 : lw_okq (⟨"WhitePawModel", "takes", "(Z)I"⟩, 29) := ⟨⟨by decide +kernel, by decide +kernel⟩, List.mem_of_getElem? (i := 716) (by decide +kernel), List.mem_of_getElem? (i := 849) (by decide +kernel), List.mem_of_getElem? (i := 850) (by decide +kernel)⟩
theorem lw_p41 : lw_okq (⟨"WhitePawModel", "readsItem", "(I)V"⟩, 29) := ⟨⟨by decide +kernel, by decide +kernel⟩, List.mem_of_getElem? (i := 716) (by decide +kernel), List.mem_of_getElem? (i := 853) (by decide +kernel), List.mem_of_getElem? (i := 854) (by decide +kernel)⟩
theorem lw_p42 : lw_okq (⟨"WhitePawModel", "signSet", "()I"⟩, 29) := ⟨⟨by decide +kernel, by decide +kernel⟩, List.mem_of_getElem? (i := 716) (by decide +kernel), List.mem_of_getElem? (i := 857) (by decide +kernel), List.mem_of_getElem? (i := 858) (by decide +kernel)⟩
theorem lw_p43 : lw_okq (⟨"WhitePawModel", "number", "(II)I"⟩, 29) := ⟨⟨by decide +kernel, by decide +kernel⟩, List.mem_of_getElem? (i := 716) (by decide +kernel), List.mem_of_getElem? (i := 861) (by decide +kernel), List.mem_of_getElem? (i := 862) (by decide +kernel)⟩
theorem lw_p44 : lw_okq (⟨"WhitePawModel", "settles", "()V"⟩, 29) := ⟨⟨by decide +kernel, by decide +kernel⟩, List.mem_of_getElem? (i := 716) (by decide +kernel), List.mem_of_getElem? (i := 868) (by decide +kernel), List.mem_of_getElem? (i := 869) (by decide +kernel)⟩
theorem lw_p45 : lw_okq (⟨"WhitePawModel", "isKnocker", "(I)Z"⟩, 29) := ⟨⟨by decide +kernel, by decide +kernel⟩, List.mem_of_getElem? (i := 716) (by decide +kernel), List.mem_of_getElem? (i := 876) (by decide +kernel), List.mem_of_getElem? (i := 877) (by decide +kernel)⟩
theorem lw_p46 : lw_okq (⟨"WhitePawModel", "isLetIn", "(I)Z"⟩, 29) := ⟨⟨by decide +kernel, by decide +kernel⟩, List.mem_of_getElem? (i := 716) (by decide +kernel), List.mem_of_getElem? (i := 880) (by decide +kernel), List.mem_of_getElem? (i := 881) (by decide +kernel)⟩
theorem lw_p47 : lw_okq (⟨"WhitePawModel", "hasEnough", "(II)Z"⟩, 29) := ⟨⟨by decide +kernel, by decide +kernel⟩, List.mem_of_getElem? (i := 716) (by decide +kernel), List.mem_of_getElem? (i := 884) (by decide +kernel), List.mem_of_getElem? (i := 885) (by decide +kernel)⟩
def lw_privs_3 : List (MethodName × Nat) := [(⟨"WhitePaw", "asMother", "(I)I"⟩, 15), (⟨"WhitePaw", "asWolf", "(I)I"⟩, 15), (⟨"WhitePaw", "asAunt", "(I)I"⟩, 15), (⟨"WhitePaw", "asMiller", "(I)I"⟩, 15), (⟨"WhitePaw", "asFox", "(I)I"⟩, 15), (⟨"WhitePawModel", "advances", "()V"⟩, 29), (⟨"WhitePawModel", "byteAt", "(I)I"⟩, 29), (⟨"WhitePawModel", "isWell", "()Z"⟩, 29), (⟨"WhitePawModel", "takes", "(Z)I"⟩, 29), (⟨"WhitePawModel", "readsItem", "(I)V"⟩, 29), (⟨"WhitePawModel", "signSet", "()I"⟩, 29), (⟨"WhitePawModel", "number", "(II)I"⟩, 29), (⟨"WhitePawModel", "settles", "()V"⟩, 29), (⟨"WhitePawModel", "isKnocker", "(I)Z"⟩, 29), (⟨"WhitePawModel", "isLetIn", "(I)Z"⟩, 29), (⟨"WhitePawModel", "hasEnough", "(II)Z"⟩, 29)]
theorem lw_r3 : ∀ q ∈ lw_privs_3, lw_okq q := List.forall_mem_cons.mpr ⟨lw_p32, List.forall_mem_cons.mpr ⟨lw_p33, List.forall_mem_cons.mpr ⟨lw_p34, List.forall_mem_cons.mpr ⟨lw_p35, List.forall_mem_cons.mpr ⟨lw_p36, List.forall_mem_cons.mpr ⟨lw_p37, List.forall_mem_cons.mpr ⟨lw_p38, List.forall_mem_cons.mpr ⟨lw_p39, List.forall_mem_cons.mpr ⟨lw_p40, List.forall_mem_cons.mpr ⟨lw_p41, List.forall_mem_cons.mpr ⟨lw_p42, List.forall_mem_cons.mpr ⟨lw_p43, List.forall_mem_cons.mpr ⟨lw_p44, List.forall_mem_cons.mpr ⟨lw_p45, List.forall_mem_cons.mpr ⟨lw_p46, List.forall_mem_cons.mpr ⟨lw_p47, fun _ h => absurd h List.not_mem_nil⟩⟩⟩⟩⟩⟩⟩⟩⟩⟩⟩⟩⟩⟩⟩⟩
theorem lw_p48 : lw_okq (⟨"WhitePawModel", "isErrand", "(I)Z"⟩, 29) := ⟨⟨by decide +kernel, by decide +kernel⟩, List.mem_of_getElem? (i := 716) (by decide +kernel), List.mem_of_getElem? (i := 892) (by decide +kernel), List.mem_of_getElem? (i := 893) (by decide +kernel)⟩
theorem lw_p49 : lw_okq (⟨"WhitePawModel", "isRule", "(I)Z"⟩, 29) := ⟨⟨by decide +kernel, by decide +kernel⟩, List.mem_of_getElem? (i := 716) (by decide +kernel), List.mem_of_getElem? (i := 900) (by decide +kernel), List.mem_of_getElem? (i := 901) (by decide +kernel)⟩
theorem lw_p50 : lw_okq (⟨"WhitePawModel", "canRun", "(II)Z"⟩, 29) := ⟨⟨by decide +kernel, by decide +kernel⟩, List.mem_of_getElem? (i := 716) (by decide +kernel), List.mem_of_getElem? (i := 908) (by decide +kernel), List.mem_of_getElem? (i := 909) (by decide +kernel)⟩
theorem lw_p51 : lw_okq (⟨"WhitePawModel", "notes", "(IIII)V"⟩, 29) := ⟨⟨by decide +kernel, by decide +kernel⟩, List.mem_of_getElem? (i := 716) (by decide +kernel), List.mem_of_getElem? (i := 912) (by decide +kernel), List.mem_of_getElem? (i := 913) (by decide +kernel)⟩
theorem lw_p52 : lw_okq (⟨"WhitePawModel", "letIn", "()I"⟩, 29) := ⟨⟨by decide +kernel, by decide +kernel⟩, List.mem_of_getElem? (i := 716) (by decide +kernel), List.mem_of_getElem? (i := 928) (by decide +kernel), List.mem_of_getElem? (i := 929) (by decide +kernel)⟩
theorem lw_p53 : lw_okq (⟨"WhitePawModel", "rightOnes", "()I"⟩, 29) := ⟨⟨by decide +kernel, by decide +kernel⟩, List.mem_of_getElem? (i := 716) (by decide +kernel), List.mem_of_getElem? (i := 940) (by decide +kernel), List.mem_of_getElem? (i := 941) (by decide +kernel)⟩
theorem lw_p54 : lw_okq (⟨"WhitePawModel", "soonestBy", "(II)I"⟩, 29) := ⟨⟨by decide +kernel, by decide +kernel⟩, List.mem_of_getElem? (i := 716) (by decide +kernel), List.mem_of_getElem? (i := 948) (by decide +kernel), List.mem_of_getElem? (i := 949) (by decide +kernel)⟩
theorem lw_p55 : lw_okq (⟨"WhitePawModel", "gotBy", "(II)I"⟩, 29) := ⟨⟨by decide +kernel, by decide +kernel⟩, List.mem_of_getElem? (i := 716) (by decide +kernel), List.mem_of_getElem? (i := 952) (by decide +kernel), List.mem_of_getElem? (i := 953) (by decide +kernel)⟩
theorem lw_p56 : lw_okq (⟨"WhitePawModel", "hoursOf", "(I)I"⟩, 29) := ⟨⟨by decide +kernel, by decide +kernel⟩, List.mem_of_getElem? (i := 716) (by decide +kernel), List.mem_of_getElem? (i := 956) (by decide +kernel), List.mem_of_getElem? (i := 957) (by decide +kernel)⟩
theorem lw_p57 : lw_okq (⟨"WhitePawModel", "isLater", "(II)Z"⟩, 29) := ⟨⟨by decide +kernel, by decide +kernel⟩, List.mem_of_getElem? (i := 716) (by decide +kernel), List.mem_of_getElem? (i := 964) (by decide +kernel), List.mem_of_getElem? (i := 965) (by decide +kernel)⟩
theorem lw_p58 : lw_okq (⟨"WhitePawModel", "ruleTold", "(II)I"⟩, 29) := ⟨⟨by decide +kernel, by decide +kernel⟩, List.mem_of_getElem? (i := 716) (by decide +kernel), List.mem_of_getElem? (i := 972) (by decide +kernel), List.mem_of_getElem? (i := 973) (by decide +kernel)⟩
theorem lw_p59 : lw_okq (⟨"WhitePawModel", "ruleBy", "(I)I"⟩, 29) := ⟨⟨by decide +kernel, by decide +kernel⟩, List.mem_of_getElem? (i := 716) (by decide +kernel), List.mem_of_getElem? (i := 976) (by decide +kernel), List.mem_of_getElem? (i := 977) (by decide +kernel)⟩
theorem lw_p60 : lw_okq (⟨"WhitePawModel", "mostOf", "(III)I"⟩, 29) := ⟨⟨by decide +kernel, by decide +kernel⟩, List.mem_of_getElem? (i := 716) (by decide +kernel), List.mem_of_getElem? (i := 980) (by decide +kernel), List.mem_of_getElem? (i := 981) (by decide +kernel)⟩
theorem lw_p61 : lw_okq (⟨"WhitePawModel", "whoFits", "()I"⟩, 29) := ⟨⟨by decide +kernel, by decide +kernel⟩, List.mem_of_getElem? (i := 716) (by decide +kernel), List.mem_of_getElem? (i := 1009) (by decide +kernel), List.mem_of_getElem? (i := 1010) (by decide +kernel)⟩
def lw_privs_4 : List (MethodName × Nat) := [(⟨"WhitePawModel", "isErrand", "(I)Z"⟩, 29), (⟨"WhitePawModel", "isRule", "(I)Z"⟩, 29), (⟨"WhitePawModel", "canRun", "(II)Z"⟩, 29), (⟨"WhitePawModel", "notes", "(IIII)V"⟩, 29), (⟨"WhitePawModel", "letIn", "()I"⟩, 29), (⟨"WhitePawModel", "rightOnes", "()I"⟩, 29), (⟨"WhitePawModel", "soonestBy", "(II)I"⟩, 29), (⟨"WhitePawModel", "gotBy", "(II)I"⟩, 29), (⟨"WhitePawModel", "hoursOf", "(I)I"⟩, 29), (⟨"WhitePawModel", "isLater", "(II)Z"⟩, 29), (⟨"WhitePawModel", "ruleTold", "(II)I"⟩, 29), (⟨"WhitePawModel", "ruleBy", "(I)I"⟩, 29), (⟨"WhitePawModel", "mostOf", "(III)I"⟩, 29), (⟨"WhitePawModel", "whoFits", "()I"⟩, 29)]
theorem lw_r4 : ∀ q ∈ lw_privs_4, lw_okq q := List.forall_mem_cons.mpr ⟨lw_p48, List.forall_mem_cons.mpr ⟨lw_p49, List.forall_mem_cons.mpr ⟨lw_p50, List.forall_mem_cons.mpr ⟨lw_p51, List.forall_mem_cons.mpr ⟨lw_p52, List.forall_mem_cons.mpr ⟨lw_p53, List.forall_mem_cons.mpr ⟨lw_p54, List.forall_mem_cons.mpr ⟨lw_p55, List.forall_mem_cons.mpr ⟨lw_p56, List.forall_mem_cons.mpr ⟨lw_p57, List.forall_mem_cons.mpr ⟨lw_p58, List.forall_mem_cons.mpr ⟨lw_p59, List.forall_mem_cons.mpr ⟨lw_p60, List.forall_mem_cons.mpr ⟨lw_p61, fun _ h => absurd h List.not_mem_nil⟩⟩⟩⟩⟩⟩⟩⟩⟩⟩⟩⟩⟩⟩
def lw_privs : List (MethodName × Nat) := lw_privs_1 ++ (lw_privs_2 ++ (lw_privs_3 ++ (lw_privs_4)))
def lw_tbl : List Cond := k2_sels lw_privs ++ tables_1
theorem lw_privs_ok : ∀ q ∈ lw_privs, lw_okq q := by
  show ∀ q ∈ lw_privs_1 ++ (lw_privs_2 ++ (lw_privs_3 ++ (lw_privs_4))), lw_okq q
  exact List.forall_mem_append.mpr ⟨lw_r1, List.forall_mem_append.mpr ⟨lw_r2, List.forall_mem_append.mpr ⟨lw_r3, lw_r4⟩⟩⟩
end
section
/-! ===== BEGIN words of one list among another's, by their places ===== -/
theorem goodIn_r {big : List Cond} (ws : List Cond) (ps : List Nat) (hp : ws = ps.filterMap (fun i => big[i]?)) (h : ws.all goodWord = true) : GoodIn big ws := by
  intro w hw
  have h1 := List.all_eq_true.mp h w hw
  rw [hp] at hw
  obtain ⟨i, -, hi⟩ := List.mem_filterMap.mp hw
  have hm : w ∈ big := by first | exact List.mem_of_getElem? hi | exact List.getElem?_mem hi
  exact ⟨hm, good_of_word h1⟩
theorem goodIn_app {big a b : List Cond} (ha : GoodIn big a) (hb : GoodIn big b) : GoodIn big (a ++ b) := fun w h => (List.mem_append.mp h).elim (ha w) (hb w)
theorem goodIn_ca {big a b : List Cond} {c : Cond} (ha : GoodIn big (c :: a)) (hb : GoodIn big b) : GoodIn big (c :: (a ++ b)) := fun w h => (List.mem_cons.mp h).elim (fun e => ha w (List.mem_cons.mpr (Or.inl e))) (fun h => (List.mem_append.mp h).elim (fun h => ha w (List.mem_cons.mpr (Or.inr h))) (hb w))
theorem goodIn_sub {big ws : List Cond} (hm : ∀ w ∈ ws, w ∈ big) (h : ws.all goodWord = true) : GoodIn big ws := fun w hw => ⟨hm w hw, good_of_word (List.all_eq_true.mp h w hw)⟩
/-! ===== END ===== -/

/-! ===== BEGIN printed: names, fields, word lists, decode rows ===== -/
def RX0 : String := "WhitePaw$Crowd"
def TX0 : u_T := fun k => match k with
  | 0 => ("WhitePaw$Crowd", "signs", "[I", true)
  | _ => ("WhitePaw$Crowd", "many", "I", false)
def tyX0 : Nat → FieldType := fun k => match k with
  | 0 => .array .int
  | _ => .int
abbrev wsX00 : List Cond := u_ws RX0 TX0 2
theorem nmX0 : ∀ a, a < 2 → ∀ b, b < 2 → a ≠ b → (TX0 a).2.1 ≠ (TX0 b).2.1 := by decide +kernel
theorem tyX0_ok : ∀ k, k < 2 → parseFieldDescriptor (TX0 k).2.2.1 = some (tyX0 k) := by decide +kernel
abbrev cX0_init : ByteArray := prog_2_method_1_code
def yX0_init : MethodName := ⟨RX0, "<init>", "()V"⟩
abbrev cX0_add : ByteArray := prog_2_method_2_code
def yX0_add : MethodName := ⟨RX0, "add", "(I)V"⟩
abbrev cX0_mostOf : ByteArray := prog_2_method_3_code
def yX0_mostOf : MethodName := ⟨RX0, "mostOf", "(I)I"⟩
def RX1 : String := "WhitePaw$House"
def TX1 : u_T := fun k => match k with
  | 0 => ("WhitePaw$House", "first", "LWhitePaw$Moment;", true)
  | 1 => ("WhitePaw$House", "right", "[I", true)
  | 2 => ("WhitePaw$House", "gets", "[I", true)
  | 3 => ("WhitePaw$House", "takes", "[I", true)
  | 4 => ("WhitePaw$House", "needs", "[I", true)
  | 5 => ("WhitePaw$House", "loud", "I", false)
  | 6 => ("WhitePaw$House", "knockers", "I", false)
  | 7 => ("WhitePaw$House", "errands", "I", false)
  | _ => ("WhitePaw$House", "rules", "I", false)
def tyX1 : Nat → FieldType := fun k => match k with
  | 0 => .object "WhitePaw$Moment"
  | 1 => .array .int
  | 2 => .array .int
  | 3 => .array .int
  | 4 => .array .int
  | 5 => .int
  | 6 => .int
  | 7 => .int
  | _ => .int
abbrev wsX10 : List Cond := u_ws RX1 TX1 9
theorem nmX1 : ∀ a, a < 9 → ∀ b, b < 9 → a ≠ b → (TX1 a).2.1 ≠ (TX1 b).2.1 := by decide +kernel
theorem tyX1_ok : ∀ k, k < 9 → parseFieldDescriptor (TX1 k).2.2.1 = some (tyX1 k) := by decide +kernel
abbrev cX1_init : ByteArray := prog_3_method_1_code
def yX1_init : MethodName := ⟨RX1, "<init>", "()V"⟩
abbrev cX1_empty : ByteArray := prog_3_method_2_code
def yX1_empty : MethodName := ⟨RX1, "empty", "()V"⟩
abbrev cX1_copy : ByteArray := prog_3_method_3_code
def yX1_copy : MethodName := ⟨RX1, "copy", "(LWhitePaw$House;)V"⟩
abbrev cX1_isOpen : ByteArray := prog_3_method_4_code
def yX1_isOpen : MethodName := ⟨RX1, "isOpen", "(II)Z"⟩
def RX2 : String := "WhitePaw$Moment"
def TX2 : u_T := fun k => match k with
  | 0 => ("WhitePaw$Moment", "signs", "[I", true)
  | 1 => ("WhitePaw$Moment", "hours", "[I", true)
  | 2 => ("WhitePaw$Moment", "sets", "[I", true)
  | _ => ("WhitePaw$Moment", "manys", "[I", true)
def tyX2 : Nat → FieldType := fun k => match k with
  | 0 => .array .int
  | 1 => .array .int
  | 2 => .array .int
  | _ => .array .int
abbrev wsX20 : List Cond := u_ws RX2 TX2 4
theorem nmX2 : ∀ a, a < 4 → ∀ b, b < 4 → a ≠ b → (TX2 a).2.1 ≠ (TX2 b).2.1 := by decide +kernel
theorem tyX2_ok : ∀ k, k < 4 → parseFieldDescriptor (TX2 k).2.2.1 = some (tyX2 k) := by decide +kernel
abbrev cX2_init : ByteArray := prog_4_method_1_code
def yX2_init : MethodName := ⟨RX2, "<init>", "()V"⟩
abbrev cX2_copy : ByteArray := prog_4_method_2_code
def yX2_copy : MethodName := ⟨RX2, "copy", "(LWhitePaw$Moment;)V"⟩
def RX3 : String := "WhitePaw$Moments"
def TX3 : u_T := fun k => match k with
  | _ => ("WhitePaw$Moments", "rows", "[LWhitePaw$Moment;", true)
def tyX3 : Nat → FieldType := fun k => match k with
  | _ => .array (.object "WhitePaw$Moment")
abbrev wsX30 : List Cond := u_ws RX3 TX3 1
theorem nmX3 : ∀ a, a < 1 → ∀ b, b < 1 → a ≠ b → (TX3 a).2.1 ≠ (TX3 b).2.1 := by decide +kernel
theorem tyX3_ok : ∀ k, k < 1 → parseFieldDescriptor (TX3 k).2.2.1 = some (tyX3 k) := by decide +kernel
abbrev cX3_init : ByteArray := prog_5_method_1_code
def yX3_init : MethodName := ⟨RX3, "<init>", "(I)V"⟩
abbrev cX3_store : ByteArray := prog_5_method_2_code
def yX3_store : MethodName := ⟨RX3, "store", "(ILWhitePaw$Moment;)V"⟩
abbrev cX3_fetch : ByteArray := prog_5_method_3_code
def yX3_fetch : MethodName := ⟨RX3, "fetch", "(ILWhitePaw$Moment;)V"⟩
abbrev cX3_row : ByteArray := prog_5_method_4_code
def yX3_row : MethodName := ⟨RX3, "row", "(I)LWhitePaw$Moment;"⟩
def RX4 : String := "WhitePaw$Reader"
def TX4 : u_T := fun k => match k with
  | 0 => ("WhitePaw$Reader", "tokens", "LWhitePaw$Tokens;", true)
  | 1 => ("WhitePaw$Reader", "draft", "LWhitePaw$House;", true)
  | 2 => ("WhitePaw$Reader", "loudTold", "Z", false)
  | _ => ("WhitePaw$Reader", "place", "I", false)
def tyX4 : Nat → FieldType := fun k => match k with
  | 0 => .object "WhitePaw$Tokens"
  | 1 => .object "WhitePaw$House"
  | 2 => .boolean
  | _ => .int
abbrev wsX40 : List Cond := u_ws RX4 TX4 4
theorem nmX4 : ∀ a, a < 4 → ∀ b, b < 4 → a ≠ b → (TX4 a).2.1 ≠ (TX4 b).2.1 := by decide +kernel
theorem tyX4_ok : ∀ k, k < 4 → parseFieldDescriptor (TX4 k).2.2.1 = some (tyX4 k) := by decide +kernel
abbrev cX4_init : ByteArray := prog_6_method_1_code
def yX4_init : MethodName := ⟨RX4, "<init>", "()V"⟩
abbrev cX4_readHouse : ByteArray := prog_6_method_2_code
def yX4_readHouse : MethodName := ⟨RX4, "readHouse", "(LWhitePaw$Text;)I"⟩
abbrev cX4_kind : ByteArray := prog_6_method_3_code
def yX4_kind : MethodName := ⟨RX4, "kind", "()I"⟩
abbrev cX4_readItem : ByteArray := prog_6_method_4_code
def yX4_readItem : MethodName := ⟨RX4, "readItem", "()Z"⟩
abbrev cX4_readLoud : ByteArray := prog_6_method_5_code
def yX4_readLoud : MethodName := ⟨RX4, "readLoud", "()Z"⟩
abbrev cX4_readKnocker : ByteArray := prog_6_method_6_code
def yX4_readKnocker : MethodName := ⟨RX4, "readKnocker", "()Z"⟩
abbrev cX4_readErrand : ByteArray := prog_6_method_7_code
def yX4_readErrand : MethodName := ⟨RX4, "readErrand", "()Z"⟩
abbrev cX4_readRule : ByteArray := prog_6_method_8_code
def yX4_readRule : MethodName := ⟨RX4, "readRule", "()Z"⟩
abbrev cX4_readNeed : ByteArray := prog_6_method_9_code
def yX4_readNeed : MethodName := ⟨RX4, "readNeed", "()I"⟩
abbrev cX4_readSigns : ByteArray := prog_6_method_10_code
def yX4_readSigns : MethodName := ⟨RX4, "readSigns", "()I"⟩
abbrev cX4_readNumber : ByteArray := prog_6_method_11_code
def yX4_readNumber : MethodName := ⟨RX4, "readNumber", "(II)I"⟩
abbrev cX4_readStop : ByteArray := prog_6_method_12_code
def yX4_readStop : MethodName := ⟨RX4, "readStop", "()Z"⟩
def RX5 : String := "WhitePaw$Text"
def TX5 : u_T := fun k => match k with
  | 0 => ("WhitePaw$Text", "bytes", "[B", true)
  | _ => ("WhitePaw$Text", "length", "I", false)
def tyX5 : Nat → FieldType := fun k => match k with
  | 0 => .array .byte
  | _ => .int
abbrev wsX50 : List Cond := u_ws RX5 TX5 2
theorem nmX5 : ∀ a, a < 2 → ∀ b, b < 2 → a ≠ b → (TX5 a).2.1 ≠ (TX5 b).2.1 := by decide +kernel
theorem tyX5_ok : ∀ k, k < 2 → parseFieldDescriptor (TX5 k).2.2.1 = some (tyX5 k) := by decide +kernel
abbrev cX5_init : ByteArray := prog_7_method_1_code
def yX5_init : MethodName := ⟨RX5, "<init>", "()V"⟩
abbrev cX5_add : ByteArray := prog_7_method_2_code
def yX5_add : MethodName := ⟨RX5, "add", "(I)V"⟩
abbrev cX5_byteAt : ByteArray := prog_7_method_3_code
def yX5_byteAt : MethodName := ⟨RX5, "byteAt", "(I)I"⟩
def RX6 : String := "WhitePaw$Tokens"
def TX6 : u_T := fun k => match k with
  | 0 => ("WhitePaw$Tokens", "kinds", "[I", true)
  | 1 => ("WhitePaw$Tokens", "starts", "[I", true)
  | _ => ("WhitePaw$Tokens", "values", "[I", true)
def tyX6 : Nat → FieldType := fun k => match k with
  | 0 => .array .int
  | 1 => .array .int
  | _ => .array .int
abbrev wsX60 : List Cond := u_ws RX6 TX6 3
theorem nmX6 : ∀ a, a < 3 → ∀ b, b < 3 → a ≠ b → (TX6 a).2.1 ≠ (TX6 b).2.1 := by decide +kernel
theorem tyX6_ok : ∀ k, k < 3 → parseFieldDescriptor (TX6 k).2.2.1 = some (tyX6 k) := by decide +kernel
abbrev cX6_init : ByteArray := prog_8_method_1_code
def yX6_init : MethodName := ⟨RX6, "<init>", "()V"⟩
abbrev cX6_split : ByteArray := prog_8_method_2_code
def yX6_split : MethodName := ⟨RX6, "split", "(LWhitePaw$Text;)V"⟩
abbrev cX6_passBlanks : ByteArray := prog_8_method_3_code
def yX6_passBlanks : MethodName := ⟨RX6, "passBlanks", "(LWhitePaw$Text;I)I"⟩
abbrev cX6_endOf : ByteArray := prog_8_method_4_code
def yX6_endOf : MethodName := ⟨RX6, "endOf", "(LWhitePaw$Text;I)I"⟩
abbrev cX6_kindOf : ByteArray := prog_8_method_5_code
def yX6_kindOf : MethodName := ⟨RX6, "kindOf", "(LWhitePaw$Text;II)I"⟩
abbrev cX6_numberOf : ByteArray := prog_8_method_6_code
def yX6_numberOf : MethodName := ⟨RX6, "numberOf", "(LWhitePaw$Text;II)I"⟩
abbrev cX6_isWord : ByteArray := prog_8_method_7_code
def yX6_isWord : MethodName := ⟨RX6, "isWord", "(LWhitePaw$Text;IILjava/lang/String;)Z"⟩
abbrev cX6_isLetter : ByteArray := prog_8_method_8_code
def yX6_isLetter : MethodName := ⟨RX6, "isLetter", "(I)Z"⟩
abbrev cX6_isDigit : ByteArray := prog_8_method_9_code
def yX6_isDigit : MethodName := ⟨RX6, "isDigit", "(I)Z"⟩
def RX7 : String := "WhitePaw$Ways"
def TX7 : u_T := fun k => match k with
  | 0 => ("WhitePaw$Ways", "signs", "[I", true)
  | 1 => ("WhitePaw$Ways", "hours", "[I", true)
  | _ => ("WhitePaw$Ways", "many", "I", false)
def tyX7 : Nat → FieldType := fun k => match k with
  | 0 => .array .int
  | 1 => .array .int
  | _ => .int
abbrev wsX70 : List Cond := u_ws RX7 TX7 3
theorem nmX7 : ∀ a, a < 3 → ∀ b, b < 3 → a ≠ b → (TX7 a).2.1 ≠ (TX7 b).2.1 := by decide +kernel
theorem tyX7_ok : ∀ k, k < 3 → parseFieldDescriptor (TX7 k).2.2.1 = some (tyX7 k) := by decide +kernel
abbrev cX7_init : ByteArray := prog_9_method_1_code
def yX7_init : MethodName := ⟨RX7, "<init>", "()V"⟩
abbrev cX7_isOpen : ByteArray := prog_9_method_2_code
def yX7_isOpen : MethodName := ⟨RX7, "isOpen", "(I)Z"⟩
abbrev cX7_explore : ByteArray := prog_9_method_3_code
def yX7_explore : MethodName := ⟨RX7, "explore", "(LWhitePaw$House;II)V"⟩
abbrev cX7_runLast : ByteArray := prog_9_method_4_code
def yX7_runLast : MethodName := ⟨RX7, "runLast", "(LWhitePaw$House;II)V"⟩
abbrev cX7_lastOf : ByteArray := prog_9_method_5_code
def yX7_lastOf : MethodName := ⟨RX7, "lastOf", "(LWhitePaw$House;I)I"⟩
def RX8 : String := "WhitePaw"
def TX8 : u_T := fun k => match k with
  | 0 => ("WhitePaw", "text", "LWhitePaw$Text;", true)
  | 1 => ("WhitePaw", "told", "LWhitePaw$House;", true)
  | 2 => ("WhitePaw", "reader", "LWhitePaw$Reader;", true)
  | 3 => ("WhitePaw", "now", "LWhitePaw$Moment;", true)
  | 4 => ("WhitePaw", "past", "LWhitePaw$Moments;", true)
  | 5 => ("WhitePaw", "images", "LWhitePaw$Moments;", true)
  | 6 => ("WhitePaw", "ways", "LWhitePaw$Ways;", true)
  | 7 => ("WhitePaw", "crowd", "LWhitePaw$Crowd;", true)
  | 8 => ("WhitePaw", "shownSigns", "[I", true)
  | 9 => ("WhitePaw", "shownHas", "[I", true)
  | 10 => ("WhitePaw", "pastPlace", "I", false)
  | 11 => ("WhitePaw", "undoable", "I", false)
  | 12 => ("WhitePaw", "keptImages", "I", false)
  | 13 => ("WhitePaw", "shownMany", "I", false)
  | _ => ("WhitePaw", "trace", "J", false)
def tyX8 : Nat → FieldType := fun k => match k with
  | 0 => .object "WhitePaw$Text"
  | 1 => .object "WhitePaw$House"
  | 2 => .object "WhitePaw$Reader"
  | 3 => .object "WhitePaw$Moment"
  | 4 => .object "WhitePaw$Moments"
  | 5 => .object "WhitePaw$Moments"
  | 6 => .object "WhitePaw$Ways"
  | 7 => .object "WhitePaw$Crowd"
  | 8 => .array .int
  | 9 => .array .int
  | 10 => .int
  | 11 => .int
  | 12 => .int
  | 13 => .int
  | _ => .long
abbrev wsX80 : List Cond := u_ws RX8 TX8 15
theorem nmX8 : ∀ a, a < 15 → ∀ b, b < 15 → a ≠ b → (TX8 a).2.1 ≠ (TX8 b).2.1 := by decide +kernel
theorem tyX8_ok : ∀ k, k < 15 → parseFieldDescriptor (TX8 k).2.2.1 = some (tyX8 k) := by decide +kernel
abbrev cX8_init : ByteArray := prog_1_method_1_code
def yX8_init : MethodName := ⟨RX8, "<init>", "()V"⟩
abbrev cX8_type : ByteArray := prog_1_method_2_code
def yX8_type : MethodName := ⟨RX8, "type", "(JI)I"⟩
abbrev cX8_clear : ByteArray := prog_1_method_3_code
def yX8_clear : MethodName := ⟨RX8, "clear", "()I"⟩
abbrev cX8_house : ByteArray := prog_1_method_4_code
def yX8_house : MethodName := ⟨RX8, "house", "()I"⟩
abbrev cX8_knocker : ByteArray := prog_1_method_5_code
def yX8_knocker : MethodName := ⟨RX8, "knocker", "(II)I"⟩
abbrev cX8_errand : ByteArray := prog_1_method_6_code
def yX8_errand : MethodName := ⟨RX8, "errand", "(II)I"⟩
abbrev cX8_rule : ByteArray := prog_1_method_7_code
def yX8_rule : MethodName := ⟨RX8, "rule", "(II)I"⟩
abbrev cX8_runs : ByteArray := prog_1_method_8_code
def yX8_runs : MethodName := ⟨RX8, "runs", "(II)I"⟩
abbrev cX8_knocks : ByteArray := prog_1_method_9_code
def yX8_knocks : MethodName := ⟨RX8, "knocks", "(II)I"⟩
abbrev cX8_hoarse : ByteArray := prog_1_method_10_code
def yX8_hoarse : MethodName := ⟨RX8, "hoarse", "(II)I"⟩
abbrev cX8_change : ByteArray := prog_1_method_11_code
def yX8_change : MethodName := ⟨RX8, "change", "(III)I"⟩
abbrev cX8_undo : ByteArray := prog_1_method_12_code
def yX8_undo : MethodName := ⟨RX8, "undo", "()I"⟩
abbrev cX8_now : ByteArray := prog_1_method_13_code
def yX8_now : MethodName := ⟨RX8, "now", "(I)I"⟩
abbrev cX8_soonest : ByteArray := prog_1_method_14_code
def yX8_soonest : MethodName := ⟨RX8, "soonest", "(II)I"⟩
abbrev cX8_bar : ByteArray := prog_1_method_15_code
def yX8_bar : MethodName := ⟨RX8, "bar", "(II)I"⟩
abbrev cX8_ask : ByteArray := prog_1_method_16_code
def yX8_ask : MethodName := ⟨RX8, "ask", "(I)I"⟩
abbrev cX8_safe : ByteArray := prog_1_method_17_code
def yX8_safe : MethodName := ⟨RX8, "safe", "(II)I"⟩
abbrev cX8_odds : ByteArray := prog_1_method_18_code
def yX8_odds : MethodName := ⟨RX8, "odds", "(III)J"⟩
abbrev cX8_shown : ByteArray := prog_1_method_19_code
def yX8_shown : MethodName := ⟨RX8, "shown", "(II)I"⟩
abbrev cX8_forget : ByteArray := prog_1_method_20_code
def yX8_forget : MethodName := ⟨RX8, "forget", "()I"⟩
abbrev cX8_who : ByteArray := prog_1_method_21_code
def yX8_who : MethodName := ⟨RX8, "who", "()I"⟩
abbrev cX8_tell : ByteArray := prog_1_method_22_code
def yX8_tell : MethodName := ⟨RX8, "tell", "(I)I"⟩
abbrev cX8_rate : ByteArray := prog_1_method_23_code
def yX8_rate : MethodName := ⟨RX8, "rate", "(II)I"⟩
abbrev cX8_keep : ByteArray := prog_1_method_24_code
def yX8_keep : MethodName := ⟨RX8, "keep", "(I)I"⟩
abbrev cX8_back : ByteArray := prog_1_method_25_code
def yX8_back : MethodName := ⟨RX8, "back", "(I)I"⟩
abbrev cX8_count : ByteArray := prog_1_method_26_code
def yX8_count : MethodName := ⟨RX8, "count", "(I)I"⟩
abbrev cX8_trace : ByteArray := prog_1_method_27_code
def yX8_trace : MethodName := ⟨RX8, "trace", "()J"⟩
abbrev cX8_isKnocker : ByteArray := prog_1_method_28_code
def yX8_isKnocker : MethodName := ⟨RX8, "isKnocker", "(I)Z"⟩
abbrev cX8_isErrand : ByteArray := prog_1_method_29_code
def yX8_isErrand : MethodName := ⟨RX8, "isErrand", "(I)Z"⟩
abbrev cX8_isRule : ByteArray := prog_1_method_30_code
def yX8_isRule : MethodName := ⟨RX8, "isRule", "(I)Z"⟩
abbrev cX8_isSign : ByteArray := prog_1_method_31_code
def yX8_isSign : MethodName := ⟨RX8, "isSign", "(I)Z"⟩
abbrev cX8_isHours : ByteArray := prog_1_method_32_code
def yX8_isHours : MethodName := ⟨RX8, "isHours", "(I)Z"⟩
abbrev cX8_isBit : ByteArray := prog_1_method_33_code
def yX8_isBit : MethodName := ⟨RX8, "isBit", "(I)Z"⟩
abbrev cX8_isImage : ByteArray := prog_1_method_34_code
def yX8_isImage : MethodName := ⟨RX8, "isImage", "(I)Z"⟩
abbrev cX8_at : ByteArray := prog_1_method_35_code
def yX8_at : MethodName := ⟨RX8, "at", "([II)I"⟩
abbrev cX8_put : ByteArray := prog_1_method_36_code
def yX8_put : MethodName := ⟨RX8, "put", "([III)V"⟩
abbrev cX8_copyRow : ByteArray := prog_1_method_37_code
def yX8_copyRow : MethodName := ⟨RX8, "copyRow", "([I[I)V"⟩
abbrev cX8_has : ByteArray := prog_1_method_38_code
def yX8_has : MethodName := ⟨RX8, "has", "(II)Z"⟩
abbrev cX8_power : ByteArray := prog_1_method_39_code
def yX8_power : MethodName := ⟨RX8, "power", "(II)J"⟩
abbrev cX8_commonDivisor : ByteArray := prog_1_method_40_code
def yX8_commonDivisor : MethodName := ⟨RX8, "commonDivisor", "(JJ)J"⟩
abbrev cX8_signsOf : ByteArray := prog_1_method_41_code
def yX8_signsOf : MethodName := ⟨RX8, "signsOf", "(I)I"⟩
abbrev cX8_hasEnough : ByteArray := prog_1_method_42_code
def yX8_hasEnough : MethodName := ⟨RX8, "hasEnough", "(II)Z"⟩
abbrev cX8_rulesMet : ByteArray := prog_1_method_43_code
def yX8_rulesMet : MethodName := ⟨RX8, "rulesMet", "(I)I"⟩
abbrev cX8_isLetIn : ByteArray := prog_1_method_44_code
def yX8_isLetIn : MethodName := ⟨RX8, "isLetIn", "(I)Z"⟩
abbrev cX8_letIn : ByteArray := prog_1_method_45_code
def yX8_letIn : MethodName := ⟨RX8, "letIn", "()I"⟩
abbrev cX8_rightOnes : ByteArray := prog_1_method_46_code
def yX8_rightOnes : MethodName := ⟨RX8, "rightOnes", "()I"⟩
abbrev cX8_signsOfRules : ByteArray := prog_1_method_47_code
def yX8_signsOfRules : MethodName := ⟨RX8, "signsOfRules", "()I"⟩
abbrev cX8_remember : ByteArray := prog_1_method_48_code
def yX8_remember : MethodName := ⟨RX8, "remember", "()V"⟩
abbrev cX8_soonestSet : ByteArray := prog_1_method_49_code
def yX8_soonestSet : MethodName := ⟨RX8, "soonestSet", "(II)I"⟩
abbrev cX8_isSoon : ByteArray := prog_1_method_50_code
def yX8_isSoon : MethodName := ⟨RX8, "isSoon", "(III)Z"⟩
abbrev cX8_loneRule : ByteArray := prog_1_method_51_code
def yX8_loneRule : MethodName := ⟨RX8, "loneRule", "(II)I"⟩
abbrev cX8_gatherCrowd : ByteArray := prog_1_method_52_code
def yX8_gatherCrowd : MethodName := ⟨RX8, "gatherCrowd", "(I)V"⟩
abbrev cX8_leastNumber : ByteArray := prog_1_method_53_code
def yX8_leastNumber : MethodName := ⟨RX8, "leastNumber", "(I)I"⟩
abbrev cX8_canHaveBeen : ByteArray := prog_1_method_54_code
def yX8_canHaveBeen : MethodName := ⟨RX8, "canHaveBeen", "(I)Z"⟩
abbrev cX8_worstLeft : ByteArray := prog_1_method_55_code
def yX8_worstLeft : MethodName := ⟨RX8, "worstLeft", "(II)I"⟩
abbrev cX8_asKnocker : ByteArray := prog_1_method_56_code
def yX8_asKnocker : MethodName := ⟨RX8, "asKnocker", "(I)I"⟩
abbrev cX8_asMother : ByteArray := prog_1_method_57_code
def yX8_asMother : MethodName := ⟨RX8, "asMother", "(I)I"⟩
abbrev cX8_asWolf : ByteArray := prog_1_method_58_code
def yX8_asWolf : MethodName := ⟨RX8, "asWolf", "(I)I"⟩
abbrev cX8_asAunt : ByteArray := prog_1_method_59_code
def yX8_asAunt : MethodName := ⟨RX8, "asAunt", "(I)I"⟩
abbrev cX8_asMiller : ByteArray := prog_1_method_60_code
def yX8_asMiller : MethodName := ⟨RX8, "asMiller", "(I)I"⟩
abbrev cX8_asFox : ByteArray := prog_1_method_61_code
def yX8_asFox : MethodName := ⟨RX8, "asFox", "(I)I"⟩
def RX9 : String := "WhitePawModel"
def TX9 : u_T := fun k => match k with
  | 0 => ("WhitePawModel", "thrown", "I", false)
  | 1 => ("WhitePawModel", "trace", "J", false)
  | 2 => ("WhitePawModel", "text", "[I", true)
  | 3 => ("WhitePawModel", "typed", "I", false)
  | 4 => ("WhitePawModel", "next", "I", false)
  | 5 => ("WhitePawModel", "token", "I", false)
  | 6 => ("WhitePawModel", "place", "I", false)
  | 7 => ("WhitePawModel", "value", "I", false)
  | 8 => ("WhitePawModel", "fault", "I", false)
  | 9 => ("WhitePawModel", "right", "[I", true)
  | 10 => ("WhitePawModel", "signs", "[I", true)
  | 11 => ("WhitePawModel", "errands", "[I", true)
  | 12 => ("WhitePawModel", "told", "[I", true)
  | 13 => ("WhitePawModel", "loud", "I", false)
  | 14 => ("WhitePawModel", "knockers", "I", false)
  | 15 => ("WhitePawModel", "errandMany", "I", false)
  | 16 => ("WhitePawModel", "rules", "I", false)
  | 17 => ("WhitePawModel", "draftLoud", "I", false)
  | 18 => ("WhitePawModel", "draftKnockers", "I", false)
  | 19 => ("WhitePawModel", "draftErrands", "I", false)
  | 20 => ("WhitePawModel", "draftRules", "I", false)
  | 21 => ("WhitePawModel", "s", "[I", true)
  | 22 => ("WhitePawModel", "kept", "[I", true)
  | 23 => ("WhitePawModel", "isKept", "[Z", true)
  | 24 => ("WhitePawModel", "undos", "[I", true)
  | 25 => ("WhitePawModel", "undoMany", "I", false)
  | 26 => ("WhitePawModel", "shownSign", "[I", true)
  | 27 => ("WhitePawModel", "shownHas", "[I", true)
  | _ => ("WhitePawModel", "shownMany", "I", false)
def tyX9 : Nat → FieldType := fun k => match k with
  | 0 => .int
  | 1 => .long
  | 2 => .array .int
  | 3 => .int
  | 4 => .int
  | 5 => .int
  | 6 => .int
  | 7 => .int
  | 8 => .int
  | 9 => .array .int
  | 10 => .array .int
  | 11 => .array .int
  | 12 => .array .int
  | 13 => .int
  | 14 => .int
  | 15 => .int
  | 16 => .int
  | 17 => .int
  | 18 => .int
  | 19 => .int
  | 20 => .int
  | 21 => .array .int
  | 22 => .array .int
  | 23 => .array .boolean
  | 24 => .array .int
  | 25 => .int
  | 26 => .array .int
  | 27 => .array .int
  | _ => .int
abbrev wsX90 : List Cond := u_ws RX9 TX9 29
theorem nmX9 : ∀ a, a < 29 → ∀ b, b < 29 → a ≠ b → (TX9 a).2.1 ≠ (TX9 b).2.1 := by decide +kernel
theorem tyX9_ok : ∀ k, k < 29 → parseFieldDescriptor (TX9 k).2.2.1 = some (tyX9 k) := by decide +kernel
abbrev cX9_init : ByteArray := prog_11_method_1_code
def yX9_init : MethodName := ⟨RX9, "<init>", "()V"⟩
abbrev cX9_in : ByteArray := prog_11_method_3_code
def yX9_in : MethodName := ⟨RX9, "in", "(III)Z"⟩
abbrev cX9_ones : ByteArray := prog_11_method_4_code
def yX9_ones : MethodName := ⟨RX9, "ones", "(I)I"⟩
abbrev cX9_type : ByteArray := prog_11_method_5_code
def yX9_type : MethodName := ⟨RX9, "type", "(JI)I"⟩
abbrev cX9_clear : ByteArray := prog_11_method_6_code
def yX9_clear : MethodName := ⟨RX9, "clear", "()I"⟩
abbrev cX9_byteAt : ByteArray := prog_11_method_7_code
def yX9_byteAt : MethodName := ⟨RX9, "byteAt", "(I)I"⟩
abbrev cX9_add : ByteArray := prog_11_method_8_code
def yX9_add : MethodName := ⟨RX9, "add", "(JI)J"⟩
abbrev cX9_named : ByteArray := prog_11_method_9_code
def yX9_named : MethodName := ⟨RX9, "named", "(IIIIIII)J"⟩
abbrev cX9_wordOf : ByteArray := prog_11_method_10_code
def yX9_wordOf : MethodName := ⟨RX9, "wordOf", "(J)I"⟩
abbrev cX9_advances : ByteArray := prog_11_method_11_code
def yX9_advances : MethodName := ⟨RX9, "advances", "()V"⟩
abbrev cX9_isWell : ByteArray := prog_11_method_12_code
def yX9_isWell : MethodName := ⟨RX9, "isWell", "()Z"⟩
abbrev cX9_takes : ByteArray := prog_11_method_13_code
def yX9_takes : MethodName := ⟨RX9, "takes", "(Z)I"⟩
abbrev cX9_number : ByteArray := prog_11_method_14_code
def yX9_number : MethodName := ⟨RX9, "number", "(II)I"⟩
abbrev cX9_signSet : ByteArray := prog_11_method_15_code
def yX9_signSet : MethodName := ⟨RX9, "signSet", "()I"⟩
abbrev cX9_readsItem : ByteArray := prog_11_method_16_code
def yX9_readsItem : MethodName := ⟨RX9, "readsItem", "(I)V"⟩
abbrev cX9_house : ByteArray := prog_11_method_17_code
def yX9_house : MethodName := ⟨RX9, "house", "()I"⟩
abbrev cX9_settles : ByteArray := prog_11_method_18_code
def yX9_settles : MethodName := ⟨RX9, "settles", "()V"⟩
abbrev cX9_isKnocker : ByteArray := prog_11_method_19_code
def yX9_isKnocker : MethodName := ⟨RX9, "isKnocker", "(I)Z"⟩
abbrev cX9_isErrand : ByteArray := prog_11_method_20_code
def yX9_isErrand : MethodName := ⟨RX9, "isErrand", "(I)Z"⟩
abbrev cX9_isRule : ByteArray := prog_11_method_21_code
def yX9_isRule : MethodName := ⟨RX9, "isRule", "(I)Z"⟩
abbrev cX9_hasEnough : ByteArray := prog_11_method_22_code
def yX9_hasEnough : MethodName := ⟨RX9, "hasEnough", "(II)Z"⟩
abbrev cX9_isLetIn : ByteArray := prog_11_method_23_code
def yX9_isLetIn : MethodName := ⟨RX9, "isLetIn", "(I)Z"⟩
abbrev cX9_knocker : ByteArray := prog_11_method_24_code
def yX9_knocker : MethodName := ⟨RX9, "knocker", "(II)I"⟩
abbrev cX9_errand : ByteArray := prog_11_method_25_code
def yX9_errand : MethodName := ⟨RX9, "errand", "(II)I"⟩
abbrev cX9_rule : ByteArray := prog_11_method_26_code
def yX9_rule : MethodName := ⟨RX9, "rule", "(II)I"⟩
abbrev cX9_notes : ByteArray := prog_11_method_27_code
def yX9_notes : MethodName := ⟨RX9, "notes", "(IIII)V"⟩
abbrev cX9_canRun : ByteArray := prog_11_method_28_code
def yX9_canRun : MethodName := ⟨RX9, "canRun", "(II)Z"⟩
abbrev cX9_runs : ByteArray := prog_11_method_29_code
def yX9_runs : MethodName := ⟨RX9, "runs", "(II)I"⟩
abbrev cX9_knocks : ByteArray := prog_11_method_30_code
def yX9_knocks : MethodName := ⟨RX9, "knocks", "(II)I"⟩
abbrev cX9_hoarse : ByteArray := prog_11_method_31_code
def yX9_hoarse : MethodName := ⟨RX9, "hoarse", "(II)I"⟩
abbrev cX9_letIn : ByteArray := prog_11_method_32_code
def yX9_letIn : MethodName := ⟨RX9, "letIn", "()I"⟩
abbrev cX9_change : ByteArray := prog_11_method_33_code
def yX9_change : MethodName := ⟨RX9, "change", "(III)I"⟩
abbrev cX9_undo : ByteArray := prog_11_method_34_code
def yX9_undo : MethodName := ⟨RX9, "undo", "()I"⟩
abbrev cX9_rightOnes : ByteArray := prog_11_method_35_code
def yX9_rightOnes : MethodName := ⟨RX9, "rightOnes", "()I"⟩
abbrev cX9_now : ByteArray := prog_11_method_36_code
def yX9_now : MethodName := ⟨RX9, "now", "(I)I"⟩
abbrev cX9_gotBy : ByteArray := prog_11_method_37_code
def yX9_gotBy : MethodName := ⟨RX9, "gotBy", "(II)I"⟩
abbrev cX9_hoursOf : ByteArray := prog_11_method_38_code
def yX9_hoursOf : MethodName := ⟨RX9, "hoursOf", "(I)I"⟩
abbrev cX9_soonestBy : ByteArray := prog_11_method_39_code
def yX9_soonestBy : MethodName := ⟨RX9, "soonestBy", "(II)I"⟩
abbrev cX9_soonest : ByteArray := prog_11_method_40_code
def yX9_soonest : MethodName := ⟨RX9, "soonest", "(II)I"⟩
abbrev cX9_isLater : ByteArray := prog_11_method_41_code
def yX9_isLater : MethodName := ⟨RX9, "isLater", "(II)Z"⟩
abbrev cX9_bar : ByteArray := prog_11_method_42_code
def yX9_bar : MethodName := ⟨RX9, "bar", "(II)I"⟩
abbrev cX9_mostOf : ByteArray := prog_11_method_43_code
def yX9_mostOf : MethodName := ⟨RX9, "mostOf", "(III)I"⟩
abbrev cX9_ruleBy : ByteArray := prog_11_method_44_code
def yX9_ruleBy : MethodName := ⟨RX9, "ruleBy", "(I)I"⟩
abbrev cX9_ruleTold : ByteArray := prog_11_method_45_code
def yX9_ruleTold : MethodName := ⟨RX9, "ruleTold", "(II)I"⟩
abbrev cX9_ask : ByteArray := prog_11_method_46_code
def yX9_ask : MethodName := ⟨RX9, "ask", "(I)I"⟩
abbrev cX9_safe : ByteArray := prog_11_method_47_code
def yX9_safe : MethodName := ⟨RX9, "safe", "(II)I"⟩
abbrev cX9_gcd : ByteArray := prog_11_method_48_code
def yX9_gcd : MethodName := ⟨RX9, "gcd", "(JJ)J"⟩
abbrev cX9_odds : ByteArray := prog_11_method_49_code
def yX9_odds : MethodName := ⟨RX9, "odds", "(III)J"⟩
abbrev cX9_shown : ByteArray := prog_11_method_50_code
def yX9_shown : MethodName := ⟨RX9, "shown", "(II)I"⟩
abbrev cX9_forget : ByteArray := prog_11_method_51_code
def yX9_forget : MethodName := ⟨RX9, "forget", "()I"⟩
abbrev cX9_whoFits : ByteArray := prog_11_method_52_code
def yX9_whoFits : MethodName := ⟨RX9, "whoFits", "()I"⟩
abbrev cX9_who : ByteArray := prog_11_method_53_code
def yX9_who : MethodName := ⟨RX9, "who", "()I"⟩
abbrev cX9_tell : ByteArray := prog_11_method_54_code
def yX9_tell : MethodName := ⟨RX9, "tell", "(I)I"⟩
abbrev cX9_rate : ByteArray := prog_11_method_55_code
def yX9_rate : MethodName := ⟨RX9, "rate", "(II)I"⟩
abbrev cX9_keep : ByteArray := prog_11_method_56_code
def yX9_keep : MethodName := ⟨RX9, "keep", "(I)I"⟩
abbrev cX9_back : ByteArray := prog_11_method_57_code
def yX9_back : MethodName := ⟨RX9, "back", "(I)I"⟩
abbrev cX9_count : ByteArray := prog_11_method_58_code
def yX9_count : MethodName := ⟨RX9, "count", "(I)I"⟩
abbrev cX9_trace : ByteArray := prog_11_method_59_code
def yX9_trace : MethodName := ⟨RX9, "trace", "()J"⟩
def RJ6 : String := "java/lang/Integer"
def TJ6 : u_T := fun k => match k with
  | _ => ("", "", "", false)
def tyJ6 : Nat → FieldType := fun k => match k with
  | _ => .int
abbrev wsJ60 : List Cond := u_ws RJ6 TJ6 0
theorem nmJ6 : ∀ a, a < 0 → ∀ b, b < 0 → a ≠ b → (TJ6 a).2.1 ≠ (TJ6 b).2.1 := by decide +kernel
theorem tyJ6_ok : ∀ k, k < 0 → parseFieldDescriptor (TJ6 k).2.2.1 = some (tyJ6 k) := by decide +kernel
abbrev cJ6_bitCount_0f7a4 : ByteArray := prog_12_method_49_code
def yJ6_bitCount_0f7a4 : MethodName := ⟨RJ6, "bitCount", "(I)I"⟩
def RJ9 : String := "java/lang/Math"
def TJ9 : u_T := fun k => match k with
  | _ => ("", "", "", false)
def tyJ9 : Nat → FieldType := fun k => match k with
  | _ => .int
abbrev wsJ90 : List Cond := u_ws RJ9 TJ9 0
theorem nmJ9 : ∀ a, a < 0 → ∀ b, b < 0 → a ≠ b → (TJ9 a).2.1 ≠ (TJ9 b).2.1 := by decide +kernel
theorem tyJ9_ok : ∀ k, k < 0 → parseFieldDescriptor (TJ9 k).2.2.1 = some (tyJ9 k) := by decide +kernel
abbrev cJ9_max_7cf53 : ByteArray := prog_13_method_65_code
def yJ9_max_7cf53 : MethodName := ⟨RJ9, "max", "(II)I"⟩
abbrev cJ9_max_f86c9 : ByteArray := prog_13_method_66_code
def yJ9_max_f86c9 : MethodName := ⟨RJ9, "max", "(JJ)J"⟩
abbrev cJ9_min_7cf53 : ByteArray := prog_13_method_69_code
def yJ9_min_7cf53 : MethodName := ⟨RJ9, "min", "(II)I"⟩
def RJ0 : String := "java/lang/String"
def TJ0 : u_T := fun k => match k with
  | _ => ("", "", "", false)
def tyJ0 : Nat → FieldType := fun k => match k with
  | _ => .int
abbrev wsJ00 : List Cond := u_ws RJ0 TJ0 0
theorem nmJ0 : ∀ a, a < 0 → ∀ b, b < 0 → a ≠ b → (TJ0 a).2.1 ≠ (TJ0 b).2.1 := by decide +kernel
theorem tyJ0_ok : ∀ k, k < 0 → parseFieldDescriptor (TJ0 k).2.2.1 = some (tyJ0 k) := by decide +kernel
abbrev cJ0_length_8abf5 : ByteArray := prog_14_method_54_code
def yJ0_length_8abf5 : MethodName := ⟨RJ0, "length", "()I"⟩
abbrev cJ0_charAt_5068e : ByteArray := prog_14_method_56_code
def yJ0_charAt_5068e : MethodName := ⟨RJ0, "charAt", "(I)C"⟩
abbrev cJ0_coder_7d493 : ByteArray := prog_14_method_152_code
def yJ0_coder_7d493 : MethodName := ⟨RJ0, "coder", "()B"⟩
abbrev cJ0_isLatin1_aae02 : ByteArray := prog_14_method_154_code
def yJ0_isLatin1_aae02 : MethodName := ⟨RJ0, "isLatin1", "()Z"⟩
abbrev cJ0_checkIndex_df160 : ByteArray := prog_14_method_155_code
def yJ0_checkIndex_df160 : MethodName := ⟨RJ0, "checkIndex", "(II)V"⟩
def RJ1 : String := "java/lang/StringLatin1"
def TJ1 : u_T := fun k => match k with
  | _ => ("", "", "", false)
def tyJ1 : Nat → FieldType := fun k => match k with
  | _ => .int
abbrev wsJ10 : List Cond := u_ws RJ1 TJ1 0
theorem nmJ1 : ∀ a, a < 0 → ∀ b, b < 0 → a ≠ b → (TJ1 a).2.1 ≠ (TJ1 b).2.1 := by decide +kernel
theorem tyJ1_ok : ∀ k, k < 0 → parseFieldDescriptor (TJ1 k).2.2.1 = some (tyJ1 k) := by decide +kernel
abbrev cJ1_charAt_3b067 : ByteArray := prog_15_method_2_code
def yJ1_charAt_3b067 : MethodName := ⟨RJ1, "charAt", "([BI)C"⟩
def RJ2 : String := "java/lang/StringUTF16"
def TJ2 : u_T := fun k => match k with
  | _ => ("", "", "", false)
def tyJ2 : Nat → FieldType := fun k => match k with
  | _ => .int
abbrev wsJ20 : List Cond := u_ws RJ2 TJ2 0
theorem nmJ2 : ∀ a, a < 0 → ∀ b, b < 0 → a ≠ b → (TJ2 a).2.1 ≠ (TJ2 b).2.1 := by decide +kernel
theorem tyJ2_ok : ∀ k, k < 0 → parseFieldDescriptor (TJ2 k).2.2.1 = some (tyJ2 k) := by decide +kernel
abbrev cJ2_getChar_3b067 : ByteArray := prog_16_method_5_code
def yJ2_getChar_3b067 : MethodName := ⟨RJ2, "getChar", "([BI)C"⟩
abbrev cJ2_length_9d52b : ByteArray := prog_16_method_6_code
def yJ2_length_9d52b : MethodName := ⟨RJ2, "length", "([B)I"⟩
abbrev cJ2_charAt_3b067 : ByteArray := prog_16_method_83_code
def yJ2_charAt_3b067 : MethodName := ⟨RJ2, "charAt", "([BI)C"⟩
abbrev cJ2_checkIndex_2214a : ByteArray := prog_16_method_91_code
def yJ2_checkIndex_2214a : MethodName := ⟨RJ2, "checkIndex", "(I[B)V"⟩
def RJ10 : String := "java/lang/System"
def TJ10 : u_T := fun k => match k with
  | _ => ("", "", "", false)
def tyJ10 : Nat → FieldType := fun k => match k with
  | _ => .int
abbrev wsJ100 : List Cond := u_ws RJ10 TJ10 0
theorem nmJ10 : ∀ a, a < 0 → ∀ b, b < 0 → a ≠ b → (TJ10 a).2.1 ≠ (TJ10 b).2.1 := by decide +kernel
theorem tyJ10_ok : ∀ k, k < 0 → parseFieldDescriptor (TJ10 k).2.2.1 = some (tyJ10 k) := by decide +kernel
def RJ3 : String := "jdk/internal/util/Preconditions"
def TJ3 : u_T := fun k => match k with
  | _ => ("", "", "", false)
def tyJ3 : Nat → FieldType := fun k => match k with
  | _ => .int
abbrev wsJ30 : List Cond := u_ws RJ3 TJ3 0
theorem nmJ3 : ∀ a, a < 0 → ∀ b, b < 0 → a ≠ b → (TJ3 a).2.1 ≠ (TJ3 b).2.1 := by decide +kernel
theorem tyJ3_ok : ∀ k, k < 0 → parseFieldDescriptor (TJ3 k).2.2.1 = some (tyJ3 k) := by decide +kernel
abbrev cJ3_checkIndex_8e157 : ByteArray := prog_18_method_11_code
def yJ3_checkIndex_8e157 : MethodName := ⟨RJ3, "checkIndex", "(IILjava/util/function/BiFunction;)I"⟩
def RL : String := "WhitePawLaw"
abbrev cL_law : ByteArray := code
def yL_law : MethodName := ⟨RL, "law", "([I)Z"⟩
end
section
theorem dX0_init_0 : decode cX0_init 0 = .ok (.aload_n 0, 1) := by decide +kernel
theorem dX0_init_1 : decode cX0_init 1 = .ok (.invokespecial 3, 3) := by decide +kernel
theorem dX0_init_4 : decode cX0_init 4 = .ok (.aload_n 0, 1) := by decide +kernel
theorem dX0_init_5 : decode cX0_init 5 = .ok (.sipush 256, 3) := by decide +kernel
theorem dX0_init_8 : decode cX0_init 8 = .ok (.newarray .int, 2) := by decide +kernel
theorem dX0_init_10 : decode cX0_init 10 = .ok (.putfield 9, 3) := by decide +kernel
theorem dX0_init_13 : decode cX0_init 13 = .ok (.return_, 1) := by decide +kernel
theorem dX0_add_0 : decode cX0_add 0 = .ok (.iconst 0, 1) := by decide +kernel
theorem dX0_add_1 : decode cX0_add 1 = .ok (.istore_n 2, 1) := by decide +kernel
theorem dX0_add_2 : decode cX0_add 2 = .ok (.iload_n 2, 1) := by decide +kernel
theorem dX0_add_3 : decode cX0_add 3 = .ok (.aload_n 0, 1) := by decide +kernel
theorem dX0_add_4 : decode cX0_add 4 = .ok (.getfield 15, 3) := by decide +kernel
theorem dX0_add_7 : decode cX0_add 7 = .ok (.if_icmp .ge 25, 3) := by decide +kernel
theorem dX0_add_10 : decode cX0_add 10 = .ok (.iload_n 1, 1) := by decide +kernel
theorem dX0_add_11 : decode cX0_add 11 = .ok (.aload_n 0, 1) := by decide +kernel
theorem dX0_add_12 : decode cX0_add 12 = .ok (.getfield 9, 3) := by decide +kernel
theorem dX0_add_15 : decode cX0_add 15 = .ok (.iload_n 2, 1) := by decide +kernel
theorem dX0_add_16 : decode cX0_add 16 = .ok (.invokestatic 19, 3) := by decide +kernel
theorem dX0_add_19 : decode cX0_add 19 = .ok (.iconst (-1), 1) := by decide +kernel
theorem dX0_add_20 : decode cX0_add 20 = .ok (.ixor, 1) := by decide +kernel
theorem dX0_add_21 : decode cX0_add 21 = .ok (.iand, 1) := by decide +kernel
theorem dX0_add_22 : decode cX0_add 22 = .ok (.ifCond .ne 4, 3) := by decide +kernel
theorem dX0_add_25 : decode cX0_add 25 = .ok (.return_, 1) := by decide +kernel
theorem dX0_add_26 : decode cX0_add 26 = .ok (.iinc 2 1, 3) := by decide +kernel
theorem dX0_add_29 : decode cX0_add 29 = .ok (.goto (-27), 3) := by decide +kernel
theorem dX0_add_32 : decode cX0_add 32 = .ok (.aload_n 0, 1) := by decide +kernel
theorem dX0_add_33 : decode cX0_add 33 = .ok (.getfield 9, 3) := by decide +kernel
theorem dX0_add_36 : decode cX0_add 36 = .ok (.aload_n 0, 1) := by decide +kernel
theorem dX0_add_37 : decode cX0_add 37 = .ok (.getfield 15, 3) := by decide +kernel
theorem dX0_add_40 : decode cX0_add 40 = .ok (.iload_n 1, 1) := by decide +kernel
theorem dX0_add_41 : decode cX0_add 41 = .ok (.invokestatic 23, 3) := by decide +kernel
theorem dX0_add_44 : decode cX0_add 44 = .ok (.aload_n 0, 1) := by decide +kernel
theorem dX0_add_45 : decode cX0_add 45 = .ok (.dup, 1) := by decide +kernel
theorem dX0_add_46 : decode cX0_add 46 = .ok (.getfield 15, 3) := by decide +kernel
theorem dX0_add_49 : decode cX0_add 49 = .ok (.iconst 1, 1) := by decide +kernel
theorem dX0_add_50 : decode cX0_add 50 = .ok (.iadd, 1) := by decide +kernel
theorem dX0_add_51 : decode cX0_add 51 = .ok (.putfield 15, 3) := by decide +kernel
theorem dX0_add_54 : decode cX0_add 54 = .ok (.return_, 1) := by decide +kernel
theorem dX0_mostOf_0 : decode cX0_mostOf 0 = .ok (.iconst 0, 1) := by decide +kernel
theorem dX0_mostOf_1 : decode cX0_mostOf 1 = .ok (.istore_n 2, 1) := by decide +kernel
theorem dX0_mostOf_2 : decode cX0_mostOf 2 = .ok (.iconst 0, 1) := by decide +kernel
theorem dX0_mostOf_3 : decode cX0_mostOf 3 = .ok (.istore_n 3, 1) := by decide +kernel
theorem dX0_mostOf_4 : decode cX0_mostOf 4 = .ok (.iload_n 3, 1) := by decide +kernel
theorem dX0_mostOf_5 : decode cX0_mostOf 5 = .ok (.aload_n 0, 1) := by decide +kernel
theorem dX0_mostOf_6 : decode cX0_mostOf 6 = .ok (.getfield 15, 3) := by decide +kernel
theorem dX0_mostOf_9 : decode cX0_mostOf 9 = .ok (.if_icmp .ge 27, 3) := by decide +kernel
theorem dX0_mostOf_12 : decode cX0_mostOf 12 = .ok (.iload_n 2, 1) := by decide +kernel
theorem dX0_mostOf_13 : decode cX0_mostOf 13 = .ok (.aload_n 0, 1) := by decide +kernel
theorem dX0_mostOf_14 : decode cX0_mostOf 14 = .ok (.getfield 9, 3) := by decide +kernel
theorem dX0_mostOf_17 : decode cX0_mostOf 17 = .ok (.iload_n 3, 1) := by decide +kernel
theorem dX0_mostOf_18 : decode cX0_mostOf 18 = .ok (.invokestatic 19, 3) := by decide +kernel
theorem dX0_mostOf_21 : decode cX0_mostOf 21 = .ok (.iload_n 1, 1) := by decide +kernel
theorem dX0_mostOf_22 : decode cX0_mostOf 22 = .ok (.iand, 1) := by decide +kernel
theorem dX0_mostOf_23 : decode cX0_mostOf 23 = .ok (.invokestatic 27, 3) := by decide +kernel
theorem dX0_mostOf_26 : decode cX0_mostOf 26 = .ok (.invokestatic 33, 3) := by decide +kernel
theorem dX0_mostOf_29 : decode cX0_mostOf 29 = .ok (.istore_n 2, 1) := by decide +kernel
theorem dX0_mostOf_30 : decode cX0_mostOf 30 = .ok (.iinc 3 1, 3) := by decide +kernel
theorem dX0_mostOf_33 : decode cX0_mostOf 33 = .ok (.goto (-29), 3) := by decide +kernel
theorem dX0_mostOf_36 : decode cX0_mostOf 36 = .ok (.iload_n 2, 1) := by decide +kernel
theorem dX0_mostOf_37 : decode cX0_mostOf 37 = .ok (.ireturn, 1) := by decide +kernel
theorem dX1_init_0 : decode cX1_init 0 = .ok (.aload_n 0, 1) := by decide +kernel
theorem dX1_init_1 : decode cX1_init 1 = .ok (.invokespecial 3, 3) := by decide +kernel
theorem dX1_init_4 : decode cX1_init 4 = .ok (.aload_n 0, 1) := by decide +kernel
theorem dX1_init_5 : decode cX1_init 5 = .ok (.new 9, 3) := by decide +kernel
theorem dX1_init_8 : decode cX1_init 8 = .ok (.dup, 1) := by decide +kernel
theorem dX1_init_9 : decode cX1_init 9 = .ok (.invokespecial 11, 3) := by decide +kernel
theorem dX1_init_12 : decode cX1_init 12 = .ok (.putfield 12, 3) := by decide +kernel
theorem dX1_init_15 : decode cX1_init 15 = .ok (.aload_n 0, 1) := by decide +kernel
theorem dX1_init_16 : decode cX1_init 16 = .ok (.iconst 5, 1) := by decide +kernel
theorem dX1_init_17 : decode cX1_init 17 = .ok (.newarray .int, 2) := by decide +kernel
theorem dX1_init_19 : decode cX1_init 19 = .ok (.putfield 18, 3) := by decide +kernel
theorem dX1_init_22 : decode cX1_init 22 = .ok (.aload_n 0, 1) := by decide +kernel
theorem dX1_init_23 : decode cX1_init 23 = .ok (.bipush 6, 2) := by decide +kernel
theorem dX1_init_25 : decode cX1_init 25 = .ok (.newarray .int, 2) := by decide +kernel
theorem dX1_init_27 : decode cX1_init 27 = .ok (.putfield 22, 3) := by decide +kernel
theorem dX1_init_30 : decode cX1_init 30 = .ok (.aload_n 0, 1) := by decide +kernel
theorem dX1_init_31 : decode cX1_init 31 = .ok (.bipush 6, 2) := by decide +kernel
theorem dX1_init_33 : decode cX1_init 33 = .ok (.newarray .int, 2) := by decide +kernel
theorem dX1_init_35 : decode cX1_init 35 = .ok (.putfield 25, 3) := by decide +kernel
theorem dX1_init_38 : decode cX1_init 38 = .ok (.aload_n 0, 1) := by decide +kernel
theorem dX1_init_39 : decode cX1_init 39 = .ok (.bipush 6, 2) := by decide +kernel
theorem dX1_init_41 : decode cX1_init 41 = .ok (.newarray .int, 2) := by decide +kernel
theorem dX1_init_43 : decode cX1_init 43 = .ok (.putfield 28, 3) := by decide +kernel
theorem dX1_init_46 : decode cX1_init 46 = .ok (.return_, 1) := by decide +kernel
theorem dX1_empty_0 : decode cX1_empty 0 = .ok (.aload_n 0, 1) := by decide +kernel
theorem dX1_empty_1 : decode cX1_empty 1 = .ok (.iconst 0, 1) := by decide +kernel
theorem dX1_empty_2 : decode cX1_empty 2 = .ok (.putfield 31, 3) := by decide +kernel
theorem dX1_empty_5 : decode cX1_empty 5 = .ok (.aload_n 0, 1) := by decide +kernel
theorem dX1_empty_6 : decode cX1_empty 6 = .ok (.iconst 0, 1) := by decide +kernel
theorem dX1_empty_7 : decode cX1_empty 7 = .ok (.putfield 35, 3) := by decide +kernel
theorem dX1_empty_10 : decode cX1_empty 10 = .ok (.aload_n 0, 1) := by decide +kernel
theorem dX1_empty_11 : decode cX1_empty 11 = .ok (.iconst 0, 1) := by decide +kernel
theorem dX1_empty_12 : decode cX1_empty 12 = .ok (.putfield 38, 3) := by decide +kernel
theorem dX1_empty_15 : decode cX1_empty 15 = .ok (.aload_n 0, 1) := by decide +kernel
theorem dX1_empty_16 : decode cX1_empty 16 = .ok (.iconst 0, 1) := by decide +kernel
theorem dX1_empty_17 : decode cX1_empty 17 = .ok (.putfield 41, 3) := by decide +kernel
theorem dX1_empty_20 : decode cX1_empty 20 = .ok (.return_, 1) := by decide +kernel
theorem dX1_copy_0 : decode cX1_copy 0 = .ok (.aload_n 0, 1) := by decide +kernel
theorem dX1_copy_1 : decode cX1_copy 1 = .ok (.getfield 12, 3) := by decide +kernel
theorem dX1_copy_4 : decode cX1_copy 4 = .ok (.aload_n 1, 1) := by decide +kernel
theorem dX1_copy_5 : decode cX1_copy 5 = .ok (.getfield 12, 3) := by decide +kernel
theorem dX1_copy_8 : decode cX1_copy 8 = .ok (.invokevirtual 44, 3) := by decide +kernel
theorem dX1_copy_11 : decode cX1_copy 11 = .ok (.aload_n 1, 1) := by decide +kernel
theorem dX1_copy_12 : decode cX1_copy 12 = .ok (.getfield 18, 3) := by decide +kernel
theorem dX1_copy_15 : decode cX1_copy 15 = .ok (.aload_n 0, 1) := by decide +kernel
theorem dX1_copy_16 : decode cX1_copy 16 = .ok (.getfield 18, 3) := by decide +kernel
theorem dX1_copy_19 : decode cX1_copy 19 = .ok (.invokestatic 48, 3) := by decide +kernel
theorem dX1_copy_22 : decode cX1_copy 22 = .ok (.aload_n 1, 1) := by decide +kernel
theorem dX1_copy_23 : decode cX1_copy 23 = .ok (.getfield 22, 3) := by decide +kernel
theorem dX1_copy_26 : decode cX1_copy 26 = .ok (.aload_n 0, 1) := by decide +kernel
theorem dX1_copy_27 : decode cX1_copy 27 = .ok (.getfield 22, 3) := by decide +kernel
theorem dX1_copy_30 : decode cX1_copy 30 = .ok (.invokestatic 48, 3) := by decide +kernel
theorem dX1_copy_33 : decode cX1_copy 33 = .ok (.aload_n 1, 1) := by decide +kernel
theorem dX1_copy_34 : decode cX1_copy 34 = .ok (.getfield 25, 3) := by decide +kernel
theorem dX1_copy_37 : decode cX1_copy 37 = .ok (.aload_n 0, 1) := by decide +kernel
theorem dX1_copy_38 : decode cX1_copy 38 = .ok (.getfield 25, 3) := by decide +kernel
theorem dX1_copy_41 : decode cX1_copy 41 = .ok (.invokestatic 48, 3) := by decide +kernel
theorem dX1_copy_44 : decode cX1_copy 44 = .ok (.aload_n 1, 1) := by decide +kernel
theorem dX1_copy_45 : decode cX1_copy 45 = .ok (.getfield 28, 3) := by decide +kernel
theorem dX1_copy_48 : decode cX1_copy 48 = .ok (.aload_n 0, 1) := by decide +kernel
theorem dX1_copy_49 : decode cX1_copy 49 = .ok (.getfield 28, 3) := by decide +kernel
theorem dX1_copy_52 : decode cX1_copy 52 = .ok (.invokestatic 48, 3) := by decide +kernel
theorem dX1_copy_55 : decode cX1_copy 55 = .ok (.aload_n 0, 1) := by decide +kernel
theorem dX1_copy_56 : decode cX1_copy 56 = .ok (.aload_n 1, 1) := by decide +kernel
theorem dX1_copy_57 : decode cX1_copy 57 = .ok (.getfield 31, 3) := by decide +kernel
theorem dX1_copy_60 : decode cX1_copy 60 = .ok (.putfield 31, 3) := by decide +kernel
theorem dX1_copy_63 : decode cX1_copy 63 = .ok (.aload_n 0, 1) := by decide +kernel
theorem dX1_copy_64 : decode cX1_copy 64 = .ok (.aload_n 1, 1) := by decide +kernel
theorem dX1_copy_65 : decode cX1_copy 65 = .ok (.getfield 35, 3) := by decide +kernel
theorem dX1_copy_68 : decode cX1_copy 68 = .ok (.putfield 35, 3) := by decide +kernel
theorem dX1_copy_71 : decode cX1_copy 71 = .ok (.aload_n 0, 1) := by decide +kernel
theorem dX1_copy_72 : decode cX1_copy 72 = .ok (.aload_n 1, 1) := by decide +kernel
theorem dX1_copy_73 : decode cX1_copy 73 = .ok (.getfield 38, 3) := by decide +kernel
theorem dX1_copy_76 : decode cX1_copy 76 = .ok (.putfield 38, 3) := by decide +kernel
theorem dX1_copy_79 : decode cX1_copy 79 = .ok (.aload_n 0, 1) := by decide +kernel
theorem dX1_copy_80 : decode cX1_copy 80 = .ok (.aload_n 1, 1) := by decide +kernel
theorem dX1_copy_81 : decode cX1_copy 81 = .ok (.getfield 41, 3) := by decide +kernel
theorem dX1_copy_84 : decode cX1_copy 84 = .ok (.putfield 41, 3) := by decide +kernel
theorem dX1_copy_87 : decode cX1_copy 87 = .ok (.return_, 1) := by decide +kernel
theorem dX1_isOpen_0 : decode cX1_isOpen 0 = .ok (.aload_n 0, 1) := by decide +kernel
theorem dX1_isOpen_1 : decode cX1_isOpen 1 = .ok (.getfield 28, 3) := by decide +kernel
theorem dX1_isOpen_4 : decode cX1_isOpen 4 = .ok (.iload_n 1, 1) := by decide +kernel
theorem dX1_isOpen_5 : decode cX1_isOpen 5 = .ok (.invokestatic 52, 3) := by decide +kernel
theorem dX1_isOpen_8 : decode cX1_isOpen 8 = .ok (.istore_n 3, 1) := by decide +kernel
theorem dX1_isOpen_9 : decode cX1_isOpen 9 = .ok (.iload_n 2, 1) := by decide +kernel
theorem dX1_isOpen_10 : decode cX1_isOpen 10 = .ok (.aload_n 0, 1) := by decide +kernel
theorem dX1_isOpen_11 : decode cX1_isOpen 11 = .ok (.getfield 22, 3) := by decide +kernel
theorem dX1_isOpen_14 : decode cX1_isOpen 14 = .ok (.iload_n 1, 1) := by decide +kernel
theorem dX1_isOpen_15 : decode cX1_isOpen 15 = .ok (.invokestatic 52, 3) := by decide +kernel
theorem dX1_isOpen_18 : decode cX1_isOpen 18 = .ok (.invokestatic 56, 3) := by decide +kernel
theorem dX1_isOpen_21 : decode cX1_isOpen 21 = .ok (.ifCond .ne 21, 3) := by decide +kernel
theorem dX1_isOpen_24 : decode cX1_isOpen 24 = .ok (.iload_n 3, 1) := by decide +kernel
theorem dX1_isOpen_25 : decode cX1_isOpen 25 = .ok (.bipush 9, 2) := by decide +kernel
theorem dX1_isOpen_27 : decode cX1_isOpen 27 = .ok (.if_icmp .eq 11, 3) := by decide +kernel
theorem dX1_isOpen_30 : decode cX1_isOpen 30 = .ok (.iload_n 2, 1) := by decide +kernel
theorem dX1_isOpen_31 : decode cX1_isOpen 31 = .ok (.iload_n 3, 1) := by decide +kernel
theorem dX1_isOpen_32 : decode cX1_isOpen 32 = .ok (.invokestatic 56, 3) := by decide +kernel
theorem dX1_isOpen_35 : decode cX1_isOpen 35 = .ok (.ifCond .eq 7, 3) := by decide +kernel
theorem dX1_isOpen_38 : decode cX1_isOpen 38 = .ok (.iconst 1, 1) := by decide +kernel
theorem dX1_isOpen_39 : decode cX1_isOpen 39 = .ok (.goto 4, 3) := by decide +kernel
theorem dX1_isOpen_42 : decode cX1_isOpen 42 = .ok (.iconst 0, 1) := by decide +kernel
theorem dX1_isOpen_43 : decode cX1_isOpen 43 = .ok (.ireturn, 1) := by decide +kernel
theorem dX2_init_0 : decode cX2_init 0 = .ok (.aload_n 0, 1) := by decide +kernel
theorem dX2_init_1 : decode cX2_init 1 = .ok (.invokespecial 3, 3) := by decide +kernel
theorem dX2_init_4 : decode cX2_init 4 = .ok (.aload_n 0, 1) := by decide +kernel
theorem dX2_init_5 : decode cX2_init 5 = .ok (.iconst 5, 1) := by decide +kernel
theorem dX2_init_6 : decode cX2_init 6 = .ok (.newarray .int, 2) := by decide +kernel
theorem dX2_init_8 : decode cX2_init 8 = .ok (.putfield 9, 3) := by decide +kernel
theorem dX2_init_11 : decode cX2_init 11 = .ok (.aload_n 0, 1) := by decide +kernel
theorem dX2_init_12 : decode cX2_init 12 = .ok (.iconst 5, 1) := by decide +kernel
theorem dX2_init_13 : decode cX2_init 13 = .ok (.newarray .int, 2) := by decide +kernel
theorem dX2_init_15 : decode cX2_init 15 = .ok (.putfield 15, 3) := by decide +kernel
theorem dX2_init_18 : decode cX2_init 18 = .ok (.aload_n 0, 1) := by decide +kernel
theorem dX2_init_19 : decode cX2_init 19 = .ok (.iconst 4, 1) := by decide +kernel
theorem dX2_init_20 : decode cX2_init 20 = .ok (.newarray .int, 2) := by decide +kernel
theorem dX2_init_22 : decode cX2_init 22 = .ok (.putfield 18, 3) := by decide +kernel
theorem dX2_init_25 : decode cX2_init 25 = .ok (.aload_n 0, 1) := by decide +kernel
theorem dX2_init_26 : decode cX2_init 26 = .ok (.iconst 4, 1) := by decide +kernel
theorem dX2_init_27 : decode cX2_init 27 = .ok (.newarray .int, 2) := by decide +kernel
theorem dX2_init_29 : decode cX2_init 29 = .ok (.putfield 21, 3) := by decide +kernel
theorem dX2_init_32 : decode cX2_init 32 = .ok (.return_, 1) := by decide +kernel
theorem dX2_copy_0 : decode cX2_copy 0 = .ok (.aload_n 1, 1) := by decide +kernel
theorem dX2_copy_1 : decode cX2_copy 1 = .ok (.getfield 9, 3) := by decide +kernel
theorem dX2_copy_4 : decode cX2_copy 4 = .ok (.aload_n 0, 1) := by decide +kernel
theorem dX2_copy_5 : decode cX2_copy 5 = .ok (.getfield 9, 3) := by decide +kernel
theorem dX2_copy_8 : decode cX2_copy 8 = .ok (.invokestatic 24, 3) := by decide +kernel
theorem dX2_copy_11 : decode cX2_copy 11 = .ok (.aload_n 1, 1) := by decide +kernel
theorem dX2_copy_12 : decode cX2_copy 12 = .ok (.getfield 15, 3) := by decide +kernel
theorem dX2_copy_15 : decode cX2_copy 15 = .ok (.aload_n 0, 1) := by decide +kernel
theorem dX2_copy_16 : decode cX2_copy 16 = .ok (.getfield 15, 3) := by decide +kernel
theorem dX2_copy_19 : decode cX2_copy 19 = .ok (.invokestatic 24, 3) := by decide +kernel
theorem dX2_copy_22 : decode cX2_copy 22 = .ok (.aload_n 1, 1) := by decide +kernel
theorem dX2_copy_23 : decode cX2_copy 23 = .ok (.getfield 18, 3) := by decide +kernel
theorem dX2_copy_26 : decode cX2_copy 26 = .ok (.aload_n 0, 1) := by decide +kernel
theorem dX2_copy_27 : decode cX2_copy 27 = .ok (.getfield 18, 3) := by decide +kernel
theorem dX2_copy_30 : decode cX2_copy 30 = .ok (.invokestatic 24, 3) := by decide +kernel
theorem dX2_copy_33 : decode cX2_copy 33 = .ok (.aload_n 1, 1) := by decide +kernel
theorem dX2_copy_34 : decode cX2_copy 34 = .ok (.getfield 21, 3) := by decide +kernel
theorem dX2_copy_37 : decode cX2_copy 37 = .ok (.aload_n 0, 1) := by decide +kernel
theorem dX2_copy_38 : decode cX2_copy 38 = .ok (.getfield 21, 3) := by decide +kernel
theorem dX2_copy_41 : decode cX2_copy 41 = .ok (.invokestatic 24, 3) := by decide +kernel
theorem dX2_copy_44 : decode cX2_copy 44 = .ok (.return_, 1) := by decide +kernel
theorem dX3_init_0 : decode cX3_init 0 = .ok (.aload_n 0, 1) := by decide +kernel
theorem dX3_init_1 : decode cX3_init 1 = .ok (.invokespecial 1, 3) := by decide +kernel
theorem dX3_init_4 : decode cX3_init 4 = .ok (.aload_n 0, 1) := by decide +kernel
theorem dX3_init_5 : decode cX3_init 5 = .ok (.iconst 0, 1) := by decide +kernel
theorem dX3_init_6 : decode cX3_init 6 = .ok (.iload_n 1, 1) := by decide +kernel
theorem dX3_init_7 : decode cX3_init 7 = .ok (.invokestatic 7, 3) := by decide +kernel
theorem dX3_init_10 : decode cX3_init 10 = .ok (.anewarray 13, 3) := by decide +kernel
theorem dX3_init_13 : decode cX3_init 13 = .ok (.putfield 15, 3) := by decide +kernel
theorem dX3_init_16 : decode cX3_init 16 = .ok (.iconst 0, 1) := by decide +kernel
theorem dX3_init_17 : decode cX3_init 17 = .ok (.istore_n 2, 1) := by decide +kernel
theorem dX3_init_18 : decode cX3_init 18 = .ok (.iload_n 2, 1) := by decide +kernel
theorem dX3_init_19 : decode cX3_init 19 = .ok (.aload_n 0, 1) := by decide +kernel
theorem dX3_init_20 : decode cX3_init 20 = .ok (.getfield 15, 3) := by decide +kernel
theorem dX3_init_23 : decode cX3_init 23 = .ok (.arraylength, 1) := by decide +kernel
theorem dX3_init_24 : decode cX3_init 24 = .ok (.if_icmp .ge 22, 3) := by decide +kernel
theorem dX3_init_27 : decode cX3_init 27 = .ok (.aload_n 0, 1) := by decide +kernel
theorem dX3_init_28 : decode cX3_init 28 = .ok (.getfield 15, 3) := by decide +kernel
theorem dX3_init_31 : decode cX3_init 31 = .ok (.iload_n 2, 1) := by decide +kernel
theorem dX3_init_32 : decode cX3_init 32 = .ok (.new 13, 3) := by decide +kernel
theorem dX3_init_35 : decode cX3_init 35 = .ok (.dup, 1) := by decide +kernel
theorem dX3_init_36 : decode cX3_init 36 = .ok (.invokespecial 21, 3) := by decide +kernel
theorem dX3_init_39 : decode cX3_init 39 = .ok (.aastore, 1) := by decide +kernel
theorem dX3_init_40 : decode cX3_init 40 = .ok (.iinc 2 1, 3) := by decide +kernel
theorem dX3_init_43 : decode cX3_init 43 = .ok (.goto (-25), 3) := by decide +kernel
theorem dX3_init_46 : decode cX3_init 46 = .ok (.return_, 1) := by decide +kernel
theorem dX3_store_0 : decode cX3_store 0 = .ok (.aload_n 0, 1) := by decide +kernel
theorem dX3_store_1 : decode cX3_store 1 = .ok (.iload_n 1, 1) := by decide +kernel
theorem dX3_store_2 : decode cX3_store 2 = .ok (.invokevirtual 22, 3) := by decide +kernel
theorem dX3_store_5 : decode cX3_store 5 = .ok (.astore_n 3, 1) := by decide +kernel
theorem dX3_store_6 : decode cX3_store 6 = .ok (.aload_n 3, 1) := by decide +kernel
theorem dX3_store_7 : decode cX3_store 7 = .ok (.ifnull 8, 3) := by decide +kernel
theorem dX3_store_10 : decode cX3_store 10 = .ok (.aload_n 3, 1) := by decide +kernel
theorem dX3_store_11 : decode cX3_store 11 = .ok (.aload_n 2, 1) := by decide +kernel
theorem dX3_store_12 : decode cX3_store 12 = .ok (.invokevirtual 26, 3) := by decide +kernel
theorem dX3_store_15 : decode cX3_store 15 = .ok (.return_, 1) := by decide +kernel
theorem dX3_fetch_0 : decode cX3_fetch 0 = .ok (.aload_n 0, 1) := by decide +kernel
theorem dX3_fetch_1 : decode cX3_fetch 1 = .ok (.iload_n 1, 1) := by decide +kernel
theorem dX3_fetch_2 : decode cX3_fetch 2 = .ok (.invokevirtual 22, 3) := by decide +kernel
theorem dX3_fetch_5 : decode cX3_fetch 5 = .ok (.astore_n 3, 1) := by decide +kernel
theorem dX3_fetch_6 : decode cX3_fetch 6 = .ok (.aload_n 3, 1) := by decide +kernel
theorem dX3_fetch_7 : decode cX3_fetch 7 = .ok (.ifnull 8, 3) := by decide +kernel
theorem dX3_fetch_10 : decode cX3_fetch 10 = .ok (.aload_n 2, 1) := by decide +kernel
theorem dX3_fetch_11 : decode cX3_fetch 11 = .ok (.aload_n 3, 1) := by decide +kernel
theorem dX3_fetch_12 : decode cX3_fetch 12 = .ok (.invokevirtual 26, 3) := by decide +kernel
theorem dX3_fetch_15 : decode cX3_fetch 15 = .ok (.return_, 1) := by decide +kernel
theorem dX3_row_0 : decode cX3_row 0 = .ok (.iload_n 1, 1) := by decide +kernel
theorem dX3_row_1 : decode cX3_row 1 = .ok (.ifCond .lt 21, 3) := by decide +kernel
theorem dX3_row_4 : decode cX3_row 4 = .ok (.iload_n 1, 1) := by decide +kernel
theorem dX3_row_5 : decode cX3_row 5 = .ok (.aload_n 0, 1) := by decide +kernel
theorem dX3_row_6 : decode cX3_row 6 = .ok (.getfield 15, 3) := by decide +kernel
theorem dX3_row_9 : decode cX3_row 9 = .ok (.arraylength, 1) := by decide +kernel
theorem dX3_row_10 : decode cX3_row 10 = .ok (.if_icmp .ge 12, 3) := by decide +kernel
theorem dX3_row_13 : decode cX3_row 13 = .ok (.aload_n 0, 1) := by decide +kernel
theorem dX3_row_14 : decode cX3_row 14 = .ok (.getfield 15, 3) := by decide +kernel
theorem dX3_row_17 : decode cX3_row 17 = .ok (.iload_n 1, 1) := by decide +kernel
theorem dX3_row_18 : decode cX3_row 18 = .ok (.aaload, 1) := by decide +kernel
theorem dX3_row_19 : decode cX3_row 19 = .ok (.goto 4, 3) := by decide +kernel
theorem dX3_row_22 : decode cX3_row 22 = .ok (.aconst_null, 1) := by decide +kernel
theorem dX3_row_23 : decode cX3_row 23 = .ok (.areturn, 1) := by decide +kernel
theorem dX4_init_0 : decode cX4_init 0 = .ok (.aload_n 0, 1) := by decide +kernel
theorem dX4_init_1 : decode cX4_init 1 = .ok (.invokespecial 3, 3) := by decide +kernel
theorem dX4_init_4 : decode cX4_init 4 = .ok (.aload_n 0, 1) := by decide +kernel
theorem dX4_init_5 : decode cX4_init 5 = .ok (.new 9, 3) := by decide +kernel
theorem dX4_init_8 : decode cX4_init 8 = .ok (.dup, 1) := by decide +kernel
theorem dX4_init_9 : decode cX4_init 9 = .ok (.invokespecial 11, 3) := by decide +kernel
theorem dX4_init_12 : decode cX4_init 12 = .ok (.putfield 12, 3) := by decide +kernel
theorem dX4_init_15 : decode cX4_init 15 = .ok (.aload_n 0, 1) := by decide +kernel
theorem dX4_init_16 : decode cX4_init 16 = .ok (.new 18, 3) := by decide +kernel
theorem dX4_init_19 : decode cX4_init 19 = .ok (.dup, 1) := by decide +kernel
theorem dX4_init_20 : decode cX4_init 20 = .ok (.invokespecial 20, 3) := by decide +kernel
theorem dX4_init_23 : decode cX4_init 23 = .ok (.putfield 21, 3) := by decide +kernel
theorem dX4_init_26 : decode cX4_init 26 = .ok (.return_, 1) := by decide +kernel
theorem dX4_readHouse_0 : decode cX4_readHouse 0 = .ok (.aload_n 0, 1) := by decide +kernel
theorem dX4_readHouse_1 : decode cX4_readHouse 1 = .ok (.getfield 12, 3) := by decide +kernel
theorem dX4_readHouse_4 : decode cX4_readHouse 4 = .ok (.aload_n 1, 1) := by decide +kernel
theorem dX4_readHouse_5 : decode cX4_readHouse 5 = .ok (.invokevirtual 25, 3) := by decide +kernel
theorem dX4_readHouse_8 : decode cX4_readHouse 8 = .ok (.aload_n 0, 1) := by decide +kernel
theorem dX4_readHouse_9 : decode cX4_readHouse 9 = .ok (.getfield 21, 3) := by decide +kernel
theorem dX4_readHouse_12 : decode cX4_readHouse 12 = .ok (.invokevirtual 29, 3) := by decide +kernel
theorem dX4_readHouse_15 : decode cX4_readHouse 15 = .ok (.aload_n 0, 1) := by decide +kernel
theorem dX4_readHouse_16 : decode cX4_readHouse 16 = .ok (.iconst 0, 1) := by decide +kernel
theorem dX4_readHouse_17 : decode cX4_readHouse 17 = .ok (.putfield 32, 3) := by decide +kernel
theorem dX4_readHouse_20 : decode cX4_readHouse 20 = .ok (.aload_n 0, 1) := by decide +kernel
theorem dX4_readHouse_21 : decode cX4_readHouse 21 = .ok (.iconst 0, 1) := by decide +kernel
theorem dX4_readHouse_22 : decode cX4_readHouse 22 = .ok (.putfield 36, 3) := by decide +kernel
theorem dX4_readHouse_25 : decode cX4_readHouse 25 = .ok (.iconst 0, 1) := by decide +kernel
theorem dX4_readHouse_26 : decode cX4_readHouse 26 = .ok (.istore_n 2, 1) := by decide +kernel
theorem dX4_readHouse_27 : decode cX4_readHouse 27 = .ok (.iload_n 2, 1) := by decide +kernel
theorem dX4_readHouse_28 : decode cX4_readHouse 28 = .ok (.sipush 300, 3) := by decide +kernel
theorem dX4_readHouse_31 : decode cX4_readHouse 31 = .ok (.if_icmp .gt 28, 3) := by decide +kernel
theorem dX4_readHouse_34 : decode cX4_readHouse 34 = .ok (.aload_n 0, 1) := by decide +kernel
theorem dX4_readHouse_35 : decode cX4_readHouse 35 = .ok (.invokevirtual 40, 3) := by decide +kernel
theorem dX4_readHouse_38 : decode cX4_readHouse 38 = .ok (.ifCond .ne 5, 3) := by decide +kernel
theorem dX4_readHouse_41 : decode cX4_readHouse 41 = .ok (.iload_n 2, 1) := by decide +kernel
theorem dX4_readHouse_42 : decode cX4_readHouse 42 = .ok (.ireturn, 1) := by decide +kernel
theorem dX4_readHouse_43 : decode cX4_readHouse 43 = .ok (.aload_n 0, 1) := by decide +kernel
theorem dX4_readHouse_44 : decode cX4_readHouse 44 = .ok (.invokevirtual 44, 3) := by decide +kernel
theorem dX4_readHouse_47 : decode cX4_readHouse 47 = .ok (.ifCond .ne 6, 3) := by decide +kernel
theorem dX4_readHouse_50 : decode cX4_readHouse 50 = .ok (.goto 9, 3) := by decide +kernel
theorem dX4_readHouse_53 : decode cX4_readHouse 53 = .ok (.iinc 2 1, 3) := by decide +kernel
theorem dX4_readHouse_56 : decode cX4_readHouse 56 = .ok (.goto (-29), 3) := by decide +kernel
theorem dX4_readHouse_59 : decode cX4_readHouse 59 = .ok (.bipush (-10), 2) := by decide +kernel
theorem dX4_readHouse_61 : decode cX4_readHouse 61 = .ok (.aload_n 0, 1) := by decide +kernel
theorem dX4_readHouse_62 : decode cX4_readHouse 62 = .ok (.getfield 12, 3) := by decide +kernel
theorem dX4_readHouse_65 : decode cX4_readHouse 65 = .ok (.getfield 48, 3) := by decide +kernel
theorem dX4_readHouse_68 : decode cX4_readHouse 68 = .ok (.aload_n 0, 1) := by decide +kernel
theorem dX4_readHouse_69 : decode cX4_readHouse 69 = .ok (.getfield 36, 3) := by decide +kernel
theorem dX4_readHouse_72 : decode cX4_readHouse 72 = .ok (.invokestatic 52, 3) := by decide +kernel
theorem dX4_readHouse_75 : decode cX4_readHouse 75 = .ok (.isub, 1) := by decide +kernel
theorem dX4_readHouse_76 : decode cX4_readHouse 76 = .ok (.ireturn, 1) := by decide +kernel
theorem dX4_kind_0 : decode cX4_kind 0 = .ok (.aload_n 0, 1) := by decide +kernel
theorem dX4_kind_1 : decode cX4_kind 1 = .ok (.getfield 12, 3) := by decide +kernel
theorem dX4_kind_4 : decode cX4_kind 4 = .ok (.getfield 56, 3) := by decide +kernel
theorem dX4_kind_7 : decode cX4_kind 7 = .ok (.aload_n 0, 1) := by decide +kernel
theorem dX4_kind_8 : decode cX4_kind 8 = .ok (.getfield 36, 3) := by decide +kernel
theorem dX4_kind_11 : decode cX4_kind 11 = .ok (.invokestatic 52, 3) := by decide +kernel
theorem dX4_kind_14 : decode cX4_kind 14 = .ok (.ireturn, 1) := by decide +kernel
theorem dX4_readItem_0 : decode cX4_readItem 0 = .ok (.aload_n 0, 1) := by decide +kernel
theorem dX4_readItem_1 : decode cX4_readItem 1 = .ok (.invokevirtual 40, 3) := by decide +kernel
theorem dX4_readItem_4 : decode cX4_readItem 4 = .ok (.tableswitch 52 4 7 #[32, 37, 42, 47], 32) := by decide +kernel
theorem dX4_readItem_36 : decode cX4_readItem 36 = .ok (.aload_n 0, 1) := by decide +kernel
theorem dX4_readItem_37 : decode cX4_readItem 37 = .ok (.invokevirtual 59, 3) := by decide +kernel
theorem dX4_readItem_40 : decode cX4_readItem 40 = .ok (.ireturn, 1) := by decide +kernel
theorem dX4_readItem_41 : decode cX4_readItem 41 = .ok (.aload_n 0, 1) := by decide +kernel
theorem dX4_readItem_42 : decode cX4_readItem 42 = .ok (.invokevirtual 62, 3) := by decide +kernel
theorem dX4_readItem_45 : decode cX4_readItem 45 = .ok (.ireturn, 1) := by decide +kernel
theorem dX4_readItem_46 : decode cX4_readItem 46 = .ok (.aload_n 0, 1) := by decide +kernel
theorem dX4_readItem_47 : decode cX4_readItem 47 = .ok (.invokevirtual 65, 3) := by decide +kernel
theorem dX4_readItem_50 : decode cX4_readItem 50 = .ok (.ireturn, 1) := by decide +kernel
theorem dX4_readItem_51 : decode cX4_readItem 51 = .ok (.aload_n 0, 1) := by decide +kernel
theorem dX4_readItem_52 : decode cX4_readItem 52 = .ok (.invokevirtual 68, 3) := by decide +kernel
theorem dX4_readItem_55 : decode cX4_readItem 55 = .ok (.ireturn, 1) := by decide +kernel
theorem dX4_readItem_56 : decode cX4_readItem 56 = .ok (.iconst 0, 1) := by decide +kernel
theorem dX4_readItem_57 : decode cX4_readItem 57 = .ok (.ireturn, 1) := by decide +kernel
theorem dX4_readLoud_0 : decode cX4_readLoud 0 = .ok (.aload_n 0, 1) := by decide +kernel
theorem dX4_readLoud_1 : decode cX4_readLoud 1 = .ok (.getfield 32, 3) := by decide +kernel
theorem dX4_readLoud_4 : decode cX4_readLoud 4 = .ok (.ifCond .eq 5, 3) := by decide +kernel
theorem dX4_readLoud_7 : decode cX4_readLoud 7 = .ok (.iconst 0, 1) := by decide +kernel
theorem dX4_readLoud_8 : decode cX4_readLoud 8 = .ok (.ireturn, 1) := by decide +kernel
theorem dX4_readLoud_9 : decode cX4_readLoud 9 = .ok (.aload_n 0, 1) := by decide +kernel
theorem dX4_readLoud_10 : decode cX4_readLoud 10 = .ok (.dup, 1) := by decide +kernel
theorem dX4_readLoud_11 : decode cX4_readLoud 11 = .ok (.getfield 36, 3) := by decide +kernel
theorem dX4_readLoud_14 : decode cX4_readLoud 14 = .ok (.iconst 1, 1) := by decide +kernel
theorem dX4_readLoud_15 : decode cX4_readLoud 15 = .ok (.iadd, 1) := by decide +kernel
theorem dX4_readLoud_16 : decode cX4_readLoud 16 = .ok (.putfield 36, 3) := by decide +kernel
theorem dX4_readLoud_19 : decode cX4_readLoud 19 = .ok (.aload_n 0, 1) := by decide +kernel
theorem dX4_readLoud_20 : decode cX4_readLoud 20 = .ok (.iconst 1, 1) := by decide +kernel
theorem dX4_readLoud_21 : decode cX4_readLoud 21 = .ok (.putfield 32, 3) := by decide +kernel
theorem dX4_readLoud_24 : decode cX4_readLoud 24 = .ok (.aload_n 0, 1) := by decide +kernel
theorem dX4_readLoud_25 : decode cX4_readLoud 25 = .ok (.getfield 21, 3) := by decide +kernel
theorem dX4_readLoud_28 : decode cX4_readLoud 28 = .ok (.aload_n 0, 1) := by decide +kernel
theorem dX4_readLoud_29 : decode cX4_readLoud 29 = .ok (.invokevirtual 71, 3) := by decide +kernel
theorem dX4_readLoud_32 : decode cX4_readLoud 32 = .ok (.putfield 74, 3) := by decide +kernel
theorem dX4_readLoud_35 : decode cX4_readLoud 35 = .ok (.aload_n 0, 1) := by decide +kernel
theorem dX4_readLoud_36 : decode cX4_readLoud 36 = .ok (.invokevirtual 77, 3) := by decide +kernel
theorem dX4_readLoud_39 : decode cX4_readLoud 39 = .ok (.ireturn, 1) := by decide +kernel
theorem dX4_readKnocker_0 : decode cX4_readKnocker 0 = .ok (.aload_n 0, 1) := by decide +kernel
theorem dX4_readKnocker_1 : decode cX4_readKnocker 1 = .ok (.getfield 21, 3) := by decide +kernel
theorem dX4_readKnocker_4 : decode cX4_readKnocker 4 = .ok (.getfield 80, 3) := by decide +kernel
theorem dX4_readKnocker_7 : decode cX4_readKnocker 7 = .ok (.iconst 5, 1) := by decide +kernel
theorem dX4_readKnocker_8 : decode cX4_readKnocker 8 = .ok (.if_icmp .lt 5, 3) := by decide +kernel
theorem dX4_readKnocker_11 : decode cX4_readKnocker 11 = .ok (.iconst 0, 1) := by decide +kernel
theorem dX4_readKnocker_12 : decode cX4_readKnocker 12 = .ok (.ireturn, 1) := by decide +kernel
theorem dX4_readKnocker_13 : decode cX4_readKnocker 13 = .ok (.aload_n 0, 1) := by decide +kernel
theorem dX4_readKnocker_14 : decode cX4_readKnocker 14 = .ok (.dup, 1) := by decide +kernel
theorem dX4_readKnocker_15 : decode cX4_readKnocker 15 = .ok (.getfield 36, 3) := by decide +kernel
theorem dX4_readKnocker_18 : decode cX4_readKnocker 18 = .ok (.iconst 1, 1) := by decide +kernel
theorem dX4_readKnocker_19 : decode cX4_readKnocker 19 = .ok (.iadd, 1) := by decide +kernel
theorem dX4_readKnocker_20 : decode cX4_readKnocker 20 = .ok (.putfield 36, 3) := by decide +kernel
theorem dX4_readKnocker_23 : decode cX4_readKnocker 23 = .ok (.aload_n 0, 1) := by decide +kernel
theorem dX4_readKnocker_24 : decode cX4_readKnocker 24 = .ok (.iconst 0, 1) := by decide +kernel
theorem dX4_readKnocker_25 : decode cX4_readKnocker 25 = .ok (.iconst 1, 1) := by decide +kernel
theorem dX4_readKnocker_26 : decode cX4_readKnocker 26 = .ok (.invokevirtual 83, 3) := by decide +kernel
theorem dX4_readKnocker_29 : decode cX4_readKnocker 29 = .ok (.istore_n 1, 1) := by decide +kernel
theorem dX4_readKnocker_30 : decode cX4_readKnocker 30 = .ok (.iload_n 1, 1) := by decide +kernel
theorem dX4_readKnocker_31 : decode cX4_readKnocker 31 = .ok (.ifCond .ge 5, 3) := by decide +kernel
theorem dX4_readKnocker_34 : decode cX4_readKnocker 34 = .ok (.iconst 0, 1) := by decide +kernel
theorem dX4_readKnocker_35 : decode cX4_readKnocker 35 = .ok (.ireturn, 1) := by decide +kernel
theorem dX4_readKnocker_36 : decode cX4_readKnocker 36 = .ok (.aload_n 0, 1) := by decide +kernel
theorem dX4_readKnocker_37 : decode cX4_readKnocker 37 = .ok (.getfield 21, 3) := by decide +kernel
theorem dX4_readKnocker_40 : decode cX4_readKnocker 40 = .ok (.getfield 87, 3) := by decide +kernel
theorem dX4_readKnocker_43 : decode cX4_readKnocker 43 = .ok (.aload_n 0, 1) := by decide +kernel
theorem dX4_readKnocker_44 : decode cX4_readKnocker 44 = .ok (.getfield 21, 3) := by decide +kernel
theorem dX4_readKnocker_47 : decode cX4_readKnocker 47 = .ok (.getfield 80, 3) := by decide +kernel
theorem dX4_readKnocker_50 : decode cX4_readKnocker 50 = .ok (.iload_n 1, 1) := by decide +kernel
theorem dX4_readKnocker_51 : decode cX4_readKnocker 51 = .ok (.invokestatic 90, 3) := by decide +kernel
theorem dX4_readKnocker_54 : decode cX4_readKnocker 54 = .ok (.aload_n 0, 1) := by decide +kernel
theorem dX4_readKnocker_55 : decode cX4_readKnocker 55 = .ok (.getfield 21, 3) := by decide +kernel
theorem dX4_readKnocker_58 : decode cX4_readKnocker 58 = .ok (.getfield 94, 3) := by decide +kernel
theorem dX4_readKnocker_61 : decode cX4_readKnocker 61 = .ok (.getfield 98, 3) := by decide +kernel
theorem dX4_readKnocker_64 : decode cX4_readKnocker 64 = .ok (.aload_n 0, 1) := by decide +kernel
theorem dX4_readKnocker_65 : decode cX4_readKnocker 65 = .ok (.getfield 21, 3) := by decide +kernel
theorem dX4_readKnocker_68 : decode cX4_readKnocker 68 = .ok (.getfield 80, 3) := by decide +kernel
theorem dX4_readKnocker_71 : decode cX4_readKnocker 71 = .ok (.aload_n 0, 1) := by decide +kernel
theorem dX4_readKnocker_72 : decode cX4_readKnocker 72 = .ok (.invokevirtual 71, 3) := by decide +kernel
theorem dX4_readKnocker_75 : decode cX4_readKnocker 75 = .ok (.invokestatic 90, 3) := by decide +kernel
theorem dX4_readKnocker_78 : decode cX4_readKnocker 78 = .ok (.aload_n 0, 1) := by decide +kernel
theorem dX4_readKnocker_79 : decode cX4_readKnocker 79 = .ok (.getfield 21, 3) := by decide +kernel
theorem dX4_readKnocker_82 : decode cX4_readKnocker 82 = .ok (.dup, 1) := by decide +kernel
theorem dX4_readKnocker_83 : decode cX4_readKnocker 83 = .ok (.getfield 80, 3) := by decide +kernel
theorem dX4_readKnocker_86 : decode cX4_readKnocker 86 = .ok (.iconst 1, 1) := by decide +kernel
theorem dX4_readKnocker_87 : decode cX4_readKnocker 87 = .ok (.iadd, 1) := by decide +kernel
theorem dX4_readKnocker_88 : decode cX4_readKnocker 88 = .ok (.putfield 80, 3) := by decide +kernel
theorem dX4_readKnocker_91 : decode cX4_readKnocker 91 = .ok (.aload_n 0, 1) := by decide +kernel
theorem dX4_readKnocker_92 : decode cX4_readKnocker 92 = .ok (.invokevirtual 77, 3) := by decide +kernel
theorem dX4_readKnocker_95 : decode cX4_readKnocker 95 = .ok (.ireturn, 1) := by decide +kernel
theorem dX4_readErrand_0 : decode cX4_readErrand 0 = .ok (.aload_n 0, 1) := by decide +kernel
theorem dX4_readErrand_1 : decode cX4_readErrand 1 = .ok (.getfield 21, 3) := by decide +kernel
theorem dX4_readErrand_4 : decode cX4_readErrand 4 = .ok (.getfield 103, 3) := by decide +kernel
theorem dX4_readErrand_7 : decode cX4_readErrand 7 = .ok (.bipush 6, 2) := by decide +kernel
theorem dX4_readErrand_9 : decode cX4_readErrand 9 = .ok (.if_icmp .lt 5, 3) := by decide +kernel
theorem dX4_readErrand_12 : decode cX4_readErrand 12 = .ok (.iconst 0, 1) := by decide +kernel
theorem dX4_readErrand_13 : decode cX4_readErrand 13 = .ok (.ireturn, 1) := by decide +kernel
theorem dX4_readErrand_14 : decode cX4_readErrand 14 = .ok (.aload_n 0, 1) := by decide +kernel
theorem dX4_readErrand_15 : decode cX4_readErrand 15 = .ok (.dup, 1) := by decide +kernel
theorem dX4_readErrand_16 : decode cX4_readErrand 16 = .ok (.getfield 36, 3) := by decide +kernel
theorem dX4_readErrand_19 : decode cX4_readErrand 19 = .ok (.iconst 1, 1) := by decide +kernel
theorem dX4_readErrand_20 : decode cX4_readErrand 20 = .ok (.iadd, 1) := by decide +kernel
theorem dX4_readErrand_21 : decode cX4_readErrand 21 = .ok (.putfield 36, 3) := by decide +kernel
theorem dX4_readErrand_24 : decode cX4_readErrand 24 = .ok (.aload_n 0, 1) := by decide +kernel
theorem dX4_readErrand_25 : decode cX4_readErrand 25 = .ok (.iconst 0, 1) := by decide +kernel
theorem dX4_readErrand_26 : decode cX4_readErrand 26 = .ok (.bipush 7, 2) := by decide +kernel
theorem dX4_readErrand_28 : decode cX4_readErrand 28 = .ok (.invokevirtual 83, 3) := by decide +kernel
theorem dX4_readErrand_31 : decode cX4_readErrand 31 = .ok (.istore_n 1, 1) := by decide +kernel
theorem dX4_readErrand_32 : decode cX4_readErrand 32 = .ok (.iload_n 1, 1) := by decide +kernel
theorem dX4_readErrand_33 : decode cX4_readErrand 33 = .ok (.ifCond .ge 5, 3) := by decide +kernel
theorem dX4_readErrand_36 : decode cX4_readErrand 36 = .ok (.iconst 0, 1) := by decide +kernel
theorem dX4_readErrand_37 : decode cX4_readErrand 37 = .ok (.ireturn, 1) := by decide +kernel
theorem dX4_readErrand_38 : decode cX4_readErrand 38 = .ok (.aload_n 0, 1) := by decide +kernel
theorem dX4_readErrand_39 : decode cX4_readErrand 39 = .ok (.iconst 1, 1) := by decide +kernel
theorem dX4_readErrand_40 : decode cX4_readErrand 40 = .ok (.bipush 9, 2) := by decide +kernel
theorem dX4_readErrand_42 : decode cX4_readErrand 42 = .ok (.invokevirtual 83, 3) := by decide +kernel
theorem dX4_readErrand_45 : decode cX4_readErrand 45 = .ok (.istore_n 2, 1) := by decide +kernel
theorem dX4_readErrand_46 : decode cX4_readErrand 46 = .ok (.iload_n 2, 1) := by decide +kernel
theorem dX4_readErrand_47 : decode cX4_readErrand 47 = .ok (.ifCond .ge 5, 3) := by decide +kernel
theorem dX4_readErrand_50 : decode cX4_readErrand 50 = .ok (.iconst 0, 1) := by decide +kernel
theorem dX4_readErrand_51 : decode cX4_readErrand 51 = .ok (.ireturn, 1) := by decide +kernel
theorem dX4_readErrand_52 : decode cX4_readErrand 52 = .ok (.aload_n 0, 1) := by decide +kernel
theorem dX4_readErrand_53 : decode cX4_readErrand 53 = .ok (.invokevirtual 106, 3) := by decide +kernel
theorem dX4_readErrand_56 : decode cX4_readErrand 56 = .ok (.istore_n 3, 1) := by decide +kernel
theorem dX4_readErrand_57 : decode cX4_readErrand 57 = .ok (.iload_n 3, 1) := by decide +kernel
theorem dX4_readErrand_58 : decode cX4_readErrand 58 = .ok (.ifCond .ge 5, 3) := by decide +kernel
theorem dX4_readErrand_61 : decode cX4_readErrand 61 = .ok (.iconst 0, 1) := by decide +kernel
theorem dX4_readErrand_62 : decode cX4_readErrand 62 = .ok (.ireturn, 1) := by decide +kernel
theorem dX4_readErrand_63 : decode cX4_readErrand 63 = .ok (.aload_n 0, 1) := by decide +kernel
theorem dX4_readErrand_64 : decode cX4_readErrand 64 = .ok (.getfield 21, 3) := by decide +kernel
theorem dX4_readErrand_67 : decode cX4_readErrand 67 = .ok (.getfield 109, 3) := by decide +kernel
theorem dX4_readErrand_70 : decode cX4_readErrand 70 = .ok (.aload_n 0, 1) := by decide +kernel
theorem dX4_readErrand_71 : decode cX4_readErrand 71 = .ok (.getfield 21, 3) := by decide +kernel
theorem dX4_readErrand_74 : decode cX4_readErrand 74 = .ok (.getfield 103, 3) := by decide +kernel
theorem dX4_readErrand_77 : decode cX4_readErrand 77 = .ok (.iload_n 1, 1) := by decide +kernel
theorem dX4_readErrand_78 : decode cX4_readErrand 78 = .ok (.invokestatic 90, 3) := by decide +kernel
theorem dX4_readErrand_81 : decode cX4_readErrand 81 = .ok (.aload_n 0, 1) := by decide +kernel
theorem dX4_readErrand_82 : decode cX4_readErrand 82 = .ok (.getfield 21, 3) := by decide +kernel
theorem dX4_readErrand_85 : decode cX4_readErrand 85 = .ok (.getfield 112, 3) := by decide +kernel
theorem dX4_readErrand_88 : decode cX4_readErrand 88 = .ok (.aload_n 0, 1) := by decide +kernel
theorem dX4_readErrand_89 : decode cX4_readErrand 89 = .ok (.getfield 21, 3) := by decide +kernel
theorem dX4_readErrand_92 : decode cX4_readErrand 92 = .ok (.getfield 103, 3) := by decide +kernel
theorem dX4_readErrand_95 : decode cX4_readErrand 95 = .ok (.iload_n 2, 1) := by decide +kernel
theorem dX4_readErrand_96 : decode cX4_readErrand 96 = .ok (.invokestatic 90, 3) := by decide +kernel
theorem dX4_readErrand_99 : decode cX4_readErrand 99 = .ok (.aload_n 0, 1) := by decide +kernel
theorem dX4_readErrand_100 : decode cX4_readErrand 100 = .ok (.getfield 21, 3) := by decide +kernel
theorem dX4_readErrand_103 : decode cX4_readErrand 103 = .ok (.getfield 115, 3) := by decide +kernel
theorem dX4_readErrand_106 : decode cX4_readErrand 106 = .ok (.aload_n 0, 1) := by decide +kernel
theorem dX4_readErrand_107 : decode cX4_readErrand 107 = .ok (.getfield 21, 3) := by decide +kernel
theorem dX4_readErrand_110 : decode cX4_readErrand 110 = .ok (.getfield 103, 3) := by decide +kernel
theorem dX4_readErrand_113 : decode cX4_readErrand 113 = .ok (.iload_n 3, 1) := by decide +kernel
theorem dX4_readErrand_114 : decode cX4_readErrand 114 = .ok (.invokestatic 90, 3) := by decide +kernel
theorem dX4_readErrand_117 : decode cX4_readErrand 117 = .ok (.aload_n 0, 1) := by decide +kernel
theorem dX4_readErrand_118 : decode cX4_readErrand 118 = .ok (.getfield 21, 3) := by decide +kernel
theorem dX4_readErrand_121 : decode cX4_readErrand 121 = .ok (.dup, 1) := by decide +kernel
theorem dX4_readErrand_122 : decode cX4_readErrand 122 = .ok (.getfield 103, 3) := by decide +kernel
theorem dX4_readErrand_125 : decode cX4_readErrand 125 = .ok (.iconst 1, 1) := by decide +kernel
theorem dX4_readErrand_126 : decode cX4_readErrand 126 = .ok (.iadd, 1) := by decide +kernel
theorem dX4_readErrand_127 : decode cX4_readErrand 127 = .ok (.putfield 103, 3) := by decide +kernel
theorem dX4_readErrand_130 : decode cX4_readErrand 130 = .ok (.aload_n 0, 1) := by decide +kernel
theorem dX4_readErrand_131 : decode cX4_readErrand 131 = .ok (.invokevirtual 77, 3) := by decide +kernel
theorem dX4_readErrand_134 : decode cX4_readErrand 134 = .ok (.ireturn, 1) := by decide +kernel
theorem dX4_readRule_0 : decode cX4_readRule 0 = .ok (.aload_n 0, 1) := by decide +kernel
theorem dX4_readRule_1 : decode cX4_readRule 1 = .ok (.getfield 21, 3) := by decide +kernel
theorem dX4_readRule_4 : decode cX4_readRule 4 = .ok (.getfield 118, 3) := by decide +kernel
theorem dX4_readRule_7 : decode cX4_readRule 7 = .ok (.iconst 4, 1) := by decide +kernel
theorem dX4_readRule_8 : decode cX4_readRule 8 = .ok (.if_icmp .lt 5, 3) := by decide +kernel
theorem dX4_readRule_11 : decode cX4_readRule 11 = .ok (.iconst 0, 1) := by decide +kernel
theorem dX4_readRule_12 : decode cX4_readRule 12 = .ok (.ireturn, 1) := by decide +kernel
theorem dX4_readRule_13 : decode cX4_readRule 13 = .ok (.aload_n 0, 1) := by decide +kernel
theorem dX4_readRule_14 : decode cX4_readRule 14 = .ok (.dup, 1) := by decide +kernel
theorem dX4_readRule_15 : decode cX4_readRule 15 = .ok (.getfield 36, 3) := by decide +kernel
theorem dX4_readRule_18 : decode cX4_readRule 18 = .ok (.iconst 1, 1) := by decide +kernel
theorem dX4_readRule_19 : decode cX4_readRule 19 = .ok (.iadd, 1) := by decide +kernel
theorem dX4_readRule_20 : decode cX4_readRule 20 = .ok (.putfield 36, 3) := by decide +kernel
theorem dX4_readRule_23 : decode cX4_readRule 23 = .ok (.aload_n 0, 1) := by decide +kernel
theorem dX4_readRule_24 : decode cX4_readRule 24 = .ok (.iconst 1, 1) := by decide +kernel
theorem dX4_readRule_25 : decode cX4_readRule 25 = .ok (.bipush 8, 2) := by decide +kernel
theorem dX4_readRule_27 : decode cX4_readRule 27 = .ok (.invokevirtual 83, 3) := by decide +kernel
theorem dX4_readRule_30 : decode cX4_readRule 30 = .ok (.istore_n 1, 1) := by decide +kernel
theorem dX4_readRule_31 : decode cX4_readRule 31 = .ok (.iload_n 1, 1) := by decide +kernel
theorem dX4_readRule_32 : decode cX4_readRule 32 = .ok (.ifCond .ge 5, 3) := by decide +kernel
theorem dX4_readRule_35 : decode cX4_readRule 35 = .ok (.iconst 0, 1) := by decide +kernel
theorem dX4_readRule_36 : decode cX4_readRule 36 = .ok (.ireturn, 1) := by decide +kernel
theorem dX4_readRule_37 : decode cX4_readRule 37 = .ok (.aload_n 0, 1) := by decide +kernel
theorem dX4_readRule_38 : decode cX4_readRule 38 = .ok (.invokevirtual 71, 3) := by decide +kernel
theorem dX4_readRule_41 : decode cX4_readRule 41 = .ok (.istore_n 2, 1) := by decide +kernel
theorem dX4_readRule_42 : decode cX4_readRule 42 = .ok (.iload_n 2, 1) := by decide +kernel
theorem dX4_readRule_43 : decode cX4_readRule 43 = .ok (.invokestatic 121, 3) := by decide +kernel
theorem dX4_readRule_46 : decode cX4_readRule 46 = .ok (.iload_n 1, 1) := by decide +kernel
theorem dX4_readRule_47 : decode cX4_readRule 47 = .ok (.if_icmp .ge 5, 3) := by decide +kernel
theorem dX4_readRule_50 : decode cX4_readRule 50 = .ok (.iconst 0, 1) := by decide +kernel
theorem dX4_readRule_51 : decode cX4_readRule 51 = .ok (.ireturn, 1) := by decide +kernel
theorem dX4_readRule_52 : decode cX4_readRule 52 = .ok (.aload_n 0, 1) := by decide +kernel
theorem dX4_readRule_53 : decode cX4_readRule 53 = .ok (.getfield 21, 3) := by decide +kernel
theorem dX4_readRule_56 : decode cX4_readRule 56 = .ok (.getfield 94, 3) := by decide +kernel
theorem dX4_readRule_59 : decode cX4_readRule 59 = .ok (.getfield 127, 3) := by decide +kernel
theorem dX4_readRule_62 : decode cX4_readRule 62 = .ok (.aload_n 0, 1) := by decide +kernel
theorem dX4_readRule_63 : decode cX4_readRule 63 = .ok (.getfield 21, 3) := by decide +kernel
theorem dX4_readRule_66 : decode cX4_readRule 66 = .ok (.getfield 118, 3) := by decide +kernel
theorem dX4_readRule_69 : decode cX4_readRule 69 = .ok (.iload_n 2, 1) := by decide +kernel
theorem dX4_readRule_70 : decode cX4_readRule 70 = .ok (.invokestatic 90, 3) := by decide +kernel
theorem dX4_readRule_73 : decode cX4_readRule 73 = .ok (.aload_n 0, 1) := by decide +kernel
theorem dX4_readRule_74 : decode cX4_readRule 74 = .ok (.getfield 21, 3) := by decide +kernel
theorem dX4_readRule_77 : decode cX4_readRule 77 = .ok (.getfield 94, 3) := by decide +kernel
theorem dX4_readRule_80 : decode cX4_readRule 80 = .ok (.getfield 130, 3) := by decide +kernel
theorem dX4_readRule_83 : decode cX4_readRule 83 = .ok (.aload_n 0, 1) := by decide +kernel
theorem dX4_readRule_84 : decode cX4_readRule 84 = .ok (.getfield 21, 3) := by decide +kernel
theorem dX4_readRule_87 : decode cX4_readRule 87 = .ok (.getfield 118, 3) := by decide +kernel
theorem dX4_readRule_90 : decode cX4_readRule 90 = .ok (.iload_n 1, 1) := by decide +kernel
theorem dX4_readRule_91 : decode cX4_readRule 91 = .ok (.invokestatic 90, 3) := by decide +kernel
theorem dX4_readRule_94 : decode cX4_readRule 94 = .ok (.aload_n 0, 1) := by decide +kernel
theorem dX4_readRule_95 : decode cX4_readRule 95 = .ok (.getfield 21, 3) := by decide +kernel
theorem dX4_readRule_98 : decode cX4_readRule 98 = .ok (.dup, 1) := by decide +kernel
theorem dX4_readRule_99 : decode cX4_readRule 99 = .ok (.getfield 118, 3) := by decide +kernel
theorem dX4_readRule_102 : decode cX4_readRule 102 = .ok (.iconst 1, 1) := by decide +kernel
theorem dX4_readRule_103 : decode cX4_readRule 103 = .ok (.iadd, 1) := by decide +kernel
theorem dX4_readRule_104 : decode cX4_readRule 104 = .ok (.putfield 118, 3) := by decide +kernel
theorem dX4_readRule_107 : decode cX4_readRule 107 = .ok (.aload_n 0, 1) := by decide +kernel
theorem dX4_readRule_108 : decode cX4_readRule 108 = .ok (.invokevirtual 77, 3) := by decide +kernel
theorem dX4_readRule_111 : decode cX4_readRule 111 = .ok (.ireturn, 1) := by decide +kernel
theorem dX4_readNeed_0 : decode cX4_readNeed 0 = .ok (.aload_n 0, 1) := by decide +kernel
theorem dX4_readNeed_1 : decode cX4_readNeed 1 = .ok (.iconst 0, 1) := by decide +kernel
theorem dX4_readNeed_2 : decode cX4_readNeed 2 = .ok (.bipush 7, 2) := by decide +kernel
theorem dX4_readNeed_4 : decode cX4_readNeed 4 = .ok (.invokevirtual 83, 3) := by decide +kernel
theorem dX4_readNeed_7 : decode cX4_readNeed 7 = .ok (.istore_n 1, 1) := by decide +kernel
theorem dX4_readNeed_8 : decode cX4_readNeed 8 = .ok (.iload_n 1, 1) := by decide +kernel
theorem dX4_readNeed_9 : decode cX4_readNeed 9 = .ok (.ifCond .ge 14, 3) := by decide +kernel
theorem dX4_readNeed_12 : decode cX4_readNeed 12 = .ok (.aload_n 0, 1) := by decide +kernel
theorem dX4_readNeed_13 : decode cX4_readNeed 13 = .ok (.bipush 9, 2) := by decide +kernel
theorem dX4_readNeed_15 : decode cX4_readNeed 15 = .ok (.bipush 9, 2) := by decide +kernel
theorem dX4_readNeed_17 : decode cX4_readNeed 17 = .ok (.invokevirtual 83, 3) := by decide +kernel
theorem dX4_readNeed_20 : decode cX4_readNeed 20 = .ok (.goto 4, 3) := by decide +kernel
theorem dX4_readNeed_23 : decode cX4_readNeed 23 = .ok (.iload_n 1, 1) := by decide +kernel
theorem dX4_readNeed_24 : decode cX4_readNeed 24 = .ok (.ireturn, 1) := by decide +kernel
theorem dX4_readSigns_0 : decode cX4_readSigns 0 = .ok (.iconst 0, 1) := by decide +kernel
theorem dX4_readSigns_1 : decode cX4_readSigns 1 = .ok (.istore_n 1, 1) := by decide +kernel
theorem dX4_readSigns_2 : decode cX4_readSigns 2 = .ok (.iconst 0, 1) := by decide +kernel
theorem dX4_readSigns_3 : decode cX4_readSigns 3 = .ok (.istore_n 2, 1) := by decide +kernel
theorem dX4_readSigns_4 : decode cX4_readSigns 4 = .ok (.iload_n 2, 1) := by decide +kernel
theorem dX4_readSigns_5 : decode cX4_readSigns 5 = .ok (.bipush 8, 2) := by decide +kernel
theorem dX4_readSigns_7 : decode cX4_readSigns 7 = .ok (.if_icmp .ge 58, 3) := by decide +kernel
theorem dX4_readSigns_10 : decode cX4_readSigns 10 = .ok (.aload_n 0, 1) := by decide +kernel
theorem dX4_readSigns_11 : decode cX4_readSigns 11 = .ok (.getfield 12, 3) := by decide +kernel
theorem dX4_readSigns_14 : decode cX4_readSigns 14 = .ok (.getfield 133, 3) := by decide +kernel
theorem dX4_readSigns_17 : decode cX4_readSigns 17 = .ok (.aload_n 0, 1) := by decide +kernel
theorem dX4_readSigns_18 : decode cX4_readSigns 18 = .ok (.getfield 36, 3) := by decide +kernel
theorem dX4_readSigns_21 : decode cX4_readSigns 21 = .ok (.invokestatic 52, 3) := by decide +kernel
theorem dX4_readSigns_24 : decode cX4_readSigns 24 = .ok (.istore_n 3, 1) := by decide +kernel
theorem dX4_readSigns_25 : decode cX4_readSigns 25 = .ok (.iload_n 3, 1) := by decide +kernel
theorem dX4_readSigns_26 : decode cX4_readSigns 26 = .ok (.invokestatic 136, 3) := by decide +kernel
theorem dX4_readSigns_29 : decode cX4_readSigns 29 = .ok (.ifCond .eq 36, 3) := by decide +kernel
theorem dX4_readSigns_32 : decode cX4_readSigns 32 = .ok (.iload_n 1, 1) := by decide +kernel
theorem dX4_readSigns_33 : decode cX4_readSigns 33 = .ok (.iload_n 3, 1) := by decide +kernel
theorem dX4_readSigns_34 : decode cX4_readSigns 34 = .ok (.invokestatic 140, 3) := by decide +kernel
theorem dX4_readSigns_37 : decode cX4_readSigns 37 = .ok (.ifCond .eq 6, 3) := by decide +kernel
theorem dX4_readSigns_40 : decode cX4_readSigns 40 = .ok (.goto 25, 3) := by decide +kernel
theorem dX4_readSigns_43 : decode cX4_readSigns 43 = .ok (.iload_n 1, 1) := by decide +kernel
theorem dX4_readSigns_44 : decode cX4_readSigns 44 = .ok (.iconst 1, 1) := by decide +kernel
theorem dX4_readSigns_45 : decode cX4_readSigns 45 = .ok (.iload_n 3, 1) := by decide +kernel
theorem dX4_readSigns_46 : decode cX4_readSigns 46 = .ok (.ishl, 1) := by decide +kernel
theorem dX4_readSigns_47 : decode cX4_readSigns 47 = .ok (.ior, 1) := by decide +kernel
theorem dX4_readSigns_48 : decode cX4_readSigns 48 = .ok (.istore_n 1, 1) := by decide +kernel
theorem dX4_readSigns_49 : decode cX4_readSigns 49 = .ok (.aload_n 0, 1) := by decide +kernel
theorem dX4_readSigns_50 : decode cX4_readSigns 50 = .ok (.dup, 1) := by decide +kernel
theorem dX4_readSigns_51 : decode cX4_readSigns 51 = .ok (.getfield 36, 3) := by decide +kernel
theorem dX4_readSigns_54 : decode cX4_readSigns 54 = .ok (.iconst 1, 1) := by decide +kernel
theorem dX4_readSigns_55 : decode cX4_readSigns 55 = .ok (.iadd, 1) := by decide +kernel
theorem dX4_readSigns_56 : decode cX4_readSigns 56 = .ok (.putfield 36, 3) := by decide +kernel
theorem dX4_readSigns_59 : decode cX4_readSigns 59 = .ok (.iinc 2 1, 3) := by decide +kernel
theorem dX4_readSigns_62 : decode cX4_readSigns 62 = .ok (.goto (-58), 3) := by decide +kernel
theorem dX4_readSigns_65 : decode cX4_readSigns 65 = .ok (.iload_n 1, 1) := by decide +kernel
theorem dX4_readSigns_66 : decode cX4_readSigns 66 = .ok (.ireturn, 1) := by decide +kernel
theorem dX4_readNumber_0 : decode cX4_readNumber 0 = .ok (.aload_n 0, 1) := by decide +kernel
theorem dX4_readNumber_1 : decode cX4_readNumber 1 = .ok (.getfield 12, 3) := by decide +kernel
theorem dX4_readNumber_4 : decode cX4_readNumber 4 = .ok (.getfield 133, 3) := by decide +kernel
theorem dX4_readNumber_7 : decode cX4_readNumber 7 = .ok (.aload_n 0, 1) := by decide +kernel
theorem dX4_readNumber_8 : decode cX4_readNumber 8 = .ok (.getfield 36, 3) := by decide +kernel
theorem dX4_readNumber_11 : decode cX4_readNumber 11 = .ok (.invokestatic 52, 3) := by decide +kernel
theorem dX4_readNumber_14 : decode cX4_readNumber 14 = .ok (.istore_n 3, 1) := by decide +kernel
theorem dX4_readNumber_15 : decode cX4_readNumber 15 = .ok (.iload_n 3, 1) := by decide +kernel
theorem dX4_readNumber_16 : decode cX4_readNumber 16 = .ok (.iload_n 1, 1) := by decide +kernel
theorem dX4_readNumber_17 : decode cX4_readNumber 17 = .ok (.if_icmp .lt 8, 3) := by decide +kernel
theorem dX4_readNumber_20 : decode cX4_readNumber 20 = .ok (.iload_n 3, 1) := by decide +kernel
theorem dX4_readNumber_21 : decode cX4_readNumber 21 = .ok (.iload_n 2, 1) := by decide +kernel
theorem dX4_readNumber_22 : decode cX4_readNumber 22 = .ok (.if_icmp .le 5, 3) := by decide +kernel
theorem dX4_readNumber_25 : decode cX4_readNumber 25 = .ok (.iconst (-1), 1) := by decide +kernel
theorem dX4_readNumber_26 : decode cX4_readNumber 26 = .ok (.ireturn, 1) := by decide +kernel
theorem dX4_readNumber_27 : decode cX4_readNumber 27 = .ok (.aload_n 0, 1) := by decide +kernel
theorem dX4_readNumber_28 : decode cX4_readNumber 28 = .ok (.dup, 1) := by decide +kernel
theorem dX4_readNumber_29 : decode cX4_readNumber 29 = .ok (.getfield 36, 3) := by decide +kernel
theorem dX4_readNumber_32 : decode cX4_readNumber 32 = .ok (.iconst 1, 1) := by decide +kernel
theorem dX4_readNumber_33 : decode cX4_readNumber 33 = .ok (.iadd, 1) := by decide +kernel
theorem dX4_readNumber_34 : decode cX4_readNumber 34 = .ok (.putfield 36, 3) := by decide +kernel
theorem dX4_readNumber_37 : decode cX4_readNumber 37 = .ok (.iload_n 3, 1) := by decide +kernel
theorem dX4_readNumber_38 : decode cX4_readNumber 38 = .ok (.ireturn, 1) := by decide +kernel
theorem dX4_readStop_0 : decode cX4_readStop 0 = .ok (.aload_n 0, 1) := by decide +kernel
theorem dX4_readStop_1 : decode cX4_readStop 1 = .ok (.invokevirtual 40, 3) := by decide +kernel
theorem dX4_readStop_4 : decode cX4_readStop 4 = .ok (.iconst 2, 1) := by decide +kernel
theorem dX4_readStop_5 : decode cX4_readStop 5 = .ok (.if_icmp .eq 5, 3) := by decide +kernel
theorem dX4_readStop_8 : decode cX4_readStop 8 = .ok (.iconst 0, 1) := by decide +kernel
theorem dX4_readStop_9 : decode cX4_readStop 9 = .ok (.ireturn, 1) := by decide +kernel
theorem dX4_readStop_10 : decode cX4_readStop 10 = .ok (.aload_n 0, 1) := by decide +kernel
theorem dX4_readStop_11 : decode cX4_readStop 11 = .ok (.dup, 1) := by decide +kernel
theorem dX4_readStop_12 : decode cX4_readStop 12 = .ok (.getfield 36, 3) := by decide +kernel
theorem dX4_readStop_15 : decode cX4_readStop 15 = .ok (.iconst 1, 1) := by decide +kernel
theorem dX4_readStop_16 : decode cX4_readStop 16 = .ok (.iadd, 1) := by decide +kernel
theorem dX4_readStop_17 : decode cX4_readStop 17 = .ok (.putfield 36, 3) := by decide +kernel
theorem dX4_readStop_20 : decode cX4_readStop 20 = .ok (.iconst 1, 1) := by decide +kernel
theorem dX4_readStop_21 : decode cX4_readStop 21 = .ok (.ireturn, 1) := by decide +kernel
theorem dX5_init_0 : decode cX5_init 0 = .ok (.aload_n 0, 1) := by decide +kernel
theorem dX5_init_1 : decode cX5_init 1 = .ok (.invokespecial 3, 3) := by decide +kernel
theorem dX5_init_4 : decode cX5_init 4 = .ok (.aload_n 0, 1) := by decide +kernel
theorem dX5_init_5 : decode cX5_init 5 = .ok (.sipush 300, 3) := by decide +kernel
theorem dX5_init_8 : decode cX5_init 8 = .ok (.newarray .byte, 2) := by decide +kernel
theorem dX5_init_10 : decode cX5_init 10 = .ok (.putfield 9, 3) := by decide +kernel
theorem dX5_init_13 : decode cX5_init 13 = .ok (.return_, 1) := by decide +kernel
theorem dX5_add_0 : decode cX5_add 0 = .ok (.aload_n 0, 1) := by decide +kernel
theorem dX5_add_1 : decode cX5_add 1 = .ok (.getfield 15, 3) := by decide +kernel
theorem dX5_add_4 : decode cX5_add 4 = .ok (.ifCond .lt 15, 3) := by decide +kernel
theorem dX5_add_7 : decode cX5_add 7 = .ok (.aload_n 0, 1) := by decide +kernel
theorem dX5_add_8 : decode cX5_add 8 = .ok (.getfield 15, 3) := by decide +kernel
theorem dX5_add_11 : decode cX5_add 11 = .ok (.aload_n 0, 1) := by decide +kernel
theorem dX5_add_12 : decode cX5_add 12 = .ok (.getfield 9, 3) := by decide +kernel
theorem dX5_add_15 : decode cX5_add 15 = .ok (.arraylength, 1) := by decide +kernel
theorem dX5_add_16 : decode cX5_add 16 = .ok (.if_icmp .lt 4, 3) := by decide +kernel
theorem dX5_add_19 : decode cX5_add 19 = .ok (.return_, 1) := by decide +kernel
theorem dX5_add_20 : decode cX5_add 20 = .ok (.aload_n 0, 1) := by decide +kernel
theorem dX5_add_21 : decode cX5_add 21 = .ok (.getfield 9, 3) := by decide +kernel
theorem dX5_add_24 : decode cX5_add 24 = .ok (.aload_n 0, 1) := by decide +kernel
theorem dX5_add_25 : decode cX5_add 25 = .ok (.getfield 15, 3) := by decide +kernel
theorem dX5_add_28 : decode cX5_add 28 = .ok (.iload_n 1, 1) := by decide +kernel
theorem dX5_add_29 : decode cX5_add 29 = .ok (.i2b, 1) := by decide +kernel
theorem dX5_add_30 : decode cX5_add 30 = .ok (.bastore, 1) := by decide +kernel
theorem dX5_add_31 : decode cX5_add 31 = .ok (.aload_n 0, 1) := by decide +kernel
theorem dX5_add_32 : decode cX5_add 32 = .ok (.dup, 1) := by decide +kernel
theorem dX5_add_33 : decode cX5_add 33 = .ok (.getfield 15, 3) := by decide +kernel
theorem dX5_add_36 : decode cX5_add 36 = .ok (.iconst 1, 1) := by decide +kernel
theorem dX5_add_37 : decode cX5_add 37 = .ok (.iadd, 1) := by decide +kernel
theorem dX5_add_38 : decode cX5_add 38 = .ok (.putfield 15, 3) := by decide +kernel
theorem dX5_add_41 : decode cX5_add 41 = .ok (.return_, 1) := by decide +kernel
theorem dX5_byteAt_0 : decode cX5_byteAt 0 = .ok (.iload_n 1, 1) := by decide +kernel
theorem dX5_byteAt_1 : decode cX5_byteAt 1 = .ok (.ifCond .lt 33, 3) := by decide +kernel
theorem dX5_byteAt_4 : decode cX5_byteAt 4 = .ok (.iload_n 1, 1) := by decide +kernel
theorem dX5_byteAt_5 : decode cX5_byteAt 5 = .ok (.aload_n 0, 1) := by decide +kernel
theorem dX5_byteAt_6 : decode cX5_byteAt 6 = .ok (.getfield 15, 3) := by decide +kernel
theorem dX5_byteAt_9 : decode cX5_byteAt 9 = .ok (.if_icmp .ge 25, 3) := by decide +kernel
theorem dX5_byteAt_12 : decode cX5_byteAt 12 = .ok (.iload_n 1, 1) := by decide +kernel
theorem dX5_byteAt_13 : decode cX5_byteAt 13 = .ok (.aload_n 0, 1) := by decide +kernel
theorem dX5_byteAt_14 : decode cX5_byteAt 14 = .ok (.getfield 9, 3) := by decide +kernel
theorem dX5_byteAt_17 : decode cX5_byteAt 17 = .ok (.arraylength, 1) := by decide +kernel
theorem dX5_byteAt_18 : decode cX5_byteAt 18 = .ok (.if_icmp .ge 16, 3) := by decide +kernel
theorem dX5_byteAt_21 : decode cX5_byteAt 21 = .ok (.aload_n 0, 1) := by decide +kernel
theorem dX5_byteAt_22 : decode cX5_byteAt 22 = .ok (.getfield 9, 3) := by decide +kernel
theorem dX5_byteAt_25 : decode cX5_byteAt 25 = .ok (.iload_n 1, 1) := by decide +kernel
theorem dX5_byteAt_26 : decode cX5_byteAt 26 = .ok (.baload, 1) := by decide +kernel
theorem dX5_byteAt_27 : decode cX5_byteAt 27 = .ok (.sipush 255, 3) := by decide +kernel
theorem dX5_byteAt_30 : decode cX5_byteAt 30 = .ok (.iand, 1) := by decide +kernel
theorem dX5_byteAt_31 : decode cX5_byteAt 31 = .ok (.goto 4, 3) := by decide +kernel
theorem dX5_byteAt_34 : decode cX5_byteAt 34 = .ok (.iconst (-1), 1) := by decide +kernel
theorem dX5_byteAt_35 : decode cX5_byteAt 35 = .ok (.ireturn, 1) := by decide +kernel
theorem dX6_init_0 : decode cX6_init 0 = .ok (.aload_n 0, 1) := by decide +kernel
theorem dX6_init_1 : decode cX6_init 1 = .ok (.invokespecial 3, 3) := by decide +kernel
theorem dX6_init_4 : decode cX6_init 4 = .ok (.aload_n 0, 1) := by decide +kernel
theorem dX6_init_5 : decode cX6_init 5 = .ok (.sipush 301, 3) := by decide +kernel
theorem dX6_init_8 : decode cX6_init 8 = .ok (.newarray .int, 2) := by decide +kernel
theorem dX6_init_10 : decode cX6_init 10 = .ok (.putfield 9, 3) := by decide +kernel
theorem dX6_init_13 : decode cX6_init 13 = .ok (.aload_n 0, 1) := by decide +kernel
theorem dX6_init_14 : decode cX6_init 14 = .ok (.sipush 301, 3) := by decide +kernel
theorem dX6_init_17 : decode cX6_init 17 = .ok (.newarray .int, 2) := by decide +kernel
theorem dX6_init_19 : decode cX6_init 19 = .ok (.putfield 15, 3) := by decide +kernel
theorem dX6_init_22 : decode cX6_init 22 = .ok (.aload_n 0, 1) := by decide +kernel
theorem dX6_init_23 : decode cX6_init 23 = .ok (.sipush 301, 3) := by decide +kernel
theorem dX6_init_26 : decode cX6_init 26 = .ok (.newarray .int, 2) := by decide +kernel
theorem dX6_init_28 : decode cX6_init 28 = .ok (.putfield 18, 3) := by decide +kernel
theorem dX6_init_31 : decode cX6_init 31 = .ok (.return_, 1) := by decide +kernel
theorem dX6_split_0 : decode cX6_split 0 = .ok (.iconst 0, 1) := by decide +kernel
theorem dX6_split_1 : decode cX6_split 1 = .ok (.istore_n 2, 1) := by decide +kernel
theorem dX6_split_2 : decode cX6_split 2 = .ok (.iconst 0, 1) := by decide +kernel
theorem dX6_split_3 : decode cX6_split 3 = .ok (.istore_n 3, 1) := by decide +kernel
theorem dX6_split_4 : decode cX6_split 4 = .ok (.iload_n 3, 1) := by decide +kernel
theorem dX6_split_5 : decode cX6_split 5 = .ok (.sipush 300, 3) := by decide +kernel
theorem dX6_split_8 : decode cX6_split 8 = .ok (.if_icmp .gt 95, 3) := by decide +kernel
theorem dX6_split_11 : decode cX6_split 11 = .ok (.aload_n 1, 1) := by decide +kernel
theorem dX6_split_12 : decode cX6_split 12 = .ok (.iload_n 2, 1) := by decide +kernel
theorem dX6_split_13 : decode cX6_split 13 = .ok (.invokestatic 21, 3) := by decide +kernel
theorem dX6_split_16 : decode cX6_split 16 = .ok (.istore 4, 2) := by decide +kernel
theorem dX6_split_18 : decode cX6_split 18 = .ok (.aload_n 1, 1) := by decide +kernel
theorem dX6_split_19 : decode cX6_split 19 = .ok (.iload 4, 2) := by decide +kernel
theorem dX6_split_21 : decode cX6_split 21 = .ok (.invokestatic 25, 3) := by decide +kernel
theorem dX6_split_24 : decode cX6_split 24 = .ok (.istore 5, 2) := by decide +kernel
theorem dX6_split_26 : decode cX6_split 26 = .ok (.aload_n 1, 1) := by decide +kernel
theorem dX6_split_27 : decode cX6_split 27 = .ok (.iload 4, 2) := by decide +kernel
theorem dX6_split_29 : decode cX6_split 29 = .ok (.iload 5, 2) := by decide +kernel
theorem dX6_split_31 : decode cX6_split 31 = .ok (.invokestatic 28, 3) := by decide +kernel
theorem dX6_split_34 : decode cX6_split 34 = .ok (.istore 6, 2) := by decide +kernel
theorem dX6_split_36 : decode cX6_split 36 = .ok (.aload_n 0, 1) := by decide +kernel
theorem dX6_split_37 : decode cX6_split 37 = .ok (.getfield 15, 3) := by decide +kernel
theorem dX6_split_40 : decode cX6_split 40 = .ok (.iload_n 3, 1) := by decide +kernel
theorem dX6_split_41 : decode cX6_split 41 = .ok (.iload 4, 2) := by decide +kernel
theorem dX6_split_43 : decode cX6_split 43 = .ok (.invokestatic 32, 3) := by decide +kernel
theorem dX6_split_46 : decode cX6_split 46 = .ok (.aload_n 0, 1) := by decide +kernel
theorem dX6_split_47 : decode cX6_split 47 = .ok (.getfield 9, 3) := by decide +kernel
theorem dX6_split_50 : decode cX6_split 50 = .ok (.iload_n 3, 1) := by decide +kernel
theorem dX6_split_51 : decode cX6_split 51 = .ok (.iload 6, 2) := by decide +kernel
theorem dX6_split_53 : decode cX6_split 53 = .ok (.invokestatic 32, 3) := by decide +kernel
theorem dX6_split_56 : decode cX6_split 56 = .ok (.aload_n 0, 1) := by decide +kernel
theorem dX6_split_57 : decode cX6_split 57 = .ok (.getfield 18, 3) := by decide +kernel
theorem dX6_split_60 : decode cX6_split 60 = .ok (.iload_n 3, 1) := by decide +kernel
theorem dX6_split_61 : decode cX6_split 61 = .ok (.iload 6, 2) := by decide +kernel
theorem dX6_split_63 : decode cX6_split 63 = .ok (.iconst 3, 1) := by decide +kernel
theorem dX6_split_64 : decode cX6_split 64 = .ok (.if_icmp .ne 14, 3) := by decide +kernel
theorem dX6_split_67 : decode cX6_split 67 = .ok (.aload_n 1, 1) := by decide +kernel
theorem dX6_split_68 : decode cX6_split 68 = .ok (.iload 4, 2) := by decide +kernel
theorem dX6_split_70 : decode cX6_split 70 = .ok (.iload 5, 2) := by decide +kernel
theorem dX6_split_72 : decode cX6_split 72 = .ok (.invokestatic 36, 3) := by decide +kernel
theorem dX6_split_75 : decode cX6_split 75 = .ok (.goto 4, 3) := by decide +kernel
theorem dX6_split_78 : decode cX6_split 78 = .ok (.iconst (-1), 1) := by decide +kernel
theorem dX6_split_79 : decode cX6_split 79 = .ok (.invokestatic 32, 3) := by decide +kernel
theorem dX6_split_82 : decode cX6_split 82 = .ok (.iload 6, 2) := by decide +kernel
theorem dX6_split_84 : decode cX6_split 84 = .ok (.ifCond .eq 9, 3) := by decide +kernel
theorem dX6_split_87 : decode cX6_split 87 = .ok (.iload 6, 2) := by decide +kernel
theorem dX6_split_89 : decode cX6_split 89 = .ok (.iconst 1, 1) := by decide +kernel
theorem dX6_split_90 : decode cX6_split 90 = .ok (.if_icmp .ne 4, 3) := by decide +kernel
theorem dX6_split_93 : decode cX6_split 93 = .ok (.return_, 1) := by decide +kernel
theorem dX6_split_94 : decode cX6_split 94 = .ok (.iload 5, 2) := by decide +kernel
theorem dX6_split_96 : decode cX6_split 96 = .ok (.istore_n 2, 1) := by decide +kernel
theorem dX6_split_97 : decode cX6_split 97 = .ok (.iinc 3 1, 3) := by decide +kernel
theorem dX6_split_100 : decode cX6_split 100 = .ok (.goto (-96), 3) := by decide +kernel
theorem dX6_split_103 : decode cX6_split 103 = .ok (.return_, 1) := by decide +kernel
theorem dX6_passBlanks_0 : decode cX6_passBlanks 0 = .ok (.iload_n 1, 1) := by decide +kernel
theorem dX6_passBlanks_1 : decode cX6_passBlanks 1 = .ok (.istore_n 2, 1) := by decide +kernel
theorem dX6_passBlanks_2 : decode cX6_passBlanks 2 = .ok (.iload_n 2, 1) := by decide +kernel
theorem dX6_passBlanks_3 : decode cX6_passBlanks 3 = .ok (.sipush 300, 3) := by decide +kernel
theorem dX6_passBlanks_6 : decode cX6_passBlanks 6 = .ok (.if_icmp .ge 19, 3) := by decide +kernel
theorem dX6_passBlanks_9 : decode cX6_passBlanks 9 = .ok (.aload_n 0, 1) := by decide +kernel
theorem dX6_passBlanks_10 : decode cX6_passBlanks 10 = .ok (.iload_n 2, 1) := by decide +kernel
theorem dX6_passBlanks_11 : decode cX6_passBlanks 11 = .ok (.invokevirtual 39, 3) := by decide +kernel
theorem dX6_passBlanks_14 : decode cX6_passBlanks 14 = .ok (.bipush 32, 2) := by decide +kernel
theorem dX6_passBlanks_16 : decode cX6_passBlanks 16 = .ok (.if_icmp .ne 9, 3) := by decide +kernel
theorem dX6_passBlanks_19 : decode cX6_passBlanks 19 = .ok (.iinc 2 1, 3) := by decide +kernel
theorem dX6_passBlanks_22 : decode cX6_passBlanks 22 = .ok (.goto (-20), 3) := by decide +kernel
theorem dX6_passBlanks_25 : decode cX6_passBlanks 25 = .ok (.iload_n 2, 1) := by decide +kernel
theorem dX6_passBlanks_26 : decode cX6_passBlanks 26 = .ok (.ireturn, 1) := by decide +kernel
theorem dX6_endOf_0 : decode cX6_endOf 0 = .ok (.iload_n 1, 1) := by decide +kernel
theorem dX6_endOf_1 : decode cX6_endOf 1 = .ok (.iconst 1, 1) := by decide +kernel
theorem dX6_endOf_2 : decode cX6_endOf 2 = .ok (.iadd, 1) := by decide +kernel
theorem dX6_endOf_3 : decode cX6_endOf 3 = .ok (.istore_n 2, 1) := by decide +kernel
theorem dX6_endOf_4 : decode cX6_endOf 4 = .ok (.aload_n 0, 1) := by decide +kernel
theorem dX6_endOf_5 : decode cX6_endOf 5 = .ok (.iload_n 1, 1) := by decide +kernel
theorem dX6_endOf_6 : decode cX6_endOf 6 = .ok (.invokevirtual 39, 3) := by decide +kernel
theorem dX6_endOf_9 : decode cX6_endOf 9 = .ok (.invokestatic 45, 3) := by decide +kernel
theorem dX6_endOf_12 : decode cX6_endOf 12 = .ok (.ifCond .eq 27, 3) := by decide +kernel
theorem dX6_endOf_15 : decode cX6_endOf 15 = .ok (.iload_n 2, 1) := by decide +kernel
theorem dX6_endOf_16 : decode cX6_endOf 16 = .ok (.sipush 300, 3) := by decide +kernel
theorem dX6_endOf_19 : decode cX6_endOf 19 = .ok (.if_icmp .ge 55, 3) := by decide +kernel
theorem dX6_endOf_22 : decode cX6_endOf 22 = .ok (.aload_n 0, 1) := by decide +kernel
theorem dX6_endOf_23 : decode cX6_endOf 23 = .ok (.iload_n 2, 1) := by decide +kernel
theorem dX6_endOf_24 : decode cX6_endOf 24 = .ok (.invokevirtual 39, 3) := by decide +kernel
theorem dX6_endOf_27 : decode cX6_endOf 27 = .ok (.invokestatic 45, 3) := by decide +kernel
theorem dX6_endOf_30 : decode cX6_endOf 30 = .ok (.ifCond .eq 44, 3) := by decide +kernel
theorem dX6_endOf_33 : decode cX6_endOf 33 = .ok (.iinc 2 1, 3) := by decide +kernel
theorem dX6_endOf_36 : decode cX6_endOf 36 = .ok (.goto (-21), 3) := by decide +kernel
theorem dX6_endOf_39 : decode cX6_endOf 39 = .ok (.aload_n 0, 1) := by decide +kernel
theorem dX6_endOf_40 : decode cX6_endOf 40 = .ok (.iload_n 1, 1) := by decide +kernel
theorem dX6_endOf_41 : decode cX6_endOf 41 = .ok (.invokevirtual 39, 3) := by decide +kernel
theorem dX6_endOf_44 : decode cX6_endOf 44 = .ok (.invokestatic 49, 3) := by decide +kernel
theorem dX6_endOf_47 : decode cX6_endOf 47 = .ok (.ifCond .eq 27, 3) := by decide +kernel
theorem dX6_endOf_50 : decode cX6_endOf 50 = .ok (.iload_n 2, 1) := by decide +kernel
theorem dX6_endOf_51 : decode cX6_endOf 51 = .ok (.sipush 300, 3) := by decide +kernel
theorem dX6_endOf_54 : decode cX6_endOf 54 = .ok (.if_icmp .ge 20, 3) := by decide +kernel
theorem dX6_endOf_57 : decode cX6_endOf 57 = .ok (.aload_n 0, 1) := by decide +kernel
theorem dX6_endOf_58 : decode cX6_endOf 58 = .ok (.iload_n 2, 1) := by decide +kernel
theorem dX6_endOf_59 : decode cX6_endOf 59 = .ok (.invokevirtual 39, 3) := by decide +kernel
theorem dX6_endOf_62 : decode cX6_endOf 62 = .ok (.invokestatic 49, 3) := by decide +kernel
theorem dX6_endOf_65 : decode cX6_endOf 65 = .ok (.ifCond .eq 9, 3) := by decide +kernel
theorem dX6_endOf_68 : decode cX6_endOf 68 = .ok (.iinc 2 1, 3) := by decide +kernel
theorem dX6_endOf_71 : decode cX6_endOf 71 = .ok (.goto (-21), 3) := by decide +kernel
theorem dX6_endOf_74 : decode cX6_endOf 74 = .ok (.iload_n 2, 1) := by decide +kernel
theorem dX6_endOf_75 : decode cX6_endOf 75 = .ok (.ireturn, 1) := by decide +kernel
theorem dX6_kindOf_0 : decode cX6_kindOf 0 = .ok (.aload_n 0, 1) := by decide +kernel
theorem dX6_kindOf_1 : decode cX6_kindOf 1 = .ok (.iload_n 1, 1) := by decide +kernel
theorem dX6_kindOf_2 : decode cX6_kindOf 2 = .ok (.invokevirtual 39, 3) := by decide +kernel
theorem dX6_kindOf_5 : decode cX6_kindOf 5 = .ok (.istore_n 3, 1) := by decide +kernel
theorem dX6_kindOf_6 : decode cX6_kindOf 6 = .ok (.iload_n 3, 1) := by decide +kernel
theorem dX6_kindOf_7 : decode cX6_kindOf 7 = .ok (.ifCond .ge 5, 3) := by decide +kernel
theorem dX6_kindOf_10 : decode cX6_kindOf 10 = .ok (.iconst 0, 1) := by decide +kernel
theorem dX6_kindOf_11 : decode cX6_kindOf 11 = .ok (.ireturn, 1) := by decide +kernel
theorem dX6_kindOf_12 : decode cX6_kindOf 12 = .ok (.iload_n 3, 1) := by decide +kernel
theorem dX6_kindOf_13 : decode cX6_kindOf 13 = .ok (.bipush 59, 2) := by decide +kernel
theorem dX6_kindOf_15 : decode cX6_kindOf 15 = .ok (.if_icmp .ne 5, 3) := by decide +kernel
theorem dX6_kindOf_18 : decode cX6_kindOf 18 = .ok (.iconst 2, 1) := by decide +kernel
theorem dX6_kindOf_19 : decode cX6_kindOf 19 = .ok (.ireturn, 1) := by decide +kernel
theorem dX6_kindOf_20 : decode cX6_kindOf 20 = .ok (.iload_n 3, 1) := by decide +kernel
theorem dX6_kindOf_21 : decode cX6_kindOf 21 = .ok (.invokestatic 49, 3) := by decide +kernel
theorem dX6_kindOf_24 : decode cX6_kindOf 24 = .ok (.ifCond .eq 18, 3) := by decide +kernel
theorem dX6_kindOf_27 : decode cX6_kindOf 27 = .ok (.aload_n 0, 1) := by decide +kernel
theorem dX6_kindOf_28 : decode cX6_kindOf 28 = .ok (.iload_n 1, 1) := by decide +kernel
theorem dX6_kindOf_29 : decode cX6_kindOf 29 = .ok (.iload_n 2, 1) := by decide +kernel
theorem dX6_kindOf_30 : decode cX6_kindOf 30 = .ok (.invokestatic 36, 3) := by decide +kernel
theorem dX6_kindOf_33 : decode cX6_kindOf 33 = .ok (.ifCond .ge 7, 3) := by decide +kernel
theorem dX6_kindOf_36 : decode cX6_kindOf 36 = .ok (.iconst 1, 1) := by decide +kernel
theorem dX6_kindOf_37 : decode cX6_kindOf 37 = .ok (.goto 4, 3) := by decide +kernel
theorem dX6_kindOf_40 : decode cX6_kindOf 40 = .ok (.iconst 3, 1) := by decide +kernel
theorem dX6_kindOf_41 : decode cX6_kindOf 41 = .ok (.ireturn, 1) := by decide +kernel
theorem dX6_kindOf_42 : decode cX6_kindOf 42 = .ok (.aload_n 0, 1) := by decide +kernel
theorem dX6_kindOf_43 : decode cX6_kindOf 43 = .ok (.iload_n 1, 1) := by decide +kernel
theorem dX6_kindOf_44 : decode cX6_kindOf 44 = .ok (.iload_n 2, 1) := by decide +kernel
theorem dX6_kindOf_45 : decode cX6_kindOf 45 = .ok (.ldc 52, 2) := by decide +kernel
theorem dX6_kindOf_47 : decode cX6_kindOf 47 = .ok (.invokestatic 54, 3) := by decide +kernel
theorem dX6_kindOf_50 : decode cX6_kindOf 50 = .ok (.ifCond .eq 5, 3) := by decide +kernel
theorem dX6_kindOf_53 : decode cX6_kindOf 53 = .ok (.iconst 4, 1) := by decide +kernel
theorem dX6_kindOf_54 : decode cX6_kindOf 54 = .ok (.ireturn, 1) := by decide +kernel
theorem dX6_kindOf_55 : decode cX6_kindOf 55 = .ok (.aload_n 0, 1) := by decide +kernel
theorem dX6_kindOf_56 : decode cX6_kindOf 56 = .ok (.iload_n 1, 1) := by decide +kernel
theorem dX6_kindOf_57 : decode cX6_kindOf 57 = .ok (.iload_n 2, 1) := by decide +kernel
theorem dX6_kindOf_58 : decode cX6_kindOf 58 = .ok (.ldc 58, 2) := by decide +kernel
theorem dX6_kindOf_60 : decode cX6_kindOf 60 = .ok (.invokestatic 54, 3) := by decide +kernel
theorem dX6_kindOf_63 : decode cX6_kindOf 63 = .ok (.ifCond .eq 5, 3) := by decide +kernel
theorem dX6_kindOf_66 : decode cX6_kindOf 66 = .ok (.iconst 5, 1) := by decide +kernel
theorem dX6_kindOf_67 : decode cX6_kindOf 67 = .ok (.ireturn, 1) := by decide +kernel
theorem dX6_kindOf_68 : decode cX6_kindOf 68 = .ok (.aload_n 0, 1) := by decide +kernel
theorem dX6_kindOf_69 : decode cX6_kindOf 69 = .ok (.iload_n 1, 1) := by decide +kernel
theorem dX6_kindOf_70 : decode cX6_kindOf 70 = .ok (.iload_n 2, 1) := by decide +kernel
theorem dX6_kindOf_71 : decode cX6_kindOf 71 = .ok (.ldc 60, 2) := by decide +kernel
theorem dX6_kindOf_73 : decode cX6_kindOf 73 = .ok (.invokestatic 54, 3) := by decide +kernel
theorem dX6_kindOf_76 : decode cX6_kindOf 76 = .ok (.ifCond .eq 6, 3) := by decide +kernel
theorem dX6_kindOf_79 : decode cX6_kindOf 79 = .ok (.bipush 6, 2) := by decide +kernel
theorem dX6_kindOf_81 : decode cX6_kindOf 81 = .ok (.ireturn, 1) := by decide +kernel
theorem dX6_kindOf_82 : decode cX6_kindOf 82 = .ok (.aload_n 0, 1) := by decide +kernel
theorem dX6_kindOf_83 : decode cX6_kindOf 83 = .ok (.iload_n 1, 1) := by decide +kernel
theorem dX6_kindOf_84 : decode cX6_kindOf 84 = .ok (.iload_n 2, 1) := by decide +kernel
theorem dX6_kindOf_85 : decode cX6_kindOf 85 = .ok (.ldc 62, 2) := by decide +kernel
theorem dX6_kindOf_87 : decode cX6_kindOf 87 = .ok (.invokestatic 54, 3) := by decide +kernel
theorem dX6_kindOf_90 : decode cX6_kindOf 90 = .ok (.ifCond .eq 8, 3) := by decide +kernel
theorem dX6_kindOf_93 : decode cX6_kindOf 93 = .ok (.bipush 7, 2) := by decide +kernel
theorem dX6_kindOf_95 : decode cX6_kindOf 95 = .ok (.goto 4, 3) := by decide +kernel
theorem dX6_kindOf_98 : decode cX6_kindOf 98 = .ok (.iconst 1, 1) := by decide +kernel
theorem dX6_kindOf_99 : decode cX6_kindOf 99 = .ok (.ireturn, 1) := by decide +kernel
theorem dX6_numberOf_0 : decode cX6_numberOf 0 = .ok (.aload_n 0, 1) := by decide +kernel
theorem dX6_numberOf_1 : decode cX6_numberOf 1 = .ok (.iload_n 1, 1) := by decide +kernel
theorem dX6_numberOf_2 : decode cX6_numberOf 2 = .ok (.invokevirtual 39, 3) := by decide +kernel
theorem dX6_numberOf_5 : decode cX6_numberOf 5 = .ok (.bipush 48, 2) := by decide +kernel
theorem dX6_numberOf_7 : decode cX6_numberOf 7 = .ok (.isub, 1) := by decide +kernel
theorem dX6_numberOf_8 : decode cX6_numberOf 8 = .ok (.istore_n 3, 1) := by decide +kernel
theorem dX6_numberOf_9 : decode cX6_numberOf 9 = .ok (.iload_n 2, 1) := by decide +kernel
theorem dX6_numberOf_10 : decode cX6_numberOf 10 = .ok (.iload_n 1, 1) := by decide +kernel
theorem dX6_numberOf_11 : decode cX6_numberOf 11 = .ok (.isub, 1) := by decide +kernel
theorem dX6_numberOf_12 : decode cX6_numberOf 12 = .ok (.iconst 1, 1) := by decide +kernel
theorem dX6_numberOf_13 : decode cX6_numberOf 13 = .ok (.if_icmp .ne 5, 3) := by decide +kernel
theorem dX6_numberOf_16 : decode cX6_numberOf 16 = .ok (.iload_n 3, 1) := by decide +kernel
theorem dX6_numberOf_17 : decode cX6_numberOf 17 = .ok (.ireturn, 1) := by decide +kernel
theorem dX6_numberOf_18 : decode cX6_numberOf 18 = .ok (.iload_n 2, 1) := by decide +kernel
theorem dX6_numberOf_19 : decode cX6_numberOf 19 = .ok (.iload_n 1, 1) := by decide +kernel
theorem dX6_numberOf_20 : decode cX6_numberOf 20 = .ok (.isub, 1) := by decide +kernel
theorem dX6_numberOf_21 : decode cX6_numberOf 21 = .ok (.iconst 2, 1) := by decide +kernel
theorem dX6_numberOf_22 : decode cX6_numberOf 22 = .ok (.if_icmp .ne 25, 3) := by decide +kernel
theorem dX6_numberOf_25 : decode cX6_numberOf 25 = .ok (.iload_n 3, 1) := by decide +kernel
theorem dX6_numberOf_26 : decode cX6_numberOf 26 = .ok (.ifCond .le 21, 3) := by decide +kernel
theorem dX6_numberOf_29 : decode cX6_numberOf 29 = .ok (.bipush 10, 2) := by decide +kernel
theorem dX6_numberOf_31 : decode cX6_numberOf 31 = .ok (.iload_n 3, 1) := by decide +kernel
theorem dX6_numberOf_32 : decode cX6_numberOf 32 = .ok (.imul, 1) := by decide +kernel
theorem dX6_numberOf_33 : decode cX6_numberOf 33 = .ok (.aload_n 0, 1) := by decide +kernel
theorem dX6_numberOf_34 : decode cX6_numberOf 34 = .ok (.iload_n 1, 1) := by decide +kernel
theorem dX6_numberOf_35 : decode cX6_numberOf 35 = .ok (.iconst 1, 1) := by decide +kernel
theorem dX6_numberOf_36 : decode cX6_numberOf 36 = .ok (.iadd, 1) := by decide +kernel
theorem dX6_numberOf_37 : decode cX6_numberOf 37 = .ok (.invokevirtual 39, 3) := by decide +kernel
theorem dX6_numberOf_40 : decode cX6_numberOf 40 = .ok (.iadd, 1) := by decide +kernel
theorem dX6_numberOf_41 : decode cX6_numberOf 41 = .ok (.bipush 48, 2) := by decide +kernel
theorem dX6_numberOf_43 : decode cX6_numberOf 43 = .ok (.isub, 1) := by decide +kernel
theorem dX6_numberOf_44 : decode cX6_numberOf 44 = .ok (.goto 4, 3) := by decide +kernel
theorem dX6_numberOf_47 : decode cX6_numberOf 47 = .ok (.iconst (-1), 1) := by decide +kernel
theorem dX6_numberOf_48 : decode cX6_numberOf 48 = .ok (.ireturn, 1) := by decide +kernel
theorem dX6_isWord_0 : decode cX6_isWord 0 = .ok (.iload_n 2, 1) := by decide +kernel
theorem dX6_isWord_1 : decode cX6_isWord 1 = .ok (.iload_n 1, 1) := by decide +kernel
theorem dX6_isWord_2 : decode cX6_isWord 2 = .ok (.isub, 1) := by decide +kernel
theorem dX6_isWord_3 : decode cX6_isWord 3 = .ok (.aload_n 3, 1) := by decide +kernel
theorem dX6_isWord_4 : decode cX6_isWord 4 = .ok (.invokevirtual 64, 3) := by decide +kernel
theorem dX6_isWord_7 : decode cX6_isWord 7 = .ok (.if_icmp .eq 5, 3) := by decide +kernel
theorem dX6_isWord_10 : decode cX6_isWord 10 = .ok (.iconst 0, 1) := by decide +kernel
theorem dX6_isWord_11 : decode cX6_isWord 11 = .ok (.ireturn, 1) := by decide +kernel
theorem dX6_isWord_12 : decode cX6_isWord 12 = .ok (.iconst 0, 1) := by decide +kernel
end
section
theorem dX6_isWord_13 : decode cX6_isWord 13 = .ok (.istore 4, 2) := by decide +kernel
theorem dX6_isWord_15 : decode cX6_isWord 15 = .ok (.iload 4, 2) := by decide +kernel
theorem dX6_isWord_17 : decode cX6_isWord 17 = .ok (.aload_n 3, 1) := by decide +kernel
theorem dX6_isWord_18 : decode cX6_isWord 18 = .ok (.invokevirtual 64, 3) := by decide +kernel
theorem dX6_isWord_21 : decode cX6_isWord 21 = .ok (.if_icmp .ge 28, 3) := by decide +kernel
theorem dX6_isWord_24 : decode cX6_isWord 24 = .ok (.aload_n 0, 1) := by decide +kernel
theorem dX6_isWord_25 : decode cX6_isWord 25 = .ok (.iload_n 1, 1) := by decide +kernel
theorem dX6_isWord_26 : decode cX6_isWord 26 = .ok (.iload 4, 2) := by decide +kernel
theorem dX6_isWord_28 : decode cX6_isWord 28 = .ok (.iadd, 1) := by decide +kernel
theorem dX6_isWord_29 : decode cX6_isWord 29 = .ok (.invokevirtual 39, 3) := by decide +kernel
theorem dX6_isWord_32 : decode cX6_isWord 32 = .ok (.aload_n 3, 1) := by decide +kernel
theorem dX6_isWord_33 : decode cX6_isWord 33 = .ok (.iload 4, 2) := by decide +kernel
theorem dX6_isWord_35 : decode cX6_isWord 35 = .ok (.invokevirtual 70, 3) := by decide +kernel
theorem dX6_isWord_38 : decode cX6_isWord 38 = .ok (.if_icmp .eq 5, 3) := by decide +kernel
theorem dX6_isWord_41 : decode cX6_isWord 41 = .ok (.iconst 0, 1) := by decide +kernel
theorem dX6_isWord_42 : decode cX6_isWord 42 = .ok (.ireturn, 1) := by decide +kernel
theorem dX6_isWord_43 : decode cX6_isWord 43 = .ok (.iinc 4 1, 3) := by decide +kernel
theorem dX6_isWord_46 : decode cX6_isWord 46 = .ok (.goto (-31), 3) := by decide +kernel
theorem dX6_isWord_49 : decode cX6_isWord 49 = .ok (.iconst 1, 1) := by decide +kernel
theorem dX6_isWord_50 : decode cX6_isWord 50 = .ok (.ireturn, 1) := by decide +kernel
theorem dX6_isLetter_0 : decode cX6_isLetter 0 = .ok (.iload_n 0, 1) := by decide +kernel
theorem dX6_isLetter_1 : decode cX6_isLetter 1 = .ok (.bipush 97, 2) := by decide +kernel
theorem dX6_isLetter_3 : decode cX6_isLetter 3 = .ok (.if_icmp .lt 13, 3) := by decide +kernel
theorem dX6_isLetter_6 : decode cX6_isLetter 6 = .ok (.iload_n 0, 1) := by decide +kernel
theorem dX6_isLetter_7 : decode cX6_isLetter 7 = .ok (.bipush 122, 2) := by decide +kernel
theorem dX6_isLetter_9 : decode cX6_isLetter 9 = .ok (.if_icmp .gt 7, 3) := by decide +kernel
theorem dX6_isLetter_12 : decode cX6_isLetter 12 = .ok (.iconst 1, 1) := by decide +kernel
theorem dX6_isLetter_13 : decode cX6_isLetter 13 = .ok (.goto 4, 3) := by decide +kernel
theorem dX6_isLetter_16 : decode cX6_isLetter 16 = .ok (.iconst 0, 1) := by decide +kernel
theorem dX6_isLetter_17 : decode cX6_isLetter 17 = .ok (.ireturn, 1) := by decide +kernel
theorem dX6_isDigit_0 : decode cX6_isDigit 0 = .ok (.iload_n 0, 1) := by decide +kernel
theorem dX6_isDigit_1 : decode cX6_isDigit 1 = .ok (.bipush 48, 2) := by decide +kernel
theorem dX6_isDigit_3 : decode cX6_isDigit 3 = .ok (.if_icmp .lt 13, 3) := by decide +kernel
theorem dX6_isDigit_6 : decode cX6_isDigit 6 = .ok (.iload_n 0, 1) := by decide +kernel
theorem dX6_isDigit_7 : decode cX6_isDigit 7 = .ok (.bipush 57, 2) := by decide +kernel
theorem dX6_isDigit_9 : decode cX6_isDigit 9 = .ok (.if_icmp .gt 7, 3) := by decide +kernel
theorem dX6_isDigit_12 : decode cX6_isDigit 12 = .ok (.iconst 1, 1) := by decide +kernel
theorem dX6_isDigit_13 : decode cX6_isDigit 13 = .ok (.goto 4, 3) := by decide +kernel
theorem dX6_isDigit_16 : decode cX6_isDigit 16 = .ok (.iconst 0, 1) := by decide +kernel
theorem dX6_isDigit_17 : decode cX6_isDigit 17 = .ok (.ireturn, 1) := by decide +kernel
theorem dX7_init_0 : decode cX7_init 0 = .ok (.aload_n 0, 1) := by decide +kernel
theorem dX7_init_1 : decode cX7_init 1 = .ok (.invokespecial 3, 3) := by decide +kernel
theorem dX7_init_4 : decode cX7_init 4 = .ok (.aload_n 0, 1) := by decide +kernel
theorem dX7_init_5 : decode cX7_init 5 = .ok (.bipush 64, 2) := by decide +kernel
theorem dX7_init_7 : decode cX7_init 7 = .ok (.newarray .int, 2) := by decide +kernel
theorem dX7_init_9 : decode cX7_init 9 = .ok (.putfield 9, 3) := by decide +kernel
theorem dX7_init_12 : decode cX7_init 12 = .ok (.aload_n 0, 1) := by decide +kernel
theorem dX7_init_13 : decode cX7_init 13 = .ok (.bipush 64, 2) := by decide +kernel
theorem dX7_init_15 : decode cX7_init 15 = .ok (.newarray .int, 2) := by decide +kernel
theorem dX7_init_17 : decode cX7_init 17 = .ok (.putfield 15, 3) := by decide +kernel
theorem dX7_init_20 : decode cX7_init 20 = .ok (.return_, 1) := by decide +kernel
theorem dX7_isOpen_0 : decode cX7_isOpen 0 = .ok (.aload_n 0, 1) := by decide +kernel
theorem dX7_isOpen_1 : decode cX7_isOpen 1 = .ok (.getfield 15, 3) := by decide +kernel
theorem dX7_isOpen_4 : decode cX7_isOpen 4 = .ok (.iload_n 1, 1) := by decide +kernel
theorem dX7_isOpen_5 : decode cX7_isOpen 5 = .ok (.invokestatic 18, 3) := by decide +kernel
theorem dX7_isOpen_8 : decode cX7_isOpen 8 = .ok (.iconst (-1), 1) := by decide +kernel
theorem dX7_isOpen_9 : decode cX7_isOpen 9 = .ok (.if_icmp .eq 7, 3) := by decide +kernel
theorem dX7_isOpen_12 : decode cX7_isOpen 12 = .ok (.iconst 1, 1) := by decide +kernel
theorem dX7_isOpen_13 : decode cX7_isOpen 13 = .ok (.goto 4, 3) := by decide +kernel
theorem dX7_isOpen_16 : decode cX7_isOpen 16 = .ok (.iconst 0, 1) := by decide +kernel
theorem dX7_isOpen_17 : decode cX7_isOpen 17 = .ok (.ireturn, 1) := by decide +kernel
theorem dX7_explore_0 : decode cX7_explore 0 = .ok (.aload_n 0, 1) := by decide +kernel
theorem dX7_explore_1 : decode cX7_explore 1 = .ok (.iconst 1, 1) := by decide +kernel
theorem dX7_explore_2 : decode cX7_explore 2 = .ok (.aload_n 1, 1) := by decide +kernel
theorem dX7_explore_3 : decode cX7_explore 3 = .ok (.getfield 22, 3) := by decide +kernel
theorem dX7_explore_6 : decode cX7_explore 6 = .ok (.ishl, 1) := by decide +kernel
theorem dX7_explore_7 : decode cX7_explore 7 = .ok (.putfield 28, 3) := by decide +kernel
theorem dX7_explore_10 : decode cX7_explore 10 = .ok (.aload_n 0, 1) := by decide +kernel
theorem dX7_explore_11 : decode cX7_explore 11 = .ok (.getfield 9, 3) := by decide +kernel
theorem dX7_explore_14 : decode cX7_explore 14 = .ok (.iconst 0, 1) := by decide +kernel
theorem dX7_explore_15 : decode cX7_explore 15 = .ok (.iload_n 2, 1) := by decide +kernel
theorem dX7_explore_16 : decode cX7_explore 16 = .ok (.invokestatic 31, 3) := by decide +kernel
theorem dX7_explore_19 : decode cX7_explore 19 = .ok (.aload_n 0, 1) := by decide +kernel
theorem dX7_explore_20 : decode cX7_explore 20 = .ok (.getfield 15, 3) := by decide +kernel
theorem dX7_explore_23 : decode cX7_explore 23 = .ok (.iconst 0, 1) := by decide +kernel
theorem dX7_explore_24 : decode cX7_explore 24 = .ok (.iconst 0, 1) := by decide +kernel
theorem dX7_explore_25 : decode cX7_explore 25 = .ok (.invokestatic 31, 3) := by decide +kernel
theorem dX7_explore_28 : decode cX7_explore 28 = .ok (.iconst 1, 1) := by decide +kernel
theorem dX7_explore_29 : decode cX7_explore 29 = .ok (.istore 4, 2) := by decide +kernel
theorem dX7_explore_31 : decode cX7_explore 31 = .ok (.iload 4, 2) := by decide +kernel
theorem dX7_explore_33 : decode cX7_explore 33 = .ok (.aload_n 0, 1) := by decide +kernel
theorem dX7_explore_34 : decode cX7_explore 34 = .ok (.getfield 28, 3) := by decide +kernel
theorem dX7_explore_37 : decode cX7_explore 37 = .ok (.if_icmp .ge 56, 3) := by decide +kernel
theorem dX7_explore_40 : decode cX7_explore 40 = .ok (.iload 4, 2) := by decide +kernel
theorem dX7_explore_42 : decode cX7_explore 42 = .ok (.iload_n 3, 1) := by decide +kernel
theorem dX7_explore_43 : decode cX7_explore 43 = .ok (.iand, 1) := by decide +kernel
theorem dX7_explore_44 : decode cX7_explore 44 = .ok (.ifCond .ne 13, 3) := by decide +kernel
theorem dX7_explore_47 : decode cX7_explore 47 = .ok (.aload_n 0, 1) := by decide +kernel
theorem dX7_explore_48 : decode cX7_explore 48 = .ok (.aload_n 1, 1) := by decide +kernel
theorem dX7_explore_49 : decode cX7_explore 49 = .ok (.iload 4, 2) := by decide +kernel
theorem dX7_explore_51 : decode cX7_explore 51 = .ok (.invokevirtual 35, 3) := by decide +kernel
theorem dX7_explore_54 : decode cX7_explore 54 = .ok (.goto 4, 3) := by decide +kernel
theorem dX7_explore_57 : decode cX7_explore 57 = .ok (.iconst (-1), 1) := by decide +kernel
theorem dX7_explore_58 : decode cX7_explore 58 = .ok (.istore 5, 2) := by decide +kernel
theorem dX7_explore_60 : decode cX7_explore 60 = .ok (.iload 5, 2) := by decide +kernel
theorem dX7_explore_62 : decode cX7_explore 62 = .ok (.ifCond .ge 16, 3) := by decide +kernel
theorem dX7_explore_65 : decode cX7_explore 65 = .ok (.aload_n 0, 1) := by decide +kernel
theorem dX7_explore_66 : decode cX7_explore 66 = .ok (.getfield 15, 3) := by decide +kernel
theorem dX7_explore_69 : decode cX7_explore 69 = .ok (.iload 4, 2) := by decide +kernel
theorem dX7_explore_71 : decode cX7_explore 71 = .ok (.iconst (-1), 1) := by decide +kernel
theorem dX7_explore_72 : decode cX7_explore 72 = .ok (.invokestatic 31, 3) := by decide +kernel
theorem dX7_explore_75 : decode cX7_explore 75 = .ok (.goto 12, 3) := by decide +kernel
theorem dX7_explore_78 : decode cX7_explore 78 = .ok (.aload_n 0, 1) := by decide +kernel
theorem dX7_explore_79 : decode cX7_explore 79 = .ok (.aload_n 1, 1) := by decide +kernel
theorem dX7_explore_80 : decode cX7_explore 80 = .ok (.iload 4, 2) := by decide +kernel
theorem dX7_explore_82 : decode cX7_explore 82 = .ok (.iload 5, 2) := by decide +kernel
theorem dX7_explore_84 : decode cX7_explore 84 = .ok (.invokevirtual 39, 3) := by decide +kernel
theorem dX7_explore_87 : decode cX7_explore 87 = .ok (.iinc 4 1, 3) := by decide +kernel
theorem dX7_explore_90 : decode cX7_explore 90 = .ok (.goto (-59), 3) := by decide +kernel
theorem dX7_explore_93 : decode cX7_explore 93 = .ok (.return_, 1) := by decide +kernel
theorem dX7_runLast_0 : decode cX7_runLast 0 = .ok (.iload_n 2, 1) := by decide +kernel
theorem dX7_runLast_1 : decode cX7_runLast 1 = .ok (.iconst 1, 1) := by decide +kernel
theorem dX7_runLast_2 : decode cX7_runLast 2 = .ok (.iload_n 3, 1) := by decide +kernel
theorem dX7_runLast_3 : decode cX7_runLast 3 = .ok (.ishl, 1) := by decide +kernel
theorem dX7_runLast_4 : decode cX7_runLast 4 = .ok (.iconst (-1), 1) := by decide +kernel
theorem dX7_runLast_5 : decode cX7_runLast 5 = .ok (.ixor, 1) := by decide +kernel
theorem dX7_runLast_6 : decode cX7_runLast 6 = .ok (.iand, 1) := by decide +kernel
theorem dX7_runLast_7 : decode cX7_runLast 7 = .ok (.istore 4, 2) := by decide +kernel
theorem dX7_runLast_9 : decode cX7_runLast 9 = .ok (.aload_n 0, 1) := by decide +kernel
theorem dX7_runLast_10 : decode cX7_runLast 10 = .ok (.getfield 9, 3) := by decide +kernel
theorem dX7_runLast_13 : decode cX7_runLast 13 = .ok (.iload_n 2, 1) := by decide +kernel
theorem dX7_runLast_14 : decode cX7_runLast 14 = .ok (.aload_n 0, 1) := by decide +kernel
theorem dX7_runLast_15 : decode cX7_runLast 15 = .ok (.getfield 9, 3) := by decide +kernel
theorem dX7_runLast_18 : decode cX7_runLast 18 = .ok (.iload 4, 2) := by decide +kernel
theorem dX7_runLast_20 : decode cX7_runLast 20 = .ok (.invokestatic 18, 3) := by decide +kernel
theorem dX7_runLast_23 : decode cX7_runLast 23 = .ok (.iconst 1, 1) := by decide +kernel
theorem dX7_runLast_24 : decode cX7_runLast 24 = .ok (.aload_n 1, 1) := by decide +kernel
theorem dX7_runLast_25 : decode cX7_runLast 25 = .ok (.getfield 43, 3) := by decide +kernel
theorem dX7_runLast_28 : decode cX7_runLast 28 = .ok (.iload_n 3, 1) := by decide +kernel
theorem dX7_runLast_29 : decode cX7_runLast 29 = .ok (.invokestatic 18, 3) := by decide +kernel
theorem dX7_runLast_32 : decode cX7_runLast 32 = .ok (.ishl, 1) := by decide +kernel
theorem dX7_runLast_33 : decode cX7_runLast 33 = .ok (.ior, 1) := by decide +kernel
theorem dX7_runLast_34 : decode cX7_runLast 34 = .ok (.invokestatic 31, 3) := by decide +kernel
theorem dX7_runLast_37 : decode cX7_runLast 37 = .ok (.aload_n 0, 1) := by decide +kernel
theorem dX7_runLast_38 : decode cX7_runLast 38 = .ok (.getfield 15, 3) := by decide +kernel
theorem dX7_runLast_41 : decode cX7_runLast 41 = .ok (.iload_n 2, 1) := by decide +kernel
theorem dX7_runLast_42 : decode cX7_runLast 42 = .ok (.aload_n 0, 1) := by decide +kernel
theorem dX7_runLast_43 : decode cX7_runLast 43 = .ok (.getfield 15, 3) := by decide +kernel
theorem dX7_runLast_46 : decode cX7_runLast 46 = .ok (.iload 4, 2) := by decide +kernel
theorem dX7_runLast_48 : decode cX7_runLast 48 = .ok (.invokestatic 18, 3) := by decide +kernel
theorem dX7_runLast_51 : decode cX7_runLast 51 = .ok (.aload_n 1, 1) := by decide +kernel
theorem dX7_runLast_52 : decode cX7_runLast 52 = .ok (.getfield 46, 3) := by decide +kernel
theorem dX7_runLast_55 : decode cX7_runLast 55 = .ok (.iload_n 3, 1) := by decide +kernel
theorem dX7_runLast_56 : decode cX7_runLast 56 = .ok (.invokestatic 18, 3) := by decide +kernel
theorem dX7_runLast_59 : decode cX7_runLast 59 = .ok (.iadd, 1) := by decide +kernel
theorem dX7_runLast_60 : decode cX7_runLast 60 = .ok (.invokestatic 31, 3) := by decide +kernel
theorem dX7_runLast_63 : decode cX7_runLast 63 = .ok (.return_, 1) := by decide +kernel
theorem dX7_lastOf_0 : decode cX7_lastOf 0 = .ok (.iconst 0, 1) := by decide +kernel
theorem dX7_lastOf_1 : decode cX7_lastOf 1 = .ok (.istore_n 3, 1) := by decide +kernel
theorem dX7_lastOf_2 : decode cX7_lastOf 2 = .ok (.iload_n 3, 1) := by decide +kernel
theorem dX7_lastOf_3 : decode cX7_lastOf 3 = .ok (.aload_n 1, 1) := by decide +kernel
theorem dX7_lastOf_4 : decode cX7_lastOf 4 = .ok (.getfield 22, 3) := by decide +kernel
theorem dX7_lastOf_7 : decode cX7_lastOf 7 = .ok (.if_icmp .ge 52, 3) := by decide +kernel
theorem dX7_lastOf_10 : decode cX7_lastOf 10 = .ok (.iload_n 2, 1) := by decide +kernel
theorem dX7_lastOf_11 : decode cX7_lastOf 11 = .ok (.iconst 1, 1) := by decide +kernel
theorem dX7_lastOf_12 : decode cX7_lastOf 12 = .ok (.iload_n 3, 1) := by decide +kernel
theorem dX7_lastOf_13 : decode cX7_lastOf 13 = .ok (.ishl, 1) := by decide +kernel
theorem dX7_lastOf_14 : decode cX7_lastOf 14 = .ok (.iconst (-1), 1) := by decide +kernel
theorem dX7_lastOf_15 : decode cX7_lastOf 15 = .ok (.ixor, 1) := by decide +kernel
theorem dX7_lastOf_16 : decode cX7_lastOf 16 = .ok (.iand, 1) := by decide +kernel
theorem dX7_lastOf_17 : decode cX7_lastOf 17 = .ok (.istore 4, 2) := by decide +kernel
theorem dX7_lastOf_19 : decode cX7_lastOf 19 = .ok (.iload 4, 2) := by decide +kernel
theorem dX7_lastOf_21 : decode cX7_lastOf 21 = .ok (.iload_n 2, 1) := by decide +kernel
theorem dX7_lastOf_22 : decode cX7_lastOf 22 = .ok (.if_icmp .eq 31, 3) := by decide +kernel
theorem dX7_lastOf_25 : decode cX7_lastOf 25 = .ok (.aload_n 0, 1) := by decide +kernel
theorem dX7_lastOf_26 : decode cX7_lastOf 26 = .ok (.iload 4, 2) := by decide +kernel
theorem dX7_lastOf_28 : decode cX7_lastOf 28 = .ok (.invokevirtual 49, 3) := by decide +kernel
theorem dX7_lastOf_31 : decode cX7_lastOf 31 = .ok (.ifCond .eq 22, 3) := by decide +kernel
theorem dX7_lastOf_34 : decode cX7_lastOf 34 = .ok (.aload_n 1, 1) := by decide +kernel
theorem dX7_lastOf_35 : decode cX7_lastOf 35 = .ok (.iload_n 3, 1) := by decide +kernel
theorem dX7_lastOf_36 : decode cX7_lastOf 36 = .ok (.aload_n 0, 1) := by decide +kernel
theorem dX7_lastOf_37 : decode cX7_lastOf 37 = .ok (.getfield 9, 3) := by decide +kernel
theorem dX7_lastOf_40 : decode cX7_lastOf 40 = .ok (.iload 4, 2) := by decide +kernel
theorem dX7_lastOf_42 : decode cX7_lastOf 42 = .ok (.invokestatic 18, 3) := by decide +kernel
theorem dX7_lastOf_45 : decode cX7_lastOf 45 = .ok (.invokevirtual 53, 3) := by decide +kernel
theorem dX7_lastOf_48 : decode cX7_lastOf 48 = .ok (.ifCond .eq 5, 3) := by decide +kernel
theorem dX7_lastOf_51 : decode cX7_lastOf 51 = .ok (.iload_n 3, 1) := by decide +kernel
theorem dX7_lastOf_52 : decode cX7_lastOf 52 = .ok (.ireturn, 1) := by decide +kernel
theorem dX7_lastOf_53 : decode cX7_lastOf 53 = .ok (.iinc 3 1, 3) := by decide +kernel
theorem dX7_lastOf_56 : decode cX7_lastOf 56 = .ok (.goto (-54), 3) := by decide +kernel
theorem dX7_lastOf_59 : decode cX7_lastOf 59 = .ok (.iconst (-1), 1) := by decide +kernel
theorem dX7_lastOf_60 : decode cX7_lastOf 60 = .ok (.ireturn, 1) := by decide +kernel
theorem dX8_init_0 : decode cX8_init 0 = .ok (.aload_n 0, 1) := by decide +kernel
theorem dX8_init_1 : decode cX8_init 1 = .ok (.invokespecial 1, 3) := by decide +kernel
theorem dX8_init_4 : decode cX8_init 4 = .ok (.aload_n 0, 1) := by decide +kernel
theorem dX8_init_5 : decode cX8_init 5 = .ok (.new 7, 3) := by decide +kernel
theorem dX8_init_8 : decode cX8_init 8 = .ok (.dup, 1) := by decide +kernel
theorem dX8_init_9 : decode cX8_init 9 = .ok (.invokespecial 9, 3) := by decide +kernel
theorem dX8_init_12 : decode cX8_init 12 = .ok (.putfield 10, 3) := by decide +kernel
theorem dX8_init_15 : decode cX8_init 15 = .ok (.aload_n 0, 1) := by decide +kernel
theorem dX8_init_16 : decode cX8_init 16 = .ok (.new 16, 3) := by decide +kernel
theorem dX8_init_19 : decode cX8_init 19 = .ok (.dup, 1) := by decide +kernel
theorem dX8_init_20 : decode cX8_init 20 = .ok (.invokespecial 18, 3) := by decide +kernel
theorem dX8_init_23 : decode cX8_init 23 = .ok (.putfield 19, 3) := by decide +kernel
theorem dX8_init_26 : decode cX8_init 26 = .ok (.aload_n 0, 1) := by decide +kernel
theorem dX8_init_27 : decode cX8_init 27 = .ok (.new 23, 3) := by decide +kernel
theorem dX8_init_30 : decode cX8_init 30 = .ok (.dup, 1) := by decide +kernel
theorem dX8_init_31 : decode cX8_init 31 = .ok (.invokespecial 25, 3) := by decide +kernel
theorem dX8_init_34 : decode cX8_init 34 = .ok (.putfield 26, 3) := by decide +kernel
theorem dX8_init_37 : decode cX8_init 37 = .ok (.aload_n 0, 1) := by decide +kernel
theorem dX8_init_38 : decode cX8_init 38 = .ok (.new 30, 3) := by decide +kernel
theorem dX8_init_41 : decode cX8_init 41 = .ok (.dup, 1) := by decide +kernel
theorem dX8_init_42 : decode cX8_init 42 = .ok (.invokespecial 32, 3) := by decide +kernel
theorem dX8_init_45 : decode cX8_init 45 = .ok (.putfield 33, 3) := by decide +kernel
theorem dX8_init_48 : decode cX8_init 48 = .ok (.aload_n 0, 1) := by decide +kernel
theorem dX8_init_49 : decode cX8_init 49 = .ok (.new 37, 3) := by decide +kernel
theorem dX8_init_52 : decode cX8_init 52 = .ok (.dup, 1) := by decide +kernel
theorem dX8_init_53 : decode cX8_init 53 = .ok (.bipush 10, 2) := by decide +kernel
theorem dX8_init_55 : decode cX8_init 55 = .ok (.invokespecial 39, 3) := by decide +kernel
theorem dX8_init_58 : decode cX8_init 58 = .ok (.putfield 42, 3) := by decide +kernel
theorem dX8_init_61 : decode cX8_init 61 = .ok (.aload_n 0, 1) := by decide +kernel
theorem dX8_init_62 : decode cX8_init 62 = .ok (.new 37, 3) := by decide +kernel
theorem dX8_init_65 : decode cX8_init 65 = .ok (.dup, 1) := by decide +kernel
theorem dX8_init_66 : decode cX8_init 66 = .ok (.iconst 2, 1) := by decide +kernel
theorem dX8_init_67 : decode cX8_init 67 = .ok (.invokespecial 39, 3) := by decide +kernel
theorem dX8_init_70 : decode cX8_init 70 = .ok (.putfield 46, 3) := by decide +kernel
theorem dX8_init_73 : decode cX8_init 73 = .ok (.aload_n 0, 1) := by decide +kernel
theorem dX8_init_74 : decode cX8_init 74 = .ok (.new 49, 3) := by decide +kernel
theorem dX8_init_77 : decode cX8_init 77 = .ok (.dup, 1) := by decide +kernel
theorem dX8_init_78 : decode cX8_init 78 = .ok (.invokespecial 51, 3) := by decide +kernel
theorem dX8_init_81 : decode cX8_init 81 = .ok (.putfield 52, 3) := by decide +kernel
theorem dX8_init_84 : decode cX8_init 84 = .ok (.aload_n 0, 1) := by decide +kernel
theorem dX8_init_85 : decode cX8_init 85 = .ok (.new 56, 3) := by decide +kernel
theorem dX8_init_88 : decode cX8_init 88 = .ok (.dup, 1) := by decide +kernel
theorem dX8_init_89 : decode cX8_init 89 = .ok (.invokespecial 58, 3) := by decide +kernel
theorem dX8_init_92 : decode cX8_init 92 = .ok (.putfield 59, 3) := by decide +kernel
theorem dX8_init_95 : decode cX8_init 95 = .ok (.aload_n 0, 1) := by decide +kernel
theorem dX8_init_96 : decode cX8_init 96 = .ok (.bipush 6, 2) := by decide +kernel
theorem dX8_init_98 : decode cX8_init 98 = .ok (.newarray .int, 2) := by decide +kernel
theorem dX8_init_100 : decode cX8_init 100 = .ok (.putfield 63, 3) := by decide +kernel
theorem dX8_init_103 : decode cX8_init 103 = .ok (.aload_n 0, 1) := by decide +kernel
theorem dX8_init_104 : decode cX8_init 104 = .ok (.bipush 6, 2) := by decide +kernel
theorem dX8_init_106 : decode cX8_init 106 = .ok (.newarray .int, 2) := by decide +kernel
theorem dX8_init_108 : decode cX8_init 108 = .ok (.putfield 67, 3) := by decide +kernel
theorem dX8_init_111 : decode cX8_init 111 = .ok (.return_, 1) := by decide +kernel
theorem dX8_type_0 : decode cX8_type 0 = .ok (.iload_n 3, 1) := by decide +kernel
theorem dX8_type_1 : decode cX8_type 1 = .ok (.iconst 1, 1) := by decide +kernel
theorem dX8_type_2 : decode cX8_type 2 = .ok (.if_icmp .lt 9, 3) := by decide +kernel
theorem dX8_type_5 : decode cX8_type 5 = .ok (.iload_n 3, 1) := by decide +kernel
theorem dX8_type_6 : decode cX8_type 6 = .ok (.bipush 8, 2) := by decide +kernel
theorem dX8_type_8 : decode cX8_type 8 = .ok (.if_icmp .le 5, 3) := by decide +kernel
theorem dX8_type_11 : decode cX8_type 11 = .ok (.iconst (-1), 1) := by decide +kernel
theorem dX8_type_12 : decode cX8_type 12 = .ok (.ireturn, 1) := by decide +kernel
theorem dX8_type_13 : decode cX8_type 13 = .ok (.aload_n 0, 1) := by decide +kernel
theorem dX8_type_14 : decode cX8_type 14 = .ok (.getfield 10, 3) := by decide +kernel
theorem dX8_type_17 : decode cX8_type 17 = .ok (.getfield 70, 3) := by decide +kernel
theorem dX8_type_20 : decode cX8_type 20 = .ok (.iload_n 3, 1) := by decide +kernel
theorem dX8_type_21 : decode cX8_type 21 = .ok (.iadd, 1) := by decide +kernel
theorem dX8_type_22 : decode cX8_type 22 = .ok (.sipush 300, 3) := by decide +kernel
theorem dX8_type_25 : decode cX8_type 25 = .ok (.if_icmp .le 6, 3) := by decide +kernel
theorem dX8_type_28 : decode cX8_type 28 = .ok (.bipush (-3), 2) := by decide +kernel
theorem dX8_type_30 : decode cX8_type 30 = .ok (.ireturn, 1) := by decide +kernel
theorem dX8_type_31 : decode cX8_type 31 = .ok (.iload_n 3, 1) := by decide +kernel
theorem dX8_type_32 : decode cX8_type 32 = .ok (.iconst 1, 1) := by decide +kernel
theorem dX8_type_33 : decode cX8_type 33 = .ok (.isub, 1) := by decide +kernel
theorem dX8_type_34 : decode cX8_type 34 = .ok (.istore 4, 2) := by decide +kernel
theorem dX8_type_36 : decode cX8_type 36 = .ok (.iload 4, 2) := by decide +kernel
theorem dX8_type_38 : decode cX8_type 38 = .ok (.ifCond .lt 24, 3) := by decide +kernel
theorem dX8_type_41 : decode cX8_type 41 = .ok (.aload_n 0, 1) := by decide +kernel
theorem dX8_type_42 : decode cX8_type 42 = .ok (.getfield 10, 3) := by decide +kernel
theorem dX8_type_45 : decode cX8_type 45 = .ok (.lload_n 1, 1) := by decide +kernel
theorem dX8_type_46 : decode cX8_type 46 = .ok (.bipush 8, 2) := by decide +kernel
theorem dX8_type_48 : decode cX8_type 48 = .ok (.iload 4, 2) := by decide +kernel
theorem dX8_type_50 : decode cX8_type 50 = .ok (.imul, 1) := by decide +kernel
theorem dX8_type_51 : decode cX8_type 51 = .ok (.lshr, 1) := by decide +kernel
theorem dX8_type_52 : decode cX8_type 52 = .ok (.l2i, 1) := by decide +kernel
theorem dX8_type_53 : decode cX8_type 53 = .ok (.invokevirtual 74, 3) := by decide +kernel
theorem dX8_type_56 : decode cX8_type 56 = .ok (.iinc 4 (-1), 3) := by decide +kernel
theorem dX8_type_59 : decode cX8_type 59 = .ok (.goto (-23), 3) := by decide +kernel
theorem dX8_type_62 : decode cX8_type 62 = .ok (.aload_n 0, 1) := by decide +kernel
theorem dX8_type_63 : decode cX8_type 63 = .ok (.getfield 10, 3) := by decide +kernel
theorem dX8_type_66 : decode cX8_type 66 = .ok (.getfield 70, 3) := by decide +kernel
theorem dX8_type_69 : decode cX8_type 69 = .ok (.ireturn, 1) := by decide +kernel
theorem dX8_clear_0 : decode cX8_clear 0 = .ok (.aload_n 0, 1) := by decide +kernel
theorem dX8_clear_1 : decode cX8_clear 1 = .ok (.getfield 10, 3) := by decide +kernel
theorem dX8_clear_4 : decode cX8_clear 4 = .ok (.getfield 70, 3) := by decide +kernel
theorem dX8_clear_7 : decode cX8_clear 7 = .ok (.istore_n 1, 1) := by decide +kernel
theorem dX8_clear_8 : decode cX8_clear 8 = .ok (.aload_n 0, 1) := by decide +kernel
theorem dX8_clear_9 : decode cX8_clear 9 = .ok (.getfield 10, 3) := by decide +kernel
theorem dX8_clear_12 : decode cX8_clear 12 = .ok (.iconst 0, 1) := by decide +kernel
theorem dX8_clear_13 : decode cX8_clear 13 = .ok (.putfield 70, 3) := by decide +kernel
theorem dX8_clear_16 : decode cX8_clear 16 = .ok (.iload_n 1, 1) := by decide +kernel
theorem dX8_clear_17 : decode cX8_clear 17 = .ok (.ireturn, 1) := by decide +kernel
theorem dX8_house_0 : decode cX8_house 0 = .ok (.aload_n 0, 1) := by decide +kernel
theorem dX8_house_1 : decode cX8_house 1 = .ok (.getfield 26, 3) := by decide +kernel
theorem dX8_house_4 : decode cX8_house 4 = .ok (.aload_n 0, 1) := by decide +kernel
theorem dX8_house_5 : decode cX8_house 5 = .ok (.getfield 10, 3) := by decide +kernel
theorem dX8_house_8 : decode cX8_house 8 = .ok (.invokevirtual 77, 3) := by decide +kernel
theorem dX8_house_11 : decode cX8_house 11 = .ok (.istore_n 1, 1) := by decide +kernel
theorem dX8_house_12 : decode cX8_house 12 = .ok (.iload_n 1, 1) := by decide +kernel
theorem dX8_house_13 : decode cX8_house 13 = .ok (.ifCond .ge 5, 3) := by decide +kernel
theorem dX8_house_16 : decode cX8_house 16 = .ok (.iload_n 1, 1) := by decide +kernel
theorem dX8_house_17 : decode cX8_house 17 = .ok (.ireturn, 1) := by decide +kernel
theorem dX8_house_18 : decode cX8_house 18 = .ok (.aload_n 0, 1) := by decide +kernel
theorem dX8_house_19 : decode cX8_house 19 = .ok (.getfield 19, 3) := by decide +kernel
theorem dX8_house_22 : decode cX8_house 22 = .ok (.aload_n 0, 1) := by decide +kernel
theorem dX8_house_23 : decode cX8_house 23 = .ok (.getfield 26, 3) := by decide +kernel
theorem dX8_house_26 : decode cX8_house 26 = .ok (.getfield 81, 3) := by decide +kernel
theorem dX8_house_29 : decode cX8_house 29 = .ok (.invokevirtual 84, 3) := by decide +kernel
theorem dX8_house_32 : decode cX8_house 32 = .ok (.aload_n 0, 1) := by decide +kernel
theorem dX8_house_33 : decode cX8_house 33 = .ok (.getfield 33, 3) := by decide +kernel
theorem dX8_house_36 : decode cX8_house 36 = .ok (.aload_n 0, 1) := by decide +kernel
theorem dX8_house_37 : decode cX8_house 37 = .ok (.getfield 19, 3) := by decide +kernel
theorem dX8_house_40 : decode cX8_house 40 = .ok (.getfield 88, 3) := by decide +kernel
theorem dX8_house_43 : decode cX8_house 43 = .ok (.invokevirtual 91, 3) := by decide +kernel
theorem dX8_house_46 : decode cX8_house 46 = .ok (.aload_n 0, 1) := by decide +kernel
theorem dX8_house_47 : decode cX8_house 47 = .ok (.getfield 10, 3) := by decide +kernel
theorem dX8_house_50 : decode cX8_house 50 = .ok (.iconst 0, 1) := by decide +kernel
theorem dX8_house_51 : decode cX8_house 51 = .ok (.putfield 70, 3) := by decide +kernel
theorem dX8_house_54 : decode cX8_house 54 = .ok (.aload_n 0, 1) := by decide +kernel
theorem dX8_house_55 : decode cX8_house 55 = .ok (.iconst 0, 1) := by decide +kernel
theorem dX8_house_56 : decode cX8_house 56 = .ok (.putfield 94, 3) := by decide +kernel
theorem dX8_house_59 : decode cX8_house 59 = .ok (.aload_n 0, 1) := by decide +kernel
theorem dX8_house_60 : decode cX8_house 60 = .ok (.iconst 0, 1) := by decide +kernel
theorem dX8_house_61 : decode cX8_house 61 = .ok (.putfield 97, 3) := by decide +kernel
theorem dX8_house_64 : decode cX8_house 64 = .ok (.aload_n 0, 1) := by decide +kernel
theorem dX8_house_65 : decode cX8_house 65 = .ok (.iconst 0, 1) := by decide +kernel
theorem dX8_house_66 : decode cX8_house 66 = .ok (.putfield 100, 3) := by decide +kernel
theorem dX8_house_69 : decode cX8_house 69 = .ok (.iload_n 1, 1) := by decide +kernel
theorem dX8_house_70 : decode cX8_house 70 = .ok (.ireturn, 1) := by decide +kernel
theorem dX8_knocker_0 : decode cX8_knocker 0 = .ok (.aload_n 0, 1) := by decide +kernel
theorem dX8_knocker_1 : decode cX8_knocker 1 = .ok (.iload_n 1, 1) := by decide +kernel
theorem dX8_knocker_2 : decode cX8_knocker 2 = .ok (.invokevirtual 103, 3) := by decide +kernel
theorem dX8_knocker_5 : decode cX8_knocker 5 = .ok (.ifCond .ne 5, 3) := by decide +kernel
theorem dX8_knocker_8 : decode cX8_knocker 8 = .ok (.iconst (-1), 1) := by decide +kernel
theorem dX8_knocker_9 : decode cX8_knocker 9 = .ok (.ireturn, 1) := by decide +kernel
theorem dX8_knocker_10 : decode cX8_knocker 10 = .ok (.iload_n 2, 1) := by decide +kernel
theorem dX8_knocker_11 : decode cX8_knocker 11 = .ok (.tableswitch 77 0 3 #[29, 41, 47, 59], 29) := by decide +kernel
theorem dX8_knocker_40 : decode cX8_knocker 40 = .ok (.aload_n 0, 1) := by decide +kernel
theorem dX8_knocker_41 : decode cX8_knocker 41 = .ok (.getfield 19, 3) := by decide +kernel
theorem dX8_knocker_44 : decode cX8_knocker 44 = .ok (.getfield 107, 3) := by decide +kernel
theorem dX8_knocker_47 : decode cX8_knocker 47 = .ok (.iload_n 1, 1) := by decide +kernel
theorem dX8_knocker_48 : decode cX8_knocker 48 = .ok (.invokestatic 110, 3) := by decide +kernel
theorem dX8_knocker_51 : decode cX8_knocker 51 = .ok (.ireturn, 1) := by decide +kernel
theorem dX8_knocker_52 : decode cX8_knocker 52 = .ok (.aload_n 0, 1) := by decide +kernel
theorem dX8_knocker_53 : decode cX8_knocker 53 = .ok (.iload_n 1, 1) := by decide +kernel
theorem dX8_knocker_54 : decode cX8_knocker 54 = .ok (.invokevirtual 114, 3) := by decide +kernel
theorem dX8_knocker_57 : decode cX8_knocker 57 = .ok (.ireturn, 1) := by decide +kernel
theorem dX8_knocker_58 : decode cX8_knocker 58 = .ok (.aload_n 0, 1) := by decide +kernel
theorem dX8_knocker_59 : decode cX8_knocker 59 = .ok (.getfield 33, 3) := by decide +kernel
theorem dX8_knocker_62 : decode cX8_knocker 62 = .ok (.getfield 118, 3) := by decide +kernel
theorem dX8_knocker_65 : decode cX8_knocker 65 = .ok (.iload_n 1, 1) := by decide +kernel
theorem dX8_knocker_66 : decode cX8_knocker 66 = .ok (.invokestatic 110, 3) := by decide +kernel
theorem dX8_knocker_69 : decode cX8_knocker 69 = .ok (.ireturn, 1) := by decide +kernel
theorem dX8_knocker_70 : decode cX8_knocker 70 = .ok (.aload_n 0, 1) := by decide +kernel
theorem dX8_knocker_71 : decode cX8_knocker 71 = .ok (.aload_n 0, 1) := by decide +kernel
theorem dX8_knocker_72 : decode cX8_knocker 72 = .ok (.iload_n 1, 1) := by decide +kernel
theorem dX8_knocker_73 : decode cX8_knocker 73 = .ok (.invokevirtual 114, 3) := by decide +kernel
theorem dX8_knocker_76 : decode cX8_knocker 76 = .ok (.invokevirtual 121, 3) := by decide +kernel
theorem dX8_knocker_79 : decode cX8_knocker 79 = .ok (.ifCond .eq 7, 3) := by decide +kernel
theorem dX8_knocker_82 : decode cX8_knocker 82 = .ok (.iconst 1, 1) := by decide +kernel
theorem dX8_knocker_83 : decode cX8_knocker 83 = .ok (.goto 4, 3) := by decide +kernel
theorem dX8_knocker_86 : decode cX8_knocker 86 = .ok (.iconst 0, 1) := by decide +kernel
theorem dX8_knocker_87 : decode cX8_knocker 87 = .ok (.ireturn, 1) := by decide +kernel
theorem dX8_knocker_88 : decode cX8_knocker 88 = .ok (.iconst (-1), 1) := by decide +kernel
theorem dX8_knocker_89 : decode cX8_knocker 89 = .ok (.ireturn, 1) := by decide +kernel
theorem dX8_errand_0 : decode cX8_errand 0 = .ok (.aload_n 0, 1) := by decide +kernel
theorem dX8_errand_1 : decode cX8_errand 1 = .ok (.iload_n 1, 1) := by decide +kernel
theorem dX8_errand_2 : decode cX8_errand 2 = .ok (.invokevirtual 124, 3) := by decide +kernel
theorem dX8_errand_5 : decode cX8_errand 5 = .ok (.ifCond .ne 5, 3) := by decide +kernel
theorem dX8_errand_8 : decode cX8_errand 8 = .ok (.iconst (-1), 1) := by decide +kernel
theorem dX8_errand_9 : decode cX8_errand 9 = .ok (.ireturn, 1) := by decide +kernel
theorem dX8_errand_10 : decode cX8_errand 10 = .ok (.iload_n 2, 1) := by decide +kernel
theorem dX8_errand_11 : decode cX8_errand 11 = .ok (.tableswitch 61 0 2 #[25, 37, 49], 25) := by decide +kernel
theorem dX8_errand_36 : decode cX8_errand 36 = .ok (.aload_n 0, 1) := by decide +kernel
theorem dX8_errand_37 : decode cX8_errand 37 = .ok (.getfield 19, 3) := by decide +kernel
theorem dX8_errand_40 : decode cX8_errand 40 = .ok (.getfield 127, 3) := by decide +kernel
theorem dX8_errand_43 : decode cX8_errand 43 = .ok (.iload_n 1, 1) := by decide +kernel
theorem dX8_errand_44 : decode cX8_errand 44 = .ok (.invokestatic 110, 3) := by decide +kernel
theorem dX8_errand_47 : decode cX8_errand 47 = .ok (.ireturn, 1) := by decide +kernel
theorem dX8_errand_48 : decode cX8_errand 48 = .ok (.aload_n 0, 1) := by decide +kernel
theorem dX8_errand_49 : decode cX8_errand 49 = .ok (.getfield 19, 3) := by decide +kernel
theorem dX8_errand_52 : decode cX8_errand 52 = .ok (.getfield 130, 3) := by decide +kernel
theorem dX8_errand_55 : decode cX8_errand 55 = .ok (.iload_n 1, 1) := by decide +kernel
theorem dX8_errand_56 : decode cX8_errand 56 = .ok (.invokestatic 110, 3) := by decide +kernel
theorem dX8_errand_59 : decode cX8_errand 59 = .ok (.ireturn, 1) := by decide +kernel
theorem dX8_errand_60 : decode cX8_errand 60 = .ok (.aload_n 0, 1) := by decide +kernel
theorem dX8_errand_61 : decode cX8_errand 61 = .ok (.getfield 19, 3) := by decide +kernel
theorem dX8_errand_64 : decode cX8_errand 64 = .ok (.getfield 133, 3) := by decide +kernel
theorem dX8_errand_67 : decode cX8_errand 67 = .ok (.iload_n 1, 1) := by decide +kernel
theorem dX8_errand_68 : decode cX8_errand 68 = .ok (.invokestatic 110, 3) := by decide +kernel
theorem dX8_errand_71 : decode cX8_errand 71 = .ok (.ireturn, 1) := by decide +kernel
theorem dX8_errand_72 : decode cX8_errand 72 = .ok (.iconst (-1), 1) := by decide +kernel
theorem dX8_errand_73 : decode cX8_errand 73 = .ok (.ireturn, 1) := by decide +kernel
theorem dX8_rule_0 : decode cX8_rule 0 = .ok (.aload_n 0, 1) := by decide +kernel
theorem dX8_rule_1 : decode cX8_rule 1 = .ok (.iload_n 1, 1) := by decide +kernel
theorem dX8_rule_2 : decode cX8_rule 2 = .ok (.invokevirtual 136, 3) := by decide +kernel
theorem dX8_rule_5 : decode cX8_rule 5 = .ok (.ifCond .eq 10, 3) := by decide +kernel
theorem dX8_rule_8 : decode cX8_rule 8 = .ok (.iload_n 2, 1) := by decide +kernel
theorem dX8_rule_9 : decode cX8_rule 9 = .ok (.invokestatic 139, 3) := by decide +kernel
theorem dX8_rule_12 : decode cX8_rule 12 = .ok (.ifCond .ne 5, 3) := by decide +kernel
theorem dX8_rule_15 : decode cX8_rule 15 = .ok (.iconst (-1), 1) := by decide +kernel
theorem dX8_rule_16 : decode cX8_rule 16 = .ok (.ireturn, 1) := by decide +kernel
theorem dX8_rule_17 : decode cX8_rule 17 = .ok (.iload_n 2, 1) := by decide +kernel
theorem dX8_rule_18 : decode cX8_rule 18 = .ok (.ifCond .ne 17, 3) := by decide +kernel
theorem dX8_rule_21 : decode cX8_rule 21 = .ok (.aload_n 0, 1) := by decide +kernel
theorem dX8_rule_22 : decode cX8_rule 22 = .ok (.getfield 33, 3) := by decide +kernel
theorem dX8_rule_25 : decode cX8_rule 25 = .ok (.getfield 142, 3) := by decide +kernel
theorem dX8_rule_28 : decode cX8_rule 28 = .ok (.iload_n 1, 1) := by decide +kernel
theorem dX8_rule_29 : decode cX8_rule 29 = .ok (.invokestatic 110, 3) := by decide +kernel
theorem dX8_rule_32 : decode cX8_rule 32 = .ok (.goto 14, 3) := by decide +kernel
theorem dX8_rule_35 : decode cX8_rule 35 = .ok (.aload_n 0, 1) := by decide +kernel
theorem dX8_rule_36 : decode cX8_rule 36 = .ok (.getfield 33, 3) := by decide +kernel
theorem dX8_rule_39 : decode cX8_rule 39 = .ok (.getfield 145, 3) := by decide +kernel
theorem dX8_rule_42 : decode cX8_rule 42 = .ok (.iload_n 1, 1) := by decide +kernel
theorem dX8_rule_43 : decode cX8_rule 43 = .ok (.invokestatic 110, 3) := by decide +kernel
theorem dX8_rule_46 : decode cX8_rule 46 = .ok (.ireturn, 1) := by decide +kernel
theorem dX8_runs_0 : decode cX8_runs 0 = .ok (.aload_n 0, 1) := by decide +kernel
theorem dX8_runs_1 : decode cX8_runs 1 = .ok (.iload_n 1, 1) := by decide +kernel
theorem dX8_runs_2 : decode cX8_runs 2 = .ok (.invokevirtual 103, 3) := by decide +kernel
theorem dX8_runs_5 : decode cX8_runs 5 = .ok (.ifCond .eq 11, 3) := by decide +kernel
theorem dX8_runs_8 : decode cX8_runs 8 = .ok (.aload_n 0, 1) := by decide +kernel
theorem dX8_runs_9 : decode cX8_runs 9 = .ok (.iload_n 2, 1) := by decide +kernel
theorem dX8_runs_10 : decode cX8_runs 10 = .ok (.invokevirtual 124, 3) := by decide +kernel
theorem dX8_runs_13 : decode cX8_runs 13 = .ok (.ifCond .ne 5, 3) := by decide +kernel
theorem dX8_runs_16 : decode cX8_runs 16 = .ok (.iconst (-1), 1) := by decide +kernel
theorem dX8_runs_17 : decode cX8_runs 17 = .ok (.ireturn, 1) := by decide +kernel
theorem dX8_runs_18 : decode cX8_runs 18 = .ok (.aload_n 0, 1) := by decide +kernel
theorem dX8_runs_19 : decode cX8_runs 19 = .ok (.getfield 33, 3) := by decide +kernel
theorem dX8_runs_22 : decode cX8_runs 22 = .ok (.getfield 118, 3) := by decide +kernel
theorem dX8_runs_25 : decode cX8_runs 25 = .ok (.iload_n 1, 1) := by decide +kernel
theorem dX8_runs_26 : decode cX8_runs 26 = .ok (.invokestatic 110, 3) := by decide +kernel
theorem dX8_runs_29 : decode cX8_runs 29 = .ok (.aload_n 0, 1) := by decide +kernel
theorem dX8_runs_30 : decode cX8_runs 30 = .ok (.getfield 19, 3) := by decide +kernel
theorem dX8_runs_33 : decode cX8_runs 33 = .ok (.getfield 130, 3) := by decide +kernel
theorem dX8_runs_36 : decode cX8_runs 36 = .ok (.iload_n 2, 1) := by decide +kernel
theorem dX8_runs_37 : decode cX8_runs 37 = .ok (.invokestatic 110, 3) := by decide +kernel
theorem dX8_runs_40 : decode cX8_runs 40 = .ok (.iadd, 1) := by decide +kernel
theorem dX8_runs_41 : decode cX8_runs 41 = .ok (.istore_n 3, 1) := by decide +kernel
theorem dX8_runs_42 : decode cX8_runs 42 = .ok (.iload_n 3, 1) := by decide +kernel
theorem dX8_runs_43 : decode cX8_runs 43 = .ok (.bipush 99, 2) := by decide +kernel
theorem dX8_runs_45 : decode cX8_runs 45 = .ok (.if_icmp .gt 19, 3) := by decide +kernel
theorem dX8_runs_48 : decode cX8_runs 48 = .ok (.aload_n 0, 1) := by decide +kernel
theorem dX8_runs_49 : decode cX8_runs 49 = .ok (.getfield 19, 3) := by decide +kernel
theorem dX8_runs_52 : decode cX8_runs 52 = .ok (.iload_n 2, 1) := by decide +kernel
theorem dX8_runs_53 : decode cX8_runs 53 = .ok (.aload_n 0, 1) := by decide +kernel
theorem dX8_runs_54 : decode cX8_runs 54 = .ok (.iload_n 1, 1) := by decide +kernel
theorem dX8_runs_55 : decode cX8_runs 55 = .ok (.invokevirtual 114, 3) := by decide +kernel
theorem dX8_runs_58 : decode cX8_runs 58 = .ok (.invokevirtual 148, 3) := by decide +kernel
theorem dX8_runs_61 : decode cX8_runs 61 = .ok (.ifCond .ne 6, 3) := by decide +kernel
theorem dX8_runs_64 : decode cX8_runs 64 = .ok (.bipush (-2), 2) := by decide +kernel
theorem dX8_runs_66 : decode cX8_runs 66 = .ok (.ireturn, 1) := by decide +kernel
theorem dX8_runs_67 : decode cX8_runs 67 = .ok (.aload_n 0, 1) := by decide +kernel
theorem dX8_runs_68 : decode cX8_runs 68 = .ok (.invokevirtual 152, 3) := by decide +kernel
theorem dX8_runs_71 : decode cX8_runs 71 = .ok (.aload_n 0, 1) := by decide +kernel
theorem dX8_runs_72 : decode cX8_runs 72 = .ok (.getfield 33, 3) := by decide +kernel
theorem dX8_runs_75 : decode cX8_runs 75 = .ok (.getfield 155, 3) := by decide +kernel
theorem dX8_runs_78 : decode cX8_runs 78 = .ok (.iload_n 1, 1) := by decide +kernel
theorem dX8_runs_79 : decode cX8_runs 79 = .ok (.aload_n 0, 1) := by decide +kernel
theorem dX8_runs_80 : decode cX8_runs 80 = .ok (.iload_n 1, 1) := by decide +kernel
theorem dX8_runs_81 : decode cX8_runs 81 = .ok (.invokevirtual 114, 3) := by decide +kernel
theorem dX8_runs_84 : decode cX8_runs 84 = .ok (.iconst 1, 1) := by decide +kernel
theorem dX8_runs_85 : decode cX8_runs 85 = .ok (.aload_n 0, 1) := by decide +kernel
theorem dX8_runs_86 : decode cX8_runs 86 = .ok (.getfield 19, 3) := by decide +kernel
theorem dX8_runs_89 : decode cX8_runs 89 = .ok (.getfield 127, 3) := by decide +kernel
theorem dX8_runs_92 : decode cX8_runs 92 = .ok (.iload_n 2, 1) := by decide +kernel
theorem dX8_runs_93 : decode cX8_runs 93 = .ok (.invokestatic 110, 3) := by decide +kernel
theorem dX8_runs_96 : decode cX8_runs 96 = .ok (.ishl, 1) := by decide +kernel
theorem dX8_runs_97 : decode cX8_runs 97 = .ok (.ior, 1) := by decide +kernel
theorem dX8_runs_98 : decode cX8_runs 98 = .ok (.invokestatic 158, 3) := by decide +kernel
theorem dX8_runs_101 : decode cX8_runs 101 = .ok (.aload_n 0, 1) := by decide +kernel
theorem dX8_runs_102 : decode cX8_runs 102 = .ok (.getfield 33, 3) := by decide +kernel
theorem dX8_runs_105 : decode cX8_runs 105 = .ok (.getfield 118, 3) := by decide +kernel
theorem dX8_runs_108 : decode cX8_runs 108 = .ok (.iload_n 1, 1) := by decide +kernel
theorem dX8_runs_109 : decode cX8_runs 109 = .ok (.iload_n 3, 1) := by decide +kernel
theorem dX8_runs_110 : decode cX8_runs 110 = .ok (.invokestatic 158, 3) := by decide +kernel
theorem dX8_runs_113 : decode cX8_runs 113 = .ok (.iload_n 3, 1) := by decide +kernel
theorem dX8_runs_114 : decode cX8_runs 114 = .ok (.ireturn, 1) := by decide +kernel
theorem dX8_knocks_0 : decode cX8_knocks 0 = .ok (.iload_n 2, 1) := by decide +kernel
theorem dX8_knocks_1 : decode cX8_knocks 1 = .ok (.bipush (-9), 2) := by decide +kernel
theorem dX8_knocks_3 : decode cX8_knocks 3 = .ok (.if_icmp .ne 7, 3) := by decide +kernel
theorem dX8_knocks_6 : decode cX8_knocks 6 = .ok (.iconst 1, 1) := by decide +kernel
theorem dX8_knocks_7 : decode cX8_knocks 7 = .ok (.goto 4, 3) := by decide +kernel
theorem dX8_knocks_10 : decode cX8_knocks 10 = .ok (.iconst 0, 1) := by decide +kernel
theorem dX8_knocks_11 : decode cX8_knocks 11 = .ok (.istore_n 3, 1) := by decide +kernel
theorem dX8_knocks_12 : decode cX8_knocks 12 = .ok (.aload_n 0, 1) := by decide +kernel
theorem dX8_knocks_13 : decode cX8_knocks 13 = .ok (.iload_n 1, 1) := by decide +kernel
theorem dX8_knocks_14 : decode cX8_knocks 14 = .ok (.invokevirtual 103, 3) := by decide +kernel
theorem dX8_knocks_17 : decode cX8_knocks 17 = .ok (.ifCond .eq 20, 3) := by decide +kernel
theorem dX8_knocks_20 : decode cX8_knocks 20 = .ok (.iload_n 1, 1) := by decide +kernel
theorem dX8_knocks_21 : decode cX8_knocks 21 = .ok (.iload_n 2, 1) := by decide +kernel
theorem dX8_knocks_22 : decode cX8_knocks 22 = .ok (.if_icmp .eq 15, 3) := by decide +kernel
theorem dX8_knocks_25 : decode cX8_knocks 25 = .ok (.iload_n 3, 1) := by decide +kernel
theorem dX8_knocks_26 : decode cX8_knocks 26 = .ok (.ifCond .ne 13, 3) := by decide +kernel
theorem dX8_knocks_29 : decode cX8_knocks 29 = .ok (.aload_n 0, 1) := by decide +kernel
theorem dX8_knocks_30 : decode cX8_knocks 30 = .ok (.iload_n 2, 1) := by decide +kernel
theorem dX8_knocks_31 : decode cX8_knocks 31 = .ok (.invokevirtual 103, 3) := by decide +kernel
theorem dX8_knocks_34 : decode cX8_knocks 34 = .ok (.ifCond .ne 5, 3) := by decide +kernel
theorem dX8_knocks_37 : decode cX8_knocks 37 = .ok (.iconst (-1), 1) := by decide +kernel
theorem dX8_knocks_38 : decode cX8_knocks 38 = .ok (.ireturn, 1) := by decide +kernel
theorem dX8_knocks_39 : decode cX8_knocks 39 = .ok (.aload_n 0, 1) := by decide +kernel
theorem dX8_knocks_40 : decode cX8_knocks 40 = .ok (.invokevirtual 152, 3) := by decide +kernel
theorem dX8_knocks_43 : decode cX8_knocks 43 = .ok (.aload_n 0, 1) := by decide +kernel
theorem dX8_knocks_44 : decode cX8_knocks 44 = .ok (.iload_n 1, 1) := by decide +kernel
theorem dX8_knocks_45 : decode cX8_knocks 45 = .ok (.invokevirtual 114, 3) := by decide +kernel
theorem dX8_knocks_48 : decode cX8_knocks 48 = .ok (.aload_n 0, 1) := by decide +kernel
theorem dX8_knocks_49 : decode cX8_knocks 49 = .ok (.getfield 19, 3) := by decide +kernel
theorem dX8_knocks_52 : decode cX8_knocks 52 = .ok (.getfield 162, 3) := by decide +kernel
theorem dX8_knocks_55 : decode cX8_knocks 55 = .ok (.iand, 1) := by decide +kernel
theorem dX8_knocks_56 : decode cX8_knocks 56 = .ok (.aload_n 0, 1) := by decide +kernel
theorem dX8_knocks_57 : decode cX8_knocks 57 = .ok (.invokevirtual 165, 3) := by decide +kernel
theorem dX8_knocks_60 : decode cX8_knocks 60 = .ok (.iand, 1) := by decide +kernel
theorem dX8_knocks_61 : decode cX8_knocks 61 = .ok (.istore 4, 2) := by decide +kernel
theorem dX8_knocks_63 : decode cX8_knocks 63 = .ok (.iload_n 3, 1) := by decide +kernel
theorem dX8_knocks_64 : decode cX8_knocks 64 = .ok (.ifCond .ne 22, 3) := by decide +kernel
theorem dX8_knocks_67 : decode cX8_knocks 67 = .ok (.aload_n 0, 1) := by decide +kernel
theorem dX8_knocks_68 : decode cX8_knocks 68 = .ok (.getfield 33, 3) := by decide +kernel
theorem dX8_knocks_71 : decode cX8_knocks 71 = .ok (.getfield 155, 3) := by decide +kernel
theorem dX8_knocks_74 : decode cX8_knocks 74 = .ok (.iload_n 2, 1) := by decide +kernel
theorem dX8_knocks_75 : decode cX8_knocks 75 = .ok (.aload_n 0, 1) := by decide +kernel
theorem dX8_knocks_76 : decode cX8_knocks 76 = .ok (.iload_n 2, 1) := by decide +kernel
theorem dX8_knocks_77 : decode cX8_knocks 77 = .ok (.invokevirtual 114, 3) := by decide +kernel
theorem dX8_knocks_80 : decode cX8_knocks 80 = .ok (.iload 4, 2) := by decide +kernel
theorem dX8_knocks_82 : decode cX8_knocks 82 = .ok (.ior, 1) := by decide +kernel
theorem dX8_knocks_83 : decode cX8_knocks 83 = .ok (.invokestatic 158, 3) := by decide +kernel
theorem dX8_knocks_86 : decode cX8_knocks 86 = .ok (.aload_n 0, 1) := by decide +kernel
theorem dX8_knocks_87 : decode cX8_knocks 87 = .ok (.aload_n 0, 1) := by decide +kernel
theorem dX8_knocks_88 : decode cX8_knocks 88 = .ok (.iload_n 1, 1) := by decide +kernel
theorem dX8_knocks_89 : decode cX8_knocks 89 = .ok (.invokevirtual 114, 3) := by decide +kernel
theorem dX8_knocks_92 : decode cX8_knocks 92 = .ok (.invokevirtual 121, 3) := by decide +kernel
theorem dX8_knocks_95 : decode cX8_knocks 95 = .ok (.ifCond .eq 7, 3) := by decide +kernel
theorem dX8_knocks_98 : decode cX8_knocks 98 = .ok (.iconst 1, 1) := by decide +kernel
theorem dX8_knocks_99 : decode cX8_knocks 99 = .ok (.goto 4, 3) := by decide +kernel
theorem dX8_knocks_102 : decode cX8_knocks 102 = .ok (.iconst 0, 1) := by decide +kernel
theorem dX8_knocks_103 : decode cX8_knocks 103 = .ok (.ireturn, 1) := by decide +kernel
theorem dX8_hoarse_0 : decode cX8_hoarse 0 = .ok (.aload_n 0, 1) := by decide +kernel
theorem dX8_hoarse_1 : decode cX8_hoarse 1 = .ok (.iload_n 1, 1) := by decide +kernel
theorem dX8_hoarse_2 : decode cX8_hoarse 2 = .ok (.invokevirtual 103, 3) := by decide +kernel
theorem dX8_hoarse_5 : decode cX8_hoarse 5 = .ok (.ifCond .eq 10, 3) := by decide +kernel
theorem dX8_hoarse_8 : decode cX8_hoarse 8 = .ok (.iload_n 2, 1) := by decide +kernel
theorem dX8_hoarse_9 : decode cX8_hoarse 9 = .ok (.invokestatic 169, 3) := by decide +kernel
theorem dX8_hoarse_12 : decode cX8_hoarse 12 = .ok (.ifCond .ne 5, 3) := by decide +kernel
theorem dX8_hoarse_15 : decode cX8_hoarse 15 = .ok (.iconst (-1), 1) := by decide +kernel
theorem dX8_hoarse_16 : decode cX8_hoarse 16 = .ok (.ireturn, 1) := by decide +kernel
theorem dX8_hoarse_17 : decode cX8_hoarse 17 = .ok (.aload_n 0, 1) := by decide +kernel
theorem dX8_hoarse_18 : decode cX8_hoarse 18 = .ok (.iload_n 1, 1) := by decide +kernel
theorem dX8_hoarse_19 : decode cX8_hoarse 19 = .ok (.invokevirtual 114, 3) := by decide +kernel
theorem dX8_hoarse_22 : decode cX8_hoarse 22 = .ok (.iload_n 2, 1) := by decide +kernel
theorem dX8_hoarse_23 : decode cX8_hoarse 23 = .ok (.invokestatic 172, 3) := by decide +kernel
theorem dX8_hoarse_26 : decode cX8_hoarse 26 = .ok (.ifCond .ne 6, 3) := by decide +kernel
theorem dX8_hoarse_29 : decode cX8_hoarse 29 = .ok (.bipush (-2), 2) := by decide +kernel
theorem dX8_hoarse_31 : decode cX8_hoarse 31 = .ok (.ireturn, 1) := by decide +kernel
theorem dX8_hoarse_32 : decode cX8_hoarse 32 = .ok (.aload_n 0, 1) := by decide +kernel
theorem dX8_hoarse_33 : decode cX8_hoarse 33 = .ok (.invokevirtual 152, 3) := by decide +kernel
theorem dX8_hoarse_36 : decode cX8_hoarse 36 = .ok (.aload_n 0, 1) := by decide +kernel
theorem dX8_hoarse_37 : decode cX8_hoarse 37 = .ok (.getfield 33, 3) := by decide +kernel
theorem dX8_hoarse_40 : decode cX8_hoarse 40 = .ok (.getfield 155, 3) := by decide +kernel
theorem dX8_hoarse_43 : decode cX8_hoarse 43 = .ok (.iload_n 1, 1) := by decide +kernel
theorem dX8_hoarse_44 : decode cX8_hoarse 44 = .ok (.aload_n 0, 1) := by decide +kernel
theorem dX8_hoarse_45 : decode cX8_hoarse 45 = .ok (.iload_n 1, 1) := by decide +kernel
theorem dX8_hoarse_46 : decode cX8_hoarse 46 = .ok (.invokevirtual 114, 3) := by decide +kernel
theorem dX8_hoarse_49 : decode cX8_hoarse 49 = .ok (.iconst 1, 1) := by decide +kernel
theorem dX8_hoarse_50 : decode cX8_hoarse 50 = .ok (.iload_n 2, 1) := by decide +kernel
theorem dX8_hoarse_51 : decode cX8_hoarse 51 = .ok (.ishl, 1) := by decide +kernel
theorem dX8_hoarse_52 : decode cX8_hoarse 52 = .ok (.iconst (-1), 1) := by decide +kernel
theorem dX8_hoarse_53 : decode cX8_hoarse 53 = .ok (.ixor, 1) := by decide +kernel
theorem dX8_hoarse_54 : decode cX8_hoarse 54 = .ok (.iand, 1) := by decide +kernel
theorem dX8_hoarse_55 : decode cX8_hoarse 55 = .ok (.invokestatic 158, 3) := by decide +kernel
theorem dX8_hoarse_58 : decode cX8_hoarse 58 = .ok (.aload_n 0, 1) := by decide +kernel
theorem dX8_hoarse_59 : decode cX8_hoarse 59 = .ok (.iload_n 1, 1) := by decide +kernel
theorem dX8_hoarse_60 : decode cX8_hoarse 60 = .ok (.invokevirtual 114, 3) := by decide +kernel
theorem dX8_hoarse_63 : decode cX8_hoarse 63 = .ok (.invokestatic 175, 3) := by decide +kernel
theorem dX8_hoarse_66 : decode cX8_hoarse 66 = .ok (.ireturn, 1) := by decide +kernel
theorem dX8_change_0 : decode cX8_change 0 = .ok (.aload_n 0, 1) := by decide +kernel
theorem dX8_change_1 : decode cX8_change 1 = .ok (.iload_n 1, 1) := by decide +kernel
theorem dX8_change_2 : decode cX8_change 2 = .ok (.invokevirtual 136, 3) := by decide +kernel
theorem dX8_change_5 : decode cX8_change 5 = .ok (.ifCond .eq 15, 3) := by decide +kernel
theorem dX8_change_8 : decode cX8_change 8 = .ok (.iload_n 2, 1) := by decide +kernel
theorem dX8_change_9 : decode cX8_change 9 = .ok (.iconst 1, 1) := by decide +kernel
theorem dX8_change_10 : decode cX8_change 10 = .ok (.if_icmp .lt 10, 3) := by decide +kernel
theorem dX8_change_13 : decode cX8_change 13 = .ok (.iload_n 2, 1) := by decide +kernel
theorem dX8_change_14 : decode cX8_change 14 = .ok (.sipush 255, 3) := by decide +kernel
theorem dX8_change_17 : decode cX8_change 17 = .ok (.if_icmp .le 5, 3) := by decide +kernel
theorem dX8_change_20 : decode cX8_change 20 = .ok (.iconst (-1), 1) := by decide +kernel
theorem dX8_change_21 : decode cX8_change 21 = .ok (.ireturn, 1) := by decide +kernel
theorem dX8_change_22 : decode cX8_change 22 = .ok (.iload_n 3, 1) := by decide +kernel
theorem dX8_change_23 : decode cX8_change 23 = .ok (.iconst 1, 1) := by decide +kernel
theorem dX8_change_24 : decode cX8_change 24 = .ok (.if_icmp .lt 11, 3) := by decide +kernel
theorem dX8_change_27 : decode cX8_change 27 = .ok (.iload_n 3, 1) := by decide +kernel
theorem dX8_change_28 : decode cX8_change 28 = .ok (.iload_n 2, 1) := by decide +kernel
theorem dX8_change_29 : decode cX8_change 29 = .ok (.invokestatic 175, 3) := by decide +kernel
theorem dX8_change_32 : decode cX8_change 32 = .ok (.if_icmp .le 5, 3) := by decide +kernel
theorem dX8_change_35 : decode cX8_change 35 = .ok (.iconst (-1), 1) := by decide +kernel
theorem dX8_change_36 : decode cX8_change 36 = .ok (.ireturn, 1) := by decide +kernel
theorem dX8_change_37 : decode cX8_change 37 = .ok (.aload_n 0, 1) := by decide +kernel
theorem dX8_change_38 : decode cX8_change 38 = .ok (.invokevirtual 152, 3) := by decide +kernel
theorem dX8_change_41 : decode cX8_change 41 = .ok (.aload_n 0, 1) := by decide +kernel
theorem dX8_change_42 : decode cX8_change 42 = .ok (.getfield 33, 3) := by decide +kernel
theorem dX8_change_45 : decode cX8_change 45 = .ok (.getfield 142, 3) := by decide +kernel
theorem dX8_change_48 : decode cX8_change 48 = .ok (.iload_n 1, 1) := by decide +kernel
theorem dX8_change_49 : decode cX8_change 49 = .ok (.iload_n 2, 1) := by decide +kernel
theorem dX8_change_50 : decode cX8_change 50 = .ok (.invokestatic 158, 3) := by decide +kernel
theorem dX8_change_53 : decode cX8_change 53 = .ok (.aload_n 0, 1) := by decide +kernel
theorem dX8_change_54 : decode cX8_change 54 = .ok (.getfield 33, 3) := by decide +kernel
theorem dX8_change_57 : decode cX8_change 57 = .ok (.getfield 145, 3) := by decide +kernel
theorem dX8_change_60 : decode cX8_change 60 = .ok (.iload_n 1, 1) := by decide +kernel
theorem dX8_change_61 : decode cX8_change 61 = .ok (.iload_n 3, 1) := by decide +kernel
theorem dX8_change_62 : decode cX8_change 62 = .ok (.invokestatic 158, 3) := by decide +kernel
theorem dX8_change_65 : decode cX8_change 65 = .ok (.aload_n 0, 1) := by decide +kernel
theorem dX8_change_66 : decode cX8_change 66 = .ok (.invokevirtual 180, 3) := by decide +kernel
theorem dX8_change_69 : decode cX8_change 69 = .ok (.invokestatic 175, 3) := by decide +kernel
theorem dX8_change_72 : decode cX8_change 72 = .ok (.ireturn, 1) := by decide +kernel
theorem dX8_undo_0 : decode cX8_undo 0 = .ok (.aload_n 0, 1) := by decide +kernel
theorem dX8_undo_1 : decode cX8_undo 1 = .ok (.getfield 94, 3) := by decide +kernel
theorem dX8_undo_4 : decode cX8_undo 4 = .ok (.ifCond .ne 6, 3) := by decide +kernel
theorem dX8_undo_7 : decode cX8_undo 7 = .ok (.bipush (-2), 2) := by decide +kernel
theorem dX8_undo_9 : decode cX8_undo 9 = .ok (.ireturn, 1) := by decide +kernel
theorem dX8_undo_10 : decode cX8_undo 10 = .ok (.aload_n 0, 1) := by decide +kernel
theorem dX8_undo_11 : decode cX8_undo 11 = .ok (.dup, 1) := by decide +kernel
theorem dX8_undo_12 : decode cX8_undo 12 = .ok (.getfield 94, 3) := by decide +kernel
theorem dX8_undo_15 : decode cX8_undo 15 = .ok (.iconst 1, 1) := by decide +kernel
theorem dX8_undo_16 : decode cX8_undo 16 = .ok (.isub, 1) := by decide +kernel
theorem dX8_undo_17 : decode cX8_undo 17 = .ok (.putfield 94, 3) := by decide +kernel
theorem dX8_undo_20 : decode cX8_undo 20 = .ok (.aload_n 0, 1) := by decide +kernel
theorem dX8_undo_21 : decode cX8_undo 21 = .ok (.aload_n 0, 1) := by decide +kernel
theorem dX8_undo_22 : decode cX8_undo 22 = .ok (.getfield 183, 3) := by decide +kernel
theorem dX8_undo_25 : decode cX8_undo 25 = .ok (.ifCond .ne 8, 3) := by decide +kernel
theorem dX8_undo_28 : decode cX8_undo 28 = .ok (.bipush 9, 2) := by decide +kernel
theorem dX8_undo_30 : decode cX8_undo 30 = .ok (.goto 9, 3) := by decide +kernel
theorem dX8_undo_33 : decode cX8_undo 33 = .ok (.aload_n 0, 1) := by decide +kernel
theorem dX8_undo_34 : decode cX8_undo 34 = .ok (.getfield 183, 3) := by decide +kernel
theorem dX8_undo_37 : decode cX8_undo 37 = .ok (.iconst 1, 1) := by decide +kernel
theorem dX8_undo_38 : decode cX8_undo 38 = .ok (.isub, 1) := by decide +kernel
theorem dX8_undo_39 : decode cX8_undo 39 = .ok (.putfield 183, 3) := by decide +kernel
theorem dX8_undo_42 : decode cX8_undo 42 = .ok (.aload_n 0, 1) := by decide +kernel
theorem dX8_undo_43 : decode cX8_undo 43 = .ok (.getfield 42, 3) := by decide +kernel
theorem dX8_undo_46 : decode cX8_undo 46 = .ok (.aload_n 0, 1) := by decide +kernel
theorem dX8_undo_47 : decode cX8_undo 47 = .ok (.getfield 183, 3) := by decide +kernel
theorem dX8_undo_50 : decode cX8_undo 50 = .ok (.aload_n 0, 1) := by decide +kernel
theorem dX8_undo_51 : decode cX8_undo 51 = .ok (.getfield 33, 3) := by decide +kernel
theorem dX8_undo_54 : decode cX8_undo 54 = .ok (.invokevirtual 186, 3) := by decide +kernel
theorem dX8_undo_57 : decode cX8_undo 57 = .ok (.aload_n 0, 1) := by decide +kernel
theorem dX8_undo_58 : decode cX8_undo 58 = .ok (.getfield 94, 3) := by decide +kernel
theorem dX8_undo_61 : decode cX8_undo 61 = .ok (.ireturn, 1) := by decide +kernel
theorem dX8_now_0 : decode cX8_now 0 = .ok (.iload_n 1, 1) := by decide +kernel
theorem dX8_now_1 : decode cX8_now 1 = .ok (.tableswitch 77 0 4 #[35, 40, 52, 64, 69], 35) := by decide +kernel
theorem dX8_now_36 : decode cX8_now 36 = .ok (.aload_n 0, 1) := by decide +kernel
theorem dX8_now_37 : decode cX8_now 37 = .ok (.invokevirtual 180, 3) := by decide +kernel
theorem dX8_now_40 : decode cX8_now 40 = .ok (.ireturn, 1) := by decide +kernel
theorem dX8_now_41 : decode cX8_now 41 = .ok (.aload_n 0, 1) := by decide +kernel
theorem dX8_now_42 : decode cX8_now 42 = .ok (.invokevirtual 180, 3) := by decide +kernel
theorem dX8_now_45 : decode cX8_now 45 = .ok (.aload_n 0, 1) := by decide +kernel
theorem dX8_now_46 : decode cX8_now 46 = .ok (.invokevirtual 190, 3) := by decide +kernel
theorem dX8_now_49 : decode cX8_now 49 = .ok (.iconst (-1), 1) := by decide +kernel
theorem dX8_now_50 : decode cX8_now 50 = .ok (.ixor, 1) := by decide +kernel
theorem dX8_now_51 : decode cX8_now 51 = .ok (.iand, 1) := by decide +kernel
theorem dX8_now_52 : decode cX8_now 52 = .ok (.ireturn, 1) := by decide +kernel
theorem dX8_now_53 : decode cX8_now 53 = .ok (.aload_n 0, 1) := by decide +kernel
theorem dX8_now_54 : decode cX8_now 54 = .ok (.invokevirtual 190, 3) := by decide +kernel
theorem dX8_now_57 : decode cX8_now 57 = .ok (.aload_n 0, 1) := by decide +kernel
theorem dX8_now_58 : decode cX8_now 58 = .ok (.invokevirtual 180, 3) := by decide +kernel
theorem dX8_now_61 : decode cX8_now 61 = .ok (.iconst (-1), 1) := by decide +kernel
theorem dX8_now_62 : decode cX8_now 62 = .ok (.ixor, 1) := by decide +kernel
theorem dX8_now_63 : decode cX8_now 63 = .ok (.iand, 1) := by decide +kernel
theorem dX8_now_64 : decode cX8_now 64 = .ok (.ireturn, 1) := by decide +kernel
theorem dX8_now_65 : decode cX8_now 65 = .ok (.aload_n 0, 1) := by decide +kernel
theorem dX8_now_66 : decode cX8_now 66 = .ok (.getfield 94, 3) := by decide +kernel
theorem dX8_now_69 : decode cX8_now 69 = .ok (.ireturn, 1) := by decide +kernel
theorem dX8_now_70 : decode cX8_now 70 = .ok (.aload_n 0, 1) := by decide +kernel
theorem dX8_now_71 : decode cX8_now 71 = .ok (.getfield 19, 3) := by decide +kernel
theorem dX8_now_74 : decode cX8_now 74 = .ok (.getfield 162, 3) := by decide +kernel
theorem dX8_now_77 : decode cX8_now 77 = .ok (.ireturn, 1) := by decide +kernel
theorem dX8_now_78 : decode cX8_now 78 = .ok (.iconst (-1), 1) := by decide +kernel
theorem dX8_now_79 : decode cX8_now 79 = .ok (.ireturn, 1) := by decide +kernel
theorem dX8_soonest_0 : decode cX8_soonest 0 = .ok (.aload_n 0, 1) := by decide +kernel
theorem dX8_soonest_1 : decode cX8_soonest 1 = .ok (.iload_n 1, 1) := by decide +kernel
theorem dX8_soonest_2 : decode cX8_soonest 2 = .ok (.invokevirtual 103, 3) := by decide +kernel
theorem dX8_soonest_5 : decode cX8_soonest 5 = .ok (.ifCond .eq 10, 3) := by decide +kernel
theorem dX8_soonest_8 : decode cX8_soonest 8 = .ok (.iload_n 2, 1) := by decide +kernel
theorem dX8_soonest_9 : decode cX8_soonest 9 = .ok (.invokestatic 139, 3) := by decide +kernel
theorem dX8_soonest_12 : decode cX8_soonest 12 = .ok (.ifCond .ne 5, 3) := by decide +kernel
theorem dX8_soonest_15 : decode cX8_soonest 15 = .ok (.iconst (-1), 1) := by decide +kernel
theorem dX8_soonest_16 : decode cX8_soonest 16 = .ok (.ireturn, 1) := by decide +kernel
theorem dX8_soonest_17 : decode cX8_soonest 17 = .ok (.aload_n 0, 1) := by decide +kernel
theorem dX8_soonest_18 : decode cX8_soonest 18 = .ok (.iload_n 1, 1) := by decide +kernel
theorem dX8_soonest_19 : decode cX8_soonest 19 = .ok (.iconst 0, 1) := by decide +kernel
theorem dX8_soonest_20 : decode cX8_soonest 20 = .ok (.invokevirtual 193, 3) := by decide +kernel
theorem dX8_soonest_23 : decode cX8_soonest 23 = .ok (.istore_n 3, 1) := by decide +kernel
theorem dX8_soonest_24 : decode cX8_soonest 24 = .ok (.iload_n 3, 1) := by decide +kernel
theorem dX8_soonest_25 : decode cX8_soonest 25 = .ok (.ifCond .ge 6, 3) := by decide +kernel
theorem dX8_soonest_28 : decode cX8_soonest 28 = .ok (.bipush (-9), 2) := by decide +kernel
theorem dX8_soonest_30 : decode cX8_soonest 30 = .ok (.ireturn, 1) := by decide +kernel
theorem dX8_soonest_31 : decode cX8_soonest 31 = .ok (.iload_n 2, 1) := by decide +kernel
theorem dX8_soonest_32 : decode cX8_soonest 32 = .ok (.ifCond .ne 17, 3) := by decide +kernel
theorem dX8_soonest_35 : decode cX8_soonest 35 = .ok (.aload_n 0, 1) := by decide +kernel
theorem dX8_soonest_36 : decode cX8_soonest 36 = .ok (.getfield 52, 3) := by decide +kernel
theorem dX8_soonest_39 : decode cX8_soonest 39 = .ok (.getfield 197, 3) := by decide +kernel
theorem dX8_soonest_42 : decode cX8_soonest 42 = .ok (.iload_n 3, 1) := by decide +kernel
theorem dX8_soonest_43 : decode cX8_soonest 43 = .ok (.invokestatic 110, 3) := by decide +kernel
theorem dX8_soonest_46 : decode cX8_soonest 46 = .ok (.goto 4, 3) := by decide +kernel
theorem dX8_soonest_49 : decode cX8_soonest 49 = .ok (.iload_n 3, 1) := by decide +kernel
theorem dX8_soonest_50 : decode cX8_soonest 50 = .ok (.ireturn, 1) := by decide +kernel
theorem dX8_bar_0 : decode cX8_bar 0 = .ok (.aload_n 0, 1) := by decide +kernel
theorem dX8_bar_1 : decode cX8_bar 1 = .ok (.iload_n 1, 1) := by decide +kernel
theorem dX8_bar_2 : decode cX8_bar 2 = .ok (.invokevirtual 103, 3) := by decide +kernel
theorem dX8_bar_5 : decode cX8_bar 5 = .ok (.ifCond .eq 10, 3) := by decide +kernel
theorem dX8_bar_8 : decode cX8_bar 8 = .ok (.iload_n 2, 1) := by decide +kernel
theorem dX8_bar_9 : decode cX8_bar 9 = .ok (.invokestatic 198, 3) := by decide +kernel
theorem dX8_bar_12 : decode cX8_bar 12 = .ok (.ifCond .ne 5, 3) := by decide +kernel
theorem dX8_bar_15 : decode cX8_bar 15 = .ok (.iconst (-1), 1) := by decide +kernel
theorem dX8_bar_16 : decode cX8_bar 16 = .ok (.ireturn, 1) := by decide +kernel
theorem dX8_bar_17 : decode cX8_bar 17 = .ok (.aload_n 0, 1) := by decide +kernel
theorem dX8_bar_18 : decode cX8_bar 18 = .ok (.iload_n 1, 1) := by decide +kernel
theorem dX8_bar_19 : decode cX8_bar 19 = .ok (.iconst 0, 1) := by decide +kernel
theorem dX8_bar_20 : decode cX8_bar 20 = .ok (.iload_n 2, 1) := by decide +kernel
theorem dX8_bar_21 : decode cX8_bar 21 = .ok (.invokevirtual 201, 3) := by decide +kernel
theorem dX8_bar_24 : decode cX8_bar 24 = .ok (.ifCond .ne 6, 3) := by decide +kernel
theorem dX8_bar_27 : decode cX8_bar 27 = .ok (.bipush (-5), 2) := by decide +kernel
theorem dX8_bar_29 : decode cX8_bar 29 = .ok (.ireturn, 1) := by decide +kernel
theorem dX8_bar_30 : decode cX8_bar 30 = .ok (.iconst 0, 1) := by decide +kernel
theorem dX8_bar_31 : decode cX8_bar 31 = .ok (.istore_n 3, 1) := by decide +kernel
theorem dX8_bar_32 : decode cX8_bar 32 = .ok (.iload_n 3, 1) := by decide +kernel
theorem dX8_bar_33 : decode cX8_bar 33 = .ok (.aload_n 0, 1) := by decide +kernel
theorem dX8_bar_34 : decode cX8_bar 34 = .ok (.getfield 19, 3) := by decide +kernel
theorem dX8_bar_37 : decode cX8_bar 37 = .ok (.getfield 205, 3) := by decide +kernel
theorem dX8_bar_40 : decode cX8_bar 40 = .ok (.if_icmp .ge 23, 3) := by decide +kernel
theorem dX8_bar_43 : decode cX8_bar 43 = .ok (.aload_n 0, 1) := by decide +kernel
theorem dX8_bar_44 : decode cX8_bar 44 = .ok (.iload_n 1, 1) := by decide +kernel
theorem dX8_bar_45 : decode cX8_bar 45 = .ok (.iconst 1, 1) := by decide +kernel
theorem dX8_bar_46 : decode cX8_bar 46 = .ok (.iload_n 3, 1) := by decide +kernel
theorem dX8_bar_47 : decode cX8_bar 47 = .ok (.ishl, 1) := by decide +kernel
theorem dX8_bar_48 : decode cX8_bar 48 = .ok (.iload_n 2, 1) := by decide +kernel
theorem dX8_bar_49 : decode cX8_bar 49 = .ok (.invokevirtual 201, 3) := by decide +kernel
theorem dX8_bar_52 : decode cX8_bar 52 = .ok (.ifCond .ne 5, 3) := by decide +kernel
theorem dX8_bar_55 : decode cX8_bar 55 = .ok (.iload_n 3, 1) := by decide +kernel
theorem dX8_bar_56 : decode cX8_bar 56 = .ok (.ireturn, 1) := by decide +kernel
theorem dX8_bar_57 : decode cX8_bar 57 = .ok (.iinc 3 1, 3) := by decide +kernel
theorem dX8_bar_60 : decode cX8_bar 60 = .ok (.goto (-28), 3) := by decide +kernel
theorem dX8_bar_63 : decode cX8_bar 63 = .ok (.bipush (-9), 2) := by decide +kernel
theorem dX8_bar_65 : decode cX8_bar 65 = .ok (.ireturn, 1) := by decide +kernel
theorem dX8_ask_0 : decode cX8_ask 0 = .ok (.iload_n 1, 1) := by decide +kernel
theorem dX8_ask_1 : decode cX8_ask 1 = .ok (.invokestatic 139, 3) := by decide +kernel
theorem dX8_ask_4 : decode cX8_ask 4 = .ok (.ifCond .ne 5, 3) := by decide +kernel
theorem dX8_ask_7 : decode cX8_ask 7 = .ok (.iconst (-1), 1) := by decide +kernel
theorem dX8_ask_8 : decode cX8_ask 8 = .ok (.ireturn, 1) := by decide +kernel
theorem dX8_ask_9 : decode cX8_ask 9 = .ok (.aload_n 0, 1) := by decide +kernel
theorem dX8_ask_10 : decode cX8_ask 10 = .ok (.iconst 0, 1) := by decide +kernel
theorem dX8_ask_11 : decode cX8_ask 11 = .ok (.iload_n 1, 1) := by decide +kernel
theorem dX8_ask_12 : decode cX8_ask 12 = .ok (.invokevirtual 208, 3) := by decide +kernel
theorem dX8_ask_15 : decode cX8_ask 15 = .ok (.ireturn, 1) := by decide +kernel
theorem dX8_safe_0 : decode cX8_safe 0 = .ok (.iload_n 1, 1) := by decide +kernel
theorem dX8_safe_1 : decode cX8_safe 1 = .ok (.invokestatic 198, 3) := by decide +kernel
theorem dX8_safe_4 : decode cX8_safe 4 = .ok (.ifCond .eq 10, 3) := by decide +kernel
theorem dX8_safe_7 : decode cX8_safe 7 = .ok (.iload_n 2, 1) := by decide +kernel
theorem dX8_safe_8 : decode cX8_safe 8 = .ok (.invokestatic 139, 3) := by decide +kernel
theorem dX8_safe_11 : decode cX8_safe 11 = .ok (.ifCond .ne 5, 3) := by decide +kernel
theorem dX8_safe_14 : decode cX8_safe 14 = .ok (.iconst (-1), 1) := by decide +kernel
theorem dX8_safe_15 : decode cX8_safe 15 = .ok (.ireturn, 1) := by decide +kernel
theorem dX8_safe_16 : decode cX8_safe 16 = .ok (.aload_n 0, 1) := by decide +kernel
theorem dX8_safe_17 : decode cX8_safe 17 = .ok (.iload_n 1, 1) := by decide +kernel
theorem dX8_safe_18 : decode cX8_safe 18 = .ok (.iload_n 2, 1) := by decide +kernel
theorem dX8_safe_19 : decode cX8_safe 19 = .ok (.invokevirtual 208, 3) := by decide +kernel
theorem dX8_safe_22 : decode cX8_safe 22 = .ok (.ireturn, 1) := by decide +kernel
theorem dX8_odds_0 : decode cX8_odds 0 = .ok (.aload_n 0, 1) := by decide +kernel
theorem dX8_odds_1 : decode cX8_odds 1 = .ok (.iload_n 1, 1) := by decide +kernel
theorem dX8_odds_2 : decode cX8_odds 2 = .ok (.invokevirtual 103, 3) := by decide +kernel
theorem dX8_odds_5 : decode cX8_odds 5 = .ok (.ifCond .eq 20, 3) := by decide +kernel
theorem dX8_odds_8 : decode cX8_odds 8 = .ok (.iload_n 2, 1) := by decide +kernel
theorem dX8_odds_9 : decode cX8_odds 9 = .ok (.ifCond .lt 16, 3) := by decide +kernel
theorem dX8_odds_12 : decode cX8_odds 12 = .ok (.iload_n 2, 1) := by decide +kernel
theorem dX8_odds_13 : decode cX8_odds 13 = .ok (.bipush 10, 2) := by decide +kernel
theorem dX8_odds_15 : decode cX8_odds 15 = .ok (.if_icmp .gt 10, 3) := by decide +kernel
theorem dX8_odds_18 : decode cX8_odds 18 = .ok (.iload_n 3, 1) := by decide +kernel
theorem dX8_odds_19 : decode cX8_odds 19 = .ok (.invokestatic 139, 3) := by decide +kernel
theorem dX8_odds_22 : decode cX8_odds 22 = .ok (.ifCond .ne 7, 3) := by decide +kernel
theorem dX8_odds_25 : decode cX8_odds 25 = .ok (.ldc2_w 211, 3) := by decide +kernel
theorem dX8_odds_28 : decode cX8_odds 28 = .ok (.lreturn, 1) := by decide +kernel
theorem dX8_odds_29 : decode cX8_odds 29 = .ok (.aload_n 0, 1) := by decide +kernel
theorem dX8_odds_30 : decode cX8_odds 30 = .ok (.iload_n 1, 1) := by decide +kernel
theorem dX8_odds_31 : decode cX8_odds 31 = .ok (.invokevirtual 114, 3) := by decide +kernel
theorem dX8_odds_34 : decode cX8_odds 34 = .ok (.istore 4, 2) := by decide +kernel
theorem dX8_odds_36 : decode cX8_odds 36 = .ok (.iload 4, 2) := by decide +kernel
theorem dX8_odds_38 : decode cX8_odds 38 = .ok (.invokestatic 175, 3) := by decide +kernel
theorem dX8_odds_41 : decode cX8_odds 41 = .ok (.istore 5, 2) := by decide +kernel
theorem dX8_odds_43 : decode cX8_odds 43 = .ok (.lconst 0, 1) := by decide +kernel
theorem dX8_odds_44 : decode cX8_odds 44 = .ok (.lstore 6, 2) := by decide +kernel
theorem dX8_odds_46 : decode cX8_odds 46 = .ok (.iconst 0, 1) := by decide +kernel
theorem dX8_odds_47 : decode cX8_odds 47 = .ok (.istore 8, 2) := by decide +kernel
theorem dX8_odds_49 : decode cX8_odds 49 = .ok (.iload 8, 2) := by decide +kernel
theorem dX8_odds_51 : decode cX8_odds 51 = .ok (.sipush 255, 3) := by decide +kernel
theorem dX8_odds_54 : decode cX8_odds 54 = .ok (.if_icmp .gt 62, 3) := by decide +kernel
theorem dX8_odds_57 : decode cX8_odds 57 = .ok (.iload 8, 2) := by decide +kernel
theorem dX8_odds_59 : decode cX8_odds 59 = .ok (.iload 4, 2) := by decide +kernel
theorem dX8_odds_61 : decode cX8_odds 61 = .ok (.iconst (-1), 1) := by decide +kernel
theorem dX8_odds_62 : decode cX8_odds 62 = .ok (.ixor, 1) := by decide +kernel
theorem dX8_odds_63 : decode cX8_odds 63 = .ok (.iand, 1) := by decide +kernel
theorem dX8_odds_64 : decode cX8_odds 64 = .ok (.ifCond .ne 46, 3) := by decide +kernel
theorem dX8_odds_67 : decode cX8_odds 67 = .ok (.aload_n 0, 1) := by decide +kernel
theorem dX8_odds_68 : decode cX8_odds 68 = .ok (.iload 8, 2) := by decide +kernel
theorem dX8_odds_70 : decode cX8_odds 70 = .ok (.invokevirtual 121, 3) := by decide +kernel
theorem dX8_odds_73 : decode cX8_odds 73 = .ok (.ifCond .ne 6, 3) := by decide +kernel
theorem dX8_odds_76 : decode cX8_odds 76 = .ok (.goto 34, 3) := by decide +kernel
theorem dX8_odds_79 : decode cX8_odds 79 = .ok (.iload 8, 2) := by decide +kernel
theorem dX8_odds_81 : decode cX8_odds 81 = .ok (.invokestatic 175, 3) := by decide +kernel
theorem dX8_odds_84 : decode cX8_odds 84 = .ok (.istore 9, 2) := by decide +kernel
theorem dX8_odds_86 : decode cX8_odds 86 = .ok (.lload 6, 2) := by decide +kernel
theorem dX8_odds_88 : decode cX8_odds 88 = .ok (.bipush 10, 2) := by decide +kernel
theorem dX8_odds_90 : decode cX8_odds 90 = .ok (.iload_n 2, 1) := by decide +kernel
theorem dX8_odds_91 : decode cX8_odds 91 = .ok (.isub, 1) := by decide +kernel
theorem dX8_odds_92 : decode cX8_odds 92 = .ok (.iload 9, 2) := by decide +kernel
theorem dX8_odds_94 : decode cX8_odds 94 = .ok (.invokestatic 213, 3) := by decide +kernel
theorem dX8_odds_97 : decode cX8_odds 97 = .ok (.iload_n 2, 1) := by decide +kernel
theorem dX8_odds_98 : decode cX8_odds 98 = .ok (.iload 5, 2) := by decide +kernel
theorem dX8_odds_100 : decode cX8_odds 100 = .ok (.iload 9, 2) := by decide +kernel
theorem dX8_odds_102 : decode cX8_odds 102 = .ok (.isub, 1) := by decide +kernel
theorem dX8_odds_103 : decode cX8_odds 103 = .ok (.invokestatic 213, 3) := by decide +kernel
theorem dX8_odds_106 : decode cX8_odds 106 = .ok (.lmul, 1) := by decide +kernel
theorem dX8_odds_107 : decode cX8_odds 107 = .ok (.ladd, 1) := by decide +kernel
theorem dX8_odds_108 : decode cX8_odds 108 = .ok (.lstore 6, 2) := by decide +kernel
theorem dX8_odds_110 : decode cX8_odds 110 = .ok (.iinc 8 1, 3) := by decide +kernel
theorem dX8_odds_113 : decode cX8_odds 113 = .ok (.goto (-64), 3) := by decide +kernel
theorem dX8_odds_116 : decode cX8_odds 116 = .ok (.bipush 10, 2) := by decide +kernel
theorem dX8_odds_118 : decode cX8_odds 118 = .ok (.iload 5, 2) := by decide +kernel
theorem dX8_odds_120 : decode cX8_odds 120 = .ok (.invokestatic 213, 3) := by decide +kernel
theorem dX8_odds_123 : decode cX8_odds 123 = .ok (.lstore 8, 2) := by decide +kernel
theorem dX8_odds_125 : decode cX8_odds 125 = .ok (.lconst 1, 1) := by decide +kernel
theorem dX8_odds_126 : decode cX8_odds 126 = .ok (.lload 6, 2) := by decide +kernel
theorem dX8_odds_128 : decode cX8_odds 128 = .ok (.lload 8, 2) := by decide +kernel
theorem dX8_odds_130 : decode cX8_odds 130 = .ok (.invokestatic 217, 3) := by decide +kernel
theorem dX8_odds_133 : decode cX8_odds 133 = .ok (.invokestatic 221, 3) := by decide +kernel
theorem dX8_odds_136 : decode cX8_odds 136 = .ok (.lstore 10, 2) := by decide +kernel
theorem dX8_odds_138 : decode cX8_odds 138 = .ok (.iload_n 3, 1) := by decide +kernel
theorem dX8_odds_139 : decode cX8_odds 139 = .ok (.ifCond .ne 11, 3) := by decide +kernel
theorem dX8_odds_142 : decode cX8_odds 142 = .ok (.lload 6, 2) := by decide +kernel
theorem dX8_odds_144 : decode cX8_odds 144 = .ok (.lload 10, 2) := by decide +kernel
theorem dX8_odds_146 : decode cX8_odds 146 = .ok (.ldiv, 1) := by decide +kernel
theorem dX8_odds_147 : decode cX8_odds 147 = .ok (.goto 8, 3) := by decide +kernel
theorem dX8_odds_150 : decode cX8_odds 150 = .ok (.lload 8, 2) := by decide +kernel
theorem dX8_odds_152 : decode cX8_odds 152 = .ok (.lload 10, 2) := by decide +kernel
theorem dX8_odds_154 : decode cX8_odds 154 = .ok (.ldiv, 1) := by decide +kernel
theorem dX8_odds_155 : decode cX8_odds 155 = .ok (.lreturn, 1) := by decide +kernel
theorem dX8_shown_0 : decode cX8_shown 0 = .ok (.iload_n 1, 1) := by decide +kernel
theorem dX8_shown_1 : decode cX8_shown 1 = .ok (.invokestatic 169, 3) := by decide +kernel
theorem dX8_shown_4 : decode cX8_shown 4 = .ok (.ifCond .eq 10, 3) := by decide +kernel
theorem dX8_shown_7 : decode cX8_shown 7 = .ok (.iload_n 2, 1) := by decide +kernel
theorem dX8_shown_8 : decode cX8_shown 8 = .ok (.invokestatic 139, 3) := by decide +kernel
theorem dX8_shown_11 : decode cX8_shown 11 = .ok (.ifCond .ne 5, 3) := by decide +kernel
theorem dX8_shown_14 : decode cX8_shown 14 = .ok (.iconst (-1), 1) := by decide +kernel
theorem dX8_shown_15 : decode cX8_shown 15 = .ok (.ireturn, 1) := by decide +kernel
theorem dX8_shown_16 : decode cX8_shown 16 = .ok (.aload_n 0, 1) := by decide +kernel
theorem dX8_shown_17 : decode cX8_shown 17 = .ok (.getfield 100, 3) := by decide +kernel
theorem dX8_shown_20 : decode cX8_shown 20 = .ok (.bipush 6, 2) := by decide +kernel
theorem dX8_shown_22 : decode cX8_shown 22 = .ok (.if_icmp .lt 6, 3) := by decide +kernel
theorem dX8_shown_25 : decode cX8_shown 25 = .ok (.bipush (-3), 2) := by decide +kernel
theorem dX8_shown_27 : decode cX8_shown 27 = .ok (.ireturn, 1) := by decide +kernel
theorem dX8_shown_28 : decode cX8_shown 28 = .ok (.aload_n 0, 1) := by decide +kernel
theorem dX8_shown_29 : decode cX8_shown 29 = .ok (.getfield 63, 3) := by decide +kernel
theorem dX8_shown_32 : decode cX8_shown 32 = .ok (.aload_n 0, 1) := by decide +kernel
theorem dX8_shown_33 : decode cX8_shown 33 = .ok (.getfield 100, 3) := by decide +kernel
theorem dX8_shown_36 : decode cX8_shown 36 = .ok (.iload_n 1, 1) := by decide +kernel
theorem dX8_shown_37 : decode cX8_shown 37 = .ok (.invokestatic 158, 3) := by decide +kernel
theorem dX8_shown_40 : decode cX8_shown 40 = .ok (.aload_n 0, 1) := by decide +kernel
theorem dX8_shown_41 : decode cX8_shown 41 = .ok (.getfield 67, 3) := by decide +kernel
theorem dX8_shown_44 : decode cX8_shown 44 = .ok (.aload_n 0, 1) := by decide +kernel
theorem dX8_shown_45 : decode cX8_shown 45 = .ok (.getfield 100, 3) := by decide +kernel
theorem dX8_shown_48 : decode cX8_shown 48 = .ok (.iload_n 2, 1) := by decide +kernel
theorem dX8_shown_49 : decode cX8_shown 49 = .ok (.invokestatic 158, 3) := by decide +kernel
theorem dX8_shown_52 : decode cX8_shown 52 = .ok (.aload_n 0, 1) := by decide +kernel
theorem dX8_shown_53 : decode cX8_shown 53 = .ok (.dup, 1) := by decide +kernel
theorem dX8_shown_54 : decode cX8_shown 54 = .ok (.getfield 100, 3) := by decide +kernel
theorem dX8_shown_57 : decode cX8_shown 57 = .ok (.iconst 1, 1) := by decide +kernel
theorem dX8_shown_58 : decode cX8_shown 58 = .ok (.iadd, 1) := by decide +kernel
theorem dX8_shown_59 : decode cX8_shown 59 = .ok (.putfield 100, 3) := by decide +kernel
theorem dX8_shown_62 : decode cX8_shown 62 = .ok (.aload_n 0, 1) := by decide +kernel
theorem dX8_shown_63 : decode cX8_shown 63 = .ok (.getfield 100, 3) := by decide +kernel
theorem dX8_shown_66 : decode cX8_shown 66 = .ok (.ireturn, 1) := by decide +kernel
theorem dX8_forget_0 : decode cX8_forget 0 = .ok (.aload_n 0, 1) := by decide +kernel
theorem dX8_forget_1 : decode cX8_forget 1 = .ok (.getfield 100, 3) := by decide +kernel
theorem dX8_forget_4 : decode cX8_forget 4 = .ok (.istore_n 1, 1) := by decide +kernel
theorem dX8_forget_5 : decode cX8_forget 5 = .ok (.aload_n 0, 1) := by decide +kernel
theorem dX8_forget_6 : decode cX8_forget 6 = .ok (.iconst 0, 1) := by decide +kernel
theorem dX8_forget_7 : decode cX8_forget 7 = .ok (.putfield 100, 3) := by decide +kernel
theorem dX8_forget_10 : decode cX8_forget 10 = .ok (.iload_n 1, 1) := by decide +kernel
theorem dX8_forget_11 : decode cX8_forget 11 = .ok (.ireturn, 1) := by decide +kernel
theorem dX8_who_0 : decode cX8_who 0 = .ok (.iconst 0, 1) := by decide +kernel
theorem dX8_who_1 : decode cX8_who 1 = .ok (.istore_n 1, 1) := by decide +kernel
theorem dX8_who_2 : decode cX8_who 2 = .ok (.iconst 0, 1) := by decide +kernel
theorem dX8_who_3 : decode cX8_who 3 = .ok (.istore_n 2, 1) := by decide +kernel
theorem dX8_who_4 : decode cX8_who 4 = .ok (.iload_n 2, 1) := by decide +kernel
theorem dX8_who_5 : decode cX8_who 5 = .ok (.aload_n 0, 1) := by decide +kernel
theorem dX8_who_6 : decode cX8_who 6 = .ok (.getfield 19, 3) := by decide +kernel
theorem dX8_who_9 : decode cX8_who 9 = .ok (.getfield 226, 3) := by decide +kernel
theorem dX8_who_12 : decode cX8_who 12 = .ok (.if_icmp .ge 23, 3) := by decide +kernel
theorem dX8_who_15 : decode cX8_who 15 = .ok (.aload_n 0, 1) := by decide +kernel
theorem dX8_who_16 : decode cX8_who 16 = .ok (.iload_n 2, 1) := by decide +kernel
theorem dX8_who_17 : decode cX8_who 17 = .ok (.invokevirtual 229, 3) := by decide +kernel
theorem dX8_who_20 : decode cX8_who 20 = .ok (.ifCond .eq 9, 3) := by decide +kernel
theorem dX8_who_23 : decode cX8_who 23 = .ok (.iload_n 1, 1) := by decide +kernel
theorem dX8_who_24 : decode cX8_who 24 = .ok (.iconst 1, 1) := by decide +kernel
theorem dX8_who_25 : decode cX8_who 25 = .ok (.iload_n 2, 1) := by decide +kernel
theorem dX8_who_26 : decode cX8_who 26 = .ok (.ishl, 1) := by decide +kernel
theorem dX8_who_27 : decode cX8_who 27 = .ok (.ior, 1) := by decide +kernel
theorem dX8_who_28 : decode cX8_who 28 = .ok (.istore_n 1, 1) := by decide +kernel
theorem dX8_who_29 : decode cX8_who 29 = .ok (.iinc 2 1, 3) := by decide +kernel
theorem dX8_who_32 : decode cX8_who 32 = .ok (.goto (-28), 3) := by decide +kernel
theorem dX8_who_35 : decode cX8_who 35 = .ok (.iload_n 1, 1) := by decide +kernel
theorem dX8_who_36 : decode cX8_who 36 = .ok (.ireturn, 1) := by decide +kernel
theorem dX8_tell_0 : decode cX8_tell 0 = .ok (.iload_n 1, 1) := by decide +kernel
theorem dX8_tell_1 : decode cX8_tell 1 = .ok (.invokestatic 139, 3) := by decide +kernel
theorem dX8_tell_4 : decode cX8_tell 4 = .ok (.ifCond .ne 5, 3) := by decide +kernel
end
section
theorem dX8_tell_7 : decode cX8_tell 7 = .ok (.iconst (-1), 1) := by decide +kernel
theorem dX8_tell_8 : decode cX8_tell 8 = .ok (.ireturn, 1) := by decide +kernel
theorem dX8_tell_9 : decode cX8_tell 9 = .ok (.aload_n 0, 1) := by decide +kernel
theorem dX8_tell_10 : decode cX8_tell 10 = .ok (.invokevirtual 232, 3) := by decide +kernel
theorem dX8_tell_13 : decode cX8_tell 13 = .ok (.istore_n 2, 1) := by decide +kernel
theorem dX8_tell_14 : decode cX8_tell 14 = .ok (.iload_n 2, 1) := by decide +kernel
theorem dX8_tell_15 : decode cX8_tell 15 = .ok (.ifCond .ne 6, 3) := by decide +kernel
theorem dX8_tell_18 : decode cX8_tell 18 = .ok (.bipush (-9), 2) := by decide +kernel
theorem dX8_tell_20 : decode cX8_tell 20 = .ok (.ireturn, 1) := by decide +kernel
theorem dX8_tell_21 : decode cX8_tell 21 = .ok (.iconst 0, 1) := by decide +kernel
theorem dX8_tell_22 : decode cX8_tell 22 = .ok (.istore_n 3, 1) := by decide +kernel
theorem dX8_tell_23 : decode cX8_tell 23 = .ok (.iconst 1, 1) := by decide +kernel
theorem dX8_tell_24 : decode cX8_tell 24 = .ok (.istore 4, 2) := by decide +kernel
theorem dX8_tell_26 : decode cX8_tell 26 = .ok (.iload 4, 2) := by decide +kernel
theorem dX8_tell_28 : decode cX8_tell 28 = .ok (.bipush 8, 2) := by decide +kernel
theorem dX8_tell_30 : decode cX8_tell 30 = .ok (.if_icmp .ge 28, 3) := by decide +kernel
theorem dX8_tell_33 : decode cX8_tell 33 = .ok (.aload_n 0, 1) := by decide +kernel
theorem dX8_tell_34 : decode cX8_tell 34 = .ok (.iload_n 2, 1) := by decide +kernel
theorem dX8_tell_35 : decode cX8_tell 35 = .ok (.iload 4, 2) := by decide +kernel
theorem dX8_tell_37 : decode cX8_tell 37 = .ok (.invokevirtual 235, 3) := by decide +kernel
theorem dX8_tell_40 : decode cX8_tell 40 = .ok (.aload_n 0, 1) := by decide +kernel
theorem dX8_tell_41 : decode cX8_tell 41 = .ok (.iload_n 2, 1) := by decide +kernel
theorem dX8_tell_42 : decode cX8_tell 42 = .ok (.iload_n 3, 1) := by decide +kernel
theorem dX8_tell_43 : decode cX8_tell 43 = .ok (.invokevirtual 235, 3) := by decide +kernel
theorem dX8_tell_46 : decode cX8_tell 46 = .ok (.if_icmp .ge 6, 3) := by decide +kernel
theorem dX8_tell_49 : decode cX8_tell 49 = .ok (.iload 4, 2) := by decide +kernel
theorem dX8_tell_51 : decode cX8_tell 51 = .ok (.istore_n 3, 1) := by decide +kernel
theorem dX8_tell_52 : decode cX8_tell 52 = .ok (.iinc 4 1, 3) := by decide +kernel
theorem dX8_tell_55 : decode cX8_tell 55 = .ok (.goto (-29), 3) := by decide +kernel
theorem dX8_tell_58 : decode cX8_tell 58 = .ok (.iload_n 1, 1) := by decide +kernel
theorem dX8_tell_59 : decode cX8_tell 59 = .ok (.ifCond .ne 7, 3) := by decide +kernel
theorem dX8_tell_62 : decode cX8_tell 62 = .ok (.iload_n 3, 1) := by decide +kernel
theorem dX8_tell_63 : decode cX8_tell 63 = .ok (.goto 9, 3) := by decide +kernel
theorem dX8_tell_66 : decode cX8_tell 66 = .ok (.aload_n 0, 1) := by decide +kernel
theorem dX8_tell_67 : decode cX8_tell 67 = .ok (.iload_n 2, 1) := by decide +kernel
theorem dX8_tell_68 : decode cX8_tell 68 = .ok (.iload_n 3, 1) := by decide +kernel
theorem dX8_tell_69 : decode cX8_tell 69 = .ok (.invokevirtual 235, 3) := by decide +kernel
theorem dX8_tell_72 : decode cX8_tell 72 = .ok (.ireturn, 1) := by decide +kernel
theorem dX8_rate_0 : decode cX8_rate 0 = .ok (.aload_n 0, 1) := by decide +kernel
theorem dX8_rate_1 : decode cX8_rate 1 = .ok (.iload_n 2, 1) := by decide +kernel
theorem dX8_rate_2 : decode cX8_rate 2 = .ok (.invokevirtual 103, 3) := by decide +kernel
theorem dX8_rate_5 : decode cX8_rate 5 = .ok (.ifCond .ne 6, 3) := by decide +kernel
theorem dX8_rate_8 : decode cX8_rate 8 = .ok (.ldc 238, 2) := by decide +kernel
theorem dX8_rate_10 : decode cX8_rate 10 = .ok (.ireturn, 1) := by decide +kernel
theorem dX8_rate_11 : decode cX8_rate 11 = .ok (.iload_n 1, 1) := by decide +kernel
theorem dX8_rate_12 : decode cX8_rate 12 = .ok (.tableswitch 76 0 5 #[40, 46, 52, 58, 64, 70], 40) := by decide +kernel
theorem dX8_rate_52 : decode cX8_rate 52 = .ok (.aload_n 0, 1) := by decide +kernel
theorem dX8_rate_53 : decode cX8_rate 53 = .ok (.iload_n 2, 1) := by decide +kernel
theorem dX8_rate_54 : decode cX8_rate 54 = .ok (.invokevirtual 239, 3) := by decide +kernel
theorem dX8_rate_57 : decode cX8_rate 57 = .ok (.ireturn, 1) := by decide +kernel
theorem dX8_rate_58 : decode cX8_rate 58 = .ok (.aload_n 0, 1) := by decide +kernel
theorem dX8_rate_59 : decode cX8_rate 59 = .ok (.iload_n 2, 1) := by decide +kernel
theorem dX8_rate_60 : decode cX8_rate 60 = .ok (.invokevirtual 242, 3) := by decide +kernel
theorem dX8_rate_63 : decode cX8_rate 63 = .ok (.ireturn, 1) := by decide +kernel
theorem dX8_rate_64 : decode cX8_rate 64 = .ok (.aload_n 0, 1) := by decide +kernel
theorem dX8_rate_65 : decode cX8_rate 65 = .ok (.iload_n 2, 1) := by decide +kernel
theorem dX8_rate_66 : decode cX8_rate 66 = .ok (.invokevirtual 245, 3) := by decide +kernel
theorem dX8_rate_69 : decode cX8_rate 69 = .ok (.ireturn, 1) := by decide +kernel
theorem dX8_rate_70 : decode cX8_rate 70 = .ok (.aload_n 0, 1) := by decide +kernel
theorem dX8_rate_71 : decode cX8_rate 71 = .ok (.iload_n 2, 1) := by decide +kernel
theorem dX8_rate_72 : decode cX8_rate 72 = .ok (.invokevirtual 248, 3) := by decide +kernel
theorem dX8_rate_75 : decode cX8_rate 75 = .ok (.ireturn, 1) := by decide +kernel
theorem dX8_rate_76 : decode cX8_rate 76 = .ok (.aload_n 0, 1) := by decide +kernel
theorem dX8_rate_77 : decode cX8_rate 77 = .ok (.iload_n 2, 1) := by decide +kernel
theorem dX8_rate_78 : decode cX8_rate 78 = .ok (.invokevirtual 251, 3) := by decide +kernel
theorem dX8_rate_81 : decode cX8_rate 81 = .ok (.ireturn, 1) := by decide +kernel
theorem dX8_rate_82 : decode cX8_rate 82 = .ok (.aload_n 0, 1) := by decide +kernel
theorem dX8_rate_83 : decode cX8_rate 83 = .ok (.iload_n 2, 1) := by decide +kernel
theorem dX8_rate_84 : decode cX8_rate 84 = .ok (.invokevirtual 254, 3) := by decide +kernel
theorem dX8_rate_87 : decode cX8_rate 87 = .ok (.ireturn, 1) := by decide +kernel
theorem dX8_rate_88 : decode cX8_rate 88 = .ok (.ldc 238, 2) := by decide +kernel
theorem dX8_rate_90 : decode cX8_rate 90 = .ok (.ireturn, 1) := by decide +kernel
theorem dX8_keep_0 : decode cX8_keep 0 = .ok (.iload_n 1, 1) := by decide +kernel
theorem dX8_keep_1 : decode cX8_keep 1 = .ok (.invokestatic 257, 3) := by decide +kernel
theorem dX8_keep_4 : decode cX8_keep 4 = .ok (.ifCond .ne 5, 3) := by decide +kernel
theorem dX8_keep_7 : decode cX8_keep 7 = .ok (.iconst (-1), 1) := by decide +kernel
theorem dX8_keep_8 : decode cX8_keep 8 = .ok (.ireturn, 1) := by decide +kernel
theorem dX8_keep_9 : decode cX8_keep 9 = .ok (.aload_n 0, 1) := by decide +kernel
theorem dX8_keep_10 : decode cX8_keep 10 = .ok (.getfield 46, 3) := by decide +kernel
theorem dX8_keep_13 : decode cX8_keep 13 = .ok (.iload_n 1, 1) := by decide +kernel
theorem dX8_keep_14 : decode cX8_keep 14 = .ok (.aload_n 0, 1) := by decide +kernel
theorem dX8_keep_15 : decode cX8_keep 15 = .ok (.getfield 33, 3) := by decide +kernel
theorem dX8_keep_18 : decode cX8_keep 18 = .ok (.invokevirtual 260, 3) := by decide +kernel
theorem dX8_keep_21 : decode cX8_keep 21 = .ok (.aload_n 0, 1) := by decide +kernel
theorem dX8_keep_22 : decode cX8_keep 22 = .ok (.dup, 1) := by decide +kernel
theorem dX8_keep_23 : decode cX8_keep 23 = .ok (.getfield 97, 3) := by decide +kernel
theorem dX8_keep_26 : decode cX8_keep 26 = .ok (.iconst 1, 1) := by decide +kernel
theorem dX8_keep_27 : decode cX8_keep 27 = .ok (.iload_n 1, 1) := by decide +kernel
theorem dX8_keep_28 : decode cX8_keep 28 = .ok (.ishl, 1) := by decide +kernel
theorem dX8_keep_29 : decode cX8_keep 29 = .ok (.ior, 1) := by decide +kernel
theorem dX8_keep_30 : decode cX8_keep 30 = .ok (.putfield 97, 3) := by decide +kernel
theorem dX8_keep_33 : decode cX8_keep 33 = .ok (.aload_n 0, 1) := by decide +kernel
theorem dX8_keep_34 : decode cX8_keep 34 = .ok (.invokevirtual 180, 3) := by decide +kernel
theorem dX8_keep_37 : decode cX8_keep 37 = .ok (.invokestatic 175, 3) := by decide +kernel
theorem dX8_keep_40 : decode cX8_keep 40 = .ok (.ireturn, 1) := by decide +kernel
theorem dX8_back_0 : decode cX8_back 0 = .ok (.iload_n 1, 1) := by decide +kernel
theorem dX8_back_1 : decode cX8_back 1 = .ok (.invokestatic 257, 3) := by decide +kernel
theorem dX8_back_4 : decode cX8_back 4 = .ok (.ifCond .ne 5, 3) := by decide +kernel
theorem dX8_back_7 : decode cX8_back 7 = .ok (.iconst (-1), 1) := by decide +kernel
theorem dX8_back_8 : decode cX8_back 8 = .ok (.ireturn, 1) := by decide +kernel
theorem dX8_back_9 : decode cX8_back 9 = .ok (.aload_n 0, 1) := by decide +kernel
theorem dX8_back_10 : decode cX8_back 10 = .ok (.getfield 97, 3) := by decide +kernel
theorem dX8_back_13 : decode cX8_back 13 = .ok (.iload_n 1, 1) := by decide +kernel
theorem dX8_back_14 : decode cX8_back 14 = .ok (.invokestatic 172, 3) := by decide +kernel
theorem dX8_back_17 : decode cX8_back 17 = .ok (.ifCond .ne 6, 3) := by decide +kernel
theorem dX8_back_20 : decode cX8_back 20 = .ok (.bipush (-2), 2) := by decide +kernel
theorem dX8_back_22 : decode cX8_back 22 = .ok (.ireturn, 1) := by decide +kernel
theorem dX8_back_23 : decode cX8_back 23 = .ok (.aload_n 0, 1) := by decide +kernel
theorem dX8_back_24 : decode cX8_back 24 = .ok (.getfield 46, 3) := by decide +kernel
theorem dX8_back_27 : decode cX8_back 27 = .ok (.iload_n 1, 1) := by decide +kernel
theorem dX8_back_28 : decode cX8_back 28 = .ok (.aload_n 0, 1) := by decide +kernel
theorem dX8_back_29 : decode cX8_back 29 = .ok (.getfield 33, 3) := by decide +kernel
theorem dX8_back_32 : decode cX8_back 32 = .ok (.invokevirtual 186, 3) := by decide +kernel
theorem dX8_back_35 : decode cX8_back 35 = .ok (.aload_n 0, 1) := by decide +kernel
theorem dX8_back_36 : decode cX8_back 36 = .ok (.iconst 0, 1) := by decide +kernel
theorem dX8_back_37 : decode cX8_back 37 = .ok (.putfield 94, 3) := by decide +kernel
theorem dX8_back_40 : decode cX8_back 40 = .ok (.aload_n 0, 1) := by decide +kernel
theorem dX8_back_41 : decode cX8_back 41 = .ok (.invokevirtual 180, 3) := by decide +kernel
theorem dX8_back_44 : decode cX8_back 44 = .ok (.invokestatic 175, 3) := by decide +kernel
theorem dX8_back_47 : decode cX8_back 47 = .ok (.ireturn, 1) := by decide +kernel
theorem dX8_count_0 : decode cX8_count 0 = .ok (.iload_n 1, 1) := by decide +kernel
theorem dX8_count_1 : decode cX8_count 1 = .ok (.tableswitch 72 0 4 #[35, 43, 51, 59, 64], 35) := by decide +kernel
theorem dX8_count_36 : decode cX8_count 36 = .ok (.aload_n 0, 1) := by decide +kernel
theorem dX8_count_37 : decode cX8_count 37 = .ok (.getfield 19, 3) := by decide +kernel
theorem dX8_count_40 : decode cX8_count 40 = .ok (.getfield 226, 3) := by decide +kernel
theorem dX8_count_43 : decode cX8_count 43 = .ok (.ireturn, 1) := by decide +kernel
theorem dX8_count_44 : decode cX8_count 44 = .ok (.aload_n 0, 1) := by decide +kernel
theorem dX8_count_45 : decode cX8_count 45 = .ok (.getfield 19, 3) := by decide +kernel
theorem dX8_count_48 : decode cX8_count 48 = .ok (.getfield 205, 3) := by decide +kernel
theorem dX8_count_51 : decode cX8_count 51 = .ok (.ireturn, 1) := by decide +kernel
theorem dX8_count_52 : decode cX8_count 52 = .ok (.aload_n 0, 1) := by decide +kernel
theorem dX8_count_53 : decode cX8_count 53 = .ok (.getfield 19, 3) := by decide +kernel
theorem dX8_count_56 : decode cX8_count 56 = .ok (.getfield 263, 3) := by decide +kernel
theorem dX8_count_59 : decode cX8_count 59 = .ok (.ireturn, 1) := by decide +kernel
theorem dX8_count_60 : decode cX8_count 60 = .ok (.aload_n 0, 1) := by decide +kernel
theorem dX8_count_61 : decode cX8_count 61 = .ok (.getfield 100, 3) := by decide +kernel
theorem dX8_count_64 : decode cX8_count 64 = .ok (.ireturn, 1) := by decide +kernel
theorem dX8_count_65 : decode cX8_count 65 = .ok (.aload_n 0, 1) := by decide +kernel
theorem dX8_count_66 : decode cX8_count 66 = .ok (.getfield 10, 3) := by decide +kernel
theorem dX8_count_69 : decode cX8_count 69 = .ok (.getfield 70, 3) := by decide +kernel
theorem dX8_count_72 : decode cX8_count 72 = .ok (.ireturn, 1) := by decide +kernel
theorem dX8_count_73 : decode cX8_count 73 = .ok (.iconst (-1), 1) := by decide +kernel
theorem dX8_count_74 : decode cX8_count 74 = .ok (.ireturn, 1) := by decide +kernel
theorem dX8_trace_0 : decode cX8_trace 0 = .ok (.aload_n 0, 1) := by decide +kernel
theorem dX8_trace_1 : decode cX8_trace 1 = .ok (.getfield 266, 3) := by decide +kernel
theorem dX8_trace_4 : decode cX8_trace 4 = .ok (.lreturn, 1) := by decide +kernel
theorem dX8_isKnocker_0 : decode cX8_isKnocker 0 = .ok (.iload_n 1, 1) := by decide +kernel
theorem dX8_isKnocker_1 : decode cX8_isKnocker 1 = .ok (.ifCond .lt 18, 3) := by decide +kernel
theorem dX8_isKnocker_4 : decode cX8_isKnocker 4 = .ok (.iload_n 1, 1) := by decide +kernel
theorem dX8_isKnocker_5 : decode cX8_isKnocker 5 = .ok (.aload_n 0, 1) := by decide +kernel
theorem dX8_isKnocker_6 : decode cX8_isKnocker 6 = .ok (.getfield 19, 3) := by decide +kernel
theorem dX8_isKnocker_9 : decode cX8_isKnocker 9 = .ok (.getfield 226, 3) := by decide +kernel
theorem dX8_isKnocker_12 : decode cX8_isKnocker 12 = .ok (.if_icmp .ge 7, 3) := by decide +kernel
theorem dX8_isKnocker_15 : decode cX8_isKnocker 15 = .ok (.iconst 1, 1) := by decide +kernel
theorem dX8_isKnocker_16 : decode cX8_isKnocker 16 = .ok (.goto 4, 3) := by decide +kernel
theorem dX8_isKnocker_19 : decode cX8_isKnocker 19 = .ok (.iconst 0, 1) := by decide +kernel
theorem dX8_isKnocker_20 : decode cX8_isKnocker 20 = .ok (.ireturn, 1) := by decide +kernel
theorem dX8_isErrand_0 : decode cX8_isErrand 0 = .ok (.iload_n 1, 1) := by decide +kernel
theorem dX8_isErrand_1 : decode cX8_isErrand 1 = .ok (.ifCond .lt 18, 3) := by decide +kernel
theorem dX8_isErrand_4 : decode cX8_isErrand 4 = .ok (.iload_n 1, 1) := by decide +kernel
theorem dX8_isErrand_5 : decode cX8_isErrand 5 = .ok (.aload_n 0, 1) := by decide +kernel
theorem dX8_isErrand_6 : decode cX8_isErrand 6 = .ok (.getfield 19, 3) := by decide +kernel
theorem dX8_isErrand_9 : decode cX8_isErrand 9 = .ok (.getfield 205, 3) := by decide +kernel
theorem dX8_isErrand_12 : decode cX8_isErrand 12 = .ok (.if_icmp .ge 7, 3) := by decide +kernel
theorem dX8_isErrand_15 : decode cX8_isErrand 15 = .ok (.iconst 1, 1) := by decide +kernel
theorem dX8_isErrand_16 : decode cX8_isErrand 16 = .ok (.goto 4, 3) := by decide +kernel
theorem dX8_isErrand_19 : decode cX8_isErrand 19 = .ok (.iconst 0, 1) := by decide +kernel
theorem dX8_isErrand_20 : decode cX8_isErrand 20 = .ok (.ireturn, 1) := by decide +kernel
theorem dX8_isRule_0 : decode cX8_isRule 0 = .ok (.iload_n 1, 1) := by decide +kernel
theorem dX8_isRule_1 : decode cX8_isRule 1 = .ok (.ifCond .lt 18, 3) := by decide +kernel
theorem dX8_isRule_4 : decode cX8_isRule 4 = .ok (.iload_n 1, 1) := by decide +kernel
theorem dX8_isRule_5 : decode cX8_isRule 5 = .ok (.aload_n 0, 1) := by decide +kernel
theorem dX8_isRule_6 : decode cX8_isRule 6 = .ok (.getfield 19, 3) := by decide +kernel
theorem dX8_isRule_9 : decode cX8_isRule 9 = .ok (.getfield 263, 3) := by decide +kernel
theorem dX8_isRule_12 : decode cX8_isRule 12 = .ok (.if_icmp .ge 7, 3) := by decide +kernel
theorem dX8_isRule_15 : decode cX8_isRule 15 = .ok (.iconst 1, 1) := by decide +kernel
theorem dX8_isRule_16 : decode cX8_isRule 16 = .ok (.goto 4, 3) := by decide +kernel
theorem dX8_isRule_19 : decode cX8_isRule 19 = .ok (.iconst 0, 1) := by decide +kernel
theorem dX8_isRule_20 : decode cX8_isRule 20 = .ok (.ireturn, 1) := by decide +kernel
theorem dX8_isSign_0 : decode cX8_isSign 0 = .ok (.iload_n 0, 1) := by decide +kernel
theorem dX8_isSign_1 : decode cX8_isSign 1 = .ok (.ifCond .lt 13, 3) := by decide +kernel
theorem dX8_isSign_4 : decode cX8_isSign 4 = .ok (.iload_n 0, 1) := by decide +kernel
theorem dX8_isSign_5 : decode cX8_isSign 5 = .ok (.bipush 8, 2) := by decide +kernel
theorem dX8_isSign_7 : decode cX8_isSign 7 = .ok (.if_icmp .ge 7, 3) := by decide +kernel
theorem dX8_isSign_10 : decode cX8_isSign 10 = .ok (.iconst 1, 1) := by decide +kernel
theorem dX8_isSign_11 : decode cX8_isSign 11 = .ok (.goto 4, 3) := by decide +kernel
theorem dX8_isSign_14 : decode cX8_isSign 14 = .ok (.iconst 0, 1) := by decide +kernel
theorem dX8_isSign_15 : decode cX8_isSign 15 = .ok (.ireturn, 1) := by decide +kernel
theorem dX8_isHours_0 : decode cX8_isHours 0 = .ok (.iload_n 0, 1) := by decide +kernel
theorem dX8_isHours_1 : decode cX8_isHours 1 = .ok (.ifCond .lt 13, 3) := by decide +kernel
theorem dX8_isHours_4 : decode cX8_isHours 4 = .ok (.iload_n 0, 1) := by decide +kernel
theorem dX8_isHours_5 : decode cX8_isHours 5 = .ok (.bipush 99, 2) := by decide +kernel
theorem dX8_isHours_7 : decode cX8_isHours 7 = .ok (.if_icmp .gt 7, 3) := by decide +kernel
theorem dX8_isHours_10 : decode cX8_isHours 10 = .ok (.iconst 1, 1) := by decide +kernel
theorem dX8_isHours_11 : decode cX8_isHours 11 = .ok (.goto 4, 3) := by decide +kernel
theorem dX8_isHours_14 : decode cX8_isHours 14 = .ok (.iconst 0, 1) := by decide +kernel
theorem dX8_isHours_15 : decode cX8_isHours 15 = .ok (.ireturn, 1) := by decide +kernel
theorem dX8_isBit_0 : decode cX8_isBit 0 = .ok (.iload_n 0, 1) := by decide +kernel
theorem dX8_isBit_1 : decode cX8_isBit 1 = .ok (.ifCond .eq 8, 3) := by decide +kernel
theorem dX8_isBit_4 : decode cX8_isBit 4 = .ok (.iload_n 0, 1) := by decide +kernel
theorem dX8_isBit_5 : decode cX8_isBit 5 = .ok (.iconst 1, 1) := by decide +kernel
theorem dX8_isBit_6 : decode cX8_isBit 6 = .ok (.if_icmp .ne 7, 3) := by decide +kernel
theorem dX8_isBit_9 : decode cX8_isBit 9 = .ok (.iconst 1, 1) := by decide +kernel
theorem dX8_isBit_10 : decode cX8_isBit 10 = .ok (.goto 4, 3) := by decide +kernel
theorem dX8_isBit_13 : decode cX8_isBit 13 = .ok (.iconst 0, 1) := by decide +kernel
theorem dX8_isBit_14 : decode cX8_isBit 14 = .ok (.ireturn, 1) := by decide +kernel
theorem dX8_isImage_0 : decode cX8_isImage 0 = .ok (.iload_n 0, 1) := by decide +kernel
theorem dX8_isImage_1 : decode cX8_isImage 1 = .ok (.ifCond .lt 12, 3) := by decide +kernel
theorem dX8_isImage_4 : decode cX8_isImage 4 = .ok (.iload_n 0, 1) := by decide +kernel
theorem dX8_isImage_5 : decode cX8_isImage 5 = .ok (.iconst 2, 1) := by decide +kernel
theorem dX8_isImage_6 : decode cX8_isImage 6 = .ok (.if_icmp .ge 7, 3) := by decide +kernel
theorem dX8_isImage_9 : decode cX8_isImage 9 = .ok (.iconst 1, 1) := by decide +kernel
theorem dX8_isImage_10 : decode cX8_isImage 10 = .ok (.goto 4, 3) := by decide +kernel
theorem dX8_isImage_13 : decode cX8_isImage 13 = .ok (.iconst 0, 1) := by decide +kernel
theorem dX8_isImage_14 : decode cX8_isImage 14 = .ok (.ireturn, 1) := by decide +kernel
theorem dX8_at_0 : decode cX8_at 0 = .ok (.iload_n 1, 1) := by decide +kernel
theorem dX8_at_1 : decode cX8_at 1 = .ok (.ifCond .lt 15, 3) := by decide +kernel
theorem dX8_at_4 : decode cX8_at 4 = .ok (.iload_n 1, 1) := by decide +kernel
theorem dX8_at_5 : decode cX8_at 5 = .ok (.aload_n 0, 1) := by decide +kernel
theorem dX8_at_6 : decode cX8_at 6 = .ok (.arraylength, 1) := by decide +kernel
theorem dX8_at_7 : decode cX8_at 7 = .ok (.if_icmp .ge 9, 3) := by decide +kernel
theorem dX8_at_10 : decode cX8_at 10 = .ok (.aload_n 0, 1) := by decide +kernel
theorem dX8_at_11 : decode cX8_at 11 = .ok (.iload_n 1, 1) := by decide +kernel
theorem dX8_at_12 : decode cX8_at 12 = .ok (.iaload, 1) := by decide +kernel
theorem dX8_at_13 : decode cX8_at 13 = .ok (.goto 4, 3) := by decide +kernel
theorem dX8_at_16 : decode cX8_at 16 = .ok (.iconst 0, 1) := by decide +kernel
theorem dX8_at_17 : decode cX8_at 17 = .ok (.ireturn, 1) := by decide +kernel
theorem dX8_put_0 : decode cX8_put 0 = .ok (.iload_n 1, 1) := by decide +kernel
theorem dX8_put_1 : decode cX8_put 1 = .ok (.ifCond .lt 13, 3) := by decide +kernel
theorem dX8_put_4 : decode cX8_put 4 = .ok (.iload_n 1, 1) := by decide +kernel
theorem dX8_put_5 : decode cX8_put 5 = .ok (.aload_n 0, 1) := by decide +kernel
theorem dX8_put_6 : decode cX8_put 6 = .ok (.arraylength, 1) := by decide +kernel
theorem dX8_put_7 : decode cX8_put 7 = .ok (.if_icmp .ge 7, 3) := by decide +kernel
theorem dX8_put_10 : decode cX8_put 10 = .ok (.aload_n 0, 1) := by decide +kernel
theorem dX8_put_11 : decode cX8_put 11 = .ok (.iload_n 1, 1) := by decide +kernel
theorem dX8_put_12 : decode cX8_put 12 = .ok (.iload_n 2, 1) := by decide +kernel
theorem dX8_put_13 : decode cX8_put 13 = .ok (.iastore, 1) := by decide +kernel
theorem dX8_put_14 : decode cX8_put 14 = .ok (.return_, 1) := by decide +kernel
theorem dX8_copyRow_0 : decode cX8_copyRow 0 = .ok (.aload_n 0, 1) := by decide +kernel
theorem dX8_copyRow_1 : decode cX8_copyRow 1 = .ok (.iconst 0, 1) := by decide +kernel
theorem dX8_copyRow_2 : decode cX8_copyRow 2 = .ok (.aload_n 1, 1) := by decide +kernel
theorem dX8_copyRow_3 : decode cX8_copyRow 3 = .ok (.iconst 0, 1) := by decide +kernel
theorem dX8_copyRow_4 : decode cX8_copyRow 4 = .ok (.aload_n 0, 1) := by decide +kernel
theorem dX8_copyRow_5 : decode cX8_copyRow 5 = .ok (.arraylength, 1) := by decide +kernel
theorem dX8_copyRow_6 : decode cX8_copyRow 6 = .ok (.aload_n 1, 1) := by decide +kernel
theorem dX8_copyRow_7 : decode cX8_copyRow 7 = .ok (.arraylength, 1) := by decide +kernel
theorem dX8_copyRow_8 : decode cX8_copyRow 8 = .ok (.invokestatic 270, 3) := by decide +kernel
theorem dX8_copyRow_11 : decode cX8_copyRow 11 = .ok (.invokestatic 273, 3) := by decide +kernel
theorem dX8_copyRow_14 : decode cX8_copyRow 14 = .ok (.return_, 1) := by decide +kernel
theorem dX8_has_0 : decode cX8_has 0 = .ok (.iload_n 0, 1) := by decide +kernel
theorem dX8_has_1 : decode cX8_has 1 = .ok (.iload_n 1, 1) := by decide +kernel
theorem dX8_has_2 : decode cX8_has 2 = .ok (.ishr, 1) := by decide +kernel
theorem dX8_has_3 : decode cX8_has 3 = .ok (.iconst 1, 1) := by decide +kernel
theorem dX8_has_4 : decode cX8_has 4 = .ok (.iand, 1) := by decide +kernel
theorem dX8_has_5 : decode cX8_has 5 = .ok (.iconst 1, 1) := by decide +kernel
theorem dX8_has_6 : decode cX8_has 6 = .ok (.if_icmp .ne 7, 3) := by decide +kernel
theorem dX8_has_9 : decode cX8_has 9 = .ok (.iconst 1, 1) := by decide +kernel
theorem dX8_has_10 : decode cX8_has 10 = .ok (.goto 4, 3) := by decide +kernel
theorem dX8_has_13 : decode cX8_has 13 = .ok (.iconst 0, 1) := by decide +kernel
theorem dX8_has_14 : decode cX8_has 14 = .ok (.ireturn, 1) := by decide +kernel
theorem dX8_power_0 : decode cX8_power 0 = .ok (.lconst 1, 1) := by decide +kernel
theorem dX8_power_1 : decode cX8_power 1 = .ok (.lstore_n 2, 1) := by decide +kernel
theorem dX8_power_2 : decode cX8_power 2 = .ok (.iconst 0, 1) := by decide +kernel
theorem dX8_power_3 : decode cX8_power 3 = .ok (.istore 4, 2) := by decide +kernel
theorem dX8_power_5 : decode cX8_power 5 = .ok (.iload 4, 2) := by decide +kernel
theorem dX8_power_7 : decode cX8_power 7 = .ok (.iload_n 1, 1) := by decide +kernel
theorem dX8_power_8 : decode cX8_power 8 = .ok (.if_icmp .ge 14, 3) := by decide +kernel
theorem dX8_power_11 : decode cX8_power 11 = .ok (.lload_n 2, 1) := by decide +kernel
theorem dX8_power_12 : decode cX8_power 12 = .ok (.iload_n 0, 1) := by decide +kernel
theorem dX8_power_13 : decode cX8_power 13 = .ok (.i2l, 1) := by decide +kernel
theorem dX8_power_14 : decode cX8_power 14 = .ok (.lmul, 1) := by decide +kernel
theorem dX8_power_15 : decode cX8_power 15 = .ok (.lstore_n 2, 1) := by decide +kernel
theorem dX8_power_16 : decode cX8_power 16 = .ok (.iinc 4 1, 3) := by decide +kernel
theorem dX8_power_19 : decode cX8_power 19 = .ok (.goto (-14), 3) := by decide +kernel
theorem dX8_power_22 : decode cX8_power 22 = .ok (.lload_n 2, 1) := by decide +kernel
theorem dX8_power_23 : decode cX8_power 23 = .ok (.lreturn, 1) := by decide +kernel
theorem dX8_commonDivisor_0 : decode cX8_commonDivisor 0 = .ok (.iconst 0, 1) := by decide +kernel
theorem dX8_commonDivisor_1 : decode cX8_commonDivisor 1 = .ok (.istore 4, 2) := by decide +kernel
theorem dX8_commonDivisor_3 : decode cX8_commonDivisor 3 = .ok (.iload 4, 2) := by decide +kernel
theorem dX8_commonDivisor_5 : decode cX8_commonDivisor 5 = .ok (.bipush 100, 2) := by decide +kernel
theorem dX8_commonDivisor_7 : decode cX8_commonDivisor 7 = .ok (.if_icmp .ge 25, 3) := by decide +kernel
theorem dX8_commonDivisor_10 : decode cX8_commonDivisor 10 = .ok (.lload_n 2, 1) := by decide +kernel
theorem dX8_commonDivisor_11 : decode cX8_commonDivisor 11 = .ok (.lconst 0, 1) := by decide +kernel
theorem dX8_commonDivisor_12 : decode cX8_commonDivisor 12 = .ok (.lcmp, 1) := by decide +kernel
theorem dX8_commonDivisor_13 : decode cX8_commonDivisor 13 = .ok (.ifCond .eq 19, 3) := by decide +kernel
theorem dX8_commonDivisor_16 : decode cX8_commonDivisor 16 = .ok (.lload_n 0, 1) := by decide +kernel
theorem dX8_commonDivisor_17 : decode cX8_commonDivisor 17 = .ok (.lload_n 2, 1) := by decide +kernel
theorem dX8_commonDivisor_18 : decode cX8_commonDivisor 18 = .ok (.lrem, 1) := by decide +kernel
theorem dX8_commonDivisor_19 : decode cX8_commonDivisor 19 = .ok (.lstore 5, 2) := by decide +kernel
theorem dX8_commonDivisor_21 : decode cX8_commonDivisor 21 = .ok (.lload_n 2, 1) := by decide +kernel
theorem dX8_commonDivisor_22 : decode cX8_commonDivisor 22 = .ok (.lstore_n 0, 1) := by decide +kernel
theorem dX8_commonDivisor_23 : decode cX8_commonDivisor 23 = .ok (.lload 5, 2) := by decide +kernel
theorem dX8_commonDivisor_25 : decode cX8_commonDivisor 25 = .ok (.lstore_n 2, 1) := by decide +kernel
theorem dX8_commonDivisor_26 : decode cX8_commonDivisor 26 = .ok (.iinc 4 1, 3) := by decide +kernel
theorem dX8_commonDivisor_29 : decode cX8_commonDivisor 29 = .ok (.goto (-26), 3) := by decide +kernel
theorem dX8_commonDivisor_32 : decode cX8_commonDivisor 32 = .ok (.lload_n 0, 1) := by decide +kernel
theorem dX8_commonDivisor_33 : decode cX8_commonDivisor 33 = .ok (.lreturn, 1) := by decide +kernel
theorem dX8_signsOf_0 : decode cX8_signsOf 0 = .ok (.aload_n 0, 1) := by decide +kernel
theorem dX8_signsOf_1 : decode cX8_signsOf 1 = .ok (.getfield 33, 3) := by decide +kernel
theorem dX8_signsOf_4 : decode cX8_signsOf 4 = .ok (.getfield 155, 3) := by decide +kernel
theorem dX8_signsOf_7 : decode cX8_signsOf 7 = .ok (.iload_n 1, 1) := by decide +kernel
theorem dX8_signsOf_8 : decode cX8_signsOf 8 = .ok (.invokestatic 110, 3) := by decide +kernel
theorem dX8_signsOf_11 : decode cX8_signsOf 11 = .ok (.ireturn, 1) := by decide +kernel
theorem dX8_hasEnough_0 : decode cX8_hasEnough 0 = .ok (.iload_n 1, 1) := by decide +kernel
theorem dX8_hasEnough_1 : decode cX8_hasEnough 1 = .ok (.aload_n 0, 1) := by decide +kernel
theorem dX8_hasEnough_2 : decode cX8_hasEnough 2 = .ok (.getfield 33, 3) := by decide +kernel
theorem dX8_hasEnough_5 : decode cX8_hasEnough 5 = .ok (.getfield 142, 3) := by decide +kernel
theorem dX8_hasEnough_8 : decode cX8_hasEnough 8 = .ok (.iload_n 2, 1) := by decide +kernel
theorem dX8_hasEnough_9 : decode cX8_hasEnough 9 = .ok (.invokestatic 110, 3) := by decide +kernel
theorem dX8_hasEnough_12 : decode cX8_hasEnough 12 = .ok (.iand, 1) := by decide +kernel
theorem dX8_hasEnough_13 : decode cX8_hasEnough 13 = .ok (.invokestatic 175, 3) := by decide +kernel
theorem dX8_hasEnough_16 : decode cX8_hasEnough 16 = .ok (.aload_n 0, 1) := by decide +kernel
theorem dX8_hasEnough_17 : decode cX8_hasEnough 17 = .ok (.getfield 33, 3) := by decide +kernel
theorem dX8_hasEnough_20 : decode cX8_hasEnough 20 = .ok (.getfield 145, 3) := by decide +kernel
theorem dX8_hasEnough_23 : decode cX8_hasEnough 23 = .ok (.iload_n 2, 1) := by decide +kernel
theorem dX8_hasEnough_24 : decode cX8_hasEnough 24 = .ok (.invokestatic 110, 3) := by decide +kernel
theorem dX8_hasEnough_27 : decode cX8_hasEnough 27 = .ok (.if_icmp .lt 7, 3) := by decide +kernel
theorem dX8_hasEnough_30 : decode cX8_hasEnough 30 = .ok (.iconst 1, 1) := by decide +kernel
theorem dX8_hasEnough_31 : decode cX8_hasEnough 31 = .ok (.goto 4, 3) := by decide +kernel
theorem dX8_hasEnough_34 : decode cX8_hasEnough 34 = .ok (.iconst 0, 1) := by decide +kernel
theorem dX8_hasEnough_35 : decode cX8_hasEnough 35 = .ok (.ireturn, 1) := by decide +kernel
theorem dX8_rulesMet_0 : decode cX8_rulesMet 0 = .ok (.iconst 0, 1) := by decide +kernel
theorem dX8_rulesMet_1 : decode cX8_rulesMet 1 = .ok (.istore_n 2, 1) := by decide +kernel
theorem dX8_rulesMet_2 : decode cX8_rulesMet 2 = .ok (.iconst 0, 1) := by decide +kernel
theorem dX8_rulesMet_3 : decode cX8_rulesMet 3 = .ok (.istore_n 3, 1) := by decide +kernel
theorem dX8_rulesMet_4 : decode cX8_rulesMet 4 = .ok (.iload_n 3, 1) := by decide +kernel
theorem dX8_rulesMet_5 : decode cX8_rulesMet 5 = .ok (.aload_n 0, 1) := by decide +kernel
theorem dX8_rulesMet_6 : decode cX8_rulesMet 6 = .ok (.getfield 19, 3) := by decide +kernel
theorem dX8_rulesMet_9 : decode cX8_rulesMet 9 = .ok (.getfield 263, 3) := by decide +kernel
theorem dX8_rulesMet_12 : decode cX8_rulesMet 12 = .ok (.if_icmp .ge 21, 3) := by decide +kernel
theorem dX8_rulesMet_15 : decode cX8_rulesMet 15 = .ok (.aload_n 0, 1) := by decide +kernel
theorem dX8_rulesMet_16 : decode cX8_rulesMet 16 = .ok (.iload_n 1, 1) := by decide +kernel
theorem dX8_rulesMet_17 : decode cX8_rulesMet 17 = .ok (.iload_n 3, 1) := by decide +kernel
theorem dX8_rulesMet_18 : decode cX8_rulesMet 18 = .ok (.invokevirtual 279, 3) := by decide +kernel
theorem dX8_rulesMet_21 : decode cX8_rulesMet 21 = .ok (.ifCond .eq 6, 3) := by decide +kernel
theorem dX8_rulesMet_24 : decode cX8_rulesMet 24 = .ok (.iinc 2 1, 3) := by decide +kernel
theorem dX8_rulesMet_27 : decode cX8_rulesMet 27 = .ok (.iinc 3 1, 3) := by decide +kernel
theorem dX8_rulesMet_30 : decode cX8_rulesMet 30 = .ok (.goto (-26), 3) := by decide +kernel
theorem dX8_rulesMet_33 : decode cX8_rulesMet 33 = .ok (.iload_n 2, 1) := by decide +kernel
theorem dX8_rulesMet_34 : decode cX8_rulesMet 34 = .ok (.ireturn, 1) := by decide +kernel
theorem dX8_isLetIn_0 : decode cX8_isLetIn 0 = .ok (.aload_n 0, 1) := by decide +kernel
theorem dX8_isLetIn_1 : decode cX8_isLetIn 1 = .ok (.iload_n 1, 1) := by decide +kernel
theorem dX8_isLetIn_2 : decode cX8_isLetIn 2 = .ok (.invokevirtual 282, 3) := by decide +kernel
theorem dX8_isLetIn_5 : decode cX8_isLetIn 5 = .ok (.aload_n 0, 1) := by decide +kernel
theorem dX8_isLetIn_6 : decode cX8_isLetIn 6 = .ok (.getfield 19, 3) := by decide +kernel
theorem dX8_isLetIn_9 : decode cX8_isLetIn 9 = .ok (.getfield 263, 3) := by decide +kernel
theorem dX8_isLetIn_12 : decode cX8_isLetIn 12 = .ok (.if_icmp .ne 7, 3) := by decide +kernel
theorem dX8_isLetIn_15 : decode cX8_isLetIn 15 = .ok (.iconst 1, 1) := by decide +kernel
theorem dX8_isLetIn_16 : decode cX8_isLetIn 16 = .ok (.goto 4, 3) := by decide +kernel
theorem dX8_isLetIn_19 : decode cX8_isLetIn 19 = .ok (.iconst 0, 1) := by decide +kernel
theorem dX8_isLetIn_20 : decode cX8_isLetIn 20 = .ok (.ireturn, 1) := by decide +kernel
theorem dX8_letIn_0 : decode cX8_letIn 0 = .ok (.iconst 0, 1) := by decide +kernel
theorem dX8_letIn_1 : decode cX8_letIn 1 = .ok (.istore_n 1, 1) := by decide +kernel
theorem dX8_letIn_2 : decode cX8_letIn 2 = .ok (.iconst 0, 1) := by decide +kernel
theorem dX8_letIn_3 : decode cX8_letIn 3 = .ok (.istore_n 2, 1) := by decide +kernel
theorem dX8_letIn_4 : decode cX8_letIn 4 = .ok (.iload_n 2, 1) := by decide +kernel
theorem dX8_letIn_5 : decode cX8_letIn 5 = .ok (.aload_n 0, 1) := by decide +kernel
theorem dX8_letIn_6 : decode cX8_letIn 6 = .ok (.getfield 19, 3) := by decide +kernel
theorem dX8_letIn_9 : decode cX8_letIn 9 = .ok (.getfield 226, 3) := by decide +kernel
theorem dX8_letIn_12 : decode cX8_letIn 12 = .ok (.if_icmp .ge 27, 3) := by decide +kernel
theorem dX8_letIn_15 : decode cX8_letIn 15 = .ok (.aload_n 0, 1) := by decide +kernel
theorem dX8_letIn_16 : decode cX8_letIn 16 = .ok (.aload_n 0, 1) := by decide +kernel
theorem dX8_letIn_17 : decode cX8_letIn 17 = .ok (.iload_n 2, 1) := by decide +kernel
theorem dX8_letIn_18 : decode cX8_letIn 18 = .ok (.invokevirtual 114, 3) := by decide +kernel
theorem dX8_letIn_21 : decode cX8_letIn 21 = .ok (.invokevirtual 121, 3) := by decide +kernel
theorem dX8_letIn_24 : decode cX8_letIn 24 = .ok (.ifCond .eq 9, 3) := by decide +kernel
theorem dX8_letIn_27 : decode cX8_letIn 27 = .ok (.iload_n 1, 1) := by decide +kernel
theorem dX8_letIn_28 : decode cX8_letIn 28 = .ok (.iconst 1, 1) := by decide +kernel
theorem dX8_letIn_29 : decode cX8_letIn 29 = .ok (.iload_n 2, 1) := by decide +kernel
theorem dX8_letIn_30 : decode cX8_letIn 30 = .ok (.ishl, 1) := by decide +kernel
theorem dX8_letIn_31 : decode cX8_letIn 31 = .ok (.ior, 1) := by decide +kernel
theorem dX8_letIn_32 : decode cX8_letIn 32 = .ok (.istore_n 1, 1) := by decide +kernel
theorem dX8_letIn_33 : decode cX8_letIn 33 = .ok (.iinc 2 1, 3) := by decide +kernel
theorem dX8_letIn_36 : decode cX8_letIn 36 = .ok (.goto (-32), 3) := by decide +kernel
theorem dX8_letIn_39 : decode cX8_letIn 39 = .ok (.iload_n 1, 1) := by decide +kernel
theorem dX8_letIn_40 : decode cX8_letIn 40 = .ok (.ireturn, 1) := by decide +kernel
theorem dX8_rightOnes_0 : decode cX8_rightOnes 0 = .ok (.iconst 0, 1) := by decide +kernel
theorem dX8_rightOnes_1 : decode cX8_rightOnes 1 = .ok (.istore_n 1, 1) := by decide +kernel
theorem dX8_rightOnes_2 : decode cX8_rightOnes 2 = .ok (.iconst 0, 1) := by decide +kernel
theorem dX8_rightOnes_3 : decode cX8_rightOnes 3 = .ok (.istore_n 2, 1) := by decide +kernel
theorem dX8_rightOnes_4 : decode cX8_rightOnes 4 = .ok (.iload_n 2, 1) := by decide +kernel
theorem dX8_rightOnes_5 : decode cX8_rightOnes 5 = .ok (.aload_n 0, 1) := by decide +kernel
theorem dX8_rightOnes_6 : decode cX8_rightOnes 6 = .ok (.getfield 19, 3) := by decide +kernel
theorem dX8_rightOnes_9 : decode cX8_rightOnes 9 = .ok (.getfield 226, 3) := by decide +kernel
theorem dX8_rightOnes_12 : decode cX8_rightOnes 12 = .ok (.if_icmp .ge 30, 3) := by decide +kernel
theorem dX8_rightOnes_15 : decode cX8_rightOnes 15 = .ok (.aload_n 0, 1) := by decide +kernel
theorem dX8_rightOnes_16 : decode cX8_rightOnes 16 = .ok (.getfield 19, 3) := by decide +kernel
theorem dX8_rightOnes_19 : decode cX8_rightOnes 19 = .ok (.getfield 107, 3) := by decide +kernel
theorem dX8_rightOnes_22 : decode cX8_rightOnes 22 = .ok (.iload_n 2, 1) := by decide +kernel
theorem dX8_rightOnes_23 : decode cX8_rightOnes 23 = .ok (.invokestatic 110, 3) := by decide +kernel
theorem dX8_rightOnes_26 : decode cX8_rightOnes 26 = .ok (.iconst 1, 1) := by decide +kernel
theorem dX8_rightOnes_27 : decode cX8_rightOnes 27 = .ok (.if_icmp .ne 9, 3) := by decide +kernel
theorem dX8_rightOnes_30 : decode cX8_rightOnes 30 = .ok (.iload_n 1, 1) := by decide +kernel
theorem dX8_rightOnes_31 : decode cX8_rightOnes 31 = .ok (.iconst 1, 1) := by decide +kernel
theorem dX8_rightOnes_32 : decode cX8_rightOnes 32 = .ok (.iload_n 2, 1) := by decide +kernel
theorem dX8_rightOnes_33 : decode cX8_rightOnes 33 = .ok (.ishl, 1) := by decide +kernel
theorem dX8_rightOnes_34 : decode cX8_rightOnes 34 = .ok (.ior, 1) := by decide +kernel
theorem dX8_rightOnes_35 : decode cX8_rightOnes 35 = .ok (.istore_n 1, 1) := by decide +kernel
theorem dX8_rightOnes_36 : decode cX8_rightOnes 36 = .ok (.iinc 2 1, 3) := by decide +kernel
theorem dX8_rightOnes_39 : decode cX8_rightOnes 39 = .ok (.goto (-35), 3) := by decide +kernel
theorem dX8_rightOnes_42 : decode cX8_rightOnes 42 = .ok (.iload_n 1, 1) := by decide +kernel
theorem dX8_rightOnes_43 : decode cX8_rightOnes 43 = .ok (.ireturn, 1) := by decide +kernel
theorem dX8_signsOfRules_0 : decode cX8_signsOfRules 0 = .ok (.iconst 0, 1) := by decide +kernel
theorem dX8_signsOfRules_1 : decode cX8_signsOfRules 1 = .ok (.istore_n 1, 1) := by decide +kernel
theorem dX8_signsOfRules_2 : decode cX8_signsOfRules 2 = .ok (.iconst 0, 1) := by decide +kernel
theorem dX8_signsOfRules_3 : decode cX8_signsOfRules 3 = .ok (.istore_n 2, 1) := by decide +kernel
theorem dX8_signsOfRules_4 : decode cX8_signsOfRules 4 = .ok (.iload_n 2, 1) := by decide +kernel
theorem dX8_signsOfRules_5 : decode cX8_signsOfRules 5 = .ok (.aload_n 0, 1) := by decide +kernel
theorem dX8_signsOfRules_6 : decode cX8_signsOfRules 6 = .ok (.getfield 19, 3) := by decide +kernel
theorem dX8_signsOfRules_9 : decode cX8_signsOfRules 9 = .ok (.getfield 263, 3) := by decide +kernel
theorem dX8_signsOfRules_12 : decode cX8_signsOfRules 12 = .ok (.if_icmp .ge 23, 3) := by decide +kernel
theorem dX8_signsOfRules_15 : decode cX8_signsOfRules 15 = .ok (.iload_n 1, 1) := by decide +kernel
theorem dX8_signsOfRules_16 : decode cX8_signsOfRules 16 = .ok (.aload_n 0, 1) := by decide +kernel
theorem dX8_signsOfRules_17 : decode cX8_signsOfRules 17 = .ok (.getfield 33, 3) := by decide +kernel
theorem dX8_signsOfRules_20 : decode cX8_signsOfRules 20 = .ok (.getfield 142, 3) := by decide +kernel
theorem dX8_signsOfRules_23 : decode cX8_signsOfRules 23 = .ok (.iload_n 2, 1) := by decide +kernel
theorem dX8_signsOfRules_24 : decode cX8_signsOfRules 24 = .ok (.invokestatic 110, 3) := by decide +kernel
theorem dX8_signsOfRules_27 : decode cX8_signsOfRules 27 = .ok (.ior, 1) := by decide +kernel
theorem dX8_signsOfRules_28 : decode cX8_signsOfRules 28 = .ok (.istore_n 1, 1) := by decide +kernel
theorem dX8_signsOfRules_29 : decode cX8_signsOfRules 29 = .ok (.iinc 2 1, 3) := by decide +kernel
theorem dX8_signsOfRules_32 : decode cX8_signsOfRules 32 = .ok (.goto (-28), 3) := by decide +kernel
theorem dX8_signsOfRules_35 : decode cX8_signsOfRules 35 = .ok (.iload_n 1, 1) := by decide +kernel
theorem dX8_signsOfRules_36 : decode cX8_signsOfRules 36 = .ok (.ireturn, 1) := by decide +kernel
theorem dX8_remember_0 : decode cX8_remember 0 = .ok (.aload_n 0, 1) := by decide +kernel
theorem dX8_remember_1 : decode cX8_remember 1 = .ok (.getfield 42, 3) := by decide +kernel
theorem dX8_remember_4 : decode cX8_remember 4 = .ok (.aload_n 0, 1) := by decide +kernel
theorem dX8_remember_5 : decode cX8_remember 5 = .ok (.getfield 183, 3) := by decide +kernel
theorem dX8_remember_8 : decode cX8_remember 8 = .ok (.aload_n 0, 1) := by decide +kernel
theorem dX8_remember_9 : decode cX8_remember 9 = .ok (.getfield 33, 3) := by decide +kernel
theorem dX8_remember_12 : decode cX8_remember 12 = .ok (.invokevirtual 260, 3) := by decide +kernel
theorem dX8_remember_15 : decode cX8_remember 15 = .ok (.aload_n 0, 1) := by decide +kernel
theorem dX8_remember_16 : decode cX8_remember 16 = .ok (.aload_n 0, 1) := by decide +kernel
theorem dX8_remember_17 : decode cX8_remember 17 = .ok (.getfield 183, 3) := by decide +kernel
theorem dX8_remember_20 : decode cX8_remember 20 = .ok (.bipush 9, 2) := by decide +kernel
theorem dX8_remember_22 : decode cX8_remember 22 = .ok (.if_icmp .ne 7, 3) := by decide +kernel
theorem dX8_remember_25 : decode cX8_remember 25 = .ok (.iconst 0, 1) := by decide +kernel
theorem dX8_remember_26 : decode cX8_remember 26 = .ok (.goto 9, 3) := by decide +kernel
theorem dX8_remember_29 : decode cX8_remember 29 = .ok (.aload_n 0, 1) := by decide +kernel
theorem dX8_remember_30 : decode cX8_remember 30 = .ok (.getfield 183, 3) := by decide +kernel
theorem dX8_remember_33 : decode cX8_remember 33 = .ok (.iconst 1, 1) := by decide +kernel
theorem dX8_remember_34 : decode cX8_remember 34 = .ok (.iadd, 1) := by decide +kernel
theorem dX8_remember_35 : decode cX8_remember 35 = .ok (.putfield 183, 3) := by decide +kernel
theorem dX8_remember_38 : decode cX8_remember 38 = .ok (.aload_n 0, 1) := by decide +kernel
theorem dX8_remember_39 : decode cX8_remember 39 = .ok (.aload_n 0, 1) := by decide +kernel
theorem dX8_remember_40 : decode cX8_remember 40 = .ok (.getfield 94, 3) := by decide +kernel
theorem dX8_remember_43 : decode cX8_remember 43 = .ok (.iconst 1, 1) := by decide +kernel
theorem dX8_remember_44 : decode cX8_remember 44 = .ok (.iadd, 1) := by decide +kernel
theorem dX8_remember_45 : decode cX8_remember 45 = .ok (.bipush 10, 2) := by decide +kernel
theorem dX8_remember_47 : decode cX8_remember 47 = .ok (.invokestatic 270, 3) := by decide +kernel
theorem dX8_remember_50 : decode cX8_remember 50 = .ok (.putfield 94, 3) := by decide +kernel
theorem dX8_remember_53 : decode cX8_remember 53 = .ok (.return_, 1) := by decide +kernel
theorem dX8_soonestSet_0 : decode cX8_soonestSet 0 = .ok (.aload_n 0, 1) := by decide +kernel
theorem dX8_soonestSet_1 : decode cX8_soonestSet 1 = .ok (.getfield 52, 3) := by decide +kernel
theorem dX8_soonestSet_4 : decode cX8_soonestSet 4 = .ok (.aload_n 0, 1) := by decide +kernel
theorem dX8_soonestSet_5 : decode cX8_soonestSet 5 = .ok (.getfield 19, 3) := by decide +kernel
theorem dX8_soonestSet_8 : decode cX8_soonestSet 8 = .ok (.aload_n 0, 1) := by decide +kernel
theorem dX8_soonestSet_9 : decode cX8_soonestSet 9 = .ok (.iload_n 1, 1) := by decide +kernel
theorem dX8_soonestSet_10 : decode cX8_soonestSet 10 = .ok (.invokevirtual 114, 3) := by decide +kernel
theorem dX8_soonestSet_13 : decode cX8_soonestSet 13 = .ok (.iload_n 2, 1) := by decide +kernel
theorem dX8_soonestSet_14 : decode cX8_soonestSet 14 = .ok (.invokevirtual 285, 3) := by decide +kernel
theorem dX8_soonestSet_17 : decode cX8_soonestSet 17 = .ok (.iconst (-1), 1) := by decide +kernel
theorem dX8_soonestSet_18 : decode cX8_soonestSet 18 = .ok (.istore_n 3, 1) := by decide +kernel
theorem dX8_soonestSet_19 : decode cX8_soonestSet 19 = .ok (.iconst 0, 1) := by decide +kernel
theorem dX8_soonestSet_20 : decode cX8_soonestSet 20 = .ok (.istore 4, 2) := by decide +kernel
theorem dX8_soonestSet_22 : decode cX8_soonestSet 22 = .ok (.iload 4, 2) := by decide +kernel
theorem dX8_soonestSet_24 : decode cX8_soonestSet 24 = .ok (.aload_n 0, 1) := by decide +kernel
theorem dX8_soonestSet_25 : decode cX8_soonestSet 25 = .ok (.getfield 52, 3) := by decide +kernel
theorem dX8_soonestSet_28 : decode cX8_soonestSet 28 = .ok (.getfield 289, 3) := by decide +kernel
theorem dX8_soonestSet_31 : decode cX8_soonestSet 31 = .ok (.if_icmp .ge 85, 3) := by decide +kernel
theorem dX8_soonestSet_34 : decode cX8_soonestSet 34 = .ok (.iload_n 3, 1) := by decide +kernel
theorem dX8_soonestSet_35 : decode cX8_soonestSet 35 = .ok (.ifCond .lt 29, 3) := by decide +kernel
theorem dX8_soonestSet_38 : decode cX8_soonestSet 38 = .ok (.aload_n 0, 1) := by decide +kernel
theorem dX8_soonestSet_39 : decode cX8_soonestSet 39 = .ok (.getfield 52, 3) := by decide +kernel
theorem dX8_soonestSet_42 : decode cX8_soonestSet 42 = .ok (.getfield 197, 3) := by decide +kernel
theorem dX8_soonestSet_45 : decode cX8_soonestSet 45 = .ok (.iload 4, 2) := by decide +kernel
theorem dX8_soonestSet_47 : decode cX8_soonestSet 47 = .ok (.invokestatic 110, 3) := by decide +kernel
theorem dX8_soonestSet_50 : decode cX8_soonestSet 50 = .ok (.aload_n 0, 1) := by decide +kernel
theorem dX8_soonestSet_51 : decode cX8_soonestSet 51 = .ok (.getfield 52, 3) := by decide +kernel
theorem dX8_soonestSet_54 : decode cX8_soonestSet 54 = .ok (.getfield 197, 3) := by decide +kernel
theorem dX8_soonestSet_57 : decode cX8_soonestSet 57 = .ok (.iload_n 3, 1) := by decide +kernel
theorem dX8_soonestSet_58 : decode cX8_soonestSet 58 = .ok (.invokestatic 110, 3) := by decide +kernel
theorem dX8_soonestSet_61 : decode cX8_soonestSet 61 = .ok (.if_icmp .ge 7, 3) := by decide +kernel
theorem dX8_soonestSet_64 : decode cX8_soonestSet 64 = .ok (.iconst 1, 1) := by decide +kernel
theorem dX8_soonestSet_65 : decode cX8_soonestSet 65 = .ok (.goto 4, 3) := by decide +kernel
theorem dX8_soonestSet_68 : decode cX8_soonestSet 68 = .ok (.iconst 0, 1) := by decide +kernel
theorem dX8_soonestSet_69 : decode cX8_soonestSet 69 = .ok (.istore 5, 2) := by decide +kernel
theorem dX8_soonestSet_71 : decode cX8_soonestSet 71 = .ok (.aload_n 0, 1) := by decide +kernel
theorem dX8_soonestSet_72 : decode cX8_soonestSet 72 = .ok (.getfield 52, 3) := by decide +kernel
theorem dX8_soonestSet_75 : decode cX8_soonestSet 75 = .ok (.iload 4, 2) := by decide +kernel
theorem dX8_soonestSet_77 : decode cX8_soonestSet 77 = .ok (.invokevirtual 292, 3) := by decide +kernel
theorem dX8_soonestSet_80 : decode cX8_soonestSet 80 = .ok (.ifCond .eq 30, 3) := by decide +kernel
theorem dX8_soonestSet_83 : decode cX8_soonestSet 83 = .ok (.iload 5, 2) := by decide +kernel
theorem dX8_soonestSet_85 : decode cX8_soonestSet 85 = .ok (.ifCond .eq 25, 3) := by decide +kernel
theorem dX8_soonestSet_88 : decode cX8_soonestSet 88 = .ok (.aload_n 0, 1) := by decide +kernel
theorem dX8_soonestSet_89 : decode cX8_soonestSet 89 = .ok (.aload_n 0, 1) := by decide +kernel
theorem dX8_soonestSet_90 : decode cX8_soonestSet 90 = .ok (.getfield 52, 3) := by decide +kernel
theorem dX8_soonestSet_93 : decode cX8_soonestSet 93 = .ok (.getfield 294, 3) := by decide +kernel
theorem dX8_soonestSet_96 : decode cX8_soonestSet 96 = .ok (.iload 4, 2) := by decide +kernel
theorem dX8_soonestSet_98 : decode cX8_soonestSet 98 = .ok (.invokestatic 110, 3) := by decide +kernel
theorem dX8_soonestSet_101 : decode cX8_soonestSet 101 = .ok (.invokevirtual 121, 3) := by decide +kernel
theorem dX8_soonestSet_104 : decode cX8_soonestSet 104 = .ok (.ifCond .eq 6, 3) := by decide +kernel
theorem dX8_soonestSet_107 : decode cX8_soonestSet 107 = .ok (.iload 4, 2) := by decide +kernel
theorem dX8_soonestSet_109 : decode cX8_soonestSet 109 = .ok (.istore_n 3, 1) := by decide +kernel
theorem dX8_soonestSet_110 : decode cX8_soonestSet 110 = .ok (.iinc 4 1, 3) := by decide +kernel
theorem dX8_soonestSet_113 : decode cX8_soonestSet 113 = .ok (.goto (-91), 3) := by decide +kernel
theorem dX8_soonestSet_116 : decode cX8_soonestSet 116 = .ok (.iload_n 3, 1) := by decide +kernel
theorem dX8_soonestSet_117 : decode cX8_soonestSet 117 = .ok (.ireturn, 1) := by decide +kernel
theorem dX8_isSoon_0 : decode cX8_isSoon 0 = .ok (.aload_n 0, 1) := by decide +kernel
theorem dX8_isSoon_1 : decode cX8_isSoon 1 = .ok (.iload_n 1, 1) := by decide +kernel
theorem dX8_isSoon_2 : decode cX8_isSoon 2 = .ok (.iload_n 2, 1) := by decide +kernel
theorem dX8_isSoon_3 : decode cX8_isSoon 3 = .ok (.invokevirtual 193, 3) := by decide +kernel
theorem dX8_isSoon_6 : decode cX8_isSoon 6 = .ok (.istore 4, 2) := by decide +kernel
theorem dX8_isSoon_8 : decode cX8_isSoon 8 = .ok (.iload 4, 2) := by decide +kernel
theorem dX8_isSoon_10 : decode cX8_isSoon 10 = .ok (.ifCond .lt 23, 3) := by decide +kernel
theorem dX8_isSoon_13 : decode cX8_isSoon 13 = .ok (.aload_n 0, 1) := by decide +kernel
theorem dX8_isSoon_14 : decode cX8_isSoon 14 = .ok (.getfield 52, 3) := by decide +kernel
theorem dX8_isSoon_17 : decode cX8_isSoon 17 = .ok (.getfield 197, 3) := by decide +kernel
theorem dX8_isSoon_20 : decode cX8_isSoon 20 = .ok (.iload 4, 2) := by decide +kernel
theorem dX8_isSoon_22 : decode cX8_isSoon 22 = .ok (.invokestatic 110, 3) := by decide +kernel
theorem dX8_isSoon_25 : decode cX8_isSoon 25 = .ok (.iload_n 3, 1) := by decide +kernel
theorem dX8_isSoon_26 : decode cX8_isSoon 26 = .ok (.if_icmp .gt 7, 3) := by decide +kernel
theorem dX8_isSoon_29 : decode cX8_isSoon 29 = .ok (.iconst 1, 1) := by decide +kernel
theorem dX8_isSoon_30 : decode cX8_isSoon 30 = .ok (.goto 4, 3) := by decide +kernel
theorem dX8_isSoon_33 : decode cX8_isSoon 33 = .ok (.iconst 0, 1) := by decide +kernel
theorem dX8_isSoon_34 : decode cX8_isSoon 34 = .ok (.ireturn, 1) := by decide +kernel
theorem dX8_loneRule_0 : decode cX8_loneRule 0 = .ok (.aload_n 0, 1) := by decide +kernel
theorem dX8_loneRule_1 : decode cX8_loneRule 1 = .ok (.iload_n 1, 1) := by decide +kernel
theorem dX8_loneRule_2 : decode cX8_loneRule 2 = .ok (.invokevirtual 295, 3) := by decide +kernel
theorem dX8_loneRule_5 : decode cX8_loneRule 5 = .ok (.iconst 0, 1) := by decide +kernel
theorem dX8_loneRule_6 : decode cX8_loneRule 6 = .ok (.istore_n 3, 1) := by decide +kernel
theorem dX8_loneRule_7 : decode cX8_loneRule 7 = .ok (.iconst 0, 1) := by decide +kernel
theorem dX8_loneRule_8 : decode cX8_loneRule 8 = .ok (.istore 4, 2) := by decide +kernel
theorem dX8_loneRule_10 : decode cX8_loneRule 10 = .ok (.iconst 1, 1) := by decide +kernel
theorem dX8_loneRule_11 : decode cX8_loneRule 11 = .ok (.istore 5, 2) := by decide +kernel
theorem dX8_loneRule_13 : decode cX8_loneRule 13 = .ok (.iload 5, 2) := by decide +kernel
theorem dX8_loneRule_15 : decode cX8_loneRule 15 = .ok (.sipush 255, 3) := by decide +kernel
theorem dX8_loneRule_18 : decode cX8_loneRule 18 = .ok (.if_icmp .gt 61, 3) := by decide +kernel
theorem dX8_loneRule_21 : decode cX8_loneRule 21 = .ok (.iload_n 3, 1) := by decide +kernel
theorem dX8_loneRule_22 : decode cX8_loneRule 22 = .ok (.ifCond .eq 15, 3) := by decide +kernel
theorem dX8_loneRule_25 : decode cX8_loneRule 25 = .ok (.iload 5, 2) := by decide +kernel
theorem dX8_loneRule_27 : decode cX8_loneRule 27 = .ok (.invokestatic 175, 3) := by decide +kernel
theorem dX8_loneRule_30 : decode cX8_loneRule 30 = .ok (.iload_n 3, 1) := by decide +kernel
theorem dX8_loneRule_31 : decode cX8_loneRule 31 = .ok (.invokestatic 175, 3) := by decide +kernel
theorem dX8_loneRule_34 : decode cX8_loneRule 34 = .ok (.if_icmp .ge 7, 3) := by decide +kernel
theorem dX8_loneRule_37 : decode cX8_loneRule 37 = .ok (.iconst 1, 1) := by decide +kernel
theorem dX8_loneRule_38 : decode cX8_loneRule 38 = .ok (.goto 4, 3) := by decide +kernel
theorem dX8_loneRule_41 : decode cX8_loneRule 41 = .ok (.iconst 0, 1) := by decide +kernel
theorem dX8_loneRule_42 : decode cX8_loneRule 42 = .ok (.istore 6, 2) := by decide +kernel
theorem dX8_loneRule_44 : decode cX8_loneRule 44 = .ok (.iload 6, 2) := by decide +kernel
theorem dX8_loneRule_46 : decode cX8_loneRule 46 = .ok (.ifCond .eq 12, 3) := by decide +kernel
theorem dX8_loneRule_49 : decode cX8_loneRule 49 = .ok (.aload_n 0, 1) := by decide +kernel
theorem dX8_loneRule_50 : decode cX8_loneRule 50 = .ok (.iload 5, 2) := by decide +kernel
theorem dX8_loneRule_52 : decode cX8_loneRule 52 = .ok (.invokevirtual 298, 3) := by decide +kernel
theorem dX8_loneRule_55 : decode cX8_loneRule 55 = .ok (.goto 4, 3) := by decide +kernel
theorem dX8_loneRule_58 : decode cX8_loneRule 58 = .ok (.iconst 0, 1) := by decide +kernel
theorem dX8_loneRule_59 : decode cX8_loneRule 59 = .ok (.istore 7, 2) := by decide +kernel
theorem dX8_loneRule_61 : decode cX8_loneRule 61 = .ok (.iload 7, 2) := by decide +kernel
theorem dX8_loneRule_63 : decode cX8_loneRule 63 = .ok (.ifCond .le 10, 3) := by decide +kernel
theorem dX8_loneRule_66 : decode cX8_loneRule 66 = .ok (.iload 5, 2) := by decide +kernel
theorem dX8_loneRule_68 : decode cX8_loneRule 68 = .ok (.istore_n 3, 1) := by decide +kernel
theorem dX8_loneRule_69 : decode cX8_loneRule 69 = .ok (.iload 7, 2) := by decide +kernel
theorem dX8_loneRule_71 : decode cX8_loneRule 71 = .ok (.istore 4, 2) := by decide +kernel
theorem dX8_loneRule_73 : decode cX8_loneRule 73 = .ok (.iinc 5 1, 3) := by decide +kernel
theorem dX8_loneRule_76 : decode cX8_loneRule 76 = .ok (.goto (-63), 3) := by decide +kernel
theorem dX8_loneRule_79 : decode cX8_loneRule 79 = .ok (.iload_n 3, 1) := by decide +kernel
theorem dX8_loneRule_80 : decode cX8_loneRule 80 = .ok (.ifCond .ne 6, 3) := by decide +kernel
theorem dX8_loneRule_83 : decode cX8_loneRule 83 = .ok (.bipush (-9), 2) := by decide +kernel
theorem dX8_loneRule_85 : decode cX8_loneRule 85 = .ok (.ireturn, 1) := by decide +kernel
theorem dX8_loneRule_86 : decode cX8_loneRule 86 = .ok (.iload_n 2, 1) := by decide +kernel
theorem dX8_loneRule_87 : decode cX8_loneRule 87 = .ok (.ifCond .ne 7, 3) := by decide +kernel
theorem dX8_loneRule_90 : decode cX8_loneRule 90 = .ok (.iload_n 3, 1) := by decide +kernel
theorem dX8_loneRule_91 : decode cX8_loneRule 91 = .ok (.goto 5, 3) := by decide +kernel
theorem dX8_loneRule_94 : decode cX8_loneRule 94 = .ok (.iload 4, 2) := by decide +kernel
theorem dX8_loneRule_96 : decode cX8_loneRule 96 = .ok (.ireturn, 1) := by decide +kernel
theorem dX8_gatherCrowd_0 : decode cX8_gatherCrowd 0 = .ok (.aload_n 0, 1) := by decide +kernel
theorem dX8_gatherCrowd_1 : decode cX8_gatherCrowd 1 = .ok (.getfield 59, 3) := by decide +kernel
theorem dX8_gatherCrowd_4 : decode cX8_gatherCrowd 4 = .ok (.iconst 0, 1) := by decide +kernel
theorem dX8_gatherCrowd_5 : decode cX8_gatherCrowd 5 = .ok (.putfield 301, 3) := by decide +kernel
theorem dX8_gatherCrowd_8 : decode cX8_gatherCrowd 8 = .ok (.iconst 0, 1) := by decide +kernel
theorem dX8_gatherCrowd_9 : decode cX8_gatherCrowd 9 = .ok (.istore_n 2, 1) := by decide +kernel
theorem dX8_gatherCrowd_10 : decode cX8_gatherCrowd 10 = .ok (.iload_n 2, 1) := by decide +kernel
theorem dX8_gatherCrowd_11 : decode cX8_gatherCrowd 11 = .ok (.aload_n 0, 1) := by decide +kernel
theorem dX8_gatherCrowd_12 : decode cX8_gatherCrowd 12 = .ok (.getfield 19, 3) := by decide +kernel
theorem dX8_gatherCrowd_15 : decode cX8_gatherCrowd 15 = .ok (.getfield 226, 3) := by decide +kernel
theorem dX8_gatherCrowd_18 : decode cX8_gatherCrowd 18 = .ok (.if_icmp .ge 108, 3) := by decide +kernel
theorem dX8_gatherCrowd_21 : decode cX8_gatherCrowd 21 = .ok (.aload_n 0, 1) := by decide +kernel
theorem dX8_gatherCrowd_22 : decode cX8_gatherCrowd 22 = .ok (.getfield 19, 3) := by decide +kernel
theorem dX8_gatherCrowd_25 : decode cX8_gatherCrowd 25 = .ok (.getfield 107, 3) := by decide +kernel
theorem dX8_gatherCrowd_28 : decode cX8_gatherCrowd 28 = .ok (.iload_n 2, 1) := by decide +kernel
theorem dX8_gatherCrowd_29 : decode cX8_gatherCrowd 29 = .ok (.invokestatic 110, 3) := by decide +kernel
theorem dX8_gatherCrowd_32 : decode cX8_gatherCrowd 32 = .ok (.iconst 1, 1) := by decide +kernel
theorem dX8_gatherCrowd_33 : decode cX8_gatherCrowd 33 = .ok (.if_icmp .ne 6, 3) := by decide +kernel
theorem dX8_gatherCrowd_36 : decode cX8_gatherCrowd 36 = .ok (.goto 84, 3) := by decide +kernel
theorem dX8_gatherCrowd_39 : decode cX8_gatherCrowd 39 = .ok (.aload_n 0, 1) := by decide +kernel
theorem dX8_gatherCrowd_40 : decode cX8_gatherCrowd 40 = .ok (.getfield 52, 3) := by decide +kernel
theorem dX8_gatherCrowd_43 : decode cX8_gatherCrowd 43 = .ok (.aload_n 0, 1) := by decide +kernel
theorem dX8_gatherCrowd_44 : decode cX8_gatherCrowd 44 = .ok (.getfield 19, 3) := by decide +kernel
theorem dX8_gatherCrowd_47 : decode cX8_gatherCrowd 47 = .ok (.aload_n 0, 1) := by decide +kernel
theorem dX8_gatherCrowd_48 : decode cX8_gatherCrowd 48 = .ok (.iload_n 2, 1) := by decide +kernel
theorem dX8_gatherCrowd_49 : decode cX8_gatherCrowd 49 = .ok (.invokevirtual 114, 3) := by decide +kernel
theorem dX8_gatherCrowd_52 : decode cX8_gatherCrowd 52 = .ok (.iconst 0, 1) := by decide +kernel
theorem dX8_gatherCrowd_53 : decode cX8_gatherCrowd 53 = .ok (.invokevirtual 285, 3) := by decide +kernel
theorem dX8_gatherCrowd_56 : decode cX8_gatherCrowd 56 = .ok (.aload_n 0, 1) := by decide +kernel
theorem dX8_gatherCrowd_57 : decode cX8_gatherCrowd 57 = .ok (.getfield 52, 3) := by decide +kernel
theorem dX8_gatherCrowd_60 : decode cX8_gatherCrowd 60 = .ok (.getfield 289, 3) := by decide +kernel
theorem dX8_gatherCrowd_63 : decode cX8_gatherCrowd 63 = .ok (.iconst 1, 1) := by decide +kernel
theorem dX8_gatherCrowd_64 : decode cX8_gatherCrowd 64 = .ok (.isub, 1) := by decide +kernel
theorem dX8_gatherCrowd_65 : decode cX8_gatherCrowd 65 = .ok (.istore_n 3, 1) := by decide +kernel
theorem dX8_gatherCrowd_66 : decode cX8_gatherCrowd 66 = .ok (.iload_n 3, 1) := by decide +kernel
theorem dX8_gatherCrowd_67 : decode cX8_gatherCrowd 67 = .ok (.ifCond .lt 53, 3) := by decide +kernel
theorem dX8_gatherCrowd_70 : decode cX8_gatherCrowd 70 = .ok (.aload_n 0, 1) := by decide +kernel
theorem dX8_gatherCrowd_71 : decode cX8_gatherCrowd 71 = .ok (.getfield 52, 3) := by decide +kernel
theorem dX8_gatherCrowd_74 : decode cX8_gatherCrowd 74 = .ok (.iload_n 3, 1) := by decide +kernel
theorem dX8_gatherCrowd_75 : decode cX8_gatherCrowd 75 = .ok (.invokevirtual 292, 3) := by decide +kernel
theorem dX8_gatherCrowd_78 : decode cX8_gatherCrowd 78 = .ok (.ifCond .eq 36, 3) := by decide +kernel
theorem dX8_gatherCrowd_81 : decode cX8_gatherCrowd 81 = .ok (.aload_n 0, 1) := by decide +kernel
theorem dX8_gatherCrowd_82 : decode cX8_gatherCrowd 82 = .ok (.getfield 52, 3) := by decide +kernel
theorem dX8_gatherCrowd_85 : decode cX8_gatherCrowd 85 = .ok (.getfield 197, 3) := by decide +kernel
theorem dX8_gatherCrowd_88 : decode cX8_gatherCrowd 88 = .ok (.iload_n 3, 1) := by decide +kernel
theorem dX8_gatherCrowd_89 : decode cX8_gatherCrowd 89 = .ok (.invokestatic 110, 3) := by decide +kernel
theorem dX8_gatherCrowd_92 : decode cX8_gatherCrowd 92 = .ok (.iload_n 1, 1) := by decide +kernel
theorem dX8_gatherCrowd_93 : decode cX8_gatherCrowd 93 = .ok (.if_icmp .gt 21, 3) := by decide +kernel
theorem dX8_gatherCrowd_96 : decode cX8_gatherCrowd 96 = .ok (.aload_n 0, 1) := by decide +kernel
theorem dX8_gatherCrowd_97 : decode cX8_gatherCrowd 97 = .ok (.getfield 59, 3) := by decide +kernel
theorem dX8_gatherCrowd_100 : decode cX8_gatherCrowd 100 = .ok (.aload_n 0, 1) := by decide +kernel
theorem dX8_gatherCrowd_101 : decode cX8_gatherCrowd 101 = .ok (.getfield 52, 3) := by decide +kernel
theorem dX8_gatherCrowd_104 : decode cX8_gatherCrowd 104 = .ok (.getfield 294, 3) := by decide +kernel
theorem dX8_gatherCrowd_107 : decode cX8_gatherCrowd 107 = .ok (.iload_n 3, 1) := by decide +kernel
theorem dX8_gatherCrowd_108 : decode cX8_gatherCrowd 108 = .ok (.invokestatic 110, 3) := by decide +kernel
theorem dX8_gatherCrowd_111 : decode cX8_gatherCrowd 111 = .ok (.invokevirtual 302, 3) := by decide +kernel
theorem dX8_gatherCrowd_114 : decode cX8_gatherCrowd 114 = .ok (.iinc 3 (-1), 3) := by decide +kernel
theorem dX8_gatherCrowd_117 : decode cX8_gatherCrowd 117 = .ok (.goto (-51), 3) := by decide +kernel
theorem dX8_gatherCrowd_120 : decode cX8_gatherCrowd 120 = .ok (.iinc 2 1, 3) := by decide +kernel
theorem dX8_gatherCrowd_123 : decode cX8_gatherCrowd 123 = .ok (.goto (-113), 3) := by decide +kernel
theorem dX8_gatherCrowd_126 : decode cX8_gatherCrowd 126 = .ok (.return_, 1) := by decide +kernel
theorem dX8_leastNumber_0 : decode cX8_leastNumber 0 = .ok (.aload_n 0, 1) := by decide +kernel
theorem dX8_leastNumber_1 : decode cX8_leastNumber 1 = .ok (.getfield 59, 3) := by decide +kernel
theorem dX8_leastNumber_4 : decode cX8_leastNumber 4 = .ok (.iload_n 1, 1) := by decide +kernel
theorem dX8_leastNumber_5 : decode cX8_leastNumber 5 = .ok (.invokevirtual 303, 3) := by decide +kernel
theorem dX8_leastNumber_8 : decode cX8_leastNumber 8 = .ok (.iconst 1, 1) := by decide +kernel
theorem dX8_leastNumber_9 : decode cX8_leastNumber 9 = .ok (.iadd, 1) := by decide +kernel
theorem dX8_leastNumber_10 : decode cX8_leastNumber 10 = .ok (.istore_n 2, 1) := by decide +kernel
theorem dX8_leastNumber_11 : decode cX8_leastNumber 11 = .ok (.iload_n 2, 1) := by decide +kernel
theorem dX8_leastNumber_12 : decode cX8_leastNumber 12 = .ok (.iload_n 1, 1) := by decide +kernel
theorem dX8_leastNumber_13 : decode cX8_leastNumber 13 = .ok (.invokestatic 175, 3) := by decide +kernel
theorem dX8_leastNumber_16 : decode cX8_leastNumber 16 = .ok (.if_icmp .le 5, 3) := by decide +kernel
theorem dX8_leastNumber_19 : decode cX8_leastNumber 19 = .ok (.iconst 0, 1) := by decide +kernel
theorem dX8_leastNumber_20 : decode cX8_leastNumber 20 = .ok (.ireturn, 1) := by decide +kernel
theorem dX8_leastNumber_21 : decode cX8_leastNumber 21 = .ok (.iconst 0, 1) := by decide +kernel
theorem dX8_leastNumber_22 : decode cX8_leastNumber 22 = .ok (.istore_n 3, 1) := by decide +kernel
theorem dX8_leastNumber_23 : decode cX8_leastNumber 23 = .ok (.iload_n 3, 1) := by decide +kernel
theorem dX8_leastNumber_24 : decode cX8_leastNumber 24 = .ok (.aload_n 0, 1) := by decide +kernel
theorem dX8_leastNumber_25 : decode cX8_leastNumber 25 = .ok (.getfield 19, 3) := by decide +kernel
theorem dX8_leastNumber_28 : decode cX8_leastNumber 28 = .ok (.getfield 226, 3) := by decide +kernel
theorem dX8_leastNumber_31 : decode cX8_leastNumber 31 = .ok (.if_icmp .ge 40, 3) := by decide +kernel
theorem dX8_leastNumber_34 : decode cX8_leastNumber 34 = .ok (.aload_n 0, 1) := by decide +kernel
theorem dX8_leastNumber_35 : decode cX8_leastNumber 35 = .ok (.getfield 19, 3) := by decide +kernel
theorem dX8_leastNumber_38 : decode cX8_leastNumber 38 = .ok (.getfield 107, 3) := by decide +kernel
theorem dX8_leastNumber_41 : decode cX8_leastNumber 41 = .ok (.iload_n 3, 1) := by decide +kernel
theorem dX8_leastNumber_42 : decode cX8_leastNumber 42 = .ok (.invokestatic 110, 3) := by decide +kernel
theorem dX8_leastNumber_45 : decode cX8_leastNumber 45 = .ok (.iconst 1, 1) := by decide +kernel
theorem dX8_leastNumber_46 : decode cX8_leastNumber 46 = .ok (.if_icmp .ne 19, 3) := by decide +kernel
theorem dX8_leastNumber_49 : decode cX8_leastNumber 49 = .ok (.aload_n 0, 1) := by decide +kernel
theorem dX8_leastNumber_50 : decode cX8_leastNumber 50 = .ok (.iload_n 3, 1) := by decide +kernel
theorem dX8_leastNumber_51 : decode cX8_leastNumber 51 = .ok (.invokevirtual 114, 3) := by decide +kernel
theorem dX8_leastNumber_54 : decode cX8_leastNumber 54 = .ok (.iload_n 1, 1) := by decide +kernel
theorem dX8_leastNumber_55 : decode cX8_leastNumber 55 = .ok (.iand, 1) := by decide +kernel
theorem dX8_leastNumber_56 : decode cX8_leastNumber 56 = .ok (.invokestatic 175, 3) := by decide +kernel
theorem dX8_leastNumber_59 : decode cX8_leastNumber 59 = .ok (.iload_n 2, 1) := by decide +kernel
theorem dX8_leastNumber_60 : decode cX8_leastNumber 60 = .ok (.if_icmp .ge 5, 3) := by decide +kernel
theorem dX8_leastNumber_63 : decode cX8_leastNumber 63 = .ok (.iconst 0, 1) := by decide +kernel
theorem dX8_leastNumber_64 : decode cX8_leastNumber 64 = .ok (.ireturn, 1) := by decide +kernel
theorem dX8_leastNumber_65 : decode cX8_leastNumber 65 = .ok (.iinc 3 1, 3) := by decide +kernel
theorem dX8_leastNumber_68 : decode cX8_leastNumber 68 = .ok (.goto (-45), 3) := by decide +kernel
theorem dX8_leastNumber_71 : decode cX8_leastNumber 71 = .ok (.iload_n 2, 1) := by decide +kernel
theorem dX8_leastNumber_72 : decode cX8_leastNumber 72 = .ok (.ireturn, 1) := by decide +kernel
theorem dX8_canHaveBeen_0 : decode cX8_canHaveBeen 0 = .ok (.iconst 0, 1) := by decide +kernel
theorem dX8_canHaveBeen_1 : decode cX8_canHaveBeen 1 = .ok (.istore_n 2, 1) := by decide +kernel
theorem dX8_canHaveBeen_2 : decode cX8_canHaveBeen 2 = .ok (.iload_n 2, 1) := by decide +kernel
theorem dX8_canHaveBeen_3 : decode cX8_canHaveBeen 3 = .ok (.aload_n 0, 1) := by decide +kernel
theorem dX8_canHaveBeen_4 : decode cX8_canHaveBeen 4 = .ok (.getfield 100, 3) := by decide +kernel
theorem dX8_canHaveBeen_7 : decode cX8_canHaveBeen 7 = .ok (.if_icmp .ge 49, 3) := by decide +kernel
theorem dX8_canHaveBeen_10 : decode cX8_canHaveBeen 10 = .ok (.aload_n 0, 1) := by decide +kernel
theorem dX8_canHaveBeen_11 : decode cX8_canHaveBeen 11 = .ok (.getfield 67, 3) := by decide +kernel
theorem dX8_canHaveBeen_14 : decode cX8_canHaveBeen 14 = .ok (.iload_n 2, 1) := by decide +kernel
theorem dX8_canHaveBeen_15 : decode cX8_canHaveBeen 15 = .ok (.invokestatic 110, 3) := by decide +kernel
theorem dX8_canHaveBeen_18 : decode cX8_canHaveBeen 18 = .ok (.iconst 1, 1) := by decide +kernel
theorem dX8_canHaveBeen_19 : decode cX8_canHaveBeen 19 = .ok (.if_icmp .ne 7, 3) := by decide +kernel
theorem dX8_canHaveBeen_22 : decode cX8_canHaveBeen 22 = .ok (.iconst 1, 1) := by decide +kernel
theorem dX8_canHaveBeen_23 : decode cX8_canHaveBeen 23 = .ok (.goto 4, 3) := by decide +kernel
theorem dX8_canHaveBeen_26 : decode cX8_canHaveBeen 26 = .ok (.iconst 0, 1) := by decide +kernel
theorem dX8_canHaveBeen_27 : decode cX8_canHaveBeen 27 = .ok (.istore_n 3, 1) := by decide +kernel
theorem dX8_canHaveBeen_28 : decode cX8_canHaveBeen 28 = .ok (.aload_n 0, 1) := by decide +kernel
theorem dX8_canHaveBeen_29 : decode cX8_canHaveBeen 29 = .ok (.iload_n 1, 1) := by decide +kernel
theorem dX8_canHaveBeen_30 : decode cX8_canHaveBeen 30 = .ok (.invokevirtual 114, 3) := by decide +kernel
theorem dX8_canHaveBeen_33 : decode cX8_canHaveBeen 33 = .ok (.aload_n 0, 1) := by decide +kernel
theorem dX8_canHaveBeen_34 : decode cX8_canHaveBeen 34 = .ok (.getfield 63, 3) := by decide +kernel
theorem dX8_canHaveBeen_37 : decode cX8_canHaveBeen 37 = .ok (.iload_n 2, 1) := by decide +kernel
theorem dX8_canHaveBeen_38 : decode cX8_canHaveBeen 38 = .ok (.invokestatic 110, 3) := by decide +kernel
theorem dX8_canHaveBeen_41 : decode cX8_canHaveBeen 41 = .ok (.invokestatic 172, 3) := by decide +kernel
theorem dX8_canHaveBeen_44 : decode cX8_canHaveBeen 44 = .ok (.iload_n 3, 1) := by decide +kernel
theorem dX8_canHaveBeen_45 : decode cX8_canHaveBeen 45 = .ok (.if_icmp .eq 5, 3) := by decide +kernel
theorem dX8_canHaveBeen_48 : decode cX8_canHaveBeen 48 = .ok (.iconst 0, 1) := by decide +kernel
theorem dX8_canHaveBeen_49 : decode cX8_canHaveBeen 49 = .ok (.ireturn, 1) := by decide +kernel
theorem dX8_canHaveBeen_50 : decode cX8_canHaveBeen 50 = .ok (.iinc 2 1, 3) := by decide +kernel
theorem dX8_canHaveBeen_53 : decode cX8_canHaveBeen 53 = .ok (.goto (-51), 3) := by decide +kernel
theorem dX8_canHaveBeen_56 : decode cX8_canHaveBeen 56 = .ok (.iconst 1, 1) := by decide +kernel
theorem dX8_canHaveBeen_57 : decode cX8_canHaveBeen 57 = .ok (.ireturn, 1) := by decide +kernel
theorem dX8_worstLeft_0 : decode cX8_worstLeft 0 = .ok (.iconst 0, 1) := by decide +kernel
theorem dX8_worstLeft_1 : decode cX8_worstLeft 1 = .ok (.istore_n 3, 1) := by decide +kernel
theorem dX8_worstLeft_2 : decode cX8_worstLeft 2 = .ok (.iconst 0, 1) := by decide +kernel
theorem dX8_worstLeft_3 : decode cX8_worstLeft 3 = .ok (.istore 4, 2) := by decide +kernel
theorem dX8_worstLeft_5 : decode cX8_worstLeft 5 = .ok (.iload 4, 2) := by decide +kernel
theorem dX8_worstLeft_7 : decode cX8_worstLeft 7 = .ok (.aload_n 0, 1) := by decide +kernel
theorem dX8_worstLeft_8 : decode cX8_worstLeft 8 = .ok (.getfield 19, 3) := by decide +kernel
theorem dX8_worstLeft_11 : decode cX8_worstLeft 11 = .ok (.getfield 226, 3) := by decide +kernel
theorem dX8_worstLeft_14 : decode cX8_worstLeft 14 = .ok (.if_icmp .ge 34, 3) := by decide +kernel
theorem dX8_worstLeft_17 : decode cX8_worstLeft 17 = .ok (.iload_n 1, 1) := by decide +kernel
theorem dX8_worstLeft_18 : decode cX8_worstLeft 18 = .ok (.iload 4, 2) := by decide +kernel
theorem dX8_worstLeft_20 : decode cX8_worstLeft 20 = .ok (.invokestatic 172, 3) := by decide +kernel
theorem dX8_worstLeft_23 : decode cX8_worstLeft 23 = .ok (.ifCond .eq 19, 3) := by decide +kernel
theorem dX8_worstLeft_26 : decode cX8_worstLeft 26 = .ok (.aload_n 0, 1) := by decide +kernel
theorem dX8_worstLeft_27 : decode cX8_worstLeft 27 = .ok (.iload 4, 2) := by decide +kernel
theorem dX8_worstLeft_29 : decode cX8_worstLeft 29 = .ok (.invokevirtual 114, 3) := by decide +kernel
theorem dX8_worstLeft_32 : decode cX8_worstLeft 32 = .ok (.iload_n 2, 1) := by decide +kernel
theorem dX8_worstLeft_33 : decode cX8_worstLeft 33 = .ok (.invokestatic 172, 3) := by decide +kernel
theorem dX8_worstLeft_36 : decode cX8_worstLeft 36 = .ok (.ifCond .eq 6, 3) := by decide +kernel
theorem dX8_worstLeft_39 : decode cX8_worstLeft 39 = .ok (.iinc 3 1, 3) := by decide +kernel
theorem dX8_worstLeft_42 : decode cX8_worstLeft 42 = .ok (.iinc 4 1, 3) := by decide +kernel
theorem dX8_worstLeft_45 : decode cX8_worstLeft 45 = .ok (.goto (-40), 3) := by decide +kernel
theorem dX8_worstLeft_48 : decode cX8_worstLeft 48 = .ok (.iload_n 3, 1) := by decide +kernel
theorem dX8_worstLeft_49 : decode cX8_worstLeft 49 = .ok (.iload_n 1, 1) := by decide +kernel
theorem dX8_worstLeft_50 : decode cX8_worstLeft 50 = .ok (.invokestatic 175, 3) := by decide +kernel
theorem dX8_worstLeft_53 : decode cX8_worstLeft 53 = .ok (.iload_n 3, 1) := by decide +kernel
theorem dX8_worstLeft_54 : decode cX8_worstLeft 54 = .ok (.isub, 1) := by decide +kernel
theorem dX8_worstLeft_55 : decode cX8_worstLeft 55 = .ok (.invokestatic 306, 3) := by decide +kernel
theorem dX8_worstLeft_58 : decode cX8_worstLeft 58 = .ok (.ireturn, 1) := by decide +kernel
theorem dX8_asKnocker_0 : decode cX8_asKnocker 0 = .ok (.aload_n 0, 1) := by decide +kernel
theorem dX8_asKnocker_1 : decode cX8_asKnocker 1 = .ok (.dup, 1) := by decide +kernel
theorem dX8_asKnocker_2 : decode cX8_asKnocker 2 = .ok (.getfield 266, 3) := by decide +kernel
theorem dX8_asKnocker_5 : decode cX8_asKnocker 5 = .ok (.lconst 1, 1) := by decide +kernel
theorem dX8_asKnocker_6 : decode cX8_asKnocker 6 = .ok (.ladd, 1) := by decide +kernel
theorem dX8_asKnocker_7 : decode cX8_asKnocker 7 = .ok (.putfield 266, 3) := by decide +kernel
theorem dX8_asKnocker_10 : decode cX8_asKnocker 10 = .ok (.aload_n 0, 1) := by decide +kernel
theorem dX8_asKnocker_11 : decode cX8_asKnocker 11 = .ok (.iload_n 1, 1) := by decide +kernel
theorem dX8_asKnocker_12 : decode cX8_asKnocker 12 = .ok (.invokevirtual 114, 3) := by decide +kernel
theorem dX8_asKnocker_15 : decode cX8_asKnocker 15 = .ok (.invokestatic 175, 3) := by decide +kernel
theorem dX8_asKnocker_18 : decode cX8_asKnocker 18 = .ok (.ireturn, 1) := by decide +kernel
theorem dX8_asMother_0 : decode cX8_asMother 0 = .ok (.aload_n 0, 1) := by decide +kernel
theorem dX8_asMother_1 : decode cX8_asMother 1 = .ok (.dup, 1) := by decide +kernel
theorem dX8_asMother_2 : decode cX8_asMother 2 = .ok (.getfield 266, 3) := by decide +kernel
theorem dX8_asMother_5 : decode cX8_asMother 5 = .ok (.ldc2_w 308, 3) := by decide +kernel
theorem dX8_asMother_8 : decode cX8_asMother 8 = .ok (.ladd, 1) := by decide +kernel
theorem dX8_asMother_9 : decode cX8_asMother 9 = .ok (.putfield 266, 3) := by decide +kernel
theorem dX8_asMother_12 : decode cX8_asMother 12 = .ok (.aload_n 0, 1) := by decide +kernel
theorem dX8_asMother_13 : decode cX8_asMother 13 = .ok (.iload_n 1, 1) := by decide +kernel
theorem dX8_asMother_14 : decode cX8_asMother 14 = .ok (.invokevirtual 239, 3) := by decide +kernel
theorem dX8_asMother_17 : decode cX8_asMother 17 = .ok (.aload_n 0, 1) := by decide +kernel
theorem dX8_asMother_18 : decode cX8_asMother 18 = .ok (.aload_n 0, 1) := by decide +kernel
theorem dX8_asMother_19 : decode cX8_asMother 19 = .ok (.iload_n 1, 1) := by decide +kernel
theorem dX8_asMother_20 : decode cX8_asMother 20 = .ok (.invokevirtual 114, 3) := by decide +kernel
theorem dX8_asMother_23 : decode cX8_asMother 23 = .ok (.invokevirtual 282, 3) := by decide +kernel
theorem dX8_asMother_26 : decode cX8_asMother 26 = .ok (.iadd, 1) := by decide +kernel
theorem dX8_asMother_27 : decode cX8_asMother 27 = .ok (.ireturn, 1) := by decide +kernel
theorem dX8_asWolf_0 : decode cX8_asWolf 0 = .ok (.aload_n 0, 1) := by decide +kernel
theorem dX8_asWolf_1 : decode cX8_asWolf 1 = .ok (.dup, 1) := by decide +kernel
theorem dX8_asWolf_2 : decode cX8_asWolf 2 = .ok (.getfield 266, 3) := by decide +kernel
theorem dX8_asWolf_5 : decode cX8_asWolf 5 = .ok (.ldc2_w 310, 3) := by decide +kernel
theorem dX8_asWolf_8 : decode cX8_asWolf 8 = .ok (.ladd, 1) := by decide +kernel
theorem dX8_asWolf_9 : decode cX8_asWolf 9 = .ok (.putfield 266, 3) := by decide +kernel
theorem dX8_asWolf_12 : decode cX8_asWolf 12 = .ok (.aload_n 0, 1) := by decide +kernel
theorem dX8_asWolf_13 : decode cX8_asWolf 13 = .ok (.iload_n 1, 1) := by decide +kernel
theorem dX8_asWolf_14 : decode cX8_asWolf 14 = .ok (.invokevirtual 239, 3) := by decide +kernel
theorem dX8_asWolf_17 : decode cX8_asWolf 17 = .ok (.aload_n 0, 1) := by decide +kernel
theorem dX8_asWolf_18 : decode cX8_asWolf 18 = .ok (.getfield 33, 3) := by decide +kernel
theorem dX8_asWolf_21 : decode cX8_asWolf 21 = .ok (.getfield 118, 3) := by decide +kernel
theorem dX8_asWolf_24 : decode cX8_asWolf 24 = .ok (.iload_n 1, 1) := by decide +kernel
theorem dX8_asWolf_25 : decode cX8_asWolf 25 = .ok (.invokestatic 110, 3) := by decide +kernel
theorem dX8_asWolf_28 : decode cX8_asWolf 28 = .ok (.isub, 1) := by decide +kernel
theorem dX8_asWolf_29 : decode cX8_asWolf 29 = .ok (.ireturn, 1) := by decide +kernel
theorem dX8_asAunt_0 : decode cX8_asAunt 0 = .ok (.aload_n 0, 1) := by decide +kernel
theorem dX8_asAunt_1 : decode cX8_asAunt 1 = .ok (.dup, 1) := by decide +kernel
theorem dX8_asAunt_2 : decode cX8_asAunt 2 = .ok (.getfield 266, 3) := by decide +kernel
theorem dX8_asAunt_5 : decode cX8_asAunt 5 = .ok (.ldc2_w 312, 3) := by decide +kernel
theorem dX8_asAunt_8 : decode cX8_asAunt 8 = .ok (.ladd, 1) := by decide +kernel
theorem dX8_asAunt_9 : decode cX8_asAunt 9 = .ok (.putfield 266, 3) := by decide +kernel
theorem dX8_asAunt_12 : decode cX8_asAunt 12 = .ok (.iconst 2, 1) := by decide +kernel
theorem dX8_asAunt_13 : decode cX8_asAunt 13 = .ok (.aload_n 0, 1) := by decide +kernel
theorem dX8_asAunt_14 : decode cX8_asAunt 14 = .ok (.iload_n 1, 1) := by decide +kernel
theorem dX8_asAunt_15 : decode cX8_asAunt 15 = .ok (.invokevirtual 242, 3) := by decide +kernel
theorem dX8_asAunt_18 : decode cX8_asAunt 18 = .ok (.imul, 1) := by decide +kernel
theorem dX8_asAunt_19 : decode cX8_asAunt 19 = .ok (.ireturn, 1) := by decide +kernel
theorem dX8_asMiller_0 : decode cX8_asMiller 0 = .ok (.aload_n 0, 1) := by decide +kernel
theorem dX8_asMiller_1 : decode cX8_asMiller 1 = .ok (.dup, 1) := by decide +kernel
theorem dX8_asMiller_2 : decode cX8_asMiller 2 = .ok (.getfield 266, 3) := by decide +kernel
theorem dX8_asMiller_5 : decode cX8_asMiller 5 = .ok (.ldc2_w 314, 3) := by decide +kernel
theorem dX8_asMiller_8 : decode cX8_asMiller 8 = .ok (.ladd, 1) := by decide +kernel
theorem dX8_asMiller_9 : decode cX8_asMiller 9 = .ok (.putfield 266, 3) := by decide +kernel
theorem dX8_asMiller_12 : decode cX8_asMiller 12 = .ok (.aload_n 0, 1) := by decide +kernel
theorem dX8_asMiller_13 : decode cX8_asMiller 13 = .ok (.iload_n 1, 1) := by decide +kernel
theorem dX8_asMiller_14 : decode cX8_asMiller 14 = .ok (.invokevirtual 245, 3) := by decide +kernel
theorem dX8_asMiller_17 : decode cX8_asMiller 17 = .ok (.iload_n 1, 1) := by decide +kernel
theorem dX8_asMiller_18 : decode cX8_asMiller 18 = .ok (.iadd, 1) := by decide +kernel
theorem dX8_asMiller_19 : decode cX8_asMiller 19 = .ok (.ireturn, 1) := by decide +kernel
theorem dX8_asFox_0 : decode cX8_asFox 0 = .ok (.aload_n 0, 1) := by decide +kernel
theorem dX8_asFox_1 : decode cX8_asFox 1 = .ok (.dup, 1) := by decide +kernel
theorem dX8_asFox_2 : decode cX8_asFox 2 = .ok (.getfield 266, 3) := by decide +kernel
theorem dX8_asFox_5 : decode cX8_asFox 5 = .ok (.ldc2_w 316, 3) := by decide +kernel
theorem dX8_asFox_8 : decode cX8_asFox 8 = .ok (.ladd, 1) := by decide +kernel
theorem dX8_asFox_9 : decode cX8_asFox 9 = .ok (.putfield 266, 3) := by decide +kernel
theorem dX8_asFox_12 : decode cX8_asFox 12 = .ok (.aload_n 0, 1) := by decide +kernel
theorem dX8_asFox_13 : decode cX8_asFox 13 = .ok (.iload_n 1, 1) := by decide +kernel
theorem dX8_asFox_14 : decode cX8_asFox 14 = .ok (.invokevirtual 239, 3) := by decide +kernel
theorem dX8_asFox_17 : decode cX8_asFox 17 = .ok (.aload_n 0, 1) := by decide +kernel
theorem dX8_asFox_18 : decode cX8_asFox 18 = .ok (.iload_n 1, 1) := by decide +kernel
theorem dX8_asFox_19 : decode cX8_asFox 19 = .ok (.invokevirtual 114, 3) := by decide +kernel
theorem dX8_asFox_22 : decode cX8_asFox 22 = .ok (.aload_n 0, 1) := by decide +kernel
theorem dX8_asFox_23 : decode cX8_asFox 23 = .ok (.getfield 19, 3) := by decide +kernel
theorem dX8_asFox_26 : decode cX8_asFox 26 = .ok (.getfield 162, 3) := by decide +kernel
theorem dX8_asFox_29 : decode cX8_asFox 29 = .ok (.iand, 1) := by decide +kernel
theorem dX8_asFox_30 : decode cX8_asFox 30 = .ok (.invokestatic 175, 3) := by decide +kernel
theorem dX8_asFox_33 : decode cX8_asFox 33 = .ok (.iadd, 1) := by decide +kernel
theorem dX8_asFox_34 : decode cX8_asFox 34 = .ok (.ireturn, 1) := by decide +kernel
theorem dX9_init_0 : decode cX9_init 0 = .ok (.aload_n 0, 1) := by decide +kernel
theorem dX9_init_1 : decode cX9_init 1 = .ok (.invokespecial 1, 3) := by decide +kernel
theorem dX9_init_4 : decode cX9_init 4 = .ok (.aload_n 0, 1) := by decide +kernel
theorem dX9_init_5 : decode cX9_init 5 = .ok (.sipush 300, 3) := by decide +kernel
theorem dX9_init_8 : decode cX9_init 8 = .ok (.newarray .int, 2) := by decide +kernel
theorem dX9_init_10 : decode cX9_init 10 = .ok (.putfield 7, 3) := by decide +kernel
theorem dX9_init_13 : decode cX9_init 13 = .ok (.aload_n 0, 1) := by decide +kernel
theorem dX9_init_14 : decode cX9_init 14 = .ok (.bipush 10, 2) := by decide +kernel
theorem dX9_init_16 : decode cX9_init 16 = .ok (.newarray .int, 2) := by decide +kernel
theorem dX9_init_18 : decode cX9_init 18 = .ok (.putfield 13, 3) := by decide +kernel
theorem dX9_init_21 : decode cX9_init 21 = .ok (.aload_n 0, 1) := by decide +kernel
theorem dX9_init_22 : decode cX9_init 22 = .ok (.bipush 10, 2) := by decide +kernel
theorem dX9_init_24 : decode cX9_init 24 = .ok (.newarray .int, 2) := by decide +kernel
theorem dX9_init_26 : decode cX9_init 26 = .ok (.putfield 16, 3) := by decide +kernel
theorem dX9_init_29 : decode cX9_init 29 = .ok (.aload_n 0, 1) := by decide +kernel
theorem dX9_init_30 : decode cX9_init 30 = .ok (.bipush 36, 2) := by decide +kernel
theorem dX9_init_32 : decode cX9_init 32 = .ok (.newarray .int, 2) := by decide +kernel
theorem dX9_init_34 : decode cX9_init 34 = .ok (.putfield 19, 3) := by decide +kernel
theorem dX9_init_37 : decode cX9_init 37 = .ok (.aload_n 0, 1) := by decide +kernel
theorem dX9_init_38 : decode cX9_init 38 = .ok (.bipush 16, 2) := by decide +kernel
theorem dX9_init_40 : decode cX9_init 40 = .ok (.newarray .int, 2) := by decide +kernel
theorem dX9_init_42 : decode cX9_init 42 = .ok (.putfield 22, 3) := by decide +kernel
theorem dX9_init_45 : decode cX9_init 45 = .ok (.aload_n 0, 1) := by decide +kernel
theorem dX9_init_46 : decode cX9_init 46 = .ok (.bipush 18, 2) := by decide +kernel
theorem dX9_init_48 : decode cX9_init 48 = .ok (.newarray .int, 2) := by decide +kernel
theorem dX9_init_50 : decode cX9_init 50 = .ok (.putfield 25, 3) := by decide +kernel
theorem dX9_init_53 : decode cX9_init 53 = .ok (.aload_n 0, 1) := by decide +kernel
theorem dX9_init_54 : decode cX9_init 54 = .ok (.bipush 36, 2) := by decide +kernel
theorem dX9_init_56 : decode cX9_init 56 = .ok (.newarray .int, 2) := by decide +kernel
theorem dX9_init_58 : decode cX9_init 58 = .ok (.putfield 28, 3) := by decide +kernel
theorem dX9_init_61 : decode cX9_init 61 = .ok (.aload_n 0, 1) := by decide +kernel
theorem dX9_init_62 : decode cX9_init 62 = .ok (.iconst 2, 1) := by decide +kernel
theorem dX9_init_63 : decode cX9_init 63 = .ok (.newarray .boolean, 2) := by decide +kernel
theorem dX9_init_65 : decode cX9_init 65 = .ok (.putfield 31, 3) := by decide +kernel
theorem dX9_init_68 : decode cX9_init 68 = .ok (.aload_n 0, 1) := by decide +kernel
theorem dX9_init_69 : decode cX9_init 69 = .ok (.bipush 40, 2) := by decide +kernel
theorem dX9_init_71 : decode cX9_init 71 = .ok (.newarray .int, 2) := by decide +kernel
theorem dX9_init_73 : decode cX9_init 73 = .ok (.putfield 35, 3) := by decide +kernel
theorem dX9_init_76 : decode cX9_init 76 = .ok (.aload_n 0, 1) := by decide +kernel
theorem dX9_init_77 : decode cX9_init 77 = .ok (.bipush 6, 2) := by decide +kernel
theorem dX9_init_79 : decode cX9_init 79 = .ok (.newarray .int, 2) := by decide +kernel
theorem dX9_init_81 : decode cX9_init 81 = .ok (.putfield 38, 3) := by decide +kernel
theorem dX9_init_84 : decode cX9_init 84 = .ok (.aload_n 0, 1) := by decide +kernel
theorem dX9_init_85 : decode cX9_init 85 = .ok (.bipush 6, 2) := by decide +kernel
theorem dX9_init_87 : decode cX9_init 87 = .ok (.newarray .int, 2) := by decide +kernel
theorem dX9_init_89 : decode cX9_init 89 = .ok (.putfield 41, 3) := by decide +kernel
theorem dX9_init_92 : decode cX9_init 92 = .ok (.return_, 1) := by decide +kernel
theorem dX9_in_0 : decode cX9_in 0 = .ok (.iload_n 0, 1) := by decide +kernel
theorem dX9_in_1 : decode cX9_in 1 = .ok (.iload_n 1, 1) := by decide +kernel
theorem dX9_in_2 : decode cX9_in 2 = .ok (.if_icmp .lt 12, 3) := by decide +kernel
theorem dX9_in_5 : decode cX9_in 5 = .ok (.iload_n 0, 1) := by decide +kernel
theorem dX9_in_6 : decode cX9_in 6 = .ok (.iload_n 2, 1) := by decide +kernel
theorem dX9_in_7 : decode cX9_in 7 = .ok (.if_icmp .gt 7, 3) := by decide +kernel
theorem dX9_in_10 : decode cX9_in 10 = .ok (.iconst 1, 1) := by decide +kernel
theorem dX9_in_11 : decode cX9_in 11 = .ok (.goto 4, 3) := by decide +kernel
theorem dX9_in_14 : decode cX9_in 14 = .ok (.iconst 0, 1) := by decide +kernel
theorem dX9_in_15 : decode cX9_in 15 = .ok (.ireturn, 1) := by decide +kernel
theorem dX9_ones_0 : decode cX9_ones 0 = .ok (.iconst 0, 1) := by decide +kernel
theorem dX9_ones_1 : decode cX9_ones 1 = .ok (.istore_n 1, 1) := by decide +kernel
theorem dX9_ones_2 : decode cX9_ones 2 = .ok (.iconst 0, 1) := by decide +kernel
theorem dX9_ones_3 : decode cX9_ones 3 = .ok (.istore_n 2, 1) := by decide +kernel
theorem dX9_ones_4 : decode cX9_ones 4 = .ok (.iload_n 2, 1) := by decide +kernel
theorem dX9_ones_5 : decode cX9_ones 5 = .ok (.bipush 8, 2) := by decide +kernel
theorem dX9_ones_7 : decode cX9_ones 7 = .ok (.if_icmp .ge 17, 3) := by decide +kernel
theorem dX9_ones_10 : decode cX9_ones 10 = .ok (.iload_n 1, 1) := by decide +kernel
theorem dX9_ones_11 : decode cX9_ones 11 = .ok (.iload_n 0, 1) := by decide +kernel
theorem dX9_ones_12 : decode cX9_ones 12 = .ok (.iload_n 2, 1) := by decide +kernel
theorem dX9_ones_13 : decode cX9_ones 13 = .ok (.ishr, 1) := by decide +kernel
theorem dX9_ones_14 : decode cX9_ones 14 = .ok (.iconst 1, 1) := by decide +kernel
theorem dX9_ones_15 : decode cX9_ones 15 = .ok (.iand, 1) := by decide +kernel
theorem dX9_ones_16 : decode cX9_ones 16 = .ok (.iadd, 1) := by decide +kernel
theorem dX9_ones_17 : decode cX9_ones 17 = .ok (.istore_n 1, 1) := by decide +kernel
theorem dX9_ones_18 : decode cX9_ones 18 = .ok (.iinc 2 1, 3) := by decide +kernel
theorem dX9_ones_21 : decode cX9_ones 21 = .ok (.goto (-17), 3) := by decide +kernel
theorem dX9_ones_24 : decode cX9_ones 24 = .ok (.iload_n 1, 1) := by decide +kernel
theorem dX9_ones_25 : decode cX9_ones 25 = .ok (.ireturn, 1) := by decide +kernel
theorem dX9_type_0 : decode cX9_type 0 = .ok (.aload_n 0, 1) := by decide +kernel
end
section
theorem dX9_type_1 : decode cX9_type 1 = .ok (.iconst 0, 1) := by decide +kernel
theorem dX9_type_2 : decode cX9_type 2 = .ok (.putfield 44, 3) := by decide +kernel
theorem dX9_type_5 : decode cX9_type 5 = .ok (.iload_n 3, 1) := by decide +kernel
theorem dX9_type_6 : decode cX9_type 6 = .ok (.iconst 1, 1) := by decide +kernel
theorem dX9_type_7 : decode cX9_type 7 = .ok (.bipush 8, 2) := by decide +kernel
theorem dX9_type_9 : decode cX9_type 9 = .ok (.invokestatic 48, 3) := by decide +kernel
theorem dX9_type_12 : decode cX9_type 12 = .ok (.ifCond .ne 5, 3) := by decide +kernel
theorem dX9_type_15 : decode cX9_type 15 = .ok (.iconst (-1), 1) := by decide +kernel
theorem dX9_type_16 : decode cX9_type 16 = .ok (.ireturn, 1) := by decide +kernel
theorem dX9_type_17 : decode cX9_type 17 = .ok (.aload_n 0, 1) := by decide +kernel
theorem dX9_type_18 : decode cX9_type 18 = .ok (.getfield 52, 3) := by decide +kernel
theorem dX9_type_21 : decode cX9_type 21 = .ok (.iload_n 3, 1) := by decide +kernel
theorem dX9_type_22 : decode cX9_type 22 = .ok (.iadd, 1) := by decide +kernel
theorem dX9_type_23 : decode cX9_type 23 = .ok (.sipush 300, 3) := by decide +kernel
theorem dX9_type_26 : decode cX9_type 26 = .ok (.if_icmp .le 6, 3) := by decide +kernel
theorem dX9_type_29 : decode cX9_type 29 = .ok (.bipush (-3), 2) := by decide +kernel
theorem dX9_type_31 : decode cX9_type 31 = .ok (.ireturn, 1) := by decide +kernel
theorem dX9_type_32 : decode cX9_type 32 = .ok (.iload_n 3, 1) := by decide +kernel
theorem dX9_type_33 : decode cX9_type 33 = .ok (.iconst 1, 1) := by decide +kernel
theorem dX9_type_34 : decode cX9_type 34 = .ok (.isub, 1) := by decide +kernel
theorem dX9_type_35 : decode cX9_type 35 = .ok (.istore 4, 2) := by decide +kernel
theorem dX9_type_37 : decode cX9_type 37 = .ok (.iload 4, 2) := by decide +kernel
theorem dX9_type_39 : decode cX9_type 39 = .ok (.ifCond .lt 40, 3) := by decide +kernel
theorem dX9_type_42 : decode cX9_type 42 = .ok (.aload_n 0, 1) := by decide +kernel
theorem dX9_type_43 : decode cX9_type 43 = .ok (.getfield 7, 3) := by decide +kernel
theorem dX9_type_46 : decode cX9_type 46 = .ok (.aload_n 0, 1) := by decide +kernel
theorem dX9_type_47 : decode cX9_type 47 = .ok (.getfield 52, 3) := by decide +kernel
theorem dX9_type_50 : decode cX9_type 50 = .ok (.lload_n 1, 1) := by decide +kernel
theorem dX9_type_51 : decode cX9_type 51 = .ok (.bipush 8, 2) := by decide +kernel
theorem dX9_type_53 : decode cX9_type 53 = .ok (.iload 4, 2) := by decide +kernel
theorem dX9_type_55 : decode cX9_type 55 = .ok (.imul, 1) := by decide +kernel
theorem dX9_type_56 : decode cX9_type 56 = .ok (.lshr, 1) := by decide +kernel
theorem dX9_type_57 : decode cX9_type 57 = .ok (.ldc2_w 55, 3) := by decide +kernel
theorem dX9_type_60 : decode cX9_type 60 = .ok (.land, 1) := by decide +kernel
theorem dX9_type_61 : decode cX9_type 61 = .ok (.l2i, 1) := by decide +kernel
theorem dX9_type_62 : decode cX9_type 62 = .ok (.iastore, 1) := by decide +kernel
theorem dX9_type_63 : decode cX9_type 63 = .ok (.aload_n 0, 1) := by decide +kernel
theorem dX9_type_64 : decode cX9_type 64 = .ok (.dup, 1) := by decide +kernel
theorem dX9_type_65 : decode cX9_type 65 = .ok (.getfield 52, 3) := by decide +kernel
theorem dX9_type_68 : decode cX9_type 68 = .ok (.iconst 1, 1) := by decide +kernel
theorem dX9_type_69 : decode cX9_type 69 = .ok (.iadd, 1) := by decide +kernel
theorem dX9_type_70 : decode cX9_type 70 = .ok (.putfield 52, 3) := by decide +kernel
theorem dX9_type_73 : decode cX9_type 73 = .ok (.iinc 4 (-1), 3) := by decide +kernel
theorem dX9_type_76 : decode cX9_type 76 = .ok (.goto (-39), 3) := by decide +kernel
theorem dX9_type_79 : decode cX9_type 79 = .ok (.aload_n 0, 1) := by decide +kernel
theorem dX9_type_80 : decode cX9_type 80 = .ok (.getfield 52, 3) := by decide +kernel
theorem dX9_type_83 : decode cX9_type 83 = .ok (.ireturn, 1) := by decide +kernel
theorem dX9_clear_0 : decode cX9_clear 0 = .ok (.aload_n 0, 1) := by decide +kernel
theorem dX9_clear_1 : decode cX9_clear 1 = .ok (.iconst 0, 1) := by decide +kernel
theorem dX9_clear_2 : decode cX9_clear 2 = .ok (.putfield 44, 3) := by decide +kernel
theorem dX9_clear_5 : decode cX9_clear 5 = .ok (.aload_n 0, 1) := by decide +kernel
theorem dX9_clear_6 : decode cX9_clear 6 = .ok (.getfield 52, 3) := by decide +kernel
theorem dX9_clear_9 : decode cX9_clear 9 = .ok (.istore_n 1, 1) := by decide +kernel
theorem dX9_clear_10 : decode cX9_clear 10 = .ok (.aload_n 0, 1) := by decide +kernel
theorem dX9_clear_11 : decode cX9_clear 11 = .ok (.iconst 0, 1) := by decide +kernel
theorem dX9_clear_12 : decode cX9_clear 12 = .ok (.putfield 52, 3) := by decide +kernel
theorem dX9_clear_15 : decode cX9_clear 15 = .ok (.iload_n 1, 1) := by decide +kernel
theorem dX9_clear_16 : decode cX9_clear 16 = .ok (.ireturn, 1) := by decide +kernel
theorem dX9_byteAt_0 : decode cX9_byteAt 0 = .ok (.iload_n 1, 1) := by decide +kernel
theorem dX9_byteAt_1 : decode cX9_byteAt 1 = .ok (.aload_n 0, 1) := by decide +kernel
theorem dX9_byteAt_2 : decode cX9_byteAt 2 = .ok (.getfield 52, 3) := by decide +kernel
theorem dX9_byteAt_5 : decode cX9_byteAt 5 = .ok (.if_icmp .ge 12, 3) := by decide +kernel
theorem dX9_byteAt_8 : decode cX9_byteAt 8 = .ok (.aload_n 0, 1) := by decide +kernel
theorem dX9_byteAt_9 : decode cX9_byteAt 9 = .ok (.getfield 7, 3) := by decide +kernel
theorem dX9_byteAt_12 : decode cX9_byteAt 12 = .ok (.iload_n 1, 1) := by decide +kernel
theorem dX9_byteAt_13 : decode cX9_byteAt 13 = .ok (.iaload, 1) := by decide +kernel
theorem dX9_byteAt_14 : decode cX9_byteAt 14 = .ok (.goto 4, 3) := by decide +kernel
theorem dX9_byteAt_17 : decode cX9_byteAt 17 = .ok (.iconst (-1), 1) := by decide +kernel
theorem dX9_byteAt_18 : decode cX9_byteAt 18 = .ok (.ireturn, 1) := by decide +kernel
theorem dX9_add_0 : decode cX9_add 0 = .ok (.iload_n 2, 1) := by decide +kernel
theorem dX9_add_1 : decode cX9_add 1 = .ok (.ifCond .ne 7, 3) := by decide +kernel
theorem dX9_add_4 : decode cX9_add 4 = .ok (.lload_n 0, 1) := by decide +kernel
theorem dX9_add_5 : decode cX9_add 5 = .ok (.goto 11, 3) := by decide +kernel
theorem dX9_add_8 : decode cX9_add 8 = .ok (.ldc2_w 57, 3) := by decide +kernel
theorem dX9_add_11 : decode cX9_add 11 = .ok (.lload_n 0, 1) := by decide +kernel
theorem dX9_add_12 : decode cX9_add 12 = .ok (.lmul, 1) := by decide +kernel
theorem dX9_add_13 : decode cX9_add 13 = .ok (.iload_n 2, 1) := by decide +kernel
theorem dX9_add_14 : decode cX9_add 14 = .ok (.i2l, 1) := by decide +kernel
theorem dX9_add_15 : decode cX9_add 15 = .ok (.ladd, 1) := by decide +kernel
theorem dX9_add_16 : decode cX9_add 16 = .ok (.lreturn, 1) := by decide +kernel
theorem dX9_named_0 : decode cX9_named 0 = .ok (.lconst 0, 1) := by decide +kernel
theorem dX9_named_1 : decode cX9_named 1 = .ok (.iload_n 0, 1) := by decide +kernel
theorem dX9_named_2 : decode cX9_named 2 = .ok (.invokestatic 59, 3) := by decide +kernel
theorem dX9_named_5 : decode cX9_named 5 = .ok (.iload_n 1, 1) := by decide +kernel
theorem dX9_named_6 : decode cX9_named 6 = .ok (.invokestatic 59, 3) := by decide +kernel
theorem dX9_named_9 : decode cX9_named 9 = .ok (.iload_n 2, 1) := by decide +kernel
theorem dX9_named_10 : decode cX9_named 10 = .ok (.invokestatic 59, 3) := by decide +kernel
theorem dX9_named_13 : decode cX9_named 13 = .ok (.iload_n 3, 1) := by decide +kernel
theorem dX9_named_14 : decode cX9_named 14 = .ok (.invokestatic 59, 3) := by decide +kernel
theorem dX9_named_17 : decode cX9_named 17 = .ok (.iload 4, 2) := by decide +kernel
theorem dX9_named_19 : decode cX9_named 19 = .ok (.invokestatic 59, 3) := by decide +kernel
theorem dX9_named_22 : decode cX9_named 22 = .ok (.iload 5, 2) := by decide +kernel
theorem dX9_named_24 : decode cX9_named 24 = .ok (.invokestatic 59, 3) := by decide +kernel
theorem dX9_named_27 : decode cX9_named 27 = .ok (.iload 6, 2) := by decide +kernel
theorem dX9_named_29 : decode cX9_named 29 = .ok (.invokestatic 59, 3) := by decide +kernel
theorem dX9_named_32 : decode cX9_named 32 = .ok (.lreturn, 1) := by decide +kernel
theorem dX9_wordOf_0 : decode cX9_wordOf 0 = .ok (.lload_n 0, 1) := by decide +kernel
theorem dX9_wordOf_1 : decode cX9_wordOf 1 = .ok (.bipush 108, 2) := by decide +kernel
theorem dX9_wordOf_3 : decode cX9_wordOf 3 = .ok (.bipush 111, 2) := by decide +kernel
theorem dX9_wordOf_5 : decode cX9_wordOf 5 = .ok (.bipush 117, 2) := by decide +kernel
theorem dX9_wordOf_7 : decode cX9_wordOf 7 = .ok (.bipush 100, 2) := by decide +kernel
theorem dX9_wordOf_9 : decode cX9_wordOf 9 = .ok (.iconst 0, 1) := by decide +kernel
theorem dX9_wordOf_10 : decode cX9_wordOf 10 = .ok (.iconst 0, 1) := by decide +kernel
theorem dX9_wordOf_11 : decode cX9_wordOf 11 = .ok (.iconst 0, 1) := by decide +kernel
theorem dX9_wordOf_12 : decode cX9_wordOf 12 = .ok (.invokestatic 63, 3) := by decide +kernel
theorem dX9_wordOf_15 : decode cX9_wordOf 15 = .ok (.lcmp, 1) := by decide +kernel
theorem dX9_wordOf_16 : decode cX9_wordOf 16 = .ok (.ifCond .ne 7, 3) := by decide +kernel
theorem dX9_wordOf_19 : decode cX9_wordOf 19 = .ok (.iconst 0, 1) := by decide +kernel
theorem dX9_wordOf_20 : decode cX9_wordOf 20 = .ok (.goto 31, 3) := by decide +kernel
theorem dX9_wordOf_23 : decode cX9_wordOf 23 = .ok (.lload_n 0, 1) := by decide +kernel
theorem dX9_wordOf_24 : decode cX9_wordOf 24 = .ok (.bipush 107, 2) := by decide +kernel
theorem dX9_wordOf_26 : decode cX9_wordOf 26 = .ok (.bipush 110, 2) := by decide +kernel
theorem dX9_wordOf_28 : decode cX9_wordOf 28 = .ok (.bipush 111, 2) := by decide +kernel
theorem dX9_wordOf_30 : decode cX9_wordOf 30 = .ok (.bipush 99, 2) := by decide +kernel
theorem dX9_wordOf_32 : decode cX9_wordOf 32 = .ok (.bipush 107, 2) := by decide +kernel
theorem dX9_wordOf_34 : decode cX9_wordOf 34 = .ok (.bipush 101, 2) := by decide +kernel
theorem dX9_wordOf_36 : decode cX9_wordOf 36 = .ok (.bipush 114, 2) := by decide +kernel
theorem dX9_wordOf_38 : decode cX9_wordOf 38 = .ok (.invokestatic 63, 3) := by decide +kernel
theorem dX9_wordOf_41 : decode cX9_wordOf 41 = .ok (.lcmp, 1) := by decide +kernel
theorem dX9_wordOf_42 : decode cX9_wordOf 42 = .ok (.ifCond .ne 7, 3) := by decide +kernel
theorem dX9_wordOf_45 : decode cX9_wordOf 45 = .ok (.iconst 1, 1) := by decide +kernel
theorem dX9_wordOf_46 : decode cX9_wordOf 46 = .ok (.goto 5, 3) := by decide +kernel
theorem dX9_wordOf_49 : decode cX9_wordOf 49 = .ok (.bipush (-9), 2) := by decide +kernel
theorem dX9_wordOf_51 : decode cX9_wordOf 51 = .ok (.istore_n 2, 1) := by decide +kernel
theorem dX9_wordOf_52 : decode cX9_wordOf 52 = .ok (.iload_n 2, 1) := by decide +kernel
theorem dX9_wordOf_53 : decode cX9_wordOf 53 = .ok (.bipush (-9), 2) := by decide +kernel
theorem dX9_wordOf_55 : decode cX9_wordOf 55 = .ok (.if_icmp .eq 7, 3) := by decide +kernel
theorem dX9_wordOf_58 : decode cX9_wordOf 58 = .ok (.iload_n 2, 1) := by decide +kernel
theorem dX9_wordOf_59 : decode cX9_wordOf 59 = .ok (.goto 53, 3) := by decide +kernel
theorem dX9_wordOf_62 : decode cX9_wordOf 62 = .ok (.lload_n 0, 1) := by decide +kernel
theorem dX9_wordOf_63 : decode cX9_wordOf 63 = .ok (.bipush 101, 2) := by decide +kernel
theorem dX9_wordOf_65 : decode cX9_wordOf 65 = .ok (.bipush 114, 2) := by decide +kernel
theorem dX9_wordOf_67 : decode cX9_wordOf 67 = .ok (.bipush 114, 2) := by decide +kernel
theorem dX9_wordOf_69 : decode cX9_wordOf 69 = .ok (.bipush 97, 2) := by decide +kernel
theorem dX9_wordOf_71 : decode cX9_wordOf 71 = .ok (.bipush 110, 2) := by decide +kernel
theorem dX9_wordOf_73 : decode cX9_wordOf 73 = .ok (.bipush 100, 2) := by decide +kernel
theorem dX9_wordOf_75 : decode cX9_wordOf 75 = .ok (.iconst 0, 1) := by decide +kernel
theorem dX9_wordOf_76 : decode cX9_wordOf 76 = .ok (.invokestatic 63, 3) := by decide +kernel
theorem dX9_wordOf_79 : decode cX9_wordOf 79 = .ok (.lcmp, 1) := by decide +kernel
theorem dX9_wordOf_80 : decode cX9_wordOf 80 = .ok (.ifCond .ne 7, 3) := by decide +kernel
theorem dX9_wordOf_83 : decode cX9_wordOf 83 = .ok (.iconst 2, 1) := by decide +kernel
theorem dX9_wordOf_84 : decode cX9_wordOf 84 = .ok (.goto 28, 3) := by decide +kernel
theorem dX9_wordOf_87 : decode cX9_wordOf 87 = .ok (.lload_n 0, 1) := by decide +kernel
theorem dX9_wordOf_88 : decode cX9_wordOf 88 = .ok (.bipush 114, 2) := by decide +kernel
theorem dX9_wordOf_90 : decode cX9_wordOf 90 = .ok (.bipush 117, 2) := by decide +kernel
theorem dX9_wordOf_92 : decode cX9_wordOf 92 = .ok (.bipush 108, 2) := by decide +kernel
theorem dX9_wordOf_94 : decode cX9_wordOf 94 = .ok (.bipush 101, 2) := by decide +kernel
theorem dX9_wordOf_96 : decode cX9_wordOf 96 = .ok (.iconst 0, 1) := by decide +kernel
theorem dX9_wordOf_97 : decode cX9_wordOf 97 = .ok (.iconst 0, 1) := by decide +kernel
theorem dX9_wordOf_98 : decode cX9_wordOf 98 = .ok (.iconst 0, 1) := by decide +kernel
theorem dX9_wordOf_99 : decode cX9_wordOf 99 = .ok (.invokestatic 63, 3) := by decide +kernel
theorem dX9_wordOf_102 : decode cX9_wordOf 102 = .ok (.lcmp, 1) := by decide +kernel
theorem dX9_wordOf_103 : decode cX9_wordOf 103 = .ok (.ifCond .ne 7, 3) := by decide +kernel
theorem dX9_wordOf_106 : decode cX9_wordOf 106 = .ok (.iconst 3, 1) := by decide +kernel
theorem dX9_wordOf_107 : decode cX9_wordOf 107 = .ok (.goto 5, 3) := by decide +kernel
theorem dX9_wordOf_110 : decode cX9_wordOf 110 = .ok (.bipush (-9), 2) := by decide +kernel
theorem dX9_wordOf_112 : decode cX9_wordOf 112 = .ok (.ireturn, 1) := by decide +kernel
theorem dX9_advances_0 : decode cX9_advances 0 = .ok (.aload_n 0, 1) := by decide +kernel
theorem dX9_advances_1 : decode cX9_advances 1 = .ok (.aload_n 0, 1) := by decide +kernel
theorem dX9_advances_2 : decode cX9_advances 2 = .ok (.getfield 67, 3) := by decide +kernel
theorem dX9_advances_5 : decode cX9_advances 5 = .ok (.invokevirtual 70, 3) := by decide +kernel
theorem dX9_advances_8 : decode cX9_advances 8 = .ok (.bipush 32, 2) := by decide +kernel
theorem dX9_advances_10 : decode cX9_advances 10 = .ok (.if_icmp .ne 16, 3) := by decide +kernel
theorem dX9_advances_13 : decode cX9_advances 13 = .ok (.aload_n 0, 1) := by decide +kernel
theorem dX9_advances_14 : decode cX9_advances 14 = .ok (.dup, 1) := by decide +kernel
theorem dX9_advances_15 : decode cX9_advances 15 = .ok (.getfield 67, 3) := by decide +kernel
theorem dX9_advances_18 : decode cX9_advances 18 = .ok (.iconst 1, 1) := by decide +kernel
theorem dX9_advances_19 : decode cX9_advances 19 = .ok (.iadd, 1) := by decide +kernel
theorem dX9_advances_20 : decode cX9_advances 20 = .ok (.putfield 67, 3) := by decide +kernel
theorem dX9_advances_23 : decode cX9_advances 23 = .ok (.goto (-23), 3) := by decide +kernel
theorem dX9_advances_26 : decode cX9_advances 26 = .ok (.aload_n 0, 1) := by decide +kernel
theorem dX9_advances_27 : decode cX9_advances 27 = .ok (.aload_n 0, 1) := by decide +kernel
theorem dX9_advances_28 : decode cX9_advances 28 = .ok (.getfield 67, 3) := by decide +kernel
theorem dX9_advances_31 : decode cX9_advances 31 = .ok (.putfield 74, 3) := by decide +kernel
theorem dX9_advances_34 : decode cX9_advances 34 = .ok (.aload_n 0, 1) := by decide +kernel
theorem dX9_advances_35 : decode cX9_advances 35 = .ok (.aload_n 0, 1) := by decide +kernel
theorem dX9_advances_36 : decode cX9_advances 36 = .ok (.getfield 67, 3) := by decide +kernel
theorem dX9_advances_39 : decode cX9_advances 39 = .ok (.invokevirtual 70, 3) := by decide +kernel
theorem dX9_advances_42 : decode cX9_advances 42 = .ok (.istore_n 1, 1) := by decide +kernel
theorem dX9_advances_43 : decode cX9_advances 43 = .ok (.iload_n 1, 1) := by decide +kernel
theorem dX9_advances_44 : decode cX9_advances 44 = .ok (.ifCond .ge 11, 3) := by decide +kernel
theorem dX9_advances_47 : decode cX9_advances 47 = .ok (.aload_n 0, 1) := by decide +kernel
theorem dX9_advances_48 : decode cX9_advances 48 = .ok (.iconst 0, 1) := by decide +kernel
theorem dX9_advances_49 : decode cX9_advances 49 = .ok (.putfield 77, 3) := by decide +kernel
theorem dX9_advances_52 : decode cX9_advances 52 = .ok (.goto 258, 3) := by decide +kernel
theorem dX9_advances_55 : decode cX9_advances 55 = .ok (.iload_n 1, 1) := by decide +kernel
theorem dX9_advances_56 : decode cX9_advances 56 = .ok (.bipush 97, 2) := by decide +kernel
theorem dX9_advances_58 : decode cX9_advances 58 = .ok (.bipush 122, 2) := by decide +kernel
theorem dX9_advances_60 : decode cX9_advances 60 = .ok (.invokestatic 48, 3) := by decide +kernel
theorem dX9_advances_63 : decode cX9_advances 63 = .ok (.ifCond .eq 96, 3) := by decide +kernel
theorem dX9_advances_66 : decode cX9_advances 66 = .ok (.lconst 0, 1) := by decide +kernel
theorem dX9_advances_67 : decode cX9_advances 67 = .ok (.lstore_n 2, 1) := by decide +kernel
theorem dX9_advances_68 : decode cX9_advances 68 = .ok (.aload_n 0, 1) := by decide +kernel
theorem dX9_advances_69 : decode cX9_advances 69 = .ok (.aload_n 0, 1) := by decide +kernel
theorem dX9_advances_70 : decode cX9_advances 70 = .ok (.getfield 67, 3) := by decide +kernel
theorem dX9_advances_73 : decode cX9_advances 73 = .ok (.invokevirtual 70, 3) := by decide +kernel
theorem dX9_advances_76 : decode cX9_advances 76 = .ok (.bipush 97, 2) := by decide +kernel
theorem dX9_advances_78 : decode cX9_advances 78 = .ok (.bipush 122, 2) := by decide +kernel
theorem dX9_advances_80 : decode cX9_advances 80 = .ok (.invokestatic 48, 3) := by decide +kernel
theorem dX9_advances_83 : decode cX9_advances 83 = .ok (.ifCond .eq 47, 3) := by decide +kernel
theorem dX9_advances_86 : decode cX9_advances 86 = .ok (.aload_n 0, 1) := by decide +kernel
theorem dX9_advances_87 : decode cX9_advances 87 = .ok (.getfield 67, 3) := by decide +kernel
theorem dX9_advances_90 : decode cX9_advances 90 = .ok (.aload_n 0, 1) := by decide +kernel
theorem dX9_advances_91 : decode cX9_advances 91 = .ok (.getfield 74, 3) := by decide +kernel
theorem dX9_advances_94 : decode cX9_advances 94 = .ok (.isub, 1) := by decide +kernel
theorem dX9_advances_95 : decode cX9_advances 95 = .ok (.bipush 7, 2) := by decide +kernel
theorem dX9_advances_97 : decode cX9_advances 97 = .ok (.if_icmp .ge 18, 3) := by decide +kernel
theorem dX9_advances_100 : decode cX9_advances 100 = .ok (.lload_n 2, 1) := by decide +kernel
theorem dX9_advances_101 : decode cX9_advances 101 = .ok (.aload_n 0, 1) := by decide +kernel
theorem dX9_advances_102 : decode cX9_advances 102 = .ok (.aload_n 0, 1) := by decide +kernel
theorem dX9_advances_103 : decode cX9_advances 103 = .ok (.getfield 67, 3) := by decide +kernel
theorem dX9_advances_106 : decode cX9_advances 106 = .ok (.invokevirtual 70, 3) := by decide +kernel
theorem dX9_advances_109 : decode cX9_advances 109 = .ok (.invokestatic 59, 3) := by decide +kernel
theorem dX9_advances_112 : decode cX9_advances 112 = .ok (.goto 4, 3) := by decide +kernel
theorem dX9_advances_115 : decode cX9_advances 115 = .ok (.lconst 0, 1) := by decide +kernel
theorem dX9_advances_116 : decode cX9_advances 116 = .ok (.lstore_n 2, 1) := by decide +kernel
theorem dX9_advances_117 : decode cX9_advances 117 = .ok (.aload_n 0, 1) := by decide +kernel
theorem dX9_advances_118 : decode cX9_advances 118 = .ok (.dup, 1) := by decide +kernel
theorem dX9_advances_119 : decode cX9_advances 119 = .ok (.getfield 67, 3) := by decide +kernel
theorem dX9_advances_122 : decode cX9_advances 122 = .ok (.iconst 1, 1) := by decide +kernel
theorem dX9_advances_123 : decode cX9_advances 123 = .ok (.iadd, 1) := by decide +kernel
theorem dX9_advances_124 : decode cX9_advances 124 = .ok (.putfield 67, 3) := by decide +kernel
theorem dX9_advances_127 : decode cX9_advances 127 = .ok (.goto (-59), 3) := by decide +kernel
theorem dX9_advances_130 : decode cX9_advances 130 = .ok (.aload_n 0, 1) := by decide +kernel
theorem dX9_advances_131 : decode cX9_advances 131 = .ok (.lload_n 2, 1) := by decide +kernel
theorem dX9_advances_132 : decode cX9_advances 132 = .ok (.invokestatic 80, 3) := by decide +kernel
theorem dX9_advances_135 : decode cX9_advances 135 = .ok (.putfield 84, 3) := by decide +kernel
theorem dX9_advances_138 : decode cX9_advances 138 = .ok (.aload_n 0, 1) := by decide +kernel
theorem dX9_advances_139 : decode cX9_advances 139 = .ok (.aload_n 0, 1) := by decide +kernel
theorem dX9_advances_140 : decode cX9_advances 140 = .ok (.getfield 84, 3) := by decide +kernel
theorem dX9_advances_143 : decode cX9_advances 143 = .ok (.bipush (-9), 2) := by decide +kernel
theorem dX9_advances_145 : decode cX9_advances 145 = .ok (.if_icmp .ne 7, 3) := by decide +kernel
theorem dX9_advances_148 : decode cX9_advances 148 = .ok (.iconst 4, 1) := by decide +kernel
theorem dX9_advances_149 : decode cX9_advances 149 = .ok (.goto 4, 3) := by decide +kernel
theorem dX9_advances_152 : decode cX9_advances 152 = .ok (.iconst 1, 1) := by decide +kernel
theorem dX9_advances_153 : decode cX9_advances 153 = .ok (.putfield 77, 3) := by decide +kernel
theorem dX9_advances_156 : decode cX9_advances 156 = .ok (.goto 154, 3) := by decide +kernel
theorem dX9_advances_159 : decode cX9_advances 159 = .ok (.iload_n 1, 1) := by decide +kernel
theorem dX9_advances_160 : decode cX9_advances 160 = .ok (.bipush 48, 2) := by decide +kernel
theorem dX9_advances_162 : decode cX9_advances 162 = .ok (.bipush 57, 2) := by decide +kernel
theorem dX9_advances_164 : decode cX9_advances 164 = .ok (.invokestatic 48, 3) := by decide +kernel
theorem dX9_advances_167 : decode cX9_advances 167 = .ok (.ifCond .eq 118, 3) := by decide +kernel
theorem dX9_advances_170 : decode cX9_advances 170 = .ok (.aload_n 0, 1) := by decide +kernel
theorem dX9_advances_171 : decode cX9_advances 171 = .ok (.iconst 0, 1) := by decide +kernel
theorem dX9_advances_172 : decode cX9_advances 172 = .ok (.putfield 84, 3) := by decide +kernel
theorem dX9_advances_175 : decode cX9_advances 175 = .ok (.aload_n 0, 1) := by decide +kernel
theorem dX9_advances_176 : decode cX9_advances 176 = .ok (.aload_n 0, 1) := by decide +kernel
theorem dX9_advances_177 : decode cX9_advances 177 = .ok (.getfield 67, 3) := by decide +kernel
theorem dX9_advances_180 : decode cX9_advances 180 = .ok (.invokevirtual 70, 3) := by decide +kernel
theorem dX9_advances_183 : decode cX9_advances 183 = .ok (.bipush 48, 2) := by decide +kernel
theorem dX9_advances_185 : decode cX9_advances 185 = .ok (.bipush 57, 2) := by decide +kernel
theorem dX9_advances_187 : decode cX9_advances 187 = .ok (.invokestatic 48, 3) := by decide +kernel
theorem dX9_advances_190 : decode cX9_advances 190 = .ok (.ifCond .eq 55, 3) := by decide +kernel
theorem dX9_advances_193 : decode cX9_advances 193 = .ok (.aload_n 0, 1) := by decide +kernel
theorem dX9_advances_194 : decode cX9_advances 194 = .ok (.aload_n 0, 1) := by decide +kernel
theorem dX9_advances_195 : decode cX9_advances 195 = .ok (.getfield 84, 3) := by decide +kernel
theorem dX9_advances_198 : decode cX9_advances 198 = .ok (.bipush 99, 2) := by decide +kernel
theorem dX9_advances_200 : decode cX9_advances 200 = .ok (.if_icmp .le 10, 3) := by decide +kernel
theorem dX9_advances_203 : decode cX9_advances 203 = .ok (.aload_n 0, 1) := by decide +kernel
theorem dX9_advances_204 : decode cX9_advances 204 = .ok (.getfield 84, 3) := by decide +kernel
theorem dX9_advances_207 : decode cX9_advances 207 = .ok (.goto 22, 3) := by decide +kernel
theorem dX9_advances_210 : decode cX9_advances 210 = .ok (.bipush 10, 2) := by decide +kernel
theorem dX9_advances_212 : decode cX9_advances 212 = .ok (.aload_n 0, 1) := by decide +kernel
theorem dX9_advances_213 : decode cX9_advances 213 = .ok (.getfield 84, 3) := by decide +kernel
theorem dX9_advances_216 : decode cX9_advances 216 = .ok (.imul, 1) := by decide +kernel
theorem dX9_advances_217 : decode cX9_advances 217 = .ok (.aload_n 0, 1) := by decide +kernel
theorem dX9_advances_218 : decode cX9_advances 218 = .ok (.aload_n 0, 1) := by decide +kernel
theorem dX9_advances_219 : decode cX9_advances 219 = .ok (.getfield 67, 3) := by decide +kernel
theorem dX9_advances_222 : decode cX9_advances 222 = .ok (.invokevirtual 70, 3) := by decide +kernel
theorem dX9_advances_225 : decode cX9_advances 225 = .ok (.iadd, 1) := by decide +kernel
theorem dX9_advances_226 : decode cX9_advances 226 = .ok (.bipush 48, 2) := by decide +kernel
theorem dX9_advances_228 : decode cX9_advances 228 = .ok (.isub, 1) := by decide +kernel
theorem dX9_advances_229 : decode cX9_advances 229 = .ok (.putfield 84, 3) := by decide +kernel
theorem dX9_advances_232 : decode cX9_advances 232 = .ok (.aload_n 0, 1) := by decide +kernel
theorem dX9_advances_233 : decode cX9_advances 233 = .ok (.dup, 1) := by decide +kernel
theorem dX9_advances_234 : decode cX9_advances 234 = .ok (.getfield 67, 3) := by decide +kernel
theorem dX9_advances_237 : decode cX9_advances 237 = .ok (.iconst 1, 1) := by decide +kernel
theorem dX9_advances_238 : decode cX9_advances 238 = .ok (.iadd, 1) := by decide +kernel
theorem dX9_advances_239 : decode cX9_advances 239 = .ok (.putfield 67, 3) := by decide +kernel
theorem dX9_advances_242 : decode cX9_advances 242 = .ok (.goto (-67), 3) := by decide +kernel
theorem dX9_advances_245 : decode cX9_advances 245 = .ok (.aload_n 0, 1) := by decide +kernel
theorem dX9_advances_246 : decode cX9_advances 246 = .ok (.aload_n 0, 1) := by decide +kernel
theorem dX9_advances_247 : decode cX9_advances 247 = .ok (.getfield 84, 3) := by decide +kernel
theorem dX9_advances_250 : decode cX9_advances 250 = .ok (.bipush 99, 2) := by decide +kernel
theorem dX9_advances_252 : decode cX9_advances 252 = .ok (.if_icmp .gt 22, 3) := by decide +kernel
theorem dX9_advances_255 : decode cX9_advances 255 = .ok (.iload_n 1, 1) := by decide +kernel
theorem dX9_advances_256 : decode cX9_advances 256 = .ok (.bipush 48, 2) := by decide +kernel
theorem dX9_advances_258 : decode cX9_advances 258 = .ok (.if_icmp .ne 20, 3) := by decide +kernel
theorem dX9_advances_261 : decode cX9_advances 261 = .ok (.aload_n 0, 1) := by decide +kernel
theorem dX9_advances_262 : decode cX9_advances 262 = .ok (.getfield 67, 3) := by decide +kernel
theorem dX9_advances_265 : decode cX9_advances 265 = .ok (.aload_n 0, 1) := by decide +kernel
theorem dX9_advances_266 : decode cX9_advances 266 = .ok (.getfield 74, 3) := by decide +kernel
theorem dX9_advances_269 : decode cX9_advances 269 = .ok (.isub, 1) := by decide +kernel
theorem dX9_advances_270 : decode cX9_advances 270 = .ok (.iconst 1, 1) := by decide +kernel
theorem dX9_advances_271 : decode cX9_advances 271 = .ok (.if_icmp .le 7, 3) := by decide +kernel
theorem dX9_advances_274 : decode cX9_advances 274 = .ok (.iconst 4, 1) := by decide +kernel
theorem dX9_advances_275 : decode cX9_advances 275 = .ok (.goto 4, 3) := by decide +kernel
theorem dX9_advances_278 : decode cX9_advances 278 = .ok (.iconst 2, 1) := by decide +kernel
theorem dX9_advances_279 : decode cX9_advances 279 = .ok (.putfield 77, 3) := by decide +kernel
theorem dX9_advances_282 : decode cX9_advances 282 = .ok (.goto 28, 3) := by decide +kernel
theorem dX9_advances_285 : decode cX9_advances 285 = .ok (.aload_n 0, 1) := by decide +kernel
theorem dX9_advances_286 : decode cX9_advances 286 = .ok (.dup, 1) := by decide +kernel
theorem dX9_advances_287 : decode cX9_advances 287 = .ok (.getfield 67, 3) := by decide +kernel
theorem dX9_advances_290 : decode cX9_advances 290 = .ok (.iconst 1, 1) := by decide +kernel
theorem dX9_advances_291 : decode cX9_advances 291 = .ok (.iadd, 1) := by decide +kernel
theorem dX9_advances_292 : decode cX9_advances 292 = .ok (.putfield 67, 3) := by decide +kernel
theorem dX9_advances_295 : decode cX9_advances 295 = .ok (.aload_n 0, 1) := by decide +kernel
theorem dX9_advances_296 : decode cX9_advances 296 = .ok (.iload_n 1, 1) := by decide +kernel
theorem dX9_advances_297 : decode cX9_advances 297 = .ok (.bipush 59, 2) := by decide +kernel
theorem dX9_advances_299 : decode cX9_advances 299 = .ok (.if_icmp .ne 7, 3) := by decide +kernel
theorem dX9_advances_302 : decode cX9_advances 302 = .ok (.iconst 3, 1) := by decide +kernel
theorem dX9_advances_303 : decode cX9_advances 303 = .ok (.goto 4, 3) := by decide +kernel
theorem dX9_advances_306 : decode cX9_advances 306 = .ok (.iconst 4, 1) := by decide +kernel
theorem dX9_advances_307 : decode cX9_advances 307 = .ok (.putfield 77, 3) := by decide +kernel
theorem dX9_advances_310 : decode cX9_advances 310 = .ok (.return_, 1) := by decide +kernel
theorem dX9_isWell_0 : decode cX9_isWell 0 = .ok (.aload_n 0, 1) := by decide +kernel
theorem dX9_isWell_1 : decode cX9_isWell 1 = .ok (.getfield 87, 3) := by decide +kernel
theorem dX9_isWell_4 : decode cX9_isWell 4 = .ok (.ifCond .ge 7, 3) := by decide +kernel
theorem dX9_isWell_7 : decode cX9_isWell 7 = .ok (.iconst 1, 1) := by decide +kernel
theorem dX9_isWell_8 : decode cX9_isWell 8 = .ok (.goto 4, 3) := by decide +kernel
theorem dX9_isWell_11 : decode cX9_isWell 11 = .ok (.iconst 0, 1) := by decide +kernel
theorem dX9_isWell_12 : decode cX9_isWell 12 = .ok (.ireturn, 1) := by decide +kernel
theorem dX9_takes_0 : decode cX9_takes 0 = .ok (.aload_n 0, 1) := by decide +kernel
theorem dX9_takes_1 : decode cX9_takes 1 = .ok (.invokevirtual 90, 3) := by decide +kernel
theorem dX9_takes_4 : decode cX9_takes 4 = .ok (.ifCond .ne 5, 3) := by decide +kernel
theorem dX9_takes_7 : decode cX9_takes 7 = .ok (.iconst 0, 1) := by decide +kernel
theorem dX9_takes_8 : decode cX9_takes 8 = .ok (.ireturn, 1) := by decide +kernel
theorem dX9_takes_9 : decode cX9_takes 9 = .ok (.iload_n 1, 1) := by decide +kernel
theorem dX9_takes_10 : decode cX9_takes 10 = .ok (.ifCond .ne 13, 3) := by decide +kernel
theorem dX9_takes_13 : decode cX9_takes 13 = .ok (.aload_n 0, 1) := by decide +kernel
theorem dX9_takes_14 : decode cX9_takes 14 = .ok (.aload_n 0, 1) := by decide +kernel
theorem dX9_takes_15 : decode cX9_takes 15 = .ok (.getfield 74, 3) := by decide +kernel
theorem dX9_takes_18 : decode cX9_takes 18 = .ok (.putfield 87, 3) := by decide +kernel
theorem dX9_takes_21 : decode cX9_takes 21 = .ok (.iconst 0, 1) := by decide +kernel
theorem dX9_takes_22 : decode cX9_takes 22 = .ok (.ireturn, 1) := by decide +kernel
theorem dX9_takes_23 : decode cX9_takes 23 = .ok (.aload_n 0, 1) := by decide +kernel
theorem dX9_takes_24 : decode cX9_takes 24 = .ok (.getfield 84, 3) := by decide +kernel
theorem dX9_takes_27 : decode cX9_takes 27 = .ok (.istore_n 2, 1) := by decide +kernel
theorem dX9_takes_28 : decode cX9_takes 28 = .ok (.aload_n 0, 1) := by decide +kernel
theorem dX9_takes_29 : decode cX9_takes 29 = .ok (.invokevirtual 94, 3) := by decide +kernel
theorem dX9_takes_32 : decode cX9_takes 32 = .ok (.iload_n 2, 1) := by decide +kernel
theorem dX9_takes_33 : decode cX9_takes 33 = .ok (.ireturn, 1) := by decide +kernel
theorem dX9_number_0 : decode cX9_number 0 = .ok (.aload_n 0, 1) := by decide +kernel
theorem dX9_number_1 : decode cX9_number 1 = .ok (.aload_n 0, 1) := by decide +kernel
theorem dX9_number_2 : decode cX9_number 2 = .ok (.getfield 77, 3) := by decide +kernel
theorem dX9_number_5 : decode cX9_number 5 = .ok (.iconst 2, 1) := by decide +kernel
theorem dX9_number_6 : decode cX9_number 6 = .ok (.if_icmp .ne 19, 3) := by decide +kernel
theorem dX9_number_9 : decode cX9_number 9 = .ok (.aload_n 0, 1) := by decide +kernel
theorem dX9_number_10 : decode cX9_number 10 = .ok (.getfield 84, 3) := by decide +kernel
theorem dX9_number_13 : decode cX9_number 13 = .ok (.iload_n 1, 1) := by decide +kernel
theorem dX9_number_14 : decode cX9_number 14 = .ok (.iload_n 2, 1) := by decide +kernel
theorem dX9_number_15 : decode cX9_number 15 = .ok (.invokestatic 48, 3) := by decide +kernel
theorem dX9_number_18 : decode cX9_number 18 = .ok (.ifCond .eq 7, 3) := by decide +kernel
theorem dX9_number_21 : decode cX9_number 21 = .ok (.iconst 1, 1) := by decide +kernel
theorem dX9_number_22 : decode cX9_number 22 = .ok (.goto 4, 3) := by decide +kernel
theorem dX9_number_25 : decode cX9_number 25 = .ok (.iconst 0, 1) := by decide +kernel
theorem dX9_number_26 : decode cX9_number 26 = .ok (.invokevirtual 97, 3) := by decide +kernel
theorem dX9_number_29 : decode cX9_number 29 = .ok (.ireturn, 1) := by decide +kernel
theorem dX9_signSet_0 : decode cX9_signSet 0 = .ok (.iconst 0, 1) := by decide +kernel
theorem dX9_signSet_1 : decode cX9_signSet 1 = .ok (.istore_n 1, 1) := by decide +kernel
theorem dX9_signSet_2 : decode cX9_signSet 2 = .ok (.aload_n 0, 1) := by decide +kernel
theorem dX9_signSet_3 : decode cX9_signSet 3 = .ok (.invokevirtual 90, 3) := by decide +kernel
theorem dX9_signSet_6 : decode cX9_signSet 6 = .ok (.ifCond .eq 65, 3) := by decide +kernel
theorem dX9_signSet_9 : decode cX9_signSet 9 = .ok (.aload_n 0, 1) := by decide +kernel
theorem dX9_signSet_10 : decode cX9_signSet 10 = .ok (.getfield 77, 3) := by decide +kernel
theorem dX9_signSet_13 : decode cX9_signSet 13 = .ok (.iconst 2, 1) := by decide +kernel
theorem dX9_signSet_14 : decode cX9_signSet 14 = .ok (.if_icmp .ne 57, 3) := by decide +kernel
theorem dX9_signSet_17 : decode cX9_signSet 17 = .ok (.aload_n 0, 1) := by decide +kernel
theorem dX9_signSet_18 : decode cX9_signSet 18 = .ok (.aload_n 0, 1) := by decide +kernel
theorem dX9_signSet_19 : decode cX9_signSet 19 = .ok (.getfield 84, 3) := by decide +kernel
theorem dX9_signSet_22 : decode cX9_signSet 22 = .ok (.iconst 0, 1) := by decide +kernel
theorem dX9_signSet_23 : decode cX9_signSet 23 = .ok (.bipush 7, 2) := by decide +kernel
theorem dX9_signSet_25 : decode cX9_signSet 25 = .ok (.invokestatic 48, 3) := by decide +kernel
theorem dX9_signSet_28 : decode cX9_signSet 28 = .ok (.ifCond .eq 18, 3) := by decide +kernel
theorem dX9_signSet_31 : decode cX9_signSet 31 = .ok (.iload_n 1, 1) := by decide +kernel
theorem dX9_signSet_32 : decode cX9_signSet 32 = .ok (.aload_n 0, 1) := by decide +kernel
theorem dX9_signSet_33 : decode cX9_signSet 33 = .ok (.getfield 84, 3) := by decide +kernel
theorem dX9_signSet_36 : decode cX9_signSet 36 = .ok (.ishr, 1) := by decide +kernel
theorem dX9_signSet_37 : decode cX9_signSet 37 = .ok (.iconst 1, 1) := by decide +kernel
theorem dX9_signSet_38 : decode cX9_signSet 38 = .ok (.iand, 1) := by decide +kernel
theorem dX9_signSet_39 : decode cX9_signSet 39 = .ok (.ifCond .ne 7, 3) := by decide +kernel
theorem dX9_signSet_42 : decode cX9_signSet 42 = .ok (.iconst 1, 1) := by decide +kernel
theorem dX9_signSet_43 : decode cX9_signSet 43 = .ok (.goto 4, 3) := by decide +kernel
theorem dX9_signSet_46 : decode cX9_signSet 46 = .ok (.iconst 0, 1) := by decide +kernel
theorem dX9_signSet_47 : decode cX9_signSet 47 = .ok (.invokevirtual 97, 3) := by decide +kernel
theorem dX9_signSet_50 : decode cX9_signSet 50 = .ok (.istore_n 2, 1) := by decide +kernel
theorem dX9_signSet_51 : decode cX9_signSet 51 = .ok (.iload_n 1, 1) := by decide +kernel
theorem dX9_signSet_52 : decode cX9_signSet 52 = .ok (.aload_n 0, 1) := by decide +kernel
theorem dX9_signSet_53 : decode cX9_signSet 53 = .ok (.invokevirtual 90, 3) := by decide +kernel
theorem dX9_signSet_56 : decode cX9_signSet 56 = .ok (.ifCond .eq 9, 3) := by decide +kernel
theorem dX9_signSet_59 : decode cX9_signSet 59 = .ok (.iconst 1, 1) := by decide +kernel
theorem dX9_signSet_60 : decode cX9_signSet 60 = .ok (.iload_n 2, 1) := by decide +kernel
theorem dX9_signSet_61 : decode cX9_signSet 61 = .ok (.ishl, 1) := by decide +kernel
theorem dX9_signSet_62 : decode cX9_signSet 62 = .ok (.goto 4, 3) := by decide +kernel
theorem dX9_signSet_65 : decode cX9_signSet 65 = .ok (.iconst 0, 1) := by decide +kernel
theorem dX9_signSet_66 : decode cX9_signSet 66 = .ok (.ior, 1) := by decide +kernel
theorem dX9_signSet_67 : decode cX9_signSet 67 = .ok (.istore_n 1, 1) := by decide +kernel
theorem dX9_signSet_68 : decode cX9_signSet 68 = .ok (.goto (-66), 3) := by decide +kernel
theorem dX9_signSet_71 : decode cX9_signSet 71 = .ok (.iload_n 1, 1) := by decide +kernel
theorem dX9_signSet_72 : decode cX9_signSet 72 = .ok (.ireturn, 1) := by decide +kernel
theorem dX9_readsItem_0 : decode cX9_readsItem 0 = .ok (.iload_n 1, 1) := by decide +kernel
theorem dX9_readsItem_1 : decode cX9_readsItem 1 = .ok (.ifCond .ne 14, 3) := by decide +kernel
theorem dX9_readsItem_4 : decode cX9_readsItem 4 = .ok (.aload_n 0, 1) := by decide +kernel
theorem dX9_readsItem_5 : decode cX9_readsItem 5 = .ok (.aload_n 0, 1) := by decide +kernel
theorem dX9_readsItem_6 : decode cX9_readsItem 6 = .ok (.invokevirtual 101, 3) := by decide +kernel
theorem dX9_readsItem_9 : decode cX9_readsItem 9 = .ok (.putfield 105, 3) := by decide +kernel
theorem dX9_readsItem_12 : decode cX9_readsItem 12 = .ok (.goto 240, 3) := by decide +kernel
theorem dX9_readsItem_15 : decode cX9_readsItem 15 = .ok (.iload_n 1, 1) := by decide +kernel
theorem dX9_readsItem_16 : decode cX9_readsItem 16 = .ok (.iconst 1, 1) := by decide +kernel
theorem dX9_readsItem_17 : decode cX9_readsItem 17 = .ok (.if_icmp .ne 48, 3) := by decide +kernel
theorem dX9_readsItem_20 : decode cX9_readsItem 20 = .ok (.aload_n 0, 1) := by decide +kernel
theorem dX9_readsItem_21 : decode cX9_readsItem 21 = .ok (.getfield 13, 3) := by decide +kernel
theorem dX9_readsItem_24 : decode cX9_readsItem 24 = .ok (.iconst 5, 1) := by decide +kernel
theorem dX9_readsItem_25 : decode cX9_readsItem 25 = .ok (.aload_n 0, 1) := by decide +kernel
theorem dX9_readsItem_26 : decode cX9_readsItem 26 = .ok (.getfield 108, 3) := by decide +kernel
theorem dX9_readsItem_29 : decode cX9_readsItem 29 = .ok (.iadd, 1) := by decide +kernel
theorem dX9_readsItem_30 : decode cX9_readsItem 30 = .ok (.aload_n 0, 1) := by decide +kernel
theorem dX9_readsItem_31 : decode cX9_readsItem 31 = .ok (.iconst 0, 1) := by decide +kernel
theorem dX9_readsItem_32 : decode cX9_readsItem 32 = .ok (.iconst 1, 1) := by decide +kernel
theorem dX9_readsItem_33 : decode cX9_readsItem 33 = .ok (.invokevirtual 111, 3) := by decide +kernel
theorem dX9_readsItem_36 : decode cX9_readsItem 36 = .ok (.iastore, 1) := by decide +kernel
theorem dX9_readsItem_37 : decode cX9_readsItem 37 = .ok (.aload_n 0, 1) := by decide +kernel
theorem dX9_readsItem_38 : decode cX9_readsItem 38 = .ok (.getfield 16, 3) := by decide +kernel
theorem dX9_readsItem_41 : decode cX9_readsItem 41 = .ok (.iconst 5, 1) := by decide +kernel
theorem dX9_readsItem_42 : decode cX9_readsItem 42 = .ok (.aload_n 0, 1) := by decide +kernel
theorem dX9_readsItem_43 : decode cX9_readsItem 43 = .ok (.getfield 108, 3) := by decide +kernel
theorem dX9_readsItem_46 : decode cX9_readsItem 46 = .ok (.iadd, 1) := by decide +kernel
theorem dX9_readsItem_47 : decode cX9_readsItem 47 = .ok (.aload_n 0, 1) := by decide +kernel
theorem dX9_readsItem_48 : decode cX9_readsItem 48 = .ok (.invokevirtual 101, 3) := by decide +kernel
theorem dX9_readsItem_51 : decode cX9_readsItem 51 = .ok (.iastore, 1) := by decide +kernel
theorem dX9_readsItem_52 : decode cX9_readsItem 52 = .ok (.aload_n 0, 1) := by decide +kernel
theorem dX9_readsItem_53 : decode cX9_readsItem 53 = .ok (.dup, 1) := by decide +kernel
theorem dX9_readsItem_54 : decode cX9_readsItem 54 = .ok (.getfield 108, 3) := by decide +kernel
theorem dX9_readsItem_57 : decode cX9_readsItem 57 = .ok (.iconst 1, 1) := by decide +kernel
theorem dX9_readsItem_58 : decode cX9_readsItem 58 = .ok (.iadd, 1) := by decide +kernel
theorem dX9_readsItem_59 : decode cX9_readsItem 59 = .ok (.putfield 108, 3) := by decide +kernel
theorem dX9_readsItem_62 : decode cX9_readsItem 62 = .ok (.goto 190, 3) := by decide +kernel
theorem dX9_readsItem_65 : decode cX9_readsItem 65 = .ok (.iload_n 1, 1) := by decide +kernel
theorem dX9_readsItem_66 : decode cX9_readsItem 66 = .ok (.iconst 2, 1) := by decide +kernel
theorem dX9_readsItem_67 : decode cX9_readsItem 67 = .ok (.if_icmp .ne 101, 3) := by decide +kernel
theorem dX9_readsItem_70 : decode cX9_readsItem 70 = .ok (.bipush 18, 2) := by decide +kernel
theorem dX9_readsItem_72 : decode cX9_readsItem 72 = .ok (.iconst 3, 1) := by decide +kernel
theorem dX9_readsItem_73 : decode cX9_readsItem 73 = .ok (.aload_n 0, 1) := by decide +kernel
theorem dX9_readsItem_74 : decode cX9_readsItem 74 = .ok (.getfield 115, 3) := by decide +kernel
theorem dX9_readsItem_77 : decode cX9_readsItem 77 = .ok (.imul, 1) := by decide +kernel
theorem dX9_readsItem_78 : decode cX9_readsItem 78 = .ok (.iadd, 1) := by decide +kernel
theorem dX9_readsItem_79 : decode cX9_readsItem 79 = .ok (.istore_n 2, 1) := by decide +kernel
theorem dX9_readsItem_80 : decode cX9_readsItem 80 = .ok (.aload_n 0, 1) := by decide +kernel
theorem dX9_readsItem_81 : decode cX9_readsItem 81 = .ok (.getfield 19, 3) := by decide +kernel
theorem dX9_readsItem_84 : decode cX9_readsItem 84 = .ok (.iload_n 2, 1) := by decide +kernel
theorem dX9_readsItem_85 : decode cX9_readsItem 85 = .ok (.aload_n 0, 1) := by decide +kernel
theorem dX9_readsItem_86 : decode cX9_readsItem 86 = .ok (.iconst 0, 1) := by decide +kernel
theorem dX9_readsItem_87 : decode cX9_readsItem 87 = .ok (.bipush 7, 2) := by decide +kernel
theorem dX9_readsItem_89 : decode cX9_readsItem 89 = .ok (.invokevirtual 111, 3) := by decide +kernel
theorem dX9_readsItem_92 : decode cX9_readsItem 92 = .ok (.iastore, 1) := by decide +kernel
theorem dX9_readsItem_93 : decode cX9_readsItem 93 = .ok (.aload_n 0, 1) := by decide +kernel
theorem dX9_readsItem_94 : decode cX9_readsItem 94 = .ok (.getfield 19, 3) := by decide +kernel
theorem dX9_readsItem_97 : decode cX9_readsItem 97 = .ok (.iload_n 2, 1) := by decide +kernel
theorem dX9_readsItem_98 : decode cX9_readsItem 98 = .ok (.iconst 1, 1) := by decide +kernel
theorem dX9_readsItem_99 : decode cX9_readsItem 99 = .ok (.iadd, 1) := by decide +kernel
theorem dX9_readsItem_100 : decode cX9_readsItem 100 = .ok (.aload_n 0, 1) := by decide +kernel
theorem dX9_readsItem_101 : decode cX9_readsItem 101 = .ok (.iconst 1, 1) := by decide +kernel
theorem dX9_readsItem_102 : decode cX9_readsItem 102 = .ok (.bipush 9, 2) := by decide +kernel
theorem dX9_readsItem_104 : decode cX9_readsItem 104 = .ok (.invokevirtual 111, 3) := by decide +kernel
theorem dX9_readsItem_107 : decode cX9_readsItem 107 = .ok (.iastore, 1) := by decide +kernel
theorem dX9_readsItem_108 : decode cX9_readsItem 108 = .ok (.aload_n 0, 1) := by decide +kernel
theorem dX9_readsItem_109 : decode cX9_readsItem 109 = .ok (.getfield 19, 3) := by decide +kernel
theorem dX9_readsItem_112 : decode cX9_readsItem 112 = .ok (.iload_n 2, 1) := by decide +kernel
theorem dX9_readsItem_113 : decode cX9_readsItem 113 = .ok (.iconst 2, 1) := by decide +kernel
theorem dX9_readsItem_114 : decode cX9_readsItem 114 = .ok (.iadd, 1) := by decide +kernel
theorem dX9_readsItem_115 : decode cX9_readsItem 115 = .ok (.aload_n 0, 1) := by decide +kernel
theorem dX9_readsItem_116 : decode cX9_readsItem 116 = .ok (.aload_n 0, 1) := by decide +kernel
theorem dX9_readsItem_117 : decode cX9_readsItem 117 = .ok (.getfield 77, 3) := by decide +kernel
theorem dX9_readsItem_120 : decode cX9_readsItem 120 = .ok (.iconst 2, 1) := by decide +kernel
theorem dX9_readsItem_121 : decode cX9_readsItem 121 = .ok (.if_icmp .ne 29, 3) := by decide +kernel
theorem dX9_readsItem_124 : decode cX9_readsItem 124 = .ok (.aload_n 0, 1) := by decide +kernel
theorem dX9_readsItem_125 : decode cX9_readsItem 125 = .ok (.getfield 84, 3) := by decide +kernel
theorem dX9_readsItem_128 : decode cX9_readsItem 128 = .ok (.iconst 0, 1) := by decide +kernel
theorem dX9_readsItem_129 : decode cX9_readsItem 129 = .ok (.bipush 7, 2) := by decide +kernel
theorem dX9_readsItem_131 : decode cX9_readsItem 131 = .ok (.invokestatic 48, 3) := by decide +kernel
theorem dX9_readsItem_134 : decode cX9_readsItem 134 = .ok (.ifCond .ne 12, 3) := by decide +kernel
theorem dX9_readsItem_137 : decode cX9_readsItem 137 = .ok (.aload_n 0, 1) := by decide +kernel
theorem dX9_readsItem_138 : decode cX9_readsItem 138 = .ok (.getfield 84, 3) := by decide +kernel
theorem dX9_readsItem_141 : decode cX9_readsItem 141 = .ok (.bipush 9, 2) := by decide +kernel
theorem dX9_readsItem_143 : decode cX9_readsItem 143 = .ok (.if_icmp .ne 7, 3) := by decide +kernel
theorem dX9_readsItem_146 : decode cX9_readsItem 146 = .ok (.iconst 1, 1) := by decide +kernel
theorem dX9_readsItem_147 : decode cX9_readsItem 147 = .ok (.goto 4, 3) := by decide +kernel
theorem dX9_readsItem_150 : decode cX9_readsItem 150 = .ok (.iconst 0, 1) := by decide +kernel
theorem dX9_readsItem_151 : decode cX9_readsItem 151 = .ok (.invokevirtual 97, 3) := by decide +kernel
theorem dX9_readsItem_154 : decode cX9_readsItem 154 = .ok (.iastore, 1) := by decide +kernel
theorem dX9_readsItem_155 : decode cX9_readsItem 155 = .ok (.aload_n 0, 1) := by decide +kernel
theorem dX9_readsItem_156 : decode cX9_readsItem 156 = .ok (.dup, 1) := by decide +kernel
theorem dX9_readsItem_157 : decode cX9_readsItem 157 = .ok (.getfield 115, 3) := by decide +kernel
theorem dX9_readsItem_160 : decode cX9_readsItem 160 = .ok (.iconst 1, 1) := by decide +kernel
theorem dX9_readsItem_161 : decode cX9_readsItem 161 = .ok (.iadd, 1) := by decide +kernel
theorem dX9_readsItem_162 : decode cX9_readsItem 162 = .ok (.putfield 115, 3) := by decide +kernel
theorem dX9_readsItem_165 : decode cX9_readsItem 165 = .ok (.goto 87, 3) := by decide +kernel
theorem dX9_readsItem_168 : decode cX9_readsItem 168 = .ok (.aload_n 0, 1) := by decide +kernel
theorem dX9_readsItem_169 : decode cX9_readsItem 169 = .ok (.iconst 1, 1) := by decide +kernel
theorem dX9_readsItem_170 : decode cX9_readsItem 170 = .ok (.bipush 8, 2) := by decide +kernel
theorem dX9_readsItem_172 : decode cX9_readsItem 172 = .ok (.invokevirtual 111, 3) := by decide +kernel
theorem dX9_readsItem_175 : decode cX9_readsItem 175 = .ok (.istore_n 2, 1) := by decide +kernel
theorem dX9_readsItem_176 : decode cX9_readsItem 176 = .ok (.aload_n 0, 1) := by decide +kernel
theorem dX9_readsItem_177 : decode cX9_readsItem 177 = .ok (.invokevirtual 101, 3) := by decide +kernel
theorem dX9_readsItem_180 : decode cX9_readsItem 180 = .ok (.istore_n 3, 1) := by decide +kernel
theorem dX9_readsItem_181 : decode cX9_readsItem 181 = .ok (.aload_n 0, 1) := by decide +kernel
theorem dX9_readsItem_182 : decode cX9_readsItem 182 = .ok (.invokevirtual 90, 3) := by decide +kernel
theorem dX9_readsItem_185 : decode cX9_readsItem 185 = .ok (.ifCond .eq 27, 3) := by decide +kernel
theorem dX9_readsItem_188 : decode cX9_readsItem 188 = .ok (.iload_n 3, 1) := by decide +kernel
theorem dX9_readsItem_189 : decode cX9_readsItem 189 = .ok (.invokestatic 118, 3) := by decide +kernel
theorem dX9_readsItem_192 : decode cX9_readsItem 192 = .ok (.iload_n 2, 1) := by decide +kernel
theorem dX9_readsItem_193 : decode cX9_readsItem 193 = .ok (.if_icmp .lt 11, 3) := by decide +kernel
theorem dX9_readsItem_196 : decode cX9_readsItem 196 = .ok (.aload_n 0, 1) := by decide +kernel
theorem dX9_readsItem_197 : decode cX9_readsItem 197 = .ok (.getfield 77, 3) := by decide +kernel
theorem dX9_readsItem_200 : decode cX9_readsItem 200 = .ok (.iconst 3, 1) := by decide +kernel
theorem dX9_readsItem_201 : decode cX9_readsItem 201 = .ok (.if_icmp .eq 11, 3) := by decide +kernel
theorem dX9_readsItem_204 : decode cX9_readsItem 204 = .ok (.aload_n 0, 1) := by decide +kernel
theorem dX9_readsItem_205 : decode cX9_readsItem 205 = .ok (.aload_n 0, 1) := by decide +kernel
theorem dX9_readsItem_206 : decode cX9_readsItem 206 = .ok (.getfield 74, 3) := by decide +kernel
theorem dX9_readsItem_209 : decode cX9_readsItem 209 = .ok (.putfield 87, 3) := by decide +kernel
theorem dX9_readsItem_212 : decode cX9_readsItem 212 = .ok (.aload_n 0, 1) := by decide +kernel
theorem dX9_readsItem_213 : decode cX9_readsItem 213 = .ok (.getfield 22, 3) := by decide +kernel
theorem dX9_readsItem_216 : decode cX9_readsItem 216 = .ok (.bipush 8, 2) := by decide +kernel
theorem dX9_readsItem_218 : decode cX9_readsItem 218 = .ok (.iconst 2, 1) := by decide +kernel
theorem dX9_readsItem_219 : decode cX9_readsItem 219 = .ok (.aload_n 0, 1) := by decide +kernel
theorem dX9_readsItem_220 : decode cX9_readsItem 220 = .ok (.getfield 121, 3) := by decide +kernel
theorem dX9_readsItem_223 : decode cX9_readsItem 223 = .ok (.imul, 1) := by decide +kernel
theorem dX9_readsItem_224 : decode cX9_readsItem 224 = .ok (.iadd, 1) := by decide +kernel
theorem dX9_readsItem_225 : decode cX9_readsItem 225 = .ok (.iload_n 3, 1) := by decide +kernel
theorem dX9_readsItem_226 : decode cX9_readsItem 226 = .ok (.iastore, 1) := by decide +kernel
theorem dX9_readsItem_227 : decode cX9_readsItem 227 = .ok (.aload_n 0, 1) := by decide +kernel
theorem dX9_readsItem_228 : decode cX9_readsItem 228 = .ok (.getfield 22, 3) := by decide +kernel
theorem dX9_readsItem_231 : decode cX9_readsItem 231 = .ok (.bipush 9, 2) := by decide +kernel
theorem dX9_readsItem_233 : decode cX9_readsItem 233 = .ok (.iconst 2, 1) := by decide +kernel
theorem dX9_readsItem_234 : decode cX9_readsItem 234 = .ok (.aload_n 0, 1) := by decide +kernel
theorem dX9_readsItem_235 : decode cX9_readsItem 235 = .ok (.getfield 121, 3) := by decide +kernel
theorem dX9_readsItem_238 : decode cX9_readsItem 238 = .ok (.imul, 1) := by decide +kernel
theorem dX9_readsItem_239 : decode cX9_readsItem 239 = .ok (.iadd, 1) := by decide +kernel
theorem dX9_readsItem_240 : decode cX9_readsItem 240 = .ok (.iload_n 2, 1) := by decide +kernel
theorem dX9_readsItem_241 : decode cX9_readsItem 241 = .ok (.iastore, 1) := by decide +kernel
theorem dX9_readsItem_242 : decode cX9_readsItem 242 = .ok (.aload_n 0, 1) := by decide +kernel
theorem dX9_readsItem_243 : decode cX9_readsItem 243 = .ok (.dup, 1) := by decide +kernel
theorem dX9_readsItem_244 : decode cX9_readsItem 244 = .ok (.getfield 121, 3) := by decide +kernel
theorem dX9_readsItem_247 : decode cX9_readsItem 247 = .ok (.iconst 1, 1) := by decide +kernel
theorem dX9_readsItem_248 : decode cX9_readsItem 248 = .ok (.iadd, 1) := by decide +kernel
theorem dX9_readsItem_249 : decode cX9_readsItem 249 = .ok (.putfield 121, 3) := by decide +kernel
theorem dX9_readsItem_252 : decode cX9_readsItem 252 = .ok (.return_, 1) := by decide +kernel
theorem dX9_house_0 : decode cX9_house 0 = .ok (.aload_n 0, 1) := by decide +kernel
theorem dX9_house_1 : decode cX9_house 1 = .ok (.iconst 0, 1) := by decide +kernel
theorem dX9_house_2 : decode cX9_house 2 = .ok (.putfield 44, 3) := by decide +kernel
theorem dX9_house_5 : decode cX9_house 5 = .ok (.aload_n 0, 1) := by decide +kernel
theorem dX9_house_6 : decode cX9_house 6 = .ok (.iconst (-1), 1) := by decide +kernel
theorem dX9_house_7 : decode cX9_house 7 = .ok (.putfield 87, 3) := by decide +kernel
theorem dX9_house_10 : decode cX9_house 10 = .ok (.aload_n 0, 1) := by decide +kernel
theorem dX9_house_11 : decode cX9_house 11 = .ok (.iconst 0, 1) := by decide +kernel
theorem dX9_house_12 : decode cX9_house 12 = .ok (.putfield 67, 3) := by decide +kernel
theorem dX9_house_15 : decode cX9_house 15 = .ok (.iconst 0, 1) := by decide +kernel
theorem dX9_house_16 : decode cX9_house 16 = .ok (.istore_n 1, 1) := by decide +kernel
theorem dX9_house_17 : decode cX9_house 17 = .ok (.aload_n 0, 1) := by decide +kernel
theorem dX9_house_18 : decode cX9_house 18 = .ok (.bipush (-9), 2) := by decide +kernel
theorem dX9_house_20 : decode cX9_house 20 = .ok (.putfield 105, 3) := by decide +kernel
theorem dX9_house_23 : decode cX9_house 23 = .ok (.aload_n 0, 1) := by decide +kernel
theorem dX9_house_24 : decode cX9_house 24 = .ok (.iconst 0, 1) := by decide +kernel
theorem dX9_house_25 : decode cX9_house 25 = .ok (.putfield 108, 3) := by decide +kernel
theorem dX9_house_28 : decode cX9_house 28 = .ok (.aload_n 0, 1) := by decide +kernel
theorem dX9_house_29 : decode cX9_house 29 = .ok (.iconst 0, 1) := by decide +kernel
theorem dX9_house_30 : decode cX9_house 30 = .ok (.putfield 115, 3) := by decide +kernel
theorem dX9_house_33 : decode cX9_house 33 = .ok (.aload_n 0, 1) := by decide +kernel
theorem dX9_house_34 : decode cX9_house 34 = .ok (.iconst 0, 1) := by decide +kernel
theorem dX9_house_35 : decode cX9_house 35 = .ok (.putfield 121, 3) := by decide +kernel
theorem dX9_house_38 : decode cX9_house 38 = .ok (.aload_n 0, 1) := by decide +kernel
theorem dX9_house_39 : decode cX9_house 39 = .ok (.invokevirtual 94, 3) := by decide +kernel
theorem dX9_house_42 : decode cX9_house 42 = .ok (.aload_n 0, 1) := by decide +kernel
theorem dX9_house_43 : decode cX9_house 43 = .ok (.invokevirtual 90, 3) := by decide +kernel
theorem dX9_house_46 : decode cX9_house 46 = .ok (.ifCond .eq 155, 3) := by decide +kernel
theorem dX9_house_49 : decode cX9_house 49 = .ok (.aload_n 0, 1) := by decide +kernel
theorem dX9_house_50 : decode cX9_house 50 = .ok (.getfield 77, 3) := by decide +kernel
theorem dX9_house_53 : decode cX9_house 53 = .ok (.ifCond .eq 148, 3) := by decide +kernel
theorem dX9_house_56 : decode cX9_house 56 = .ok (.aload_n 0, 1) := by decide +kernel
theorem dX9_house_57 : decode cX9_house 57 = .ok (.getfield 84, 3) := by decide +kernel
theorem dX9_house_60 : decode cX9_house 60 = .ok (.ifCond .ne 20, 3) := by decide +kernel
theorem dX9_house_63 : decode cX9_house 63 = .ok (.aload_n 0, 1) := by decide +kernel
theorem dX9_house_64 : decode cX9_house 64 = .ok (.getfield 105, 3) := by decide +kernel
theorem dX9_house_67 : decode cX9_house 67 = .ok (.bipush (-9), 2) := by decide +kernel
theorem dX9_house_69 : decode cX9_house 69 = .ok (.if_icmp .ne 7, 3) := by decide +kernel
theorem dX9_house_72 : decode cX9_house 72 = .ok (.iconst 1, 1) := by decide +kernel
theorem dX9_house_73 : decode cX9_house 73 = .ok (.goto 69, 3) := by decide +kernel
theorem dX9_house_76 : decode cX9_house 76 = .ok (.iconst 0, 1) := by decide +kernel
theorem dX9_house_77 : decode cX9_house 77 = .ok (.goto 65, 3) := by decide +kernel
theorem dX9_house_80 : decode cX9_house 80 = .ok (.aload_n 0, 1) := by decide +kernel
theorem dX9_house_81 : decode cX9_house 81 = .ok (.getfield 84, 3) := by decide +kernel
theorem dX9_house_84 : decode cX9_house 84 = .ok (.iconst 1, 1) := by decide +kernel
theorem dX9_house_85 : decode cX9_house 85 = .ok (.if_icmp .ne 19, 3) := by decide +kernel
theorem dX9_house_88 : decode cX9_house 88 = .ok (.aload_n 0, 1) := by decide +kernel
theorem dX9_house_89 : decode cX9_house 89 = .ok (.getfield 108, 3) := by decide +kernel
theorem dX9_house_92 : decode cX9_house 92 = .ok (.iconst 5, 1) := by decide +kernel
theorem dX9_house_93 : decode cX9_house 93 = .ok (.if_icmp .ge 7, 3) := by decide +kernel
theorem dX9_house_96 : decode cX9_house 96 = .ok (.iconst 1, 1) := by decide +kernel
theorem dX9_house_97 : decode cX9_house 97 = .ok (.goto 45, 3) := by decide +kernel
theorem dX9_house_100 : decode cX9_house 100 = .ok (.iconst 0, 1) := by decide +kernel
theorem dX9_house_101 : decode cX9_house 101 = .ok (.goto 41, 3) := by decide +kernel
theorem dX9_house_104 : decode cX9_house 104 = .ok (.aload_n 0, 1) := by decide +kernel
theorem dX9_house_105 : decode cX9_house 105 = .ok (.getfield 84, 3) := by decide +kernel
theorem dX9_house_108 : decode cX9_house 108 = .ok (.iconst 2, 1) := by decide +kernel
theorem dX9_house_109 : decode cX9_house 109 = .ok (.if_icmp .ne 20, 3) := by decide +kernel
theorem dX9_house_112 : decode cX9_house 112 = .ok (.aload_n 0, 1) := by decide +kernel
theorem dX9_house_113 : decode cX9_house 113 = .ok (.getfield 115, 3) := by decide +kernel
theorem dX9_house_116 : decode cX9_house 116 = .ok (.bipush 6, 2) := by decide +kernel
theorem dX9_house_118 : decode cX9_house 118 = .ok (.if_icmp .ge 7, 3) := by decide +kernel
theorem dX9_house_121 : decode cX9_house 121 = .ok (.iconst 1, 1) := by decide +kernel
theorem dX9_house_122 : decode cX9_house 122 = .ok (.goto 20, 3) := by decide +kernel
theorem dX9_house_125 : decode cX9_house 125 = .ok (.iconst 0, 1) := by decide +kernel
theorem dX9_house_126 : decode cX9_house 126 = .ok (.goto 16, 3) := by decide +kernel
theorem dX9_house_129 : decode cX9_house 129 = .ok (.aload_n 0, 1) := by decide +kernel
theorem dX9_house_130 : decode cX9_house 130 = .ok (.getfield 121, 3) := by decide +kernel
theorem dX9_house_133 : decode cX9_house 133 = .ok (.iconst 4, 1) := by decide +kernel
theorem dX9_house_134 : decode cX9_house 134 = .ok (.if_icmp .ge 7, 3) := by decide +kernel
theorem dX9_house_137 : decode cX9_house 137 = .ok (.iconst 1, 1) := by decide +kernel
theorem dX9_house_138 : decode cX9_house 138 = .ok (.goto 4, 3) := by decide +kernel
theorem dX9_house_141 : decode cX9_house 141 = .ok (.iconst 0, 1) := by decide +kernel
theorem dX9_house_142 : decode cX9_house 142 = .ok (.istore_n 2, 1) := by decide +kernel
theorem dX9_house_143 : decode cX9_house 143 = .ok (.aload_n 0, 1) := by decide +kernel
theorem dX9_house_144 : decode cX9_house 144 = .ok (.aload_n 0, 1) := by decide +kernel
theorem dX9_house_145 : decode cX9_house 145 = .ok (.getfield 77, 3) := by decide +kernel
theorem dX9_house_148 : decode cX9_house 148 = .ok (.iconst 1, 1) := by decide +kernel
theorem dX9_house_149 : decode cX9_house 149 = .ok (.if_icmp .ne 11, 3) := by decide +kernel
theorem dX9_house_152 : decode cX9_house 152 = .ok (.iload_n 2, 1) := by decide +kernel
theorem dX9_house_153 : decode cX9_house 153 = .ok (.ifCond .eq 7, 3) := by decide +kernel
theorem dX9_house_156 : decode cX9_house 156 = .ok (.iconst 1, 1) := by decide +kernel
theorem dX9_house_157 : decode cX9_house 157 = .ok (.goto 4, 3) := by decide +kernel
theorem dX9_house_160 : decode cX9_house 160 = .ok (.iconst 0, 1) := by decide +kernel
theorem dX9_house_161 : decode cX9_house 161 = .ok (.invokevirtual 97, 3) := by decide +kernel
theorem dX9_house_164 : decode cX9_house 164 = .ok (.istore_n 3, 1) := by decide +kernel
theorem dX9_house_165 : decode cX9_house 165 = .ok (.aload_n 0, 1) := by decide +kernel
theorem dX9_house_166 : decode cX9_house 166 = .ok (.invokevirtual 90, 3) := by decide +kernel
theorem dX9_house_169 : decode cX9_house 169 = .ok (.ifCond .eq 8, 3) := by decide +kernel
theorem dX9_house_172 : decode cX9_house 172 = .ok (.aload_n 0, 1) := by decide +kernel
theorem dX9_house_173 : decode cX9_house 173 = .ok (.iload_n 3, 1) := by decide +kernel
theorem dX9_house_174 : decode cX9_house 174 = .ok (.invokevirtual 124, 3) := by decide +kernel
theorem dX9_house_177 : decode cX9_house 177 = .ok (.aload_n 0, 1) := by decide +kernel
theorem dX9_house_178 : decode cX9_house 178 = .ok (.aload_n 0, 1) := by decide +kernel
theorem dX9_house_179 : decode cX9_house 179 = .ok (.getfield 77, 3) := by decide +kernel
theorem dX9_house_182 : decode cX9_house 182 = .ok (.iconst 3, 1) := by decide +kernel
theorem dX9_house_183 : decode cX9_house 183 = .ok (.if_icmp .ne 7, 3) := by decide +kernel
theorem dX9_house_186 : decode cX9_house 186 = .ok (.iconst 1, 1) := by decide +kernel
theorem dX9_house_187 : decode cX9_house 187 = .ok (.goto 4, 3) := by decide +kernel
theorem dX9_house_190 : decode cX9_house 190 = .ok (.iconst 0, 1) := by decide +kernel
theorem dX9_house_191 : decode cX9_house 191 = .ok (.invokevirtual 97, 3) := by decide +kernel
theorem dX9_house_194 : decode cX9_house 194 = .ok (.pop, 1) := by decide +kernel
theorem dX9_house_195 : decode cX9_house 195 = .ok (.iinc 1 1, 3) := by decide +kernel
theorem dX9_house_198 : decode cX9_house 198 = .ok (.goto (-156), 3) := by decide +kernel
theorem dX9_house_201 : decode cX9_house 201 = .ok (.aload_n 0, 1) := by decide +kernel
theorem dX9_house_202 : decode cX9_house 202 = .ok (.invokevirtual 90, 3) := by decide +kernel
theorem dX9_house_205 : decode cX9_house 205 = .ok (.ifCond .ne 11, 3) := by decide +kernel
theorem dX9_house_208 : decode cX9_house 208 = .ok (.bipush (-10), 2) := by decide +kernel
theorem dX9_house_210 : decode cX9_house 210 = .ok (.aload_n 0, 1) := by decide +kernel
theorem dX9_house_211 : decode cX9_house 211 = .ok (.getfield 87, 3) := by decide +kernel
theorem dX9_house_214 : decode cX9_house 214 = .ok (.isub, 1) := by decide +kernel
theorem dX9_house_215 : decode cX9_house 215 = .ok (.ireturn, 1) := by decide +kernel
theorem dX9_house_216 : decode cX9_house 216 = .ok (.aload_n 0, 1) := by decide +kernel
theorem dX9_house_217 : decode cX9_house 217 = .ok (.invokevirtual 128, 3) := by decide +kernel
theorem dX9_house_220 : decode cX9_house 220 = .ok (.iload_n 1, 1) := by decide +kernel
theorem dX9_house_221 : decode cX9_house 221 = .ok (.ireturn, 1) := by decide +kernel
theorem dX9_settles_0 : decode cX9_settles 0 = .ok (.aload_n 0, 1) := by decide +kernel
theorem dX9_settles_1 : decode cX9_settles 1 = .ok (.aload_n 0, 1) := by decide +kernel
theorem dX9_settles_2 : decode cX9_settles 2 = .ok (.getfield 105, 3) := by decide +kernel
theorem dX9_settles_5 : decode cX9_settles 5 = .ok (.bipush (-9), 2) := by decide +kernel
theorem dX9_settles_7 : decode cX9_settles 7 = .ok (.if_icmp .ne 7, 3) := by decide +kernel
theorem dX9_settles_10 : decode cX9_settles 10 = .ok (.iconst 0, 1) := by decide +kernel
theorem dX9_settles_11 : decode cX9_settles 11 = .ok (.goto 7, 3) := by decide +kernel
theorem dX9_settles_14 : decode cX9_settles 14 = .ok (.aload_n 0, 1) := by decide +kernel
theorem dX9_settles_15 : decode cX9_settles 15 = .ok (.getfield 105, 3) := by decide +kernel
theorem dX9_settles_18 : decode cX9_settles 18 = .ok (.putfield 131, 3) := by decide +kernel
theorem dX9_settles_21 : decode cX9_settles 21 = .ok (.aload_n 0, 1) := by decide +kernel
theorem dX9_settles_22 : decode cX9_settles 22 = .ok (.aload_n 0, 1) := by decide +kernel
theorem dX9_settles_23 : decode cX9_settles 23 = .ok (.getfield 108, 3) := by decide +kernel
theorem dX9_settles_26 : decode cX9_settles 26 = .ok (.putfield 134, 3) := by decide +kernel
theorem dX9_settles_29 : decode cX9_settles 29 = .ok (.aload_n 0, 1) := by decide +kernel
theorem dX9_settles_30 : decode cX9_settles 30 = .ok (.aload_n 0, 1) := by decide +kernel
theorem dX9_settles_31 : decode cX9_settles 31 = .ok (.getfield 115, 3) := by decide +kernel
theorem dX9_settles_34 : decode cX9_settles 34 = .ok (.putfield 137, 3) := by decide +kernel
theorem dX9_settles_37 : decode cX9_settles 37 = .ok (.aload_n 0, 1) := by decide +kernel
theorem dX9_settles_38 : decode cX9_settles 38 = .ok (.aload_n 0, 1) := by decide +kernel
theorem dX9_settles_39 : decode cX9_settles 39 = .ok (.getfield 121, 3) := by decide +kernel
theorem dX9_settles_42 : decode cX9_settles 42 = .ok (.putfield 140, 3) := by decide +kernel
theorem dX9_settles_45 : decode cX9_settles 45 = .ok (.iconst 0, 1) := by decide +kernel
theorem dX9_settles_46 : decode cX9_settles 46 = .ok (.istore_n 1, 1) := by decide +kernel
theorem dX9_settles_47 : decode cX9_settles 47 = .ok (.iload_n 1, 1) := by decide +kernel
theorem dX9_settles_48 : decode cX9_settles 48 = .ok (.iconst 5, 1) := by decide +kernel
theorem dX9_settles_49 : decode cX9_settles 49 = .ok (.if_icmp .ge 70, 3) := by decide +kernel
theorem dX9_settles_52 : decode cX9_settles 52 = .ok (.aload_n 0, 1) := by decide +kernel
theorem dX9_settles_53 : decode cX9_settles 53 = .ok (.getfield 13, 3) := by decide +kernel
theorem dX9_settles_56 : decode cX9_settles 56 = .ok (.iload_n 1, 1) := by decide +kernel
theorem dX9_settles_57 : decode cX9_settles 57 = .ok (.aload_n 0, 1) := by decide +kernel
theorem dX9_settles_58 : decode cX9_settles 58 = .ok (.getfield 13, 3) := by decide +kernel
theorem dX9_settles_61 : decode cX9_settles 61 = .ok (.iconst 5, 1) := by decide +kernel
theorem dX9_settles_62 : decode cX9_settles 62 = .ok (.iload_n 1, 1) := by decide +kernel
theorem dX9_settles_63 : decode cX9_settles 63 = .ok (.iadd, 1) := by decide +kernel
theorem dX9_settles_64 : decode cX9_settles 64 = .ok (.iaload, 1) := by decide +kernel
theorem dX9_settles_65 : decode cX9_settles 65 = .ok (.iastore, 1) := by decide +kernel
theorem dX9_settles_66 : decode cX9_settles 66 = .ok (.aload_n 0, 1) := by decide +kernel
theorem dX9_settles_67 : decode cX9_settles 67 = .ok (.getfield 16, 3) := by decide +kernel
theorem dX9_settles_70 : decode cX9_settles 70 = .ok (.iload_n 1, 1) := by decide +kernel
theorem dX9_settles_71 : decode cX9_settles 71 = .ok (.aload_n 0, 1) := by decide +kernel
theorem dX9_settles_72 : decode cX9_settles 72 = .ok (.getfield 16, 3) := by decide +kernel
theorem dX9_settles_75 : decode cX9_settles 75 = .ok (.iconst 5, 1) := by decide +kernel
theorem dX9_settles_76 : decode cX9_settles 76 = .ok (.iload_n 1, 1) := by decide +kernel
theorem dX9_settles_77 : decode cX9_settles 77 = .ok (.iadd, 1) := by decide +kernel
theorem dX9_settles_78 : decode cX9_settles 78 = .ok (.iaload, 1) := by decide +kernel
theorem dX9_settles_79 : decode cX9_settles 79 = .ok (.iastore, 1) := by decide +kernel
theorem dX9_settles_80 : decode cX9_settles 80 = .ok (.aload_n 0, 1) := by decide +kernel
theorem dX9_settles_81 : decode cX9_settles 81 = .ok (.getfield 25, 3) := by decide +kernel
theorem dX9_settles_84 : decode cX9_settles 84 = .ok (.iload_n 1, 1) := by decide +kernel
theorem dX9_settles_85 : decode cX9_settles 85 = .ok (.iload_n 1, 1) := by decide +kernel
theorem dX9_settles_86 : decode cX9_settles 86 = .ok (.aload_n 0, 1) := by decide +kernel
theorem dX9_settles_87 : decode cX9_settles 87 = .ok (.getfield 134, 3) := by decide +kernel
theorem dX9_settles_90 : decode cX9_settles 90 = .ok (.if_icmp .ge 12, 3) := by decide +kernel
theorem dX9_settles_93 : decode cX9_settles 93 = .ok (.aload_n 0, 1) := by decide +kernel
theorem dX9_settles_94 : decode cX9_settles 94 = .ok (.getfield 16, 3) := by decide +kernel
theorem dX9_settles_97 : decode cX9_settles 97 = .ok (.iload_n 1, 1) := by decide +kernel
theorem dX9_settles_98 : decode cX9_settles 98 = .ok (.iaload, 1) := by decide +kernel
theorem dX9_settles_99 : decode cX9_settles 99 = .ok (.goto 4, 3) := by decide +kernel
theorem dX9_settles_102 : decode cX9_settles 102 = .ok (.iconst 0, 1) := by decide +kernel
theorem dX9_settles_103 : decode cX9_settles 103 = .ok (.iastore, 1) := by decide +kernel
theorem dX9_settles_104 : decode cX9_settles 104 = .ok (.aload_n 0, 1) := by decide +kernel
theorem dX9_settles_105 : decode cX9_settles 105 = .ok (.getfield 25, 3) := by decide +kernel
theorem dX9_settles_108 : decode cX9_settles 108 = .ok (.iconst 5, 1) := by decide +kernel
theorem dX9_settles_109 : decode cX9_settles 109 = .ok (.iload_n 1, 1) := by decide +kernel
theorem dX9_settles_110 : decode cX9_settles 110 = .ok (.iadd, 1) := by decide +kernel
theorem dX9_settles_111 : decode cX9_settles 111 = .ok (.iconst 0, 1) := by decide +kernel
theorem dX9_settles_112 : decode cX9_settles 112 = .ok (.iastore, 1) := by decide +kernel
theorem dX9_settles_113 : decode cX9_settles 113 = .ok (.iinc 1 1, 3) := by decide +kernel
theorem dX9_settles_116 : decode cX9_settles 116 = .ok (.goto (-69), 3) := by decide +kernel
theorem dX9_settles_119 : decode cX9_settles 119 = .ok (.iconst 0, 1) := by decide +kernel
theorem dX9_settles_120 : decode cX9_settles 120 = .ok (.istore_n 1, 1) := by decide +kernel
theorem dX9_settles_121 : decode cX9_settles 121 = .ok (.iload_n 1, 1) := by decide +kernel
theorem dX9_settles_122 : decode cX9_settles 122 = .ok (.bipush 18, 2) := by decide +kernel
theorem dX9_settles_124 : decode cX9_settles 124 = .ok (.if_icmp .ge 24, 3) := by decide +kernel
theorem dX9_settles_127 : decode cX9_settles 127 = .ok (.aload_n 0, 1) := by decide +kernel
theorem dX9_settles_128 : decode cX9_settles 128 = .ok (.getfield 19, 3) := by decide +kernel
theorem dX9_settles_131 : decode cX9_settles 131 = .ok (.iload_n 1, 1) := by decide +kernel
theorem dX9_settles_132 : decode cX9_settles 132 = .ok (.aload_n 0, 1) := by decide +kernel
theorem dX9_settles_133 : decode cX9_settles 133 = .ok (.getfield 19, 3) := by decide +kernel
theorem dX9_settles_136 : decode cX9_settles 136 = .ok (.bipush 18, 2) := by decide +kernel
theorem dX9_settles_138 : decode cX9_settles 138 = .ok (.iload_n 1, 1) := by decide +kernel
theorem dX9_settles_139 : decode cX9_settles 139 = .ok (.iadd, 1) := by decide +kernel
theorem dX9_settles_140 : decode cX9_settles 140 = .ok (.iaload, 1) := by decide +kernel
theorem dX9_settles_141 : decode cX9_settles 141 = .ok (.iastore, 1) := by decide +kernel
theorem dX9_settles_142 : decode cX9_settles 142 = .ok (.iinc 1 1, 3) := by decide +kernel
theorem dX9_settles_145 : decode cX9_settles 145 = .ok (.goto (-24), 3) := by decide +kernel
theorem dX9_settles_148 : decode cX9_settles 148 = .ok (.iconst 0, 1) := by decide +kernel
theorem dX9_settles_149 : decode cX9_settles 149 = .ok (.istore_n 1, 1) := by decide +kernel
theorem dX9_settles_150 : decode cX9_settles 150 = .ok (.iload_n 1, 1) := by decide +kernel
theorem dX9_settles_151 : decode cX9_settles 151 = .ok (.iconst 4, 1) := by decide +kernel
theorem dX9_settles_152 : decode cX9_settles 152 = .ok (.if_icmp .ge 73, 3) := by decide +kernel
theorem dX9_settles_155 : decode cX9_settles 155 = .ok (.aload_n 0, 1) := by decide +kernel
theorem dX9_settles_156 : decode cX9_settles 156 = .ok (.getfield 25, 3) := by decide +kernel
theorem dX9_settles_159 : decode cX9_settles 159 = .ok (.bipush 10, 2) := by decide +kernel
theorem dX9_settles_161 : decode cX9_settles 161 = .ok (.iload_n 1, 1) := by decide +kernel
theorem dX9_settles_162 : decode cX9_settles 162 = .ok (.iadd, 1) := by decide +kernel
theorem dX9_settles_163 : decode cX9_settles 163 = .ok (.iload_n 1, 1) := by decide +kernel
theorem dX9_settles_164 : decode cX9_settles 164 = .ok (.aload_n 0, 1) := by decide +kernel
theorem dX9_settles_165 : decode cX9_settles 165 = .ok (.getfield 140, 3) := by decide +kernel
theorem dX9_settles_168 : decode cX9_settles 168 = .ok (.if_icmp .ge 17, 3) := by decide +kernel
theorem dX9_settles_171 : decode cX9_settles 171 = .ok (.aload_n 0, 1) := by decide +kernel
theorem dX9_settles_172 : decode cX9_settles 172 = .ok (.getfield 22, 3) := by decide +kernel
theorem dX9_settles_175 : decode cX9_settles 175 = .ok (.bipush 8, 2) := by decide +kernel
theorem dX9_settles_177 : decode cX9_settles 177 = .ok (.iconst 2, 1) := by decide +kernel
theorem dX9_settles_178 : decode cX9_settles 178 = .ok (.iload_n 1, 1) := by decide +kernel
theorem dX9_settles_179 : decode cX9_settles 179 = .ok (.imul, 1) := by decide +kernel
theorem dX9_settles_180 : decode cX9_settles 180 = .ok (.iadd, 1) := by decide +kernel
theorem dX9_settles_181 : decode cX9_settles 181 = .ok (.iaload, 1) := by decide +kernel
theorem dX9_settles_182 : decode cX9_settles 182 = .ok (.goto 4, 3) := by decide +kernel
theorem dX9_settles_185 : decode cX9_settles 185 = .ok (.iconst 0, 1) := by decide +kernel
theorem dX9_settles_186 : decode cX9_settles 186 = .ok (.iastore, 1) := by decide +kernel
theorem dX9_settles_187 : decode cX9_settles 187 = .ok (.aload_n 0, 1) := by decide +kernel
theorem dX9_settles_188 : decode cX9_settles 188 = .ok (.getfield 25, 3) := by decide +kernel
theorem dX9_settles_191 : decode cX9_settles 191 = .ok (.bipush 14, 2) := by decide +kernel
theorem dX9_settles_193 : decode cX9_settles 193 = .ok (.iload_n 1, 1) := by decide +kernel
theorem dX9_settles_194 : decode cX9_settles 194 = .ok (.iadd, 1) := by decide +kernel
theorem dX9_settles_195 : decode cX9_settles 195 = .ok (.iload_n 1, 1) := by decide +kernel
theorem dX9_settles_196 : decode cX9_settles 196 = .ok (.aload_n 0, 1) := by decide +kernel
theorem dX9_settles_197 : decode cX9_settles 197 = .ok (.getfield 140, 3) := by decide +kernel
theorem dX9_settles_200 : decode cX9_settles 200 = .ok (.if_icmp .ge 17, 3) := by decide +kernel
theorem dX9_settles_203 : decode cX9_settles 203 = .ok (.aload_n 0, 1) := by decide +kernel
theorem dX9_settles_204 : decode cX9_settles 204 = .ok (.getfield 22, 3) := by decide +kernel
theorem dX9_settles_207 : decode cX9_settles 207 = .ok (.bipush 9, 2) := by decide +kernel
theorem dX9_settles_209 : decode cX9_settles 209 = .ok (.iconst 2, 1) := by decide +kernel
theorem dX9_settles_210 : decode cX9_settles 210 = .ok (.iload_n 1, 1) := by decide +kernel
theorem dX9_settles_211 : decode cX9_settles 211 = .ok (.imul, 1) := by decide +kernel
theorem dX9_settles_212 : decode cX9_settles 212 = .ok (.iadd, 1) := by decide +kernel
theorem dX9_settles_213 : decode cX9_settles 213 = .ok (.iaload, 1) := by decide +kernel
theorem dX9_settles_214 : decode cX9_settles 214 = .ok (.goto 4, 3) := by decide +kernel
theorem dX9_settles_217 : decode cX9_settles 217 = .ok (.iconst 0, 1) := by decide +kernel
theorem dX9_settles_218 : decode cX9_settles 218 = .ok (.iastore, 1) := by decide +kernel
theorem dX9_settles_219 : decode cX9_settles 219 = .ok (.iinc 1 1, 3) := by decide +kernel
theorem dX9_settles_222 : decode cX9_settles 222 = .ok (.goto (-72), 3) := by decide +kernel
theorem dX9_settles_225 : decode cX9_settles 225 = .ok (.aload_n 0, 1) := by decide +kernel
theorem dX9_settles_226 : decode cX9_settles 226 = .ok (.iconst 0, 1) := by decide +kernel
theorem dX9_settles_227 : decode cX9_settles 227 = .ok (.putfield 52, 3) := by decide +kernel
theorem dX9_settles_230 : decode cX9_settles 230 = .ok (.aload_n 0, 1) := by decide +kernel
theorem dX9_settles_231 : decode cX9_settles 231 = .ok (.iconst 0, 1) := by decide +kernel
theorem dX9_settles_232 : decode cX9_settles 232 = .ok (.putfield 143, 3) := by decide +kernel
theorem dX9_settles_235 : decode cX9_settles 235 = .ok (.aload_n 0, 1) := by decide +kernel
theorem dX9_settles_236 : decode cX9_settles 236 = .ok (.iconst 0, 1) := by decide +kernel
theorem dX9_settles_237 : decode cX9_settles 237 = .ok (.putfield 146, 3) := by decide +kernel
theorem dX9_settles_240 : decode cX9_settles 240 = .ok (.aload_n 0, 1) := by decide +kernel
theorem dX9_settles_241 : decode cX9_settles 241 = .ok (.getfield 31, 3) := by decide +kernel
theorem dX9_settles_244 : decode cX9_settles 244 = .ok (.iconst 0, 1) := by decide +kernel
theorem dX9_settles_245 : decode cX9_settles 245 = .ok (.iconst 0, 1) := by decide +kernel
theorem dX9_settles_246 : decode cX9_settles 246 = .ok (.bastore, 1) := by decide +kernel
theorem dX9_settles_247 : decode cX9_settles 247 = .ok (.aload_n 0, 1) := by decide +kernel
theorem dX9_settles_248 : decode cX9_settles 248 = .ok (.getfield 31, 3) := by decide +kernel
theorem dX9_settles_251 : decode cX9_settles 251 = .ok (.iconst 1, 1) := by decide +kernel
theorem dX9_settles_252 : decode cX9_settles 252 = .ok (.iconst 0, 1) := by decide +kernel
theorem dX9_settles_253 : decode cX9_settles 253 = .ok (.bastore, 1) := by decide +kernel
theorem dX9_settles_254 : decode cX9_settles 254 = .ok (.return_, 1) := by decide +kernel
theorem dX9_isKnocker_0 : decode cX9_isKnocker 0 = .ok (.iload_n 1, 1) := by decide +kernel
theorem dX9_isKnocker_1 : decode cX9_isKnocker 1 = .ok (.iconst 0, 1) := by decide +kernel
theorem dX9_isKnocker_2 : decode cX9_isKnocker 2 = .ok (.aload_n 0, 1) := by decide +kernel
theorem dX9_isKnocker_3 : decode cX9_isKnocker 3 = .ok (.getfield 134, 3) := by decide +kernel
theorem dX9_isKnocker_6 : decode cX9_isKnocker 6 = .ok (.iconst 1, 1) := by decide +kernel
theorem dX9_isKnocker_7 : decode cX9_isKnocker 7 = .ok (.isub, 1) := by decide +kernel
theorem dX9_isKnocker_8 : decode cX9_isKnocker 8 = .ok (.invokestatic 48, 3) := by decide +kernel
theorem dX9_isKnocker_11 : decode cX9_isKnocker 11 = .ok (.ireturn, 1) := by decide +kernel
theorem dX9_isErrand_0 : decode cX9_isErrand 0 = .ok (.iload_n 1, 1) := by decide +kernel
theorem dX9_isErrand_1 : decode cX9_isErrand 1 = .ok (.iconst 0, 1) := by decide +kernel
theorem dX9_isErrand_2 : decode cX9_isErrand 2 = .ok (.aload_n 0, 1) := by decide +kernel
theorem dX9_isErrand_3 : decode cX9_isErrand 3 = .ok (.getfield 137, 3) := by decide +kernel
theorem dX9_isErrand_6 : decode cX9_isErrand 6 = .ok (.iconst 1, 1) := by decide +kernel
theorem dX9_isErrand_7 : decode cX9_isErrand 7 = .ok (.isub, 1) := by decide +kernel
theorem dX9_isErrand_8 : decode cX9_isErrand 8 = .ok (.invokestatic 48, 3) := by decide +kernel
theorem dX9_isErrand_11 : decode cX9_isErrand 11 = .ok (.ireturn, 1) := by decide +kernel
theorem dX9_isRule_0 : decode cX9_isRule 0 = .ok (.iload_n 1, 1) := by decide +kernel
theorem dX9_isRule_1 : decode cX9_isRule 1 = .ok (.iconst 0, 1) := by decide +kernel
theorem dX9_isRule_2 : decode cX9_isRule 2 = .ok (.aload_n 0, 1) := by decide +kernel
theorem dX9_isRule_3 : decode cX9_isRule 3 = .ok (.getfield 140, 3) := by decide +kernel
theorem dX9_isRule_6 : decode cX9_isRule 6 = .ok (.iconst 1, 1) := by decide +kernel
theorem dX9_isRule_7 : decode cX9_isRule 7 = .ok (.isub, 1) := by decide +kernel
theorem dX9_isRule_8 : decode cX9_isRule 8 = .ok (.invokestatic 48, 3) := by decide +kernel
theorem dX9_isRule_11 : decode cX9_isRule 11 = .ok (.ireturn, 1) := by decide +kernel
theorem dX9_hasEnough_0 : decode cX9_hasEnough 0 = .ok (.iload_n 1, 1) := by decide +kernel
theorem dX9_hasEnough_1 : decode cX9_hasEnough 1 = .ok (.aload_n 0, 1) := by decide +kernel
theorem dX9_hasEnough_2 : decode cX9_hasEnough 2 = .ok (.getfield 25, 3) := by decide +kernel
theorem dX9_hasEnough_5 : decode cX9_hasEnough 5 = .ok (.bipush 10, 2) := by decide +kernel
theorem dX9_hasEnough_7 : decode cX9_hasEnough 7 = .ok (.iload_n 2, 1) := by decide +kernel
theorem dX9_hasEnough_8 : decode cX9_hasEnough 8 = .ok (.iadd, 1) := by decide +kernel
theorem dX9_hasEnough_9 : decode cX9_hasEnough 9 = .ok (.iaload, 1) := by decide +kernel
theorem dX9_hasEnough_10 : decode cX9_hasEnough 10 = .ok (.iand, 1) := by decide +kernel
theorem dX9_hasEnough_11 : decode cX9_hasEnough 11 = .ok (.invokestatic 118, 3) := by decide +kernel
theorem dX9_hasEnough_14 : decode cX9_hasEnough 14 = .ok (.aload_n 0, 1) := by decide +kernel
theorem dX9_hasEnough_15 : decode cX9_hasEnough 15 = .ok (.getfield 25, 3) := by decide +kernel
theorem dX9_hasEnough_18 : decode cX9_hasEnough 18 = .ok (.bipush 14, 2) := by decide +kernel
theorem dX9_hasEnough_20 : decode cX9_hasEnough 20 = .ok (.iload_n 2, 1) := by decide +kernel
theorem dX9_hasEnough_21 : decode cX9_hasEnough 21 = .ok (.iadd, 1) := by decide +kernel
theorem dX9_hasEnough_22 : decode cX9_hasEnough 22 = .ok (.iaload, 1) := by decide +kernel
theorem dX9_hasEnough_23 : decode cX9_hasEnough 23 = .ok (.if_icmp .lt 7, 3) := by decide +kernel
theorem dX9_hasEnough_26 : decode cX9_hasEnough 26 = .ok (.iconst 1, 1) := by decide +kernel
theorem dX9_hasEnough_27 : decode cX9_hasEnough 27 = .ok (.goto 4, 3) := by decide +kernel
theorem dX9_hasEnough_30 : decode cX9_hasEnough 30 = .ok (.iconst 0, 1) := by decide +kernel
theorem dX9_hasEnough_31 : decode cX9_hasEnough 31 = .ok (.ireturn, 1) := by decide +kernel
theorem dX9_isLetIn_0 : decode cX9_isLetIn 0 = .ok (.iconst 1, 1) := by decide +kernel
theorem dX9_isLetIn_1 : decode cX9_isLetIn 1 = .ok (.istore_n 2, 1) := by decide +kernel
theorem dX9_isLetIn_2 : decode cX9_isLetIn 2 = .ok (.iconst 0, 1) := by decide +kernel
theorem dX9_isLetIn_3 : decode cX9_isLetIn 3 = .ok (.istore_n 3, 1) := by decide +kernel
theorem dX9_isLetIn_4 : decode cX9_isLetIn 4 = .ok (.iload_n 3, 1) := by decide +kernel
theorem dX9_isLetIn_5 : decode cX9_isLetIn 5 = .ok (.aload_n 0, 1) := by decide +kernel
theorem dX9_isLetIn_6 : decode cX9_isLetIn 6 = .ok (.getfield 140, 3) := by decide +kernel
theorem dX9_isLetIn_9 : decode cX9_isLetIn 9 = .ok (.if_icmp .ge 28, 3) := by decide +kernel
theorem dX9_isLetIn_12 : decode cX9_isLetIn 12 = .ok (.iload_n 2, 1) := by decide +kernel
theorem dX9_isLetIn_13 : decode cX9_isLetIn 13 = .ok (.ifCond .eq 16, 3) := by decide +kernel
theorem dX9_isLetIn_16 : decode cX9_isLetIn 16 = .ok (.aload_n 0, 1) := by decide +kernel
theorem dX9_isLetIn_17 : decode cX9_isLetIn 17 = .ok (.iload_n 1, 1) := by decide +kernel
theorem dX9_isLetIn_18 : decode cX9_isLetIn 18 = .ok (.iload_n 3, 1) := by decide +kernel
theorem dX9_isLetIn_19 : decode cX9_isLetIn 19 = .ok (.invokevirtual 149, 3) := by decide +kernel
theorem dX9_isLetIn_22 : decode cX9_isLetIn 22 = .ok (.ifCond .eq 7, 3) := by decide +kernel
theorem dX9_isLetIn_25 : decode cX9_isLetIn 25 = .ok (.iconst 1, 1) := by decide +kernel
theorem dX9_isLetIn_26 : decode cX9_isLetIn 26 = .ok (.goto 4, 3) := by decide +kernel
theorem dX9_isLetIn_29 : decode cX9_isLetIn 29 = .ok (.iconst 0, 1) := by decide +kernel
theorem dX9_isLetIn_30 : decode cX9_isLetIn 30 = .ok (.istore_n 2, 1) := by decide +kernel
theorem dX9_isLetIn_31 : decode cX9_isLetIn 31 = .ok (.iinc 3 1, 3) := by decide +kernel
theorem dX9_isLetIn_34 : decode cX9_isLetIn 34 = .ok (.goto (-30), 3) := by decide +kernel
theorem dX9_isLetIn_37 : decode cX9_isLetIn 37 = .ok (.iload_n 2, 1) := by decide +kernel
theorem dX9_isLetIn_38 : decode cX9_isLetIn 38 = .ok (.ireturn, 1) := by decide +kernel
theorem dX9_knocker_0 : decode cX9_knocker 0 = .ok (.aload_n 0, 1) := by decide +kernel
theorem dX9_knocker_1 : decode cX9_knocker 1 = .ok (.iconst 0, 1) := by decide +kernel
theorem dX9_knocker_2 : decode cX9_knocker 2 = .ok (.putfield 44, 3) := by decide +kernel
theorem dX9_knocker_5 : decode cX9_knocker 5 = .ok (.aload_n 0, 1) := by decide +kernel
theorem dX9_knocker_6 : decode cX9_knocker 6 = .ok (.iload_n 1, 1) := by decide +kernel
theorem dX9_knocker_7 : decode cX9_knocker 7 = .ok (.invokevirtual 153, 3) := by decide +kernel
theorem dX9_knocker_10 : decode cX9_knocker 10 = .ok (.ifCond .eq 12, 3) := by decide +kernel
theorem dX9_knocker_13 : decode cX9_knocker 13 = .ok (.iload_n 2, 1) := by decide +kernel
theorem dX9_knocker_14 : decode cX9_knocker 14 = .ok (.iconst 0, 1) := by decide +kernel
theorem dX9_knocker_15 : decode cX9_knocker 15 = .ok (.iconst 3, 1) := by decide +kernel
theorem dX9_knocker_16 : decode cX9_knocker 16 = .ok (.invokestatic 48, 3) := by decide +kernel
theorem dX9_knocker_19 : decode cX9_knocker 19 = .ok (.ifCond .ne 5, 3) := by decide +kernel
theorem dX9_knocker_22 : decode cX9_knocker 22 = .ok (.iconst (-1), 1) := by decide +kernel
theorem dX9_knocker_23 : decode cX9_knocker 23 = .ok (.ireturn, 1) := by decide +kernel
theorem dX9_knocker_24 : decode cX9_knocker 24 = .ok (.iload_n 2, 1) := by decide +kernel
theorem dX9_knocker_25 : decode cX9_knocker 25 = .ok (.iconst 2, 1) := by decide +kernel
end
section
theorem dX9_knocker_26 : decode cX9_knocker 26 = .ok (.if_icmp .ge 23, 3) := by decide +kernel
theorem dX9_knocker_29 : decode cX9_knocker 29 = .ok (.iload_n 2, 1) := by decide +kernel
theorem dX9_knocker_30 : decode cX9_knocker 30 = .ok (.ifCond .ne 12, 3) := by decide +kernel
theorem dX9_knocker_33 : decode cX9_knocker 33 = .ok (.aload_n 0, 1) := by decide +kernel
theorem dX9_knocker_34 : decode cX9_knocker 34 = .ok (.getfield 13, 3) := by decide +kernel
theorem dX9_knocker_37 : decode cX9_knocker 37 = .ok (.iload_n 1, 1) := by decide +kernel
theorem dX9_knocker_38 : decode cX9_knocker 38 = .ok (.iaload, 1) := by decide +kernel
theorem dX9_knocker_39 : decode cX9_knocker 39 = .ok (.goto 9, 3) := by decide +kernel
theorem dX9_knocker_42 : decode cX9_knocker 42 = .ok (.aload_n 0, 1) := by decide +kernel
theorem dX9_knocker_43 : decode cX9_knocker 43 = .ok (.getfield 25, 3) := by decide +kernel
theorem dX9_knocker_46 : decode cX9_knocker 46 = .ok (.iload_n 1, 1) := by decide +kernel
theorem dX9_knocker_47 : decode cX9_knocker 47 = .ok (.iaload, 1) := by decide +kernel
theorem dX9_knocker_48 : decode cX9_knocker 48 = .ok (.ireturn, 1) := by decide +kernel
theorem dX9_knocker_49 : decode cX9_knocker 49 = .ok (.iload_n 2, 1) := by decide +kernel
theorem dX9_knocker_50 : decode cX9_knocker 50 = .ok (.iconst 2, 1) := by decide +kernel
theorem dX9_knocker_51 : decode cX9_knocker 51 = .ok (.if_icmp .ne 14, 3) := by decide +kernel
theorem dX9_knocker_54 : decode cX9_knocker 54 = .ok (.aload_n 0, 1) := by decide +kernel
theorem dX9_knocker_55 : decode cX9_knocker 55 = .ok (.getfield 25, 3) := by decide +kernel
theorem dX9_knocker_58 : decode cX9_knocker 58 = .ok (.iconst 5, 1) := by decide +kernel
theorem dX9_knocker_59 : decode cX9_knocker 59 = .ok (.iload_n 1, 1) := by decide +kernel
theorem dX9_knocker_60 : decode cX9_knocker 60 = .ok (.iadd, 1) := by decide +kernel
theorem dX9_knocker_61 : decode cX9_knocker 61 = .ok (.iaload, 1) := by decide +kernel
theorem dX9_knocker_62 : decode cX9_knocker 62 = .ok (.goto 21, 3) := by decide +kernel
theorem dX9_knocker_65 : decode cX9_knocker 65 = .ok (.aload_n 0, 1) := by decide +kernel
theorem dX9_knocker_66 : decode cX9_knocker 66 = .ok (.aload_n 0, 1) := by decide +kernel
theorem dX9_knocker_67 : decode cX9_knocker 67 = .ok (.getfield 25, 3) := by decide +kernel
theorem dX9_knocker_70 : decode cX9_knocker 70 = .ok (.iload_n 1, 1) := by decide +kernel
theorem dX9_knocker_71 : decode cX9_knocker 71 = .ok (.iaload, 1) := by decide +kernel
theorem dX9_knocker_72 : decode cX9_knocker 72 = .ok (.invokevirtual 157, 3) := by decide +kernel
theorem dX9_knocker_75 : decode cX9_knocker 75 = .ok (.ifCond .eq 7, 3) := by decide +kernel
theorem dX9_knocker_78 : decode cX9_knocker 78 = .ok (.iconst 1, 1) := by decide +kernel
theorem dX9_knocker_79 : decode cX9_knocker 79 = .ok (.goto 4, 3) := by decide +kernel
theorem dX9_knocker_82 : decode cX9_knocker 82 = .ok (.iconst 0, 1) := by decide +kernel
theorem dX9_knocker_83 : decode cX9_knocker 83 = .ok (.ireturn, 1) := by decide +kernel
theorem dX9_errand_0 : decode cX9_errand 0 = .ok (.aload_n 0, 1) := by decide +kernel
theorem dX9_errand_1 : decode cX9_errand 1 = .ok (.iconst 0, 1) := by decide +kernel
theorem dX9_errand_2 : decode cX9_errand 2 = .ok (.putfield 44, 3) := by decide +kernel
theorem dX9_errand_5 : decode cX9_errand 5 = .ok (.aload_n 0, 1) := by decide +kernel
theorem dX9_errand_6 : decode cX9_errand 6 = .ok (.iload_n 1, 1) := by decide +kernel
theorem dX9_errand_7 : decode cX9_errand 7 = .ok (.invokevirtual 160, 3) := by decide +kernel
theorem dX9_errand_10 : decode cX9_errand 10 = .ok (.ifCond .eq 25, 3) := by decide +kernel
theorem dX9_errand_13 : decode cX9_errand 13 = .ok (.iload_n 2, 1) := by decide +kernel
theorem dX9_errand_14 : decode cX9_errand 14 = .ok (.iconst 0, 1) := by decide +kernel
theorem dX9_errand_15 : decode cX9_errand 15 = .ok (.iconst 2, 1) := by decide +kernel
theorem dX9_errand_16 : decode cX9_errand 16 = .ok (.invokestatic 48, 3) := by decide +kernel
theorem dX9_errand_19 : decode cX9_errand 19 = .ok (.ifCond .eq 16, 3) := by decide +kernel
theorem dX9_errand_22 : decode cX9_errand 22 = .ok (.aload_n 0, 1) := by decide +kernel
theorem dX9_errand_23 : decode cX9_errand 23 = .ok (.getfield 19, 3) := by decide +kernel
theorem dX9_errand_26 : decode cX9_errand 26 = .ok (.iconst 3, 1) := by decide +kernel
theorem dX9_errand_27 : decode cX9_errand 27 = .ok (.iload_n 1, 1) := by decide +kernel
theorem dX9_errand_28 : decode cX9_errand 28 = .ok (.imul, 1) := by decide +kernel
theorem dX9_errand_29 : decode cX9_errand 29 = .ok (.iload_n 2, 1) := by decide +kernel
theorem dX9_errand_30 : decode cX9_errand 30 = .ok (.iadd, 1) := by decide +kernel
theorem dX9_errand_31 : decode cX9_errand 31 = .ok (.iaload, 1) := by decide +kernel
theorem dX9_errand_32 : decode cX9_errand 32 = .ok (.goto 4, 3) := by decide +kernel
theorem dX9_errand_35 : decode cX9_errand 35 = .ok (.iconst (-1), 1) := by decide +kernel
theorem dX9_errand_36 : decode cX9_errand 36 = .ok (.ireturn, 1) := by decide +kernel
theorem dX9_rule_0 : decode cX9_rule 0 = .ok (.aload_n 0, 1) := by decide +kernel
theorem dX9_rule_1 : decode cX9_rule 1 = .ok (.iconst 0, 1) := by decide +kernel
theorem dX9_rule_2 : decode cX9_rule 2 = .ok (.putfield 44, 3) := by decide +kernel
theorem dX9_rule_5 : decode cX9_rule 5 = .ok (.aload_n 0, 1) := by decide +kernel
theorem dX9_rule_6 : decode cX9_rule 6 = .ok (.iload_n 1, 1) := by decide +kernel
theorem dX9_rule_7 : decode cX9_rule 7 = .ok (.invokevirtual 163, 3) := by decide +kernel
theorem dX9_rule_10 : decode cX9_rule 10 = .ok (.ifCond .eq 40, 3) := by decide +kernel
theorem dX9_rule_13 : decode cX9_rule 13 = .ok (.iload_n 2, 1) := by decide +kernel
theorem dX9_rule_14 : decode cX9_rule 14 = .ok (.iconst 0, 1) := by decide +kernel
theorem dX9_rule_15 : decode cX9_rule 15 = .ok (.iconst 1, 1) := by decide +kernel
theorem dX9_rule_16 : decode cX9_rule 16 = .ok (.invokestatic 48, 3) := by decide +kernel
theorem dX9_rule_19 : decode cX9_rule 19 = .ok (.ifCond .eq 31, 3) := by decide +kernel
theorem dX9_rule_22 : decode cX9_rule 22 = .ok (.iload_n 2, 1) := by decide +kernel
theorem dX9_rule_23 : decode cX9_rule 23 = .ok (.ifCond .ne 15, 3) := by decide +kernel
theorem dX9_rule_26 : decode cX9_rule 26 = .ok (.aload_n 0, 1) := by decide +kernel
theorem dX9_rule_27 : decode cX9_rule 27 = .ok (.getfield 25, 3) := by decide +kernel
theorem dX9_rule_30 : decode cX9_rule 30 = .ok (.bipush 10, 2) := by decide +kernel
theorem dX9_rule_32 : decode cX9_rule 32 = .ok (.iload_n 1, 1) := by decide +kernel
theorem dX9_rule_33 : decode cX9_rule 33 = .ok (.iadd, 1) := by decide +kernel
theorem dX9_rule_34 : decode cX9_rule 34 = .ok (.iaload, 1) := by decide +kernel
theorem dX9_rule_35 : decode cX9_rule 35 = .ok (.goto 16, 3) := by decide +kernel
theorem dX9_rule_38 : decode cX9_rule 38 = .ok (.aload_n 0, 1) := by decide +kernel
theorem dX9_rule_39 : decode cX9_rule 39 = .ok (.getfield 25, 3) := by decide +kernel
theorem dX9_rule_42 : decode cX9_rule 42 = .ok (.bipush 14, 2) := by decide +kernel
theorem dX9_rule_44 : decode cX9_rule 44 = .ok (.iload_n 1, 1) := by decide +kernel
theorem dX9_rule_45 : decode cX9_rule 45 = .ok (.iadd, 1) := by decide +kernel
theorem dX9_rule_46 : decode cX9_rule 46 = .ok (.iaload, 1) := by decide +kernel
theorem dX9_rule_47 : decode cX9_rule 47 = .ok (.goto 4, 3) := by decide +kernel
theorem dX9_rule_50 : decode cX9_rule 50 = .ok (.iconst (-1), 1) := by decide +kernel
theorem dX9_rule_51 : decode cX9_rule 51 = .ok (.ireturn, 1) := by decide +kernel
theorem dX9_notes_0 : decode cX9_notes 0 = .ok (.aload_n 0, 1) := by decide +kernel
theorem dX9_notes_1 : decode cX9_notes 1 = .ok (.getfield 143, 3) := by decide +kernel
theorem dX9_notes_4 : decode cX9_notes 4 = .ok (.bipush 10, 2) := by decide +kernel
theorem dX9_notes_6 : decode cX9_notes 6 = .ok (.if_icmp .ne 41, 3) := by decide +kernel
theorem dX9_notes_9 : decode cX9_notes 9 = .ok (.iconst 0, 1) := by decide +kernel
theorem dX9_notes_10 : decode cX9_notes 10 = .ok (.istore 5, 2) := by decide +kernel
theorem dX9_notes_12 : decode cX9_notes 12 = .ok (.iload 5, 2) := by decide +kernel
theorem dX9_notes_14 : decode cX9_notes 14 = .ok (.bipush 36, 2) := by decide +kernel
theorem dX9_notes_16 : decode cX9_notes 16 = .ok (.if_icmp .ge 25, 3) := by decide +kernel
theorem dX9_notes_19 : decode cX9_notes 19 = .ok (.aload_n 0, 1) := by decide +kernel
theorem dX9_notes_20 : decode cX9_notes 20 = .ok (.getfield 35, 3) := by decide +kernel
theorem dX9_notes_23 : decode cX9_notes 23 = .ok (.iload 5, 2) := by decide +kernel
theorem dX9_notes_25 : decode cX9_notes 25 = .ok (.aload_n 0, 1) := by decide +kernel
theorem dX9_notes_26 : decode cX9_notes 26 = .ok (.getfield 35, 3) := by decide +kernel
theorem dX9_notes_29 : decode cX9_notes 29 = .ok (.iload 5, 2) := by decide +kernel
theorem dX9_notes_31 : decode cX9_notes 31 = .ok (.iconst 4, 1) := by decide +kernel
theorem dX9_notes_32 : decode cX9_notes 32 = .ok (.iadd, 1) := by decide +kernel
theorem dX9_notes_33 : decode cX9_notes 33 = .ok (.iaload, 1) := by decide +kernel
theorem dX9_notes_34 : decode cX9_notes 34 = .ok (.iastore, 1) := by decide +kernel
theorem dX9_notes_35 : decode cX9_notes 35 = .ok (.iinc 5 1, 3) := by decide +kernel
theorem dX9_notes_38 : decode cX9_notes 38 = .ok (.goto (-26), 3) := by decide +kernel
theorem dX9_notes_41 : decode cX9_notes 41 = .ok (.aload_n 0, 1) := by decide +kernel
theorem dX9_notes_42 : decode cX9_notes 42 = .ok (.bipush 9, 2) := by decide +kernel
theorem dX9_notes_44 : decode cX9_notes 44 = .ok (.putfield 143, 3) := by decide +kernel
theorem dX9_notes_47 : decode cX9_notes 47 = .ok (.iconst 4, 1) := by decide +kernel
theorem dX9_notes_48 : decode cX9_notes 48 = .ok (.aload_n 0, 1) := by decide +kernel
theorem dX9_notes_49 : decode cX9_notes 49 = .ok (.getfield 143, 3) := by decide +kernel
theorem dX9_notes_52 : decode cX9_notes 52 = .ok (.imul, 1) := by decide +kernel
theorem dX9_notes_53 : decode cX9_notes 53 = .ok (.istore 5, 2) := by decide +kernel
theorem dX9_notes_55 : decode cX9_notes 55 = .ok (.aload_n 0, 1) := by decide +kernel
theorem dX9_notes_56 : decode cX9_notes 56 = .ok (.getfield 35, 3) := by decide +kernel
theorem dX9_notes_59 : decode cX9_notes 59 = .ok (.iload 5, 2) := by decide +kernel
theorem dX9_notes_61 : decode cX9_notes 61 = .ok (.iload_n 1, 1) := by decide +kernel
theorem dX9_notes_62 : decode cX9_notes 62 = .ok (.iastore, 1) := by decide +kernel
theorem dX9_notes_63 : decode cX9_notes 63 = .ok (.aload_n 0, 1) := by decide +kernel
theorem dX9_notes_64 : decode cX9_notes 64 = .ok (.getfield 35, 3) := by decide +kernel
theorem dX9_notes_67 : decode cX9_notes 67 = .ok (.iload 5, 2) := by decide +kernel
theorem dX9_notes_69 : decode cX9_notes 69 = .ok (.iconst 1, 1) := by decide +kernel
theorem dX9_notes_70 : decode cX9_notes 70 = .ok (.iadd, 1) := by decide +kernel
theorem dX9_notes_71 : decode cX9_notes 71 = .ok (.iload_n 2, 1) := by decide +kernel
theorem dX9_notes_72 : decode cX9_notes 72 = .ok (.iastore, 1) := by decide +kernel
theorem dX9_notes_73 : decode cX9_notes 73 = .ok (.aload_n 0, 1) := by decide +kernel
theorem dX9_notes_74 : decode cX9_notes 74 = .ok (.getfield 35, 3) := by decide +kernel
theorem dX9_notes_77 : decode cX9_notes 77 = .ok (.iload 5, 2) := by decide +kernel
theorem dX9_notes_79 : decode cX9_notes 79 = .ok (.iconst 2, 1) := by decide +kernel
theorem dX9_notes_80 : decode cX9_notes 80 = .ok (.iadd, 1) := by decide +kernel
theorem dX9_notes_81 : decode cX9_notes 81 = .ok (.iload_n 3, 1) := by decide +kernel
theorem dX9_notes_82 : decode cX9_notes 82 = .ok (.iastore, 1) := by decide +kernel
theorem dX9_notes_83 : decode cX9_notes 83 = .ok (.aload_n 0, 1) := by decide +kernel
theorem dX9_notes_84 : decode cX9_notes 84 = .ok (.getfield 35, 3) := by decide +kernel
theorem dX9_notes_87 : decode cX9_notes 87 = .ok (.iload 5, 2) := by decide +kernel
theorem dX9_notes_89 : decode cX9_notes 89 = .ok (.iconst 3, 1) := by decide +kernel
theorem dX9_notes_90 : decode cX9_notes 90 = .ok (.iadd, 1) := by decide +kernel
theorem dX9_notes_91 : decode cX9_notes 91 = .ok (.iload 4, 2) := by decide +kernel
theorem dX9_notes_93 : decode cX9_notes 93 = .ok (.iastore, 1) := by decide +kernel
theorem dX9_notes_94 : decode cX9_notes 94 = .ok (.aload_n 0, 1) := by decide +kernel
theorem dX9_notes_95 : decode cX9_notes 95 = .ok (.dup, 1) := by decide +kernel
theorem dX9_notes_96 : decode cX9_notes 96 = .ok (.getfield 143, 3) := by decide +kernel
theorem dX9_notes_99 : decode cX9_notes 99 = .ok (.iconst 1, 1) := by decide +kernel
theorem dX9_notes_100 : decode cX9_notes 100 = .ok (.iadd, 1) := by decide +kernel
theorem dX9_notes_101 : decode cX9_notes 101 = .ok (.putfield 143, 3) := by decide +kernel
theorem dX9_notes_104 : decode cX9_notes 104 = .ok (.return_, 1) := by decide +kernel
theorem dX9_canRun_0 : decode cX9_canRun 0 = .ok (.aload_n 0, 1) := by decide +kernel
theorem dX9_canRun_1 : decode cX9_canRun 1 = .ok (.getfield 19, 3) := by decide +kernel
theorem dX9_canRun_4 : decode cX9_canRun 4 = .ok (.iconst 3, 1) := by decide +kernel
theorem dX9_canRun_5 : decode cX9_canRun 5 = .ok (.iload_n 2, 1) := by decide +kernel
theorem dX9_canRun_6 : decode cX9_canRun 6 = .ok (.imul, 1) := by decide +kernel
theorem dX9_canRun_7 : decode cX9_canRun 7 = .ok (.iconst 2, 1) := by decide +kernel
theorem dX9_canRun_8 : decode cX9_canRun 8 = .ok (.iadd, 1) := by decide +kernel
theorem dX9_canRun_9 : decode cX9_canRun 9 = .ok (.iaload, 1) := by decide +kernel
theorem dX9_canRun_10 : decode cX9_canRun 10 = .ok (.istore_n 3, 1) := by decide +kernel
theorem dX9_canRun_11 : decode cX9_canRun 11 = .ok (.iload_n 1, 1) := by decide +kernel
theorem dX9_canRun_12 : decode cX9_canRun 12 = .ok (.aload_n 0, 1) := by decide +kernel
theorem dX9_canRun_13 : decode cX9_canRun 13 = .ok (.getfield 19, 3) := by decide +kernel
theorem dX9_canRun_16 : decode cX9_canRun 16 = .ok (.iconst 3, 1) := by decide +kernel
theorem dX9_canRun_17 : decode cX9_canRun 17 = .ok (.iload_n 2, 1) := by decide +kernel
theorem dX9_canRun_18 : decode cX9_canRun 18 = .ok (.imul, 1) := by decide +kernel
theorem dX9_canRun_19 : decode cX9_canRun 19 = .ok (.iaload, 1) := by decide +kernel
theorem dX9_canRun_20 : decode cX9_canRun 20 = .ok (.ishr, 1) := by decide +kernel
theorem dX9_canRun_21 : decode cX9_canRun 21 = .ok (.iconst 1, 1) := by decide +kernel
theorem dX9_canRun_22 : decode cX9_canRun 22 = .ok (.iand, 1) := by decide +kernel
theorem dX9_canRun_23 : decode cX9_canRun 23 = .ok (.ifCond .ne 22, 3) := by decide +kernel
theorem dX9_canRun_26 : decode cX9_canRun 26 = .ok (.iload_n 3, 1) := by decide +kernel
theorem dX9_canRun_27 : decode cX9_canRun 27 = .ok (.bipush 9, 2) := by decide +kernel
theorem dX9_canRun_29 : decode cX9_canRun 29 = .ok (.if_icmp .eq 12, 3) := by decide +kernel
theorem dX9_canRun_32 : decode cX9_canRun 32 = .ok (.iload_n 1, 1) := by decide +kernel
theorem dX9_canRun_33 : decode cX9_canRun 33 = .ok (.iload_n 3, 1) := by decide +kernel
theorem dX9_canRun_34 : decode cX9_canRun 34 = .ok (.ishr, 1) := by decide +kernel
theorem dX9_canRun_35 : decode cX9_canRun 35 = .ok (.iconst 1, 1) := by decide +kernel
theorem dX9_canRun_36 : decode cX9_canRun 36 = .ok (.iand, 1) := by decide +kernel
theorem dX9_canRun_37 : decode cX9_canRun 37 = .ok (.iconst 1, 1) := by decide +kernel
theorem dX9_canRun_38 : decode cX9_canRun 38 = .ok (.if_icmp .ne 7, 3) := by decide +kernel
theorem dX9_canRun_41 : decode cX9_canRun 41 = .ok (.iconst 1, 1) := by decide +kernel
theorem dX9_canRun_42 : decode cX9_canRun 42 = .ok (.goto 4, 3) := by decide +kernel
theorem dX9_canRun_45 : decode cX9_canRun 45 = .ok (.iconst 0, 1) := by decide +kernel
theorem dX9_canRun_46 : decode cX9_canRun 46 = .ok (.ireturn, 1) := by decide +kernel
theorem dX9_runs_0 : decode cX9_runs 0 = .ok (.aload_n 0, 1) := by decide +kernel
theorem dX9_runs_1 : decode cX9_runs 1 = .ok (.iconst 0, 1) := by decide +kernel
theorem dX9_runs_2 : decode cX9_runs 2 = .ok (.putfield 44, 3) := by decide +kernel
theorem dX9_runs_5 : decode cX9_runs 5 = .ok (.aload_n 0, 1) := by decide +kernel
theorem dX9_runs_6 : decode cX9_runs 6 = .ok (.iload_n 1, 1) := by decide +kernel
theorem dX9_runs_7 : decode cX9_runs 7 = .ok (.invokevirtual 153, 3) := by decide +kernel
theorem dX9_runs_10 : decode cX9_runs 10 = .ok (.ifCond .eq 11, 3) := by decide +kernel
theorem dX9_runs_13 : decode cX9_runs 13 = .ok (.aload_n 0, 1) := by decide +kernel
theorem dX9_runs_14 : decode cX9_runs 14 = .ok (.iload_n 2, 1) := by decide +kernel
theorem dX9_runs_15 : decode cX9_runs 15 = .ok (.invokevirtual 160, 3) := by decide +kernel
theorem dX9_runs_18 : decode cX9_runs 18 = .ok (.ifCond .ne 5, 3) := by decide +kernel
theorem dX9_runs_21 : decode cX9_runs 21 = .ok (.iconst (-1), 1) := by decide +kernel
theorem dX9_runs_22 : decode cX9_runs 22 = .ok (.ireturn, 1) := by decide +kernel
theorem dX9_runs_23 : decode cX9_runs 23 = .ok (.aload_n 0, 1) := by decide +kernel
theorem dX9_runs_24 : decode cX9_runs 24 = .ok (.aload_n 0, 1) := by decide +kernel
theorem dX9_runs_25 : decode cX9_runs 25 = .ok (.getfield 25, 3) := by decide +kernel
theorem dX9_runs_28 : decode cX9_runs 28 = .ok (.iload_n 1, 1) := by decide +kernel
theorem dX9_runs_29 : decode cX9_runs 29 = .ok (.iaload, 1) := by decide +kernel
theorem dX9_runs_30 : decode cX9_runs 30 = .ok (.iload_n 2, 1) := by decide +kernel
theorem dX9_runs_31 : decode cX9_runs 31 = .ok (.invokevirtual 166, 3) := by decide +kernel
theorem dX9_runs_34 : decode cX9_runs 34 = .ok (.ifCond .eq 27, 3) := by decide +kernel
theorem dX9_runs_37 : decode cX9_runs 37 = .ok (.aload_n 0, 1) := by decide +kernel
theorem dX9_runs_38 : decode cX9_runs 38 = .ok (.getfield 25, 3) := by decide +kernel
theorem dX9_runs_41 : decode cX9_runs 41 = .ok (.iconst 5, 1) := by decide +kernel
theorem dX9_runs_42 : decode cX9_runs 42 = .ok (.iload_n 1, 1) := by decide +kernel
theorem dX9_runs_43 : decode cX9_runs 43 = .ok (.iadd, 1) := by decide +kernel
theorem dX9_runs_44 : decode cX9_runs 44 = .ok (.iaload, 1) := by decide +kernel
theorem dX9_runs_45 : decode cX9_runs 45 = .ok (.aload_n 0, 1) := by decide +kernel
theorem dX9_runs_46 : decode cX9_runs 46 = .ok (.getfield 19, 3) := by decide +kernel
theorem dX9_runs_49 : decode cX9_runs 49 = .ok (.iconst 3, 1) := by decide +kernel
theorem dX9_runs_50 : decode cX9_runs 50 = .ok (.iload_n 2, 1) := by decide +kernel
theorem dX9_runs_51 : decode cX9_runs 51 = .ok (.imul, 1) := by decide +kernel
theorem dX9_runs_52 : decode cX9_runs 52 = .ok (.iconst 1, 1) := by decide +kernel
theorem dX9_runs_53 : decode cX9_runs 53 = .ok (.iadd, 1) := by decide +kernel
theorem dX9_runs_54 : decode cX9_runs 54 = .ok (.iaload, 1) := by decide +kernel
theorem dX9_runs_55 : decode cX9_runs 55 = .ok (.iadd, 1) := by decide +kernel
theorem dX9_runs_56 : decode cX9_runs 56 = .ok (.bipush 99, 2) := by decide +kernel
theorem dX9_runs_58 : decode cX9_runs 58 = .ok (.if_icmp .le 6, 3) := by decide +kernel
theorem dX9_runs_61 : decode cX9_runs 61 = .ok (.bipush (-2), 2) := by decide +kernel
theorem dX9_runs_63 : decode cX9_runs 63 = .ok (.ireturn, 1) := by decide +kernel
theorem dX9_runs_64 : decode cX9_runs 64 = .ok (.aload_n 0, 1) := by decide +kernel
theorem dX9_runs_65 : decode cX9_runs 65 = .ok (.iconst 0, 1) := by decide +kernel
theorem dX9_runs_66 : decode cX9_runs 66 = .ok (.iload_n 1, 1) := by decide +kernel
theorem dX9_runs_67 : decode cX9_runs 67 = .ok (.aload_n 0, 1) := by decide +kernel
theorem dX9_runs_68 : decode cX9_runs 68 = .ok (.getfield 25, 3) := by decide +kernel
theorem dX9_runs_71 : decode cX9_runs 71 = .ok (.iload_n 1, 1) := by decide +kernel
theorem dX9_runs_72 : decode cX9_runs 72 = .ok (.iaload, 1) := by decide +kernel
theorem dX9_runs_73 : decode cX9_runs 73 = .ok (.aload_n 0, 1) := by decide +kernel
theorem dX9_runs_74 : decode cX9_runs 74 = .ok (.getfield 25, 3) := by decide +kernel
theorem dX9_runs_77 : decode cX9_runs 77 = .ok (.iconst 5, 1) := by decide +kernel
theorem dX9_runs_78 : decode cX9_runs 78 = .ok (.iload_n 1, 1) := by decide +kernel
theorem dX9_runs_79 : decode cX9_runs 79 = .ok (.iadd, 1) := by decide +kernel
theorem dX9_runs_80 : decode cX9_runs 80 = .ok (.iaload, 1) := by decide +kernel
theorem dX9_runs_81 : decode cX9_runs 81 = .ok (.invokevirtual 169, 3) := by decide +kernel
theorem dX9_runs_84 : decode cX9_runs 84 = .ok (.aload_n 0, 1) := by decide +kernel
theorem dX9_runs_85 : decode cX9_runs 85 = .ok (.getfield 25, 3) := by decide +kernel
theorem dX9_runs_88 : decode cX9_runs 88 = .ok (.iload_n 1, 1) := by decide +kernel
theorem dX9_runs_89 : decode cX9_runs 89 = .ok (.dup2, 1) := by decide +kernel
theorem dX9_runs_90 : decode cX9_runs 90 = .ok (.iaload, 1) := by decide +kernel
theorem dX9_runs_91 : decode cX9_runs 91 = .ok (.iconst 1, 1) := by decide +kernel
theorem dX9_runs_92 : decode cX9_runs 92 = .ok (.aload_n 0, 1) := by decide +kernel
theorem dX9_runs_93 : decode cX9_runs 93 = .ok (.getfield 19, 3) := by decide +kernel
theorem dX9_runs_96 : decode cX9_runs 96 = .ok (.iconst 3, 1) := by decide +kernel
theorem dX9_runs_97 : decode cX9_runs 97 = .ok (.iload_n 2, 1) := by decide +kernel
theorem dX9_runs_98 : decode cX9_runs 98 = .ok (.imul, 1) := by decide +kernel
theorem dX9_runs_99 : decode cX9_runs 99 = .ok (.iaload, 1) := by decide +kernel
theorem dX9_runs_100 : decode cX9_runs 100 = .ok (.ishl, 1) := by decide +kernel
theorem dX9_runs_101 : decode cX9_runs 101 = .ok (.ior, 1) := by decide +kernel
theorem dX9_runs_102 : decode cX9_runs 102 = .ok (.iastore, 1) := by decide +kernel
theorem dX9_runs_103 : decode cX9_runs 103 = .ok (.aload_n 0, 1) := by decide +kernel
theorem dX9_runs_104 : decode cX9_runs 104 = .ok (.getfield 25, 3) := by decide +kernel
theorem dX9_runs_107 : decode cX9_runs 107 = .ok (.iconst 5, 1) := by decide +kernel
theorem dX9_runs_108 : decode cX9_runs 108 = .ok (.iload_n 1, 1) := by decide +kernel
theorem dX9_runs_109 : decode cX9_runs 109 = .ok (.iadd, 1) := by decide +kernel
theorem dX9_runs_110 : decode cX9_runs 110 = .ok (.dup2, 1) := by decide +kernel
theorem dX9_runs_111 : decode cX9_runs 111 = .ok (.iaload, 1) := by decide +kernel
theorem dX9_runs_112 : decode cX9_runs 112 = .ok (.aload_n 0, 1) := by decide +kernel
theorem dX9_runs_113 : decode cX9_runs 113 = .ok (.getfield 19, 3) := by decide +kernel
theorem dX9_runs_116 : decode cX9_runs 116 = .ok (.iconst 3, 1) := by decide +kernel
theorem dX9_runs_117 : decode cX9_runs 117 = .ok (.iload_n 2, 1) := by decide +kernel
theorem dX9_runs_118 : decode cX9_runs 118 = .ok (.imul, 1) := by decide +kernel
theorem dX9_runs_119 : decode cX9_runs 119 = .ok (.iconst 1, 1) := by decide +kernel
theorem dX9_runs_120 : decode cX9_runs 120 = .ok (.iadd, 1) := by decide +kernel
theorem dX9_runs_121 : decode cX9_runs 121 = .ok (.iaload, 1) := by decide +kernel
theorem dX9_runs_122 : decode cX9_runs 122 = .ok (.iadd, 1) := by decide +kernel
theorem dX9_runs_123 : decode cX9_runs 123 = .ok (.iastore, 1) := by decide +kernel
theorem dX9_runs_124 : decode cX9_runs 124 = .ok (.aload_n 0, 1) := by decide +kernel
theorem dX9_runs_125 : decode cX9_runs 125 = .ok (.getfield 25, 3) := by decide +kernel
theorem dX9_runs_128 : decode cX9_runs 128 = .ok (.iconst 5, 1) := by decide +kernel
theorem dX9_runs_129 : decode cX9_runs 129 = .ok (.iload_n 1, 1) := by decide +kernel
theorem dX9_runs_130 : decode cX9_runs 130 = .ok (.iadd, 1) := by decide +kernel
theorem dX9_runs_131 : decode cX9_runs 131 = .ok (.iaload, 1) := by decide +kernel
theorem dX9_runs_132 : decode cX9_runs 132 = .ok (.ireturn, 1) := by decide +kernel
theorem dX9_knocks_0 : decode cX9_knocks 0 = .ok (.aload_n 0, 1) := by decide +kernel
theorem dX9_knocks_1 : decode cX9_knocks 1 = .ok (.iconst 0, 1) := by decide +kernel
theorem dX9_knocks_2 : decode cX9_knocks 2 = .ok (.putfield 44, 3) := by decide +kernel
theorem dX9_knocks_5 : decode cX9_knocks 5 = .ok (.aload_n 0, 1) := by decide +kernel
theorem dX9_knocks_6 : decode cX9_knocks 6 = .ok (.iload_n 1, 1) := by decide +kernel
theorem dX9_knocks_7 : decode cX9_knocks 7 = .ok (.invokevirtual 153, 3) := by decide +kernel
theorem dX9_knocks_10 : decode cX9_knocks 10 = .ok (.ifCond .eq 22, 3) := by decide +kernel
theorem dX9_knocks_13 : decode cX9_knocks 13 = .ok (.iload_n 2, 1) := by decide +kernel
theorem dX9_knocks_14 : decode cX9_knocks 14 = .ok (.bipush (-9), 2) := by decide +kernel
theorem dX9_knocks_16 : decode cX9_knocks 16 = .ok (.if_icmp .eq 11, 3) := by decide +kernel
theorem dX9_knocks_19 : decode cX9_knocks 19 = .ok (.aload_n 0, 1) := by decide +kernel
theorem dX9_knocks_20 : decode cX9_knocks 20 = .ok (.iload_n 2, 1) := by decide +kernel
theorem dX9_knocks_21 : decode cX9_knocks 21 = .ok (.invokevirtual 153, 3) := by decide +kernel
theorem dX9_knocks_24 : decode cX9_knocks 24 = .ok (.ifCond .eq 8, 3) := by decide +kernel
theorem dX9_knocks_27 : decode cX9_knocks 27 = .ok (.iload_n 1, 1) := by decide +kernel
theorem dX9_knocks_28 : decode cX9_knocks 28 = .ok (.iload_n 2, 1) := by decide +kernel
theorem dX9_knocks_29 : decode cX9_knocks 29 = .ok (.if_icmp .ne 5, 3) := by decide +kernel
theorem dX9_knocks_32 : decode cX9_knocks 32 = .ok (.iconst (-1), 1) := by decide +kernel
theorem dX9_knocks_33 : decode cX9_knocks 33 = .ok (.ireturn, 1) := by decide +kernel
theorem dX9_knocks_34 : decode cX9_knocks 34 = .ok (.iload_n 2, 1) := by decide +kernel
theorem dX9_knocks_35 : decode cX9_knocks 35 = .ok (.bipush (-9), 2) := by decide +kernel
theorem dX9_knocks_37 : decode cX9_knocks 37 = .ok (.if_icmp .ne 14, 3) := by decide +kernel
theorem dX9_knocks_40 : decode cX9_knocks 40 = .ok (.aload_n 0, 1) := by decide +kernel
theorem dX9_knocks_41 : decode cX9_knocks 41 = .ok (.iconst 2, 1) := by decide +kernel
theorem dX9_knocks_42 : decode cX9_knocks 42 = .ok (.iconst 0, 1) := by decide +kernel
theorem dX9_knocks_43 : decode cX9_knocks 43 = .ok (.iconst 0, 1) := by decide +kernel
theorem dX9_knocks_44 : decode cX9_knocks 44 = .ok (.iconst 0, 1) := by decide +kernel
theorem dX9_knocks_45 : decode cX9_knocks 45 = .ok (.invokevirtual 169, 3) := by decide +kernel
theorem dX9_knocks_48 : decode cX9_knocks 48 = .ok (.goto 78, 3) := by decide +kernel
theorem dX9_knocks_51 : decode cX9_knocks 51 = .ok (.aload_n 0, 1) := by decide +kernel
theorem dX9_knocks_52 : decode cX9_knocks 52 = .ok (.iconst 0, 1) := by decide +kernel
theorem dX9_knocks_53 : decode cX9_knocks 53 = .ok (.iload_n 2, 1) := by decide +kernel
theorem dX9_knocks_54 : decode cX9_knocks 54 = .ok (.aload_n 0, 1) := by decide +kernel
theorem dX9_knocks_55 : decode cX9_knocks 55 = .ok (.getfield 25, 3) := by decide +kernel
theorem dX9_knocks_58 : decode cX9_knocks 58 = .ok (.iload_n 2, 1) := by decide +kernel
theorem dX9_knocks_59 : decode cX9_knocks 59 = .ok (.iaload, 1) := by decide +kernel
theorem dX9_knocks_60 : decode cX9_knocks 60 = .ok (.aload_n 0, 1) := by decide +kernel
theorem dX9_knocks_61 : decode cX9_knocks 61 = .ok (.getfield 25, 3) := by decide +kernel
theorem dX9_knocks_64 : decode cX9_knocks 64 = .ok (.iconst 5, 1) := by decide +kernel
theorem dX9_knocks_65 : decode cX9_knocks 65 = .ok (.iload_n 2, 1) := by decide +kernel
theorem dX9_knocks_66 : decode cX9_knocks 66 = .ok (.iadd, 1) := by decide +kernel
theorem dX9_knocks_67 : decode cX9_knocks 67 = .ok (.iaload, 1) := by decide +kernel
theorem dX9_knocks_68 : decode cX9_knocks 68 = .ok (.invokevirtual 169, 3) := by decide +kernel
theorem dX9_knocks_71 : decode cX9_knocks 71 = .ok (.iconst 0, 1) := by decide +kernel
theorem dX9_knocks_72 : decode cX9_knocks 72 = .ok (.istore_n 3, 1) := by decide +kernel
theorem dX9_knocks_73 : decode cX9_knocks 73 = .ok (.iconst 0, 1) := by decide +kernel
theorem dX9_knocks_74 : decode cX9_knocks 74 = .ok (.istore 4, 2) := by decide +kernel
theorem dX9_knocks_76 : decode cX9_knocks 76 = .ok (.iload 4, 2) := by decide +kernel
theorem dX9_knocks_78 : decode cX9_knocks 78 = .ok (.aload_n 0, 1) := by decide +kernel
theorem dX9_knocks_79 : decode cX9_knocks 79 = .ok (.getfield 140, 3) := by decide +kernel
theorem dX9_knocks_82 : decode cX9_knocks 82 = .ok (.if_icmp .ge 22, 3) := by decide +kernel
theorem dX9_knocks_85 : decode cX9_knocks 85 = .ok (.iload_n 3, 1) := by decide +kernel
theorem dX9_knocks_86 : decode cX9_knocks 86 = .ok (.aload_n 0, 1) := by decide +kernel
theorem dX9_knocks_87 : decode cX9_knocks 87 = .ok (.getfield 25, 3) := by decide +kernel
theorem dX9_knocks_90 : decode cX9_knocks 90 = .ok (.bipush 10, 2) := by decide +kernel
theorem dX9_knocks_92 : decode cX9_knocks 92 = .ok (.iload 4, 2) := by decide +kernel
theorem dX9_knocks_94 : decode cX9_knocks 94 = .ok (.iadd, 1) := by decide +kernel
theorem dX9_knocks_95 : decode cX9_knocks 95 = .ok (.iaload, 1) := by decide +kernel
theorem dX9_knocks_96 : decode cX9_knocks 96 = .ok (.ior, 1) := by decide +kernel
theorem dX9_knocks_97 : decode cX9_knocks 97 = .ok (.istore_n 3, 1) := by decide +kernel
theorem dX9_knocks_98 : decode cX9_knocks 98 = .ok (.iinc 4 1, 3) := by decide +kernel
theorem dX9_knocks_101 : decode cX9_knocks 101 = .ok (.goto (-25), 3) := by decide +kernel
theorem dX9_knocks_104 : decode cX9_knocks 104 = .ok (.aload_n 0, 1) := by decide +kernel
theorem dX9_knocks_105 : decode cX9_knocks 105 = .ok (.getfield 25, 3) := by decide +kernel
theorem dX9_knocks_108 : decode cX9_knocks 108 = .ok (.iload_n 2, 1) := by decide +kernel
theorem dX9_knocks_109 : decode cX9_knocks 109 = .ok (.dup2, 1) := by decide +kernel
theorem dX9_knocks_110 : decode cX9_knocks 110 = .ok (.iaload, 1) := by decide +kernel
theorem dX9_knocks_111 : decode cX9_knocks 111 = .ok (.aload_n 0, 1) := by decide +kernel
theorem dX9_knocks_112 : decode cX9_knocks 112 = .ok (.getfield 25, 3) := by decide +kernel
theorem dX9_knocks_115 : decode cX9_knocks 115 = .ok (.iload_n 1, 1) := by decide +kernel
theorem dX9_knocks_116 : decode cX9_knocks 116 = .ok (.iaload, 1) := by decide +kernel
theorem dX9_knocks_117 : decode cX9_knocks 117 = .ok (.aload_n 0, 1) := by decide +kernel
theorem dX9_knocks_118 : decode cX9_knocks 118 = .ok (.getfield 131, 3) := by decide +kernel
theorem dX9_knocks_121 : decode cX9_knocks 121 = .ok (.iand, 1) := by decide +kernel
theorem dX9_knocks_122 : decode cX9_knocks 122 = .ok (.iload_n 3, 1) := by decide +kernel
theorem dX9_knocks_123 : decode cX9_knocks 123 = .ok (.iand, 1) := by decide +kernel
theorem dX9_knocks_124 : decode cX9_knocks 124 = .ok (.ior, 1) := by decide +kernel
theorem dX9_knocks_125 : decode cX9_knocks 125 = .ok (.iastore, 1) := by decide +kernel
theorem dX9_knocks_126 : decode cX9_knocks 126 = .ok (.aload_n 0, 1) := by decide +kernel
theorem dX9_knocks_127 : decode cX9_knocks 127 = .ok (.aload_n 0, 1) := by decide +kernel
theorem dX9_knocks_128 : decode cX9_knocks 128 = .ok (.getfield 25, 3) := by decide +kernel
theorem dX9_knocks_131 : decode cX9_knocks 131 = .ok (.iload_n 1, 1) := by decide +kernel
theorem dX9_knocks_132 : decode cX9_knocks 132 = .ok (.iaload, 1) := by decide +kernel
theorem dX9_knocks_133 : decode cX9_knocks 133 = .ok (.invokevirtual 157, 3) := by decide +kernel
theorem dX9_knocks_136 : decode cX9_knocks 136 = .ok (.ifCond .eq 7, 3) := by decide +kernel
theorem dX9_knocks_139 : decode cX9_knocks 139 = .ok (.iconst 1, 1) := by decide +kernel
theorem dX9_knocks_140 : decode cX9_knocks 140 = .ok (.goto 4, 3) := by decide +kernel
theorem dX9_knocks_143 : decode cX9_knocks 143 = .ok (.iconst 0, 1) := by decide +kernel
theorem dX9_knocks_144 : decode cX9_knocks 144 = .ok (.ireturn, 1) := by decide +kernel
theorem dX9_hoarse_0 : decode cX9_hoarse 0 = .ok (.aload_n 0, 1) := by decide +kernel
theorem dX9_hoarse_1 : decode cX9_hoarse 1 = .ok (.iconst 0, 1) := by decide +kernel
theorem dX9_hoarse_2 : decode cX9_hoarse 2 = .ok (.putfield 44, 3) := by decide +kernel
theorem dX9_hoarse_5 : decode cX9_hoarse 5 = .ok (.aload_n 0, 1) := by decide +kernel
theorem dX9_hoarse_6 : decode cX9_hoarse 6 = .ok (.iload_n 1, 1) := by decide +kernel
theorem dX9_hoarse_7 : decode cX9_hoarse 7 = .ok (.invokevirtual 153, 3) := by decide +kernel
theorem dX9_hoarse_10 : decode cX9_hoarse 10 = .ok (.ifCond .eq 13, 3) := by decide +kernel
theorem dX9_hoarse_13 : decode cX9_hoarse 13 = .ok (.iload_n 2, 1) := by decide +kernel
theorem dX9_hoarse_14 : decode cX9_hoarse 14 = .ok (.iconst 0, 1) := by decide +kernel
theorem dX9_hoarse_15 : decode cX9_hoarse 15 = .ok (.bipush 7, 2) := by decide +kernel
theorem dX9_hoarse_17 : decode cX9_hoarse 17 = .ok (.invokestatic 48, 3) := by decide +kernel
theorem dX9_hoarse_20 : decode cX9_hoarse 20 = .ok (.ifCond .ne 5, 3) := by decide +kernel
theorem dX9_hoarse_23 : decode cX9_hoarse 23 = .ok (.iconst (-1), 1) := by decide +kernel
theorem dX9_hoarse_24 : decode cX9_hoarse 24 = .ok (.ireturn, 1) := by decide +kernel
theorem dX9_hoarse_25 : decode cX9_hoarse 25 = .ok (.aload_n 0, 1) := by decide +kernel
theorem dX9_hoarse_26 : decode cX9_hoarse 26 = .ok (.getfield 25, 3) := by decide +kernel
theorem dX9_hoarse_29 : decode cX9_hoarse 29 = .ok (.iload_n 1, 1) := by decide +kernel
theorem dX9_hoarse_30 : decode cX9_hoarse 30 = .ok (.iaload, 1) := by decide +kernel
theorem dX9_hoarse_31 : decode cX9_hoarse 31 = .ok (.iload_n 2, 1) := by decide +kernel
theorem dX9_hoarse_32 : decode cX9_hoarse 32 = .ok (.ishr, 1) := by decide +kernel
theorem dX9_hoarse_33 : decode cX9_hoarse 33 = .ok (.iconst 1, 1) := by decide +kernel
theorem dX9_hoarse_34 : decode cX9_hoarse 34 = .ok (.iand, 1) := by decide +kernel
theorem dX9_hoarse_35 : decode cX9_hoarse 35 = .ok (.ifCond .ne 6, 3) := by decide +kernel
theorem dX9_hoarse_38 : decode cX9_hoarse 38 = .ok (.bipush (-2), 2) := by decide +kernel
theorem dX9_hoarse_40 : decode cX9_hoarse 40 = .ok (.ireturn, 1) := by decide +kernel
theorem dX9_hoarse_41 : decode cX9_hoarse 41 = .ok (.aload_n 0, 1) := by decide +kernel
theorem dX9_hoarse_42 : decode cX9_hoarse 42 = .ok (.iconst 0, 1) := by decide +kernel
theorem dX9_hoarse_43 : decode cX9_hoarse 43 = .ok (.iload_n 1, 1) := by decide +kernel
theorem dX9_hoarse_44 : decode cX9_hoarse 44 = .ok (.aload_n 0, 1) := by decide +kernel
theorem dX9_hoarse_45 : decode cX9_hoarse 45 = .ok (.getfield 25, 3) := by decide +kernel
theorem dX9_hoarse_48 : decode cX9_hoarse 48 = .ok (.iload_n 1, 1) := by decide +kernel
theorem dX9_hoarse_49 : decode cX9_hoarse 49 = .ok (.iaload, 1) := by decide +kernel
theorem dX9_hoarse_50 : decode cX9_hoarse 50 = .ok (.aload_n 0, 1) := by decide +kernel
theorem dX9_hoarse_51 : decode cX9_hoarse 51 = .ok (.getfield 25, 3) := by decide +kernel
theorem dX9_hoarse_54 : decode cX9_hoarse 54 = .ok (.iconst 5, 1) := by decide +kernel
theorem dX9_hoarse_55 : decode cX9_hoarse 55 = .ok (.iload_n 1, 1) := by decide +kernel
theorem dX9_hoarse_56 : decode cX9_hoarse 56 = .ok (.iadd, 1) := by decide +kernel
theorem dX9_hoarse_57 : decode cX9_hoarse 57 = .ok (.iaload, 1) := by decide +kernel
theorem dX9_hoarse_58 : decode cX9_hoarse 58 = .ok (.invokevirtual 169, 3) := by decide +kernel
theorem dX9_hoarse_61 : decode cX9_hoarse 61 = .ok (.aload_n 0, 1) := by decide +kernel
theorem dX9_hoarse_62 : decode cX9_hoarse 62 = .ok (.getfield 25, 3) := by decide +kernel
theorem dX9_hoarse_65 : decode cX9_hoarse 65 = .ok (.iload_n 1, 1) := by decide +kernel
theorem dX9_hoarse_66 : decode cX9_hoarse 66 = .ok (.dup2, 1) := by decide +kernel
theorem dX9_hoarse_67 : decode cX9_hoarse 67 = .ok (.iaload, 1) := by decide +kernel
theorem dX9_hoarse_68 : decode cX9_hoarse 68 = .ok (.iconst 1, 1) := by decide +kernel
theorem dX9_hoarse_69 : decode cX9_hoarse 69 = .ok (.iload_n 2, 1) := by decide +kernel
theorem dX9_hoarse_70 : decode cX9_hoarse 70 = .ok (.ishl, 1) := by decide +kernel
theorem dX9_hoarse_71 : decode cX9_hoarse 71 = .ok (.isub, 1) := by decide +kernel
theorem dX9_hoarse_72 : decode cX9_hoarse 72 = .ok (.iastore, 1) := by decide +kernel
theorem dX9_hoarse_73 : decode cX9_hoarse 73 = .ok (.aload_n 0, 1) := by decide +kernel
theorem dX9_hoarse_74 : decode cX9_hoarse 74 = .ok (.getfield 25, 3) := by decide +kernel
theorem dX9_hoarse_77 : decode cX9_hoarse 77 = .ok (.iload_n 1, 1) := by decide +kernel
theorem dX9_hoarse_78 : decode cX9_hoarse 78 = .ok (.iaload, 1) := by decide +kernel
theorem dX9_hoarse_79 : decode cX9_hoarse 79 = .ok (.invokestatic 118, 3) := by decide +kernel
theorem dX9_hoarse_82 : decode cX9_hoarse 82 = .ok (.ireturn, 1) := by decide +kernel
theorem dX9_letIn_0 : decode cX9_letIn 0 = .ok (.iconst 0, 1) := by decide +kernel
theorem dX9_letIn_1 : decode cX9_letIn 1 = .ok (.istore_n 1, 1) := by decide +kernel
theorem dX9_letIn_2 : decode cX9_letIn 2 = .ok (.iconst 0, 1) := by decide +kernel
theorem dX9_letIn_3 : decode cX9_letIn 3 = .ok (.istore_n 2, 1) := by decide +kernel
theorem dX9_letIn_4 : decode cX9_letIn 4 = .ok (.iload_n 2, 1) := by decide +kernel
theorem dX9_letIn_5 : decode cX9_letIn 5 = .ok (.aload_n 0, 1) := by decide +kernel
theorem dX9_letIn_6 : decode cX9_letIn 6 = .ok (.getfield 134, 3) := by decide +kernel
theorem dX9_letIn_9 : decode cX9_letIn 9 = .ok (.if_icmp .ge 32, 3) := by decide +kernel
theorem dX9_letIn_12 : decode cX9_letIn 12 = .ok (.iload_n 1, 1) := by decide +kernel
theorem dX9_letIn_13 : decode cX9_letIn 13 = .ok (.aload_n 0, 1) := by decide +kernel
theorem dX9_letIn_14 : decode cX9_letIn 14 = .ok (.aload_n 0, 1) := by decide +kernel
theorem dX9_letIn_15 : decode cX9_letIn 15 = .ok (.getfield 25, 3) := by decide +kernel
theorem dX9_letIn_18 : decode cX9_letIn 18 = .ok (.iload_n 2, 1) := by decide +kernel
theorem dX9_letIn_19 : decode cX9_letIn 19 = .ok (.iaload, 1) := by decide +kernel
theorem dX9_letIn_20 : decode cX9_letIn 20 = .ok (.invokevirtual 157, 3) := by decide +kernel
theorem dX9_letIn_23 : decode cX9_letIn 23 = .ok (.ifCond .eq 9, 3) := by decide +kernel
theorem dX9_letIn_26 : decode cX9_letIn 26 = .ok (.iconst 1, 1) := by decide +kernel
theorem dX9_letIn_27 : decode cX9_letIn 27 = .ok (.iload_n 2, 1) := by decide +kernel
theorem dX9_letIn_28 : decode cX9_letIn 28 = .ok (.ishl, 1) := by decide +kernel
theorem dX9_letIn_29 : decode cX9_letIn 29 = .ok (.goto 4, 3) := by decide +kernel
theorem dX9_letIn_32 : decode cX9_letIn 32 = .ok (.iconst 0, 1) := by decide +kernel
theorem dX9_letIn_33 : decode cX9_letIn 33 = .ok (.ior, 1) := by decide +kernel
theorem dX9_letIn_34 : decode cX9_letIn 34 = .ok (.istore_n 1, 1) := by decide +kernel
theorem dX9_letIn_35 : decode cX9_letIn 35 = .ok (.iinc 2 1, 3) := by decide +kernel
theorem dX9_letIn_38 : decode cX9_letIn 38 = .ok (.goto (-34), 3) := by decide +kernel
theorem dX9_letIn_41 : decode cX9_letIn 41 = .ok (.iload_n 1, 1) := by decide +kernel
theorem dX9_letIn_42 : decode cX9_letIn 42 = .ok (.ireturn, 1) := by decide +kernel
theorem dX9_change_0 : decode cX9_change 0 = .ok (.aload_n 0, 1) := by decide +kernel
theorem dX9_change_1 : decode cX9_change 1 = .ok (.iconst 0, 1) := by decide +kernel
theorem dX9_change_2 : decode cX9_change 2 = .ok (.putfield 44, 3) := by decide +kernel
theorem dX9_change_5 : decode cX9_change 5 = .ok (.aload_n 0, 1) := by decide +kernel
theorem dX9_change_6 : decode cX9_change 6 = .ok (.iload_n 1, 1) := by decide +kernel
theorem dX9_change_7 : decode cX9_change 7 = .ok (.invokevirtual 163, 3) := by decide +kernel
theorem dX9_change_10 : decode cX9_change 10 = .ok (.ifCond .eq 30, 3) := by decide +kernel
theorem dX9_change_13 : decode cX9_change 13 = .ok (.iload_n 2, 1) := by decide +kernel
theorem dX9_change_14 : decode cX9_change 14 = .ok (.iconst 1, 1) := by decide +kernel
theorem dX9_change_15 : decode cX9_change 15 = .ok (.sipush 255, 3) := by decide +kernel
theorem dX9_change_18 : decode cX9_change 18 = .ok (.invokestatic 48, 3) := by decide +kernel
theorem dX9_change_21 : decode cX9_change 21 = .ok (.ifCond .eq 19, 3) := by decide +kernel
theorem dX9_change_24 : decode cX9_change 24 = .ok (.iload_n 3, 1) := by decide +kernel
theorem dX9_change_25 : decode cX9_change 25 = .ok (.iconst 1, 1) := by decide +kernel
theorem dX9_change_26 : decode cX9_change 26 = .ok (.iload_n 2, 1) := by decide +kernel
theorem dX9_change_27 : decode cX9_change 27 = .ok (.sipush 255, 3) := by decide +kernel
theorem dX9_change_30 : decode cX9_change 30 = .ok (.iand, 1) := by decide +kernel
theorem dX9_change_31 : decode cX9_change 31 = .ok (.invokestatic 118, 3) := by decide +kernel
theorem dX9_change_34 : decode cX9_change 34 = .ok (.invokestatic 48, 3) := by decide +kernel
theorem dX9_change_37 : decode cX9_change 37 = .ok (.ifCond .ne 5, 3) := by decide +kernel
theorem dX9_change_40 : decode cX9_change 40 = .ok (.iconst (-1), 1) := by decide +kernel
theorem dX9_change_41 : decode cX9_change 41 = .ok (.ireturn, 1) := by decide +kernel
theorem dX9_change_42 : decode cX9_change 42 = .ok (.aload_n 0, 1) := by decide +kernel
theorem dX9_change_43 : decode cX9_change 43 = .ok (.iconst 1, 1) := by decide +kernel
theorem dX9_change_44 : decode cX9_change 44 = .ok (.iload_n 1, 1) := by decide +kernel
theorem dX9_change_45 : decode cX9_change 45 = .ok (.aload_n 0, 1) := by decide +kernel
theorem dX9_change_46 : decode cX9_change 46 = .ok (.getfield 25, 3) := by decide +kernel
theorem dX9_change_49 : decode cX9_change 49 = .ok (.bipush 10, 2) := by decide +kernel
theorem dX9_change_51 : decode cX9_change 51 = .ok (.iload_n 1, 1) := by decide +kernel
theorem dX9_change_52 : decode cX9_change 52 = .ok (.iadd, 1) := by decide +kernel
theorem dX9_change_53 : decode cX9_change 53 = .ok (.iaload, 1) := by decide +kernel
theorem dX9_change_54 : decode cX9_change 54 = .ok (.aload_n 0, 1) := by decide +kernel
theorem dX9_change_55 : decode cX9_change 55 = .ok (.getfield 25, 3) := by decide +kernel
theorem dX9_change_58 : decode cX9_change 58 = .ok (.bipush 14, 2) := by decide +kernel
theorem dX9_change_60 : decode cX9_change 60 = .ok (.iload_n 1, 1) := by decide +kernel
theorem dX9_change_61 : decode cX9_change 61 = .ok (.iadd, 1) := by decide +kernel
theorem dX9_change_62 : decode cX9_change 62 = .ok (.iaload, 1) := by decide +kernel
theorem dX9_change_63 : decode cX9_change 63 = .ok (.invokevirtual 169, 3) := by decide +kernel
theorem dX9_change_66 : decode cX9_change 66 = .ok (.aload_n 0, 1) := by decide +kernel
theorem dX9_change_67 : decode cX9_change 67 = .ok (.getfield 25, 3) := by decide +kernel
theorem dX9_change_70 : decode cX9_change 70 = .ok (.bipush 10, 2) := by decide +kernel
theorem dX9_change_72 : decode cX9_change 72 = .ok (.iload_n 1, 1) := by decide +kernel
theorem dX9_change_73 : decode cX9_change 73 = .ok (.iadd, 1) := by decide +kernel
theorem dX9_change_74 : decode cX9_change 74 = .ok (.iload_n 2, 1) := by decide +kernel
theorem dX9_change_75 : decode cX9_change 75 = .ok (.iastore, 1) := by decide +kernel
theorem dX9_change_76 : decode cX9_change 76 = .ok (.aload_n 0, 1) := by decide +kernel
theorem dX9_change_77 : decode cX9_change 77 = .ok (.getfield 25, 3) := by decide +kernel
theorem dX9_change_80 : decode cX9_change 80 = .ok (.bipush 14, 2) := by decide +kernel
theorem dX9_change_82 : decode cX9_change 82 = .ok (.iload_n 1, 1) := by decide +kernel
theorem dX9_change_83 : decode cX9_change 83 = .ok (.iadd, 1) := by decide +kernel
theorem dX9_change_84 : decode cX9_change 84 = .ok (.iload_n 3, 1) := by decide +kernel
theorem dX9_change_85 : decode cX9_change 85 = .ok (.iastore, 1) := by decide +kernel
theorem dX9_change_86 : decode cX9_change 86 = .ok (.aload_n 0, 1) := by decide +kernel
theorem dX9_change_87 : decode cX9_change 87 = .ok (.invokevirtual 173, 3) := by decide +kernel
theorem dX9_change_90 : decode cX9_change 90 = .ok (.invokestatic 118, 3) := by decide +kernel
theorem dX9_change_93 : decode cX9_change 93 = .ok (.ireturn, 1) := by decide +kernel
theorem dX9_undo_0 : decode cX9_undo 0 = .ok (.aload_n 0, 1) := by decide +kernel
theorem dX9_undo_1 : decode cX9_undo 1 = .ok (.iconst 0, 1) := by decide +kernel
theorem dX9_undo_2 : decode cX9_undo 2 = .ok (.putfield 44, 3) := by decide +kernel
theorem dX9_undo_5 : decode cX9_undo 5 = .ok (.aload_n 0, 1) := by decide +kernel
theorem dX9_undo_6 : decode cX9_undo 6 = .ok (.getfield 143, 3) := by decide +kernel
theorem dX9_undo_9 : decode cX9_undo 9 = .ok (.ifCond .ne 6, 3) := by decide +kernel
theorem dX9_undo_12 : decode cX9_undo 12 = .ok (.bipush (-2), 2) := by decide +kernel
theorem dX9_undo_14 : decode cX9_undo 14 = .ok (.ireturn, 1) := by decide +kernel
theorem dX9_undo_15 : decode cX9_undo 15 = .ok (.aload_n 0, 1) := by decide +kernel
theorem dX9_undo_16 : decode cX9_undo 16 = .ok (.dup, 1) := by decide +kernel
theorem dX9_undo_17 : decode cX9_undo 17 = .ok (.getfield 143, 3) := by decide +kernel
theorem dX9_undo_20 : decode cX9_undo 20 = .ok (.iconst 1, 1) := by decide +kernel
theorem dX9_undo_21 : decode cX9_undo 21 = .ok (.isub, 1) := by decide +kernel
theorem dX9_undo_22 : decode cX9_undo 22 = .ok (.putfield 143, 3) := by decide +kernel
theorem dX9_undo_25 : decode cX9_undo 25 = .ok (.iconst 4, 1) := by decide +kernel
theorem dX9_undo_26 : decode cX9_undo 26 = .ok (.aload_n 0, 1) := by decide +kernel
theorem dX9_undo_27 : decode cX9_undo 27 = .ok (.getfield 143, 3) := by decide +kernel
theorem dX9_undo_30 : decode cX9_undo 30 = .ok (.imul, 1) := by decide +kernel
theorem dX9_undo_31 : decode cX9_undo 31 = .ok (.istore_n 1, 1) := by decide +kernel
theorem dX9_undo_32 : decode cX9_undo 32 = .ok (.aload_n 0, 1) := by decide +kernel
theorem dX9_undo_33 : decode cX9_undo 33 = .ok (.getfield 35, 3) := by decide +kernel
theorem dX9_undo_36 : decode cX9_undo 36 = .ok (.iload_n 1, 1) := by decide +kernel
theorem dX9_undo_37 : decode cX9_undo 37 = .ok (.iconst 1, 1) := by decide +kernel
theorem dX9_undo_38 : decode cX9_undo 38 = .ok (.iadd, 1) := by decide +kernel
theorem dX9_undo_39 : decode cX9_undo 39 = .ok (.iaload, 1) := by decide +kernel
theorem dX9_undo_40 : decode cX9_undo 40 = .ok (.istore_n 2, 1) := by decide +kernel
theorem dX9_undo_41 : decode cX9_undo 41 = .ok (.aload_n 0, 1) := by decide +kernel
theorem dX9_undo_42 : decode cX9_undo 42 = .ok (.getfield 35, 3) := by decide +kernel
theorem dX9_undo_45 : decode cX9_undo 45 = .ok (.iload_n 1, 1) := by decide +kernel
theorem dX9_undo_46 : decode cX9_undo 46 = .ok (.iaload, 1) := by decide +kernel
theorem dX9_undo_47 : decode cX9_undo 47 = .ok (.ifCond .ne 36, 3) := by decide +kernel
theorem dX9_undo_50 : decode cX9_undo 50 = .ok (.aload_n 0, 1) := by decide +kernel
theorem dX9_undo_51 : decode cX9_undo 51 = .ok (.getfield 25, 3) := by decide +kernel
theorem dX9_undo_54 : decode cX9_undo 54 = .ok (.iload_n 2, 1) := by decide +kernel
theorem dX9_undo_55 : decode cX9_undo 55 = .ok (.aload_n 0, 1) := by decide +kernel
theorem dX9_undo_56 : decode cX9_undo 56 = .ok (.getfield 35, 3) := by decide +kernel
theorem dX9_undo_59 : decode cX9_undo 59 = .ok (.iload_n 1, 1) := by decide +kernel
theorem dX9_undo_60 : decode cX9_undo 60 = .ok (.iconst 2, 1) := by decide +kernel
theorem dX9_undo_61 : decode cX9_undo 61 = .ok (.iadd, 1) := by decide +kernel
theorem dX9_undo_62 : decode cX9_undo 62 = .ok (.iaload, 1) := by decide +kernel
theorem dX9_undo_63 : decode cX9_undo 63 = .ok (.iastore, 1) := by decide +kernel
theorem dX9_undo_64 : decode cX9_undo 64 = .ok (.aload_n 0, 1) := by decide +kernel
theorem dX9_undo_65 : decode cX9_undo 65 = .ok (.getfield 25, 3) := by decide +kernel
theorem dX9_undo_68 : decode cX9_undo 68 = .ok (.iconst 5, 1) := by decide +kernel
theorem dX9_undo_69 : decode cX9_undo 69 = .ok (.iload_n 2, 1) := by decide +kernel
theorem dX9_undo_70 : decode cX9_undo 70 = .ok (.iadd, 1) := by decide +kernel
theorem dX9_undo_71 : decode cX9_undo 71 = .ok (.aload_n 0, 1) := by decide +kernel
theorem dX9_undo_72 : decode cX9_undo 72 = .ok (.getfield 35, 3) := by decide +kernel
theorem dX9_undo_75 : decode cX9_undo 75 = .ok (.iload_n 1, 1) := by decide +kernel
theorem dX9_undo_76 : decode cX9_undo 76 = .ok (.iconst 3, 1) := by decide +kernel
theorem dX9_undo_77 : decode cX9_undo 77 = .ok (.iadd, 1) := by decide +kernel
theorem dX9_undo_78 : decode cX9_undo 78 = .ok (.iaload, 1) := by decide +kernel
theorem dX9_undo_79 : decode cX9_undo 79 = .ok (.iastore, 1) := by decide +kernel
theorem dX9_undo_80 : decode cX9_undo 80 = .ok (.goto 47, 3) := by decide +kernel
theorem dX9_undo_83 : decode cX9_undo 83 = .ok (.aload_n 0, 1) := by decide +kernel
theorem dX9_undo_84 : decode cX9_undo 84 = .ok (.getfield 35, 3) := by decide +kernel
theorem dX9_undo_87 : decode cX9_undo 87 = .ok (.iload_n 1, 1) := by decide +kernel
theorem dX9_undo_88 : decode cX9_undo 88 = .ok (.iaload, 1) := by decide +kernel
theorem dX9_undo_89 : decode cX9_undo 89 = .ok (.iconst 1, 1) := by decide +kernel
theorem dX9_undo_90 : decode cX9_undo 90 = .ok (.if_icmp .ne 37, 3) := by decide +kernel
theorem dX9_undo_93 : decode cX9_undo 93 = .ok (.aload_n 0, 1) := by decide +kernel
theorem dX9_undo_94 : decode cX9_undo 94 = .ok (.getfield 25, 3) := by decide +kernel
theorem dX9_undo_97 : decode cX9_undo 97 = .ok (.bipush 10, 2) := by decide +kernel
theorem dX9_undo_99 : decode cX9_undo 99 = .ok (.iload_n 2, 1) := by decide +kernel
theorem dX9_undo_100 : decode cX9_undo 100 = .ok (.iadd, 1) := by decide +kernel
theorem dX9_undo_101 : decode cX9_undo 101 = .ok (.aload_n 0, 1) := by decide +kernel
theorem dX9_undo_102 : decode cX9_undo 102 = .ok (.getfield 35, 3) := by decide +kernel
theorem dX9_undo_105 : decode cX9_undo 105 = .ok (.iload_n 1, 1) := by decide +kernel
theorem dX9_undo_106 : decode cX9_undo 106 = .ok (.iconst 2, 1) := by decide +kernel
theorem dX9_undo_107 : decode cX9_undo 107 = .ok (.iadd, 1) := by decide +kernel
theorem dX9_undo_108 : decode cX9_undo 108 = .ok (.iaload, 1) := by decide +kernel
theorem dX9_undo_109 : decode cX9_undo 109 = .ok (.iastore, 1) := by decide +kernel
theorem dX9_undo_110 : decode cX9_undo 110 = .ok (.aload_n 0, 1) := by decide +kernel
theorem dX9_undo_111 : decode cX9_undo 111 = .ok (.getfield 25, 3) := by decide +kernel
theorem dX9_undo_114 : decode cX9_undo 114 = .ok (.bipush 14, 2) := by decide +kernel
theorem dX9_undo_116 : decode cX9_undo 116 = .ok (.iload_n 2, 1) := by decide +kernel
theorem dX9_undo_117 : decode cX9_undo 117 = .ok (.iadd, 1) := by decide +kernel
theorem dX9_undo_118 : decode cX9_undo 118 = .ok (.aload_n 0, 1) := by decide +kernel
theorem dX9_undo_119 : decode cX9_undo 119 = .ok (.getfield 35, 3) := by decide +kernel
theorem dX9_undo_122 : decode cX9_undo 122 = .ok (.iload_n 1, 1) := by decide +kernel
theorem dX9_undo_123 : decode cX9_undo 123 = .ok (.iconst 3, 1) := by decide +kernel
theorem dX9_undo_124 : decode cX9_undo 124 = .ok (.iadd, 1) := by decide +kernel
theorem dX9_undo_125 : decode cX9_undo 125 = .ok (.iaload, 1) := by decide +kernel
theorem dX9_undo_126 : decode cX9_undo 126 = .ok (.iastore, 1) := by decide +kernel
theorem dX9_undo_127 : decode cX9_undo 127 = .ok (.aload_n 0, 1) := by decide +kernel
theorem dX9_undo_128 : decode cX9_undo 128 = .ok (.getfield 143, 3) := by decide +kernel
theorem dX9_undo_131 : decode cX9_undo 131 = .ok (.ireturn, 1) := by decide +kernel
theorem dX9_rightOnes_0 : decode cX9_rightOnes 0 = .ok (.iconst 0, 1) := by decide +kernel
theorem dX9_rightOnes_1 : decode cX9_rightOnes 1 = .ok (.istore_n 1, 1) := by decide +kernel
theorem dX9_rightOnes_2 : decode cX9_rightOnes 2 = .ok (.iconst 0, 1) := by decide +kernel
theorem dX9_rightOnes_3 : decode cX9_rightOnes 3 = .ok (.istore_n 2, 1) := by decide +kernel
theorem dX9_rightOnes_4 : decode cX9_rightOnes 4 = .ok (.iload_n 2, 1) := by decide +kernel
theorem dX9_rightOnes_5 : decode cX9_rightOnes 5 = .ok (.aload_n 0, 1) := by decide +kernel
theorem dX9_rightOnes_6 : decode cX9_rightOnes 6 = .ok (.getfield 134, 3) := by decide +kernel
theorem dX9_rightOnes_9 : decode cX9_rightOnes 9 = .ok (.if_icmp .ge 20, 3) := by decide +kernel
theorem dX9_rightOnes_12 : decode cX9_rightOnes 12 = .ok (.iload_n 1, 1) := by decide +kernel
theorem dX9_rightOnes_13 : decode cX9_rightOnes 13 = .ok (.aload_n 0, 1) := by decide +kernel
theorem dX9_rightOnes_14 : decode cX9_rightOnes 14 = .ok (.getfield 13, 3) := by decide +kernel
theorem dX9_rightOnes_17 : decode cX9_rightOnes 17 = .ok (.iload_n 2, 1) := by decide +kernel
theorem dX9_rightOnes_18 : decode cX9_rightOnes 18 = .ok (.iaload, 1) := by decide +kernel
theorem dX9_rightOnes_19 : decode cX9_rightOnes 19 = .ok (.iload_n 2, 1) := by decide +kernel
theorem dX9_rightOnes_20 : decode cX9_rightOnes 20 = .ok (.ishl, 1) := by decide +kernel
theorem dX9_rightOnes_21 : decode cX9_rightOnes 21 = .ok (.ior, 1) := by decide +kernel
theorem dX9_rightOnes_22 : decode cX9_rightOnes 22 = .ok (.istore_n 1, 1) := by decide +kernel
theorem dX9_rightOnes_23 : decode cX9_rightOnes 23 = .ok (.iinc 2 1, 3) := by decide +kernel
theorem dX9_rightOnes_26 : decode cX9_rightOnes 26 = .ok (.goto (-22), 3) := by decide +kernel
theorem dX9_rightOnes_29 : decode cX9_rightOnes 29 = .ok (.iload_n 1, 1) := by decide +kernel
theorem dX9_rightOnes_30 : decode cX9_rightOnes 30 = .ok (.ireturn, 1) := by decide +kernel
theorem dX9_now_0 : decode cX9_now 0 = .ok (.aload_n 0, 1) := by decide +kernel
theorem dX9_now_1 : decode cX9_now 1 = .ok (.iconst 0, 1) := by decide +kernel
theorem dX9_now_2 : decode cX9_now 2 = .ok (.putfield 44, 3) := by decide +kernel
theorem dX9_now_5 : decode cX9_now 5 = .ok (.iload_n 1, 1) := by decide +kernel
theorem dX9_now_6 : decode cX9_now 6 = .ok (.iconst 3, 1) := by decide +kernel
theorem dX9_now_7 : decode cX9_now 7 = .ok (.if_icmp .ge 54, 3) := by decide +kernel
theorem dX9_now_10 : decode cX9_now 10 = .ok (.iload_n 1, 1) := by decide +kernel
theorem dX9_now_11 : decode cX9_now 11 = .ok (.ifCond .ne 10, 3) := by decide +kernel
theorem dX9_now_14 : decode cX9_now 14 = .ok (.aload_n 0, 1) := by decide +kernel
theorem dX9_now_15 : decode cX9_now 15 = .ok (.invokevirtual 173, 3) := by decide +kernel
theorem dX9_now_18 : decode cX9_now 18 = .ok (.goto 42, 3) := by decide +kernel
theorem dX9_now_21 : decode cX9_now 21 = .ok (.iload_n 1, 1) := by decide +kernel
theorem dX9_now_22 : decode cX9_now 22 = .ok (.iconst 1, 1) := by decide +kernel
theorem dX9_now_23 : decode cX9_now 23 = .ok (.if_icmp .ne 17, 3) := by decide +kernel
theorem dX9_now_26 : decode cX9_now 26 = .ok (.aload_n 0, 1) := by decide +kernel
theorem dX9_now_27 : decode cX9_now 27 = .ok (.invokevirtual 173, 3) := by decide +kernel
theorem dX9_now_30 : decode cX9_now 30 = .ok (.aload_n 0, 1) := by decide +kernel
theorem dX9_now_31 : decode cX9_now 31 = .ok (.invokevirtual 176, 3) := by decide +kernel
theorem dX9_now_34 : decode cX9_now 34 = .ok (.iconst (-1), 1) := by decide +kernel
theorem dX9_now_35 : decode cX9_now 35 = .ok (.ixor, 1) := by decide +kernel
theorem dX9_now_36 : decode cX9_now 36 = .ok (.iand, 1) := by decide +kernel
theorem dX9_now_37 : decode cX9_now 37 = .ok (.goto 23, 3) := by decide +kernel
theorem dX9_now_40 : decode cX9_now 40 = .ok (.iload_n 1, 1) := by decide +kernel
theorem dX9_now_41 : decode cX9_now 41 = .ok (.iconst 2, 1) := by decide +kernel
theorem dX9_now_42 : decode cX9_now 42 = .ok (.if_icmp .ne 17, 3) := by decide +kernel
theorem dX9_now_45 : decode cX9_now 45 = .ok (.aload_n 0, 1) := by decide +kernel
theorem dX9_now_46 : decode cX9_now 46 = .ok (.invokevirtual 176, 3) := by decide +kernel
theorem dX9_now_49 : decode cX9_now 49 = .ok (.aload_n 0, 1) := by decide +kernel
theorem dX9_now_50 : decode cX9_now 50 = .ok (.invokevirtual 173, 3) := by decide +kernel
theorem dX9_now_53 : decode cX9_now 53 = .ok (.iconst (-1), 1) := by decide +kernel
theorem dX9_now_54 : decode cX9_now 54 = .ok (.ixor, 1) := by decide +kernel
theorem dX9_now_55 : decode cX9_now 55 = .ok (.iand, 1) := by decide +kernel
theorem dX9_now_56 : decode cX9_now 56 = .ok (.goto 4, 3) := by decide +kernel
theorem dX9_now_59 : decode cX9_now 59 = .ok (.iconst (-1), 1) := by decide +kernel
theorem dX9_now_60 : decode cX9_now 60 = .ok (.ireturn, 1) := by decide +kernel
theorem dX9_now_61 : decode cX9_now 61 = .ok (.iload_n 1, 1) := by decide +kernel
theorem dX9_now_62 : decode cX9_now 62 = .ok (.iconst 3, 1) := by decide +kernel
theorem dX9_now_63 : decode cX9_now 63 = .ok (.if_icmp .ne 10, 3) := by decide +kernel
theorem dX9_now_66 : decode cX9_now 66 = .ok (.aload_n 0, 1) := by decide +kernel
theorem dX9_now_67 : decode cX9_now 67 = .ok (.getfield 143, 3) := by decide +kernel
theorem dX9_now_70 : decode cX9_now 70 = .ok (.goto 16, 3) := by decide +kernel
theorem dX9_now_73 : decode cX9_now 73 = .ok (.iload_n 1, 1) := by decide +kernel
theorem dX9_now_74 : decode cX9_now 74 = .ok (.iconst 4, 1) := by decide +kernel
theorem dX9_now_75 : decode cX9_now 75 = .ok (.if_icmp .ne 10, 3) := by decide +kernel
theorem dX9_now_78 : decode cX9_now 78 = .ok (.aload_n 0, 1) := by decide +kernel
theorem dX9_now_79 : decode cX9_now 79 = .ok (.getfield 131, 3) := by decide +kernel
theorem dX9_now_82 : decode cX9_now 82 = .ok (.goto 4, 3) := by decide +kernel
theorem dX9_now_85 : decode cX9_now 85 = .ok (.iconst (-1), 1) := by decide +kernel
theorem dX9_now_86 : decode cX9_now 86 = .ok (.ireturn, 1) := by decide +kernel
theorem dX9_gotBy_0 : decode cX9_gotBy 0 = .ok (.iload_n 1, 1) := by decide +kernel
theorem dX9_gotBy_1 : decode cX9_gotBy 1 = .ok (.istore_n 3, 1) := by decide +kernel
theorem dX9_gotBy_2 : decode cX9_gotBy 2 = .ok (.iload_n 2, 1) := by decide +kernel
theorem dX9_gotBy_3 : decode cX9_gotBy 3 = .ok (.istore 4, 2) := by decide +kernel
theorem dX9_gotBy_5 : decode cX9_gotBy 5 = .ok (.iconst 1, 1) := by decide +kernel
theorem dX9_gotBy_6 : decode cX9_gotBy 6 = .ok (.istore 5, 2) := by decide +kernel
theorem dX9_gotBy_8 : decode cX9_gotBy 8 = .ok (.iload 4, 2) := by decide +kernel
theorem dX9_gotBy_10 : decode cX9_gotBy 10 = .ok (.ifCond .eq 79, 3) := by decide +kernel
theorem dX9_gotBy_13 : decode cX9_gotBy 13 = .ok (.iload 5, 2) := by decide +kernel
theorem dX9_gotBy_15 : decode cX9_gotBy 15 = .ok (.ifCond .eq 74, 3) := by decide +kernel
theorem dX9_gotBy_18 : decode cX9_gotBy 18 = .ok (.iconst 0, 1) := by decide +kernel
theorem dX9_gotBy_19 : decode cX9_gotBy 19 = .ok (.istore 5, 2) := by decide +kernel
theorem dX9_gotBy_21 : decode cX9_gotBy 21 = .ok (.iconst 0, 1) := by decide +kernel
theorem dX9_gotBy_22 : decode cX9_gotBy 22 = .ok (.istore 6, 2) := by decide +kernel
theorem dX9_gotBy_24 : decode cX9_gotBy 24 = .ok (.iload 6, 2) := by decide +kernel
theorem dX9_gotBy_26 : decode cX9_gotBy 26 = .ok (.aload_n 0, 1) := by decide +kernel
theorem dX9_gotBy_27 : decode cX9_gotBy 27 = .ok (.getfield 137, 3) := by decide +kernel
theorem dX9_gotBy_30 : decode cX9_gotBy 30 = .ok (.if_icmp .ge 56, 3) := by decide +kernel
theorem dX9_gotBy_33 : decode cX9_gotBy 33 = .ok (.iload 4, 2) := by decide +kernel
theorem dX9_gotBy_35 : decode cX9_gotBy 35 = .ok (.iload 6, 2) := by decide +kernel
theorem dX9_gotBy_37 : decode cX9_gotBy 37 = .ok (.ishr, 1) := by decide +kernel
theorem dX9_gotBy_38 : decode cX9_gotBy 38 = .ok (.iconst 1, 1) := by decide +kernel
theorem dX9_gotBy_39 : decode cX9_gotBy 39 = .ok (.iand, 1) := by decide +kernel
theorem dX9_gotBy_40 : decode cX9_gotBy 40 = .ok (.iconst 1, 1) := by decide +kernel
theorem dX9_gotBy_41 : decode cX9_gotBy 41 = .ok (.if_icmp .ne 39, 3) := by decide +kernel
theorem dX9_gotBy_44 : decode cX9_gotBy 44 = .ok (.aload_n 0, 1) := by decide +kernel
theorem dX9_gotBy_45 : decode cX9_gotBy 45 = .ok (.iload_n 3, 1) := by decide +kernel
theorem dX9_gotBy_46 : decode cX9_gotBy 46 = .ok (.iload 6, 2) := by decide +kernel
theorem dX9_gotBy_48 : decode cX9_gotBy 48 = .ok (.invokevirtual 166, 3) := by decide +kernel
theorem dX9_gotBy_51 : decode cX9_gotBy 51 = .ok (.ifCond .eq 29, 3) := by decide +kernel
theorem dX9_gotBy_54 : decode cX9_gotBy 54 = .ok (.iload_n 3, 1) := by decide +kernel
theorem dX9_gotBy_55 : decode cX9_gotBy 55 = .ok (.iconst 1, 1) := by decide +kernel
theorem dX9_gotBy_56 : decode cX9_gotBy 56 = .ok (.aload_n 0, 1) := by decide +kernel
theorem dX9_gotBy_57 : decode cX9_gotBy 57 = .ok (.getfield 19, 3) := by decide +kernel
theorem dX9_gotBy_60 : decode cX9_gotBy 60 = .ok (.iconst 3, 1) := by decide +kernel
theorem dX9_gotBy_61 : decode cX9_gotBy 61 = .ok (.iload 6, 2) := by decide +kernel
theorem dX9_gotBy_63 : decode cX9_gotBy 63 = .ok (.imul, 1) := by decide +kernel
theorem dX9_gotBy_64 : decode cX9_gotBy 64 = .ok (.iaload, 1) := by decide +kernel
theorem dX9_gotBy_65 : decode cX9_gotBy 65 = .ok (.ishl, 1) := by decide +kernel
theorem dX9_gotBy_66 : decode cX9_gotBy 66 = .ok (.ior, 1) := by decide +kernel
theorem dX9_gotBy_67 : decode cX9_gotBy 67 = .ok (.istore_n 3, 1) := by decide +kernel
theorem dX9_gotBy_68 : decode cX9_gotBy 68 = .ok (.iload 4, 2) := by decide +kernel
theorem dX9_gotBy_70 : decode cX9_gotBy 70 = .ok (.iconst 1, 1) := by decide +kernel
theorem dX9_gotBy_71 : decode cX9_gotBy 71 = .ok (.iload 6, 2) := by decide +kernel
theorem dX9_gotBy_73 : decode cX9_gotBy 73 = .ok (.ishl, 1) := by decide +kernel
theorem dX9_gotBy_74 : decode cX9_gotBy 74 = .ok (.isub, 1) := by decide +kernel
theorem dX9_gotBy_75 : decode cX9_gotBy 75 = .ok (.istore 4, 2) := by decide +kernel
theorem dX9_gotBy_77 : decode cX9_gotBy 77 = .ok (.iconst 1, 1) := by decide +kernel
theorem dX9_gotBy_78 : decode cX9_gotBy 78 = .ok (.istore 5, 2) := by decide +kernel
theorem dX9_gotBy_80 : decode cX9_gotBy 80 = .ok (.iinc 6 1, 3) := by decide +kernel
theorem dX9_gotBy_83 : decode cX9_gotBy 83 = .ok (.goto (-59), 3) := by decide +kernel
theorem dX9_gotBy_86 : decode cX9_gotBy 86 = .ok (.goto (-78), 3) := by decide +kernel
theorem dX9_gotBy_89 : decode cX9_gotBy 89 = .ok (.iload 4, 2) := by decide +kernel
theorem dX9_gotBy_91 : decode cX9_gotBy 91 = .ok (.ifCond .ne 7, 3) := by decide +kernel
theorem dX9_gotBy_94 : decode cX9_gotBy 94 = .ok (.iload_n 3, 1) := by decide +kernel
theorem dX9_gotBy_95 : decode cX9_gotBy 95 = .ok (.goto 5, 3) := by decide +kernel
theorem dX9_gotBy_98 : decode cX9_gotBy 98 = .ok (.bipush (-9), 2) := by decide +kernel
theorem dX9_gotBy_100 : decode cX9_gotBy 100 = .ok (.ireturn, 1) := by decide +kernel
theorem dX9_hoursOf_0 : decode cX9_hoursOf 0 = .ok (.iconst 0, 1) := by decide +kernel
theorem dX9_hoursOf_1 : decode cX9_hoursOf 1 = .ok (.istore_n 2, 1) := by decide +kernel
theorem dX9_hoursOf_2 : decode cX9_hoursOf 2 = .ok (.iconst 0, 1) := by decide +kernel
theorem dX9_hoursOf_3 : decode cX9_hoursOf 3 = .ok (.istore_n 3, 1) := by decide +kernel
theorem dX9_hoursOf_4 : decode cX9_hoursOf 4 = .ok (.iload_n 3, 1) := by decide +kernel
theorem dX9_hoursOf_5 : decode cX9_hoursOf 5 = .ok (.aload_n 0, 1) := by decide +kernel
theorem dX9_hoursOf_6 : decode cX9_hoursOf 6 = .ok (.getfield 137, 3) := by decide +kernel
theorem dX9_hoursOf_9 : decode cX9_hoursOf 9 = .ok (.if_icmp .ge 35, 3) := by decide +kernel
theorem dX9_hoursOf_12 : decode cX9_hoursOf 12 = .ok (.iload_n 2, 1) := by decide +kernel
theorem dX9_hoursOf_13 : decode cX9_hoursOf 13 = .ok (.iload_n 1, 1) := by decide +kernel
theorem dX9_hoursOf_14 : decode cX9_hoursOf 14 = .ok (.iload_n 3, 1) := by decide +kernel
theorem dX9_hoursOf_15 : decode cX9_hoursOf 15 = .ok (.ishr, 1) := by decide +kernel
theorem dX9_hoursOf_16 : decode cX9_hoursOf 16 = .ok (.iconst 1, 1) := by decide +kernel
theorem dX9_hoursOf_17 : decode cX9_hoursOf 17 = .ok (.iand, 1) := by decide +kernel
theorem dX9_hoursOf_18 : decode cX9_hoursOf 18 = .ok (.iconst 1, 1) := by decide +kernel
theorem dX9_hoursOf_19 : decode cX9_hoursOf 19 = .ok (.if_icmp .ne 16, 3) := by decide +kernel
theorem dX9_hoursOf_22 : decode cX9_hoursOf 22 = .ok (.aload_n 0, 1) := by decide +kernel
theorem dX9_hoursOf_23 : decode cX9_hoursOf 23 = .ok (.getfield 19, 3) := by decide +kernel
theorem dX9_hoursOf_26 : decode cX9_hoursOf 26 = .ok (.iconst 3, 1) := by decide +kernel
theorem dX9_hoursOf_27 : decode cX9_hoursOf 27 = .ok (.iload_n 3, 1) := by decide +kernel
theorem dX9_hoursOf_28 : decode cX9_hoursOf 28 = .ok (.imul, 1) := by decide +kernel
theorem dX9_hoursOf_29 : decode cX9_hoursOf 29 = .ok (.iconst 1, 1) := by decide +kernel
theorem dX9_hoursOf_30 : decode cX9_hoursOf 30 = .ok (.iadd, 1) := by decide +kernel
theorem dX9_hoursOf_31 : decode cX9_hoursOf 31 = .ok (.iaload, 1) := by decide +kernel
theorem dX9_hoursOf_32 : decode cX9_hoursOf 32 = .ok (.goto 4, 3) := by decide +kernel
theorem dX9_hoursOf_35 : decode cX9_hoursOf 35 = .ok (.iconst 0, 1) := by decide +kernel
theorem dX9_hoursOf_36 : decode cX9_hoursOf 36 = .ok (.iadd, 1) := by decide +kernel
theorem dX9_hoursOf_37 : decode cX9_hoursOf 37 = .ok (.istore_n 2, 1) := by decide +kernel
theorem dX9_hoursOf_38 : decode cX9_hoursOf 38 = .ok (.iinc 3 1, 3) := by decide +kernel
theorem dX9_hoursOf_41 : decode cX9_hoursOf 41 = .ok (.goto (-37), 3) := by decide +kernel
theorem dX9_hoursOf_44 : decode cX9_hoursOf 44 = .ok (.iload_n 2, 1) := by decide +kernel
theorem dX9_hoursOf_45 : decode cX9_hoursOf 45 = .ok (.ireturn, 1) := by decide +kernel
theorem dX9_soonestBy_0 : decode cX9_soonestBy 0 = .ok (.bipush (-9), 2) := by decide +kernel
theorem dX9_soonestBy_2 : decode cX9_soonestBy 2 = .ok (.istore_n 3, 1) := by decide +kernel
theorem dX9_soonestBy_3 : decode cX9_soonestBy 3 = .ok (.iconst 0, 1) := by decide +kernel
theorem dX9_soonestBy_4 : decode cX9_soonestBy 4 = .ok (.istore 4, 2) := by decide +kernel
theorem dX9_soonestBy_6 : decode cX9_soonestBy 6 = .ok (.iload 4, 2) := by decide +kernel
theorem dX9_soonestBy_8 : decode cX9_soonestBy 8 = .ok (.iconst 1, 1) := by decide +kernel
theorem dX9_soonestBy_9 : decode cX9_soonestBy 9 = .ok (.aload_n 0, 1) := by decide +kernel
theorem dX9_soonestBy_10 : decode cX9_soonestBy 10 = .ok (.getfield 137, 3) := by decide +kernel
theorem dX9_soonestBy_13 : decode cX9_soonestBy 13 = .ok (.ishl, 1) := by decide +kernel
theorem dX9_soonestBy_14 : decode cX9_soonestBy 14 = .ok (.if_icmp .ge 94, 3) := by decide +kernel
theorem dX9_soonestBy_17 : decode cX9_soonestBy 17 = .ok (.iload_n 2, 1) := by decide +kernel
theorem dX9_soonestBy_18 : decode cX9_soonestBy 18 = .ok (.bipush (-9), 2) := by decide +kernel
theorem dX9_soonestBy_20 : decode cX9_soonestBy 20 = .ok (.if_icmp .eq 12, 3) := by decide +kernel
theorem dX9_soonestBy_23 : decode cX9_soonestBy 23 = .ok (.iload 4, 2) := by decide +kernel
theorem dX9_soonestBy_25 : decode cX9_soonestBy 25 = .ok (.iload_n 2, 1) := by decide +kernel
theorem dX9_soonestBy_26 : decode cX9_soonestBy 26 = .ok (.ishr, 1) := by decide +kernel
theorem dX9_soonestBy_27 : decode cX9_soonestBy 27 = .ok (.iconst 1, 1) := by decide +kernel
theorem dX9_soonestBy_28 : decode cX9_soonestBy 28 = .ok (.iand, 1) := by decide +kernel
theorem dX9_soonestBy_29 : decode cX9_soonestBy 29 = .ok (.ifCond .ne 7, 3) := by decide +kernel
theorem dX9_soonestBy_32 : decode cX9_soonestBy 32 = .ok (.iconst 1, 1) := by decide +kernel
theorem dX9_soonestBy_33 : decode cX9_soonestBy 33 = .ok (.goto 4, 3) := by decide +kernel
theorem dX9_soonestBy_36 : decode cX9_soonestBy 36 = .ok (.iconst 0, 1) := by decide +kernel
theorem dX9_soonestBy_37 : decode cX9_soonestBy 37 = .ok (.istore 5, 2) := by decide +kernel
theorem dX9_soonestBy_39 : decode cX9_soonestBy 39 = .ok (.iload 5, 2) := by decide +kernel
theorem dX9_soonestBy_41 : decode cX9_soonestBy 41 = .ok (.ifCond .eq 18, 3) := by decide +kernel
theorem dX9_soonestBy_44 : decode cX9_soonestBy 44 = .ok (.aload_n 0, 1) := by decide +kernel
theorem dX9_soonestBy_45 : decode cX9_soonestBy 45 = .ok (.aload_n 0, 1) := by decide +kernel
theorem dX9_soonestBy_46 : decode cX9_soonestBy 46 = .ok (.getfield 25, 3) := by decide +kernel
theorem dX9_soonestBy_49 : decode cX9_soonestBy 49 = .ok (.iload_n 1, 1) := by decide +kernel
theorem dX9_soonestBy_50 : decode cX9_soonestBy 50 = .ok (.iaload, 1) := by decide +kernel
theorem dX9_soonestBy_51 : decode cX9_soonestBy 51 = .ok (.iload 4, 2) := by decide +kernel
theorem dX9_soonestBy_53 : decode cX9_soonestBy 53 = .ok (.invokevirtual 179, 3) := by decide +kernel
theorem dX9_soonestBy_56 : decode cX9_soonestBy 56 = .ok (.goto 5, 3) := by decide +kernel
theorem dX9_soonestBy_59 : decode cX9_soonestBy 59 = .ok (.bipush (-9), 2) := by decide +kernel
theorem dX9_soonestBy_61 : decode cX9_soonestBy 61 = .ok (.istore 6, 2) := by decide +kernel
theorem dX9_soonestBy_63 : decode cX9_soonestBy 63 = .ok (.iload 6, 2) := by decide +kernel
theorem dX9_soonestBy_65 : decode cX9_soonestBy 65 = .ok (.bipush (-9), 2) := by decide +kernel
theorem dX9_soonestBy_67 : decode cX9_soonestBy 67 = .ok (.if_icmp .eq 35, 3) := by decide +kernel
theorem dX9_soonestBy_70 : decode cX9_soonestBy 70 = .ok (.aload_n 0, 1) := by decide +kernel
theorem dX9_soonestBy_71 : decode cX9_soonestBy 71 = .ok (.iload 6, 2) := by decide +kernel
theorem dX9_soonestBy_73 : decode cX9_soonestBy 73 = .ok (.invokevirtual 157, 3) := by decide +kernel
theorem dX9_soonestBy_76 : decode cX9_soonestBy 76 = .ok (.ifCond .eq 26, 3) := by decide +kernel
theorem dX9_soonestBy_79 : decode cX9_soonestBy 79 = .ok (.iload_n 3, 1) := by decide +kernel
theorem dX9_soonestBy_80 : decode cX9_soonestBy 80 = .ok (.bipush (-9), 2) := by decide +kernel
theorem dX9_soonestBy_82 : decode cX9_soonestBy 82 = .ok (.if_icmp .eq 17, 3) := by decide +kernel
theorem dX9_soonestBy_85 : decode cX9_soonestBy 85 = .ok (.aload_n 0, 1) := by decide +kernel
theorem dX9_soonestBy_86 : decode cX9_soonestBy 86 = .ok (.iload 4, 2) := by decide +kernel
theorem dX9_soonestBy_88 : decode cX9_soonestBy 88 = .ok (.invokevirtual 182, 3) := by decide +kernel
theorem dX9_soonestBy_91 : decode cX9_soonestBy 91 = .ok (.aload_n 0, 1) := by decide +kernel
theorem dX9_soonestBy_92 : decode cX9_soonestBy 92 = .ok (.iload_n 3, 1) := by decide +kernel
theorem dX9_soonestBy_93 : decode cX9_soonestBy 93 = .ok (.invokevirtual 182, 3) := by decide +kernel
theorem dX9_soonestBy_96 : decode cX9_soonestBy 96 = .ok (.if_icmp .ge 6, 3) := by decide +kernel
theorem dX9_soonestBy_99 : decode cX9_soonestBy 99 = .ok (.iload 4, 2) := by decide +kernel
theorem dX9_soonestBy_101 : decode cX9_soonestBy 101 = .ok (.istore_n 3, 1) := by decide +kernel
theorem dX9_soonestBy_102 : decode cX9_soonestBy 102 = .ok (.iinc 4 1, 3) := by decide +kernel
theorem dX9_soonestBy_105 : decode cX9_soonestBy 105 = .ok (.goto (-99), 3) := by decide +kernel
theorem dX9_soonestBy_108 : decode cX9_soonestBy 108 = .ok (.iload_n 3, 1) := by decide +kernel
theorem dX9_soonestBy_109 : decode cX9_soonestBy 109 = .ok (.ireturn, 1) := by decide +kernel
theorem dX9_soonest_0 : decode cX9_soonest 0 = .ok (.aload_n 0, 1) := by decide +kernel
theorem dX9_soonest_1 : decode cX9_soonest 1 = .ok (.iconst 0, 1) := by decide +kernel
theorem dX9_soonest_2 : decode cX9_soonest 2 = .ok (.putfield 44, 3) := by decide +kernel
theorem dX9_soonest_5 : decode cX9_soonest 5 = .ok (.aload_n 0, 1) := by decide +kernel
theorem dX9_soonest_6 : decode cX9_soonest 6 = .ok (.iload_n 1, 1) := by decide +kernel
theorem dX9_soonest_7 : decode cX9_soonest 7 = .ok (.invokevirtual 153, 3) := by decide +kernel
theorem dX9_soonest_10 : decode cX9_soonest 10 = .ok (.ifCond .eq 12, 3) := by decide +kernel
theorem dX9_soonest_13 : decode cX9_soonest 13 = .ok (.iload_n 2, 1) := by decide +kernel
theorem dX9_soonest_14 : decode cX9_soonest 14 = .ok (.iconst 0, 1) := by decide +kernel
theorem dX9_soonest_15 : decode cX9_soonest 15 = .ok (.iconst 1, 1) := by decide +kernel
theorem dX9_soonest_16 : decode cX9_soonest 16 = .ok (.invokestatic 48, 3) := by decide +kernel
theorem dX9_soonest_19 : decode cX9_soonest 19 = .ok (.ifCond .ne 5, 3) := by decide +kernel
theorem dX9_soonest_22 : decode cX9_soonest 22 = .ok (.iconst (-1), 1) := by decide +kernel
theorem dX9_soonest_23 : decode cX9_soonest 23 = .ok (.ireturn, 1) := by decide +kernel
theorem dX9_soonest_24 : decode cX9_soonest 24 = .ok (.aload_n 0, 1) := by decide +kernel
theorem dX9_soonest_25 : decode cX9_soonest 25 = .ok (.iload_n 1, 1) := by decide +kernel
theorem dX9_soonest_26 : decode cX9_soonest 26 = .ok (.bipush (-9), 2) := by decide +kernel
theorem dX9_soonest_28 : decode cX9_soonest 28 = .ok (.invokevirtual 185, 3) := by decide +kernel
theorem dX9_soonest_31 : decode cX9_soonest 31 = .ok (.istore_n 3, 1) := by decide +kernel
theorem dX9_soonest_32 : decode cX9_soonest 32 = .ok (.iload_n 3, 1) := by decide +kernel
theorem dX9_soonest_33 : decode cX9_soonest 33 = .ok (.bipush (-9), 2) := by decide +kernel
theorem dX9_soonest_35 : decode cX9_soonest 35 = .ok (.if_icmp .eq 8, 3) := by decide +kernel
theorem dX9_soonest_38 : decode cX9_soonest 38 = .ok (.iload_n 2, 1) := by decide +kernel
theorem dX9_soonest_39 : decode cX9_soonest 39 = .ok (.iconst 1, 1) := by decide +kernel
theorem dX9_soonest_40 : decode cX9_soonest 40 = .ok (.if_icmp .ne 7, 3) := by decide +kernel
theorem dX9_soonest_43 : decode cX9_soonest 43 = .ok (.iload_n 3, 1) := by decide +kernel
theorem dX9_soonest_44 : decode cX9_soonest 44 = .ok (.goto 8, 3) := by decide +kernel
theorem dX9_soonest_47 : decode cX9_soonest 47 = .ok (.aload_n 0, 1) := by decide +kernel
theorem dX9_soonest_48 : decode cX9_soonest 48 = .ok (.iload_n 3, 1) := by decide +kernel
theorem dX9_soonest_49 : decode cX9_soonest 49 = .ok (.invokevirtual 182, 3) := by decide +kernel
theorem dX9_soonest_52 : decode cX9_soonest 52 = .ok (.ireturn, 1) := by decide +kernel
theorem dX9_isLater_0 : decode cX9_isLater 0 = .ok (.iload_n 1, 1) := by decide +kernel
theorem dX9_isLater_1 : decode cX9_isLater 1 = .ok (.bipush (-9), 2) := by decide +kernel
theorem dX9_isLater_3 : decode cX9_isLater 3 = .ok (.if_icmp .eq 12, 3) := by decide +kernel
theorem dX9_isLater_6 : decode cX9_isLater 6 = .ok (.aload_n 0, 1) := by decide +kernel
theorem dX9_isLater_7 : decode cX9_isLater 7 = .ok (.iload_n 1, 1) := by decide +kernel
theorem dX9_isLater_8 : decode cX9_isLater 8 = .ok (.invokevirtual 182, 3) := by decide +kernel
theorem dX9_isLater_11 : decode cX9_isLater 11 = .ok (.iload_n 2, 1) := by decide +kernel
theorem dX9_isLater_12 : decode cX9_isLater 12 = .ok (.if_icmp .le 7, 3) := by decide +kernel
theorem dX9_isLater_15 : decode cX9_isLater 15 = .ok (.iconst 1, 1) := by decide +kernel
theorem dX9_isLater_16 : decode cX9_isLater 16 = .ok (.goto 4, 3) := by decide +kernel
theorem dX9_isLater_19 : decode cX9_isLater 19 = .ok (.iconst 0, 1) := by decide +kernel
theorem dX9_isLater_20 : decode cX9_isLater 20 = .ok (.ireturn, 1) := by decide +kernel
theorem dX9_bar_0 : decode cX9_bar 0 = .ok (.aload_n 0, 1) := by decide +kernel
theorem dX9_bar_1 : decode cX9_bar 1 = .ok (.iconst 0, 1) := by decide +kernel
theorem dX9_bar_2 : decode cX9_bar 2 = .ok (.putfield 44, 3) := by decide +kernel
theorem dX9_bar_5 : decode cX9_bar 5 = .ok (.aload_n 0, 1) := by decide +kernel
theorem dX9_bar_6 : decode cX9_bar 6 = .ok (.iload_n 1, 1) := by decide +kernel
theorem dX9_bar_7 : decode cX9_bar 7 = .ok (.invokevirtual 153, 3) := by decide +kernel
theorem dX9_bar_10 : decode cX9_bar 10 = .ok (.ifCond .eq 13, 3) := by decide +kernel
theorem dX9_bar_13 : decode cX9_bar 13 = .ok (.iload_n 2, 1) := by decide +kernel
theorem dX9_bar_14 : decode cX9_bar 14 = .ok (.iconst 0, 1) := by decide +kernel
theorem dX9_bar_15 : decode cX9_bar 15 = .ok (.bipush 99, 2) := by decide +kernel
theorem dX9_bar_17 : decode cX9_bar 17 = .ok (.invokestatic 48, 3) := by decide +kernel
theorem dX9_bar_20 : decode cX9_bar 20 = .ok (.ifCond .ne 5, 3) := by decide +kernel
theorem dX9_bar_23 : decode cX9_bar 23 = .ok (.iconst (-1), 1) := by decide +kernel
theorem dX9_bar_24 : decode cX9_bar 24 = .ok (.ireturn, 1) := by decide +kernel
theorem dX9_bar_25 : decode cX9_bar 25 = .ok (.aload_n 0, 1) := by decide +kernel
theorem dX9_bar_26 : decode cX9_bar 26 = .ok (.aload_n 0, 1) := by decide +kernel
theorem dX9_bar_27 : decode cX9_bar 27 = .ok (.iload_n 1, 1) := by decide +kernel
theorem dX9_bar_28 : decode cX9_bar 28 = .ok (.bipush (-9), 2) := by decide +kernel
theorem dX9_bar_30 : decode cX9_bar 30 = .ok (.invokevirtual 185, 3) := by decide +kernel
theorem dX9_bar_33 : decode cX9_bar 33 = .ok (.iload_n 2, 1) := by decide +kernel
theorem dX9_bar_34 : decode cX9_bar 34 = .ok (.invokevirtual 188, 3) := by decide +kernel
theorem dX9_bar_37 : decode cX9_bar 37 = .ok (.ifCond .eq 6, 3) := by decide +kernel
theorem dX9_bar_40 : decode cX9_bar 40 = .ok (.bipush (-5), 2) := by decide +kernel
theorem dX9_bar_42 : decode cX9_bar 42 = .ok (.ireturn, 1) := by decide +kernel
theorem dX9_bar_43 : decode cX9_bar 43 = .ok (.iconst 0, 1) := by decide +kernel
theorem dX9_bar_44 : decode cX9_bar 44 = .ok (.istore_n 3, 1) := by decide +kernel
theorem dX9_bar_45 : decode cX9_bar 45 = .ok (.iload_n 3, 1) := by decide +kernel
theorem dX9_bar_46 : decode cX9_bar 46 = .ok (.aload_n 0, 1) := by decide +kernel
theorem dX9_bar_47 : decode cX9_bar 47 = .ok (.getfield 137, 3) := by decide +kernel
theorem dX9_bar_50 : decode cX9_bar 50 = .ok (.if_icmp .ge 25, 3) := by decide +kernel
theorem dX9_bar_53 : decode cX9_bar 53 = .ok (.aload_n 0, 1) := by decide +kernel
theorem dX9_bar_54 : decode cX9_bar 54 = .ok (.aload_n 0, 1) := by decide +kernel
theorem dX9_bar_55 : decode cX9_bar 55 = .ok (.iload_n 1, 1) := by decide +kernel
theorem dX9_bar_56 : decode cX9_bar 56 = .ok (.iload_n 3, 1) := by decide +kernel
theorem dX9_bar_57 : decode cX9_bar 57 = .ok (.invokevirtual 185, 3) := by decide +kernel
theorem dX9_bar_60 : decode cX9_bar 60 = .ok (.iload_n 2, 1) := by decide +kernel
theorem dX9_bar_61 : decode cX9_bar 61 = .ok (.invokevirtual 188, 3) := by decide +kernel
theorem dX9_bar_64 : decode cX9_bar 64 = .ok (.ifCond .eq 5, 3) := by decide +kernel
theorem dX9_bar_67 : decode cX9_bar 67 = .ok (.iload_n 3, 1) := by decide +kernel
theorem dX9_bar_68 : decode cX9_bar 68 = .ok (.ireturn, 1) := by decide +kernel
theorem dX9_bar_69 : decode cX9_bar 69 = .ok (.iinc 3 1, 3) := by decide +kernel
theorem dX9_bar_72 : decode cX9_bar 72 = .ok (.goto (-27), 3) := by decide +kernel
theorem dX9_bar_75 : decode cX9_bar 75 = .ok (.bipush (-9), 2) := by decide +kernel
theorem dX9_bar_77 : decode cX9_bar 77 = .ok (.ireturn, 1) := by decide +kernel
theorem dX9_mostOf_0 : decode cX9_mostOf 0 = .ok (.aload_n 0, 1) := by decide +kernel
theorem dX9_mostOf_1 : decode cX9_mostOf 1 = .ok (.getfield 25, 3) := by decide +kernel
theorem dX9_mostOf_4 : decode cX9_mostOf 4 = .ok (.iload_n 1, 1) := by decide +kernel
theorem dX9_mostOf_5 : decode cX9_mostOf 5 = .ok (.iaload, 1) := by decide +kernel
theorem dX9_mostOf_6 : decode cX9_mostOf 6 = .ok (.iload_n 2, 1) := by decide +kernel
end
section
theorem dX9_mostOf_7 : decode cX9_mostOf 7 = .ok (.iand, 1) := by decide +kernel
theorem dX9_mostOf_8 : decode cX9_mostOf 8 = .ok (.invokestatic 118, 3) := by decide +kernel
theorem dX9_mostOf_11 : decode cX9_mostOf 11 = .ok (.istore 4, 2) := by decide +kernel
theorem dX9_mostOf_13 : decode cX9_mostOf 13 = .ok (.iconst 1, 1) := by decide +kernel
theorem dX9_mostOf_14 : decode cX9_mostOf 14 = .ok (.istore 5, 2) := by decide +kernel
theorem dX9_mostOf_16 : decode cX9_mostOf 16 = .ok (.iload 5, 2) := by decide +kernel
theorem dX9_mostOf_18 : decode cX9_mostOf 18 = .ok (.iconst 1, 1) := by decide +kernel
theorem dX9_mostOf_19 : decode cX9_mostOf 19 = .ok (.aload_n 0, 1) := by decide +kernel
theorem dX9_mostOf_20 : decode cX9_mostOf 20 = .ok (.getfield 137, 3) := by decide +kernel
theorem dX9_mostOf_23 : decode cX9_mostOf 23 = .ok (.ishl, 1) := by decide +kernel
theorem dX9_mostOf_24 : decode cX9_mostOf 24 = .ok (.if_icmp .ge 78, 3) := by decide +kernel
theorem dX9_mostOf_27 : decode cX9_mostOf 27 = .ok (.iload_n 3, 1) := by decide +kernel
theorem dX9_mostOf_28 : decode cX9_mostOf 28 = .ok (.ifCond .lt 74, 3) := by decide +kernel
theorem dX9_mostOf_31 : decode cX9_mostOf 31 = .ok (.aload_n 0, 1) := by decide +kernel
theorem dX9_mostOf_32 : decode cX9_mostOf 32 = .ok (.iload 5, 2) := by decide +kernel
theorem dX9_mostOf_34 : decode cX9_mostOf 34 = .ok (.invokevirtual 182, 3) := by decide +kernel
theorem dX9_mostOf_37 : decode cX9_mostOf 37 = .ok (.iload_n 3, 1) := by decide +kernel
theorem dX9_mostOf_38 : decode cX9_mostOf 38 = .ok (.if_icmp .gt 18, 3) := by decide +kernel
theorem dX9_mostOf_41 : decode cX9_mostOf 41 = .ok (.aload_n 0, 1) := by decide +kernel
theorem dX9_mostOf_42 : decode cX9_mostOf 42 = .ok (.aload_n 0, 1) := by decide +kernel
theorem dX9_mostOf_43 : decode cX9_mostOf 43 = .ok (.getfield 25, 3) := by decide +kernel
theorem dX9_mostOf_46 : decode cX9_mostOf 46 = .ok (.iload_n 1, 1) := by decide +kernel
theorem dX9_mostOf_47 : decode cX9_mostOf 47 = .ok (.iaload, 1) := by decide +kernel
theorem dX9_mostOf_48 : decode cX9_mostOf 48 = .ok (.iload 5, 2) := by decide +kernel
theorem dX9_mostOf_50 : decode cX9_mostOf 50 = .ok (.invokevirtual 179, 3) := by decide +kernel
theorem dX9_mostOf_53 : decode cX9_mostOf 53 = .ok (.goto 5, 3) := by decide +kernel
theorem dX9_mostOf_56 : decode cX9_mostOf 56 = .ok (.bipush (-9), 2) := by decide +kernel
theorem dX9_mostOf_58 : decode cX9_mostOf 58 = .ok (.istore 6, 2) := by decide +kernel
theorem dX9_mostOf_60 : decode cX9_mostOf 60 = .ok (.iload 6, 2) := by decide +kernel
theorem dX9_mostOf_62 : decode cX9_mostOf 62 = .ok (.bipush (-9), 2) := by decide +kernel
theorem dX9_mostOf_64 : decode cX9_mostOf 64 = .ok (.if_icmp .ne 7, 3) := by decide +kernel
theorem dX9_mostOf_67 : decode cX9_mostOf 67 = .ok (.iconst 0, 1) := by decide +kernel
theorem dX9_mostOf_68 : decode cX9_mostOf 68 = .ok (.goto 10, 3) := by decide +kernel
theorem dX9_mostOf_71 : decode cX9_mostOf 71 = .ok (.iload 6, 2) := by decide +kernel
theorem dX9_mostOf_73 : decode cX9_mostOf 73 = .ok (.iload_n 2, 1) := by decide +kernel
theorem dX9_mostOf_74 : decode cX9_mostOf 74 = .ok (.iand, 1) := by decide +kernel
theorem dX9_mostOf_75 : decode cX9_mostOf 75 = .ok (.invokestatic 118, 3) := by decide +kernel
theorem dX9_mostOf_78 : decode cX9_mostOf 78 = .ok (.istore 7, 2) := by decide +kernel
theorem dX9_mostOf_80 : decode cX9_mostOf 80 = .ok (.iload 7, 2) := by decide +kernel
theorem dX9_mostOf_82 : decode cX9_mostOf 82 = .ok (.iload 4, 2) := by decide +kernel
theorem dX9_mostOf_84 : decode cX9_mostOf 84 = .ok (.if_icmp .le 8, 3) := by decide +kernel
theorem dX9_mostOf_87 : decode cX9_mostOf 87 = .ok (.iload 7, 2) := by decide +kernel
theorem dX9_mostOf_89 : decode cX9_mostOf 89 = .ok (.goto 5, 3) := by decide +kernel
theorem dX9_mostOf_92 : decode cX9_mostOf 92 = .ok (.iload 4, 2) := by decide +kernel
theorem dX9_mostOf_94 : decode cX9_mostOf 94 = .ok (.istore 4, 2) := by decide +kernel
theorem dX9_mostOf_96 : decode cX9_mostOf 96 = .ok (.iinc 5 1, 3) := by decide +kernel
theorem dX9_mostOf_99 : decode cX9_mostOf 99 = .ok (.goto (-83), 3) := by decide +kernel
theorem dX9_mostOf_102 : decode cX9_mostOf 102 = .ok (.iload 4, 2) := by decide +kernel
theorem dX9_mostOf_104 : decode cX9_mostOf 104 = .ok (.ireturn, 1) := by decide +kernel
theorem dX9_ruleBy_0 : decode cX9_ruleBy 0 = .ok (.bipush (-9), 2) := by decide +kernel
theorem dX9_ruleBy_2 : decode cX9_ruleBy 2 = .ok (.istore_n 2, 1) := by decide +kernel
theorem dX9_ruleBy_3 : decode cX9_ruleBy 3 = .ok (.iconst 1, 1) := by decide +kernel
theorem dX9_ruleBy_4 : decode cX9_ruleBy 4 = .ok (.istore_n 3, 1) := by decide +kernel
theorem dX9_ruleBy_5 : decode cX9_ruleBy 5 = .ok (.iload_n 3, 1) := by decide +kernel
theorem dX9_ruleBy_6 : decode cX9_ruleBy 6 = .ok (.sipush 256, 3) := by decide +kernel
theorem dX9_ruleBy_9 : decode cX9_ruleBy 9 = .ok (.if_icmp .ge 168, 3) := by decide +kernel
theorem dX9_ruleBy_12 : decode cX9_ruleBy 12 = .ok (.iload_n 2, 1) := by decide +kernel
theorem dX9_ruleBy_13 : decode cX9_ruleBy 13 = .ok (.bipush (-9), 2) := by decide +kernel
theorem dX9_ruleBy_15 : decode cX9_ruleBy 15 = .ok (.if_icmp .eq 18, 3) := by decide +kernel
theorem dX9_ruleBy_18 : decode cX9_ruleBy 18 = .ok (.iload_n 3, 1) := by decide +kernel
theorem dX9_ruleBy_19 : decode cX9_ruleBy 19 = .ok (.invokestatic 118, 3) := by decide +kernel
theorem dX9_ruleBy_22 : decode cX9_ruleBy 22 = .ok (.iload_n 2, 1) := by decide +kernel
theorem dX9_ruleBy_23 : decode cX9_ruleBy 23 = .ok (.sipush 255, 3) := by decide +kernel
theorem dX9_ruleBy_26 : decode cX9_ruleBy 26 = .ok (.iand, 1) := by decide +kernel
theorem dX9_ruleBy_27 : decode cX9_ruleBy 27 = .ok (.invokestatic 118, 3) := by decide +kernel
theorem dX9_ruleBy_30 : decode cX9_ruleBy 30 = .ok (.if_icmp .ge 141, 3) := by decide +kernel
theorem dX9_ruleBy_33 : decode cX9_ruleBy 33 = .ok (.iload_n 3, 1) := by decide +kernel
theorem dX9_ruleBy_34 : decode cX9_ruleBy 34 = .ok (.invokestatic 118, 3) := by decide +kernel
theorem dX9_ruleBy_37 : decode cX9_ruleBy 37 = .ok (.istore 4, 2) := by decide +kernel
theorem dX9_ruleBy_39 : decode cX9_ruleBy 39 = .ok (.iconst 0, 1) := by decide +kernel
theorem dX9_ruleBy_40 : decode cX9_ruleBy 40 = .ok (.istore 5, 2) := by decide +kernel
theorem dX9_ruleBy_42 : decode cX9_ruleBy 42 = .ok (.iconst 0, 1) := by decide +kernel
theorem dX9_ruleBy_43 : decode cX9_ruleBy 43 = .ok (.istore 6, 2) := by decide +kernel
theorem dX9_ruleBy_45 : decode cX9_ruleBy 45 = .ok (.iload 6, 2) := by decide +kernel
theorem dX9_ruleBy_47 : decode cX9_ruleBy 47 = .ok (.aload_n 0, 1) := by decide +kernel
theorem dX9_ruleBy_48 : decode cX9_ruleBy 48 = .ok (.getfield 134, 3) := by decide +kernel
theorem dX9_ruleBy_51 : decode cX9_ruleBy 51 = .ok (.if_icmp .ge 98, 3) := by decide +kernel
theorem dX9_ruleBy_54 : decode cX9_ruleBy 54 = .ok (.aload_n 0, 1) := by decide +kernel
theorem dX9_ruleBy_55 : decode cX9_ruleBy 55 = .ok (.getfield 13, 3) := by decide +kernel
theorem dX9_ruleBy_58 : decode cX9_ruleBy 58 = .ok (.iload 6, 2) := by decide +kernel
theorem dX9_ruleBy_60 : decode cX9_ruleBy 60 = .ok (.iaload, 1) := by decide +kernel
theorem dX9_ruleBy_61 : decode cX9_ruleBy 61 = .ok (.iconst 1, 1) := by decide +kernel
theorem dX9_ruleBy_62 : decode cX9_ruleBy 62 = .ok (.if_icmp .ne 18, 3) := by decide +kernel
theorem dX9_ruleBy_65 : decode cX9_ruleBy 65 = .ok (.aload_n 0, 1) := by decide +kernel
theorem dX9_ruleBy_66 : decode cX9_ruleBy 66 = .ok (.getfield 25, 3) := by decide +kernel
theorem dX9_ruleBy_69 : decode cX9_ruleBy 69 = .ok (.iload 6, 2) := by decide +kernel
theorem dX9_ruleBy_71 : decode cX9_ruleBy 71 = .ok (.iaload, 1) := by decide +kernel
theorem dX9_ruleBy_72 : decode cX9_ruleBy 72 = .ok (.iload_n 3, 1) := by decide +kernel
theorem dX9_ruleBy_73 : decode cX9_ruleBy 73 = .ok (.iand, 1) := by decide +kernel
theorem dX9_ruleBy_74 : decode cX9_ruleBy 74 = .ok (.invokestatic 118, 3) := by decide +kernel
theorem dX9_ruleBy_77 : decode cX9_ruleBy 77 = .ok (.goto 11, 3) := by decide +kernel
theorem dX9_ruleBy_80 : decode cX9_ruleBy 80 = .ok (.aload_n 0, 1) := by decide +kernel
theorem dX9_ruleBy_81 : decode cX9_ruleBy 81 = .ok (.iload 6, 2) := by decide +kernel
theorem dX9_ruleBy_83 : decode cX9_ruleBy 83 = .ok (.iload_n 3, 1) := by decide +kernel
theorem dX9_ruleBy_84 : decode cX9_ruleBy 84 = .ok (.iload_n 1, 1) := by decide +kernel
theorem dX9_ruleBy_85 : decode cX9_ruleBy 85 = .ok (.invokevirtual 191, 3) := by decide +kernel
theorem dX9_ruleBy_88 : decode cX9_ruleBy 88 = .ok (.istore 7, 2) := by decide +kernel
theorem dX9_ruleBy_90 : decode cX9_ruleBy 90 = .ok (.aload_n 0, 1) := by decide +kernel
theorem dX9_ruleBy_91 : decode cX9_ruleBy 91 = .ok (.getfield 13, 3) := by decide +kernel
theorem dX9_ruleBy_94 : decode cX9_ruleBy 94 = .ok (.iload 6, 2) := by decide +kernel
theorem dX9_ruleBy_96 : decode cX9_ruleBy 96 = .ok (.iaload, 1) := by decide +kernel
theorem dX9_ruleBy_97 : decode cX9_ruleBy 97 = .ok (.iconst 1, 1) := by decide +kernel
theorem dX9_ruleBy_98 : decode cX9_ruleBy 98 = .ok (.if_icmp .ne 15, 3) := by decide +kernel
theorem dX9_ruleBy_101 : decode cX9_ruleBy 101 = .ok (.iload 7, 2) := by decide +kernel
theorem dX9_ruleBy_103 : decode cX9_ruleBy 103 = .ok (.iload 4, 2) := by decide +kernel
theorem dX9_ruleBy_105 : decode cX9_ruleBy 105 = .ok (.if_icmp .ge 8, 3) := by decide +kernel
theorem dX9_ruleBy_108 : decode cX9_ruleBy 108 = .ok (.iload 7, 2) := by decide +kernel
theorem dX9_ruleBy_110 : decode cX9_ruleBy 110 = .ok (.goto 5, 3) := by decide +kernel
theorem dX9_ruleBy_113 : decode cX9_ruleBy 113 = .ok (.iload 4, 2) := by decide +kernel
theorem dX9_ruleBy_115 : decode cX9_ruleBy 115 = .ok (.istore 4, 2) := by decide +kernel
theorem dX9_ruleBy_117 : decode cX9_ruleBy 117 = .ok (.aload_n 0, 1) := by decide +kernel
theorem dX9_ruleBy_118 : decode cX9_ruleBy 118 = .ok (.getfield 13, 3) := by decide +kernel
theorem dX9_ruleBy_121 : decode cX9_ruleBy 121 = .ok (.iload 6, 2) := by decide +kernel
theorem dX9_ruleBy_123 : decode cX9_ruleBy 123 = .ok (.iaload, 1) := by decide +kernel
theorem dX9_ruleBy_124 : decode cX9_ruleBy 124 = .ok (.ifCond .ne 15, 3) := by decide +kernel
theorem dX9_ruleBy_127 : decode cX9_ruleBy 127 = .ok (.iload 7, 2) := by decide +kernel
theorem dX9_ruleBy_129 : decode cX9_ruleBy 129 = .ok (.iload 5, 2) := by decide +kernel
theorem dX9_ruleBy_131 : decode cX9_ruleBy 131 = .ok (.if_icmp .le 8, 3) := by decide +kernel
theorem dX9_ruleBy_134 : decode cX9_ruleBy 134 = .ok (.iload 7, 2) := by decide +kernel
theorem dX9_ruleBy_136 : decode cX9_ruleBy 136 = .ok (.goto 5, 3) := by decide +kernel
theorem dX9_ruleBy_139 : decode cX9_ruleBy 139 = .ok (.iload 5, 2) := by decide +kernel
theorem dX9_ruleBy_141 : decode cX9_ruleBy 141 = .ok (.istore 5, 2) := by decide +kernel
theorem dX9_ruleBy_143 : decode cX9_ruleBy 143 = .ok (.iinc 6 1, 3) := by decide +kernel
theorem dX9_ruleBy_146 : decode cX9_ruleBy 146 = .ok (.goto (-101), 3) := by decide +kernel
theorem dX9_ruleBy_149 : decode cX9_ruleBy 149 = .ok (.iload 4, 2) := by decide +kernel
theorem dX9_ruleBy_151 : decode cX9_ruleBy 151 = .ok (.iload 5, 2) := by decide +kernel
theorem dX9_ruleBy_153 : decode cX9_ruleBy 153 = .ok (.if_icmp .le 16, 3) := by decide +kernel
theorem dX9_ruleBy_156 : decode cX9_ruleBy 156 = .ok (.iload_n 3, 1) := by decide +kernel
theorem dX9_ruleBy_157 : decode cX9_ruleBy 157 = .ok (.sipush 256, 3) := by decide +kernel
theorem dX9_ruleBy_160 : decode cX9_ruleBy 160 = .ok (.iload 5, 2) := by decide +kernel
theorem dX9_ruleBy_162 : decode cX9_ruleBy 162 = .ok (.iconst 1, 1) := by decide +kernel
theorem dX9_ruleBy_163 : decode cX9_ruleBy 163 = .ok (.iadd, 1) := by decide +kernel
theorem dX9_ruleBy_164 : decode cX9_ruleBy 164 = .ok (.imul, 1) := by decide +kernel
theorem dX9_ruleBy_165 : decode cX9_ruleBy 165 = .ok (.iadd, 1) := by decide +kernel
theorem dX9_ruleBy_166 : decode cX9_ruleBy 166 = .ok (.goto 4, 3) := by decide +kernel
theorem dX9_ruleBy_169 : decode cX9_ruleBy 169 = .ok (.iload_n 2, 1) := by decide +kernel
theorem dX9_ruleBy_170 : decode cX9_ruleBy 170 = .ok (.istore_n 2, 1) := by decide +kernel
theorem dX9_ruleBy_171 : decode cX9_ruleBy 171 = .ok (.iinc 3 1, 3) := by decide +kernel
theorem dX9_ruleBy_174 : decode cX9_ruleBy 174 = .ok (.goto (-169), 3) := by decide +kernel
theorem dX9_ruleBy_177 : decode cX9_ruleBy 177 = .ok (.iload_n 2, 1) := by decide +kernel
theorem dX9_ruleBy_178 : decode cX9_ruleBy 178 = .ok (.ireturn, 1) := by decide +kernel
theorem dX9_ruleTold_0 : decode cX9_ruleTold 0 = .ok (.aload_n 0, 1) := by decide +kernel
theorem dX9_ruleTold_1 : decode cX9_ruleTold 1 = .ok (.iload_n 1, 1) := by decide +kernel
theorem dX9_ruleTold_2 : decode cX9_ruleTold 2 = .ok (.invokevirtual 195, 3) := by decide +kernel
theorem dX9_ruleTold_5 : decode cX9_ruleTold 5 = .ok (.istore_n 3, 1) := by decide +kernel
theorem dX9_ruleTold_6 : decode cX9_ruleTold 6 = .ok (.iload_n 3, 1) := by decide +kernel
theorem dX9_ruleTold_7 : decode cX9_ruleTold 7 = .ok (.bipush (-9), 2) := by decide +kernel
theorem dX9_ruleTold_9 : decode cX9_ruleTold 9 = .ok (.if_icmp .ne 8, 3) := by decide +kernel
theorem dX9_ruleTold_12 : decode cX9_ruleTold 12 = .ok (.bipush (-9), 2) := by decide +kernel
theorem dX9_ruleTold_14 : decode cX9_ruleTold 14 = .ok (.goto 20, 3) := by decide +kernel
theorem dX9_ruleTold_17 : decode cX9_ruleTold 17 = .ok (.iload_n 2, 1) := by decide +kernel
theorem dX9_ruleTold_18 : decode cX9_ruleTold 18 = .ok (.ifCond .ne 11, 3) := by decide +kernel
theorem dX9_ruleTold_21 : decode cX9_ruleTold 21 = .ok (.iload_n 3, 1) := by decide +kernel
theorem dX9_ruleTold_22 : decode cX9_ruleTold 22 = .ok (.sipush 256, 3) := by decide +kernel
theorem dX9_ruleTold_25 : decode cX9_ruleTold 25 = .ok (.irem, 1) := by decide +kernel
theorem dX9_ruleTold_26 : decode cX9_ruleTold 26 = .ok (.goto 8, 3) := by decide +kernel
theorem dX9_ruleTold_29 : decode cX9_ruleTold 29 = .ok (.iload_n 3, 1) := by decide +kernel
theorem dX9_ruleTold_30 : decode cX9_ruleTold 30 = .ok (.sipush 256, 3) := by decide +kernel
theorem dX9_ruleTold_33 : decode cX9_ruleTold 33 = .ok (.idiv, 1) := by decide +kernel
theorem dX9_ruleTold_34 : decode cX9_ruleTold 34 = .ok (.ireturn, 1) := by decide +kernel
theorem dX9_ask_0 : decode cX9_ask 0 = .ok (.aload_n 0, 1) := by decide +kernel
theorem dX9_ask_1 : decode cX9_ask 1 = .ok (.iconst 0, 1) := by decide +kernel
theorem dX9_ask_2 : decode cX9_ask 2 = .ok (.putfield 44, 3) := by decide +kernel
theorem dX9_ask_5 : decode cX9_ask 5 = .ok (.iload_n 1, 1) := by decide +kernel
theorem dX9_ask_6 : decode cX9_ask 6 = .ok (.iconst 0, 1) := by decide +kernel
theorem dX9_ask_7 : decode cX9_ask 7 = .ok (.iconst 1, 1) := by decide +kernel
theorem dX9_ask_8 : decode cX9_ask 8 = .ok (.invokestatic 48, 3) := by decide +kernel
theorem dX9_ask_11 : decode cX9_ask 11 = .ok (.ifCond .eq 12, 3) := by decide +kernel
theorem dX9_ask_14 : decode cX9_ask 14 = .ok (.aload_n 0, 1) := by decide +kernel
theorem dX9_ask_15 : decode cX9_ask 15 = .ok (.iconst (-1), 1) := by decide +kernel
theorem dX9_ask_16 : decode cX9_ask 16 = .ok (.iload_n 1, 1) := by decide +kernel
theorem dX9_ask_17 : decode cX9_ask 17 = .ok (.invokevirtual 198, 3) := by decide +kernel
theorem dX9_ask_20 : decode cX9_ask 20 = .ok (.goto 4, 3) := by decide +kernel
theorem dX9_ask_23 : decode cX9_ask 23 = .ok (.iconst (-1), 1) := by decide +kernel
theorem dX9_ask_24 : decode cX9_ask 24 = .ok (.ireturn, 1) := by decide +kernel
theorem dX9_safe_0 : decode cX9_safe 0 = .ok (.aload_n 0, 1) := by decide +kernel
theorem dX9_safe_1 : decode cX9_safe 1 = .ok (.iconst 0, 1) := by decide +kernel
theorem dX9_safe_2 : decode cX9_safe 2 = .ok (.putfield 44, 3) := by decide +kernel
theorem dX9_safe_5 : decode cX9_safe 5 = .ok (.iload_n 1, 1) := by decide +kernel
theorem dX9_safe_6 : decode cX9_safe 6 = .ok (.iconst 0, 1) := by decide +kernel
theorem dX9_safe_7 : decode cX9_safe 7 = .ok (.bipush 99, 2) := by decide +kernel
theorem dX9_safe_9 : decode cX9_safe 9 = .ok (.invokestatic 48, 3) := by decide +kernel
theorem dX9_safe_12 : decode cX9_safe 12 = .ok (.ifCond .eq 21, 3) := by decide +kernel
theorem dX9_safe_15 : decode cX9_safe 15 = .ok (.iload_n 2, 1) := by decide +kernel
theorem dX9_safe_16 : decode cX9_safe 16 = .ok (.iconst 0, 1) := by decide +kernel
theorem dX9_safe_17 : decode cX9_safe 17 = .ok (.iconst 1, 1) := by decide +kernel
theorem dX9_safe_18 : decode cX9_safe 18 = .ok (.invokestatic 48, 3) := by decide +kernel
theorem dX9_safe_21 : decode cX9_safe 21 = .ok (.ifCond .eq 12, 3) := by decide +kernel
theorem dX9_safe_24 : decode cX9_safe 24 = .ok (.aload_n 0, 1) := by decide +kernel
theorem dX9_safe_25 : decode cX9_safe 25 = .ok (.iload_n 1, 1) := by decide +kernel
theorem dX9_safe_26 : decode cX9_safe 26 = .ok (.iload_n 2, 1) := by decide +kernel
theorem dX9_safe_27 : decode cX9_safe 27 = .ok (.invokevirtual 198, 3) := by decide +kernel
theorem dX9_safe_30 : decode cX9_safe 30 = .ok (.goto 4, 3) := by decide +kernel
theorem dX9_safe_33 : decode cX9_safe 33 = .ok (.iconst (-1), 1) := by decide +kernel
theorem dX9_safe_34 : decode cX9_safe 34 = .ok (.ireturn, 1) := by decide +kernel
theorem dX9_gcd_0 : decode cX9_gcd 0 = .ok (.lload_n 0, 1) := by decide +kernel
theorem dX9_gcd_1 : decode cX9_gcd 1 = .ok (.lstore 4, 2) := by decide +kernel
theorem dX9_gcd_3 : decode cX9_gcd 3 = .ok (.lload_n 2, 1) := by decide +kernel
theorem dX9_gcd_4 : decode cX9_gcd 4 = .ok (.lstore 6, 2) := by decide +kernel
theorem dX9_gcd_6 : decode cX9_gcd 6 = .ok (.lload 6, 2) := by decide +kernel
theorem dX9_gcd_8 : decode cX9_gcd 8 = .ok (.lconst 0, 1) := by decide +kernel
theorem dX9_gcd_9 : decode cX9_gcd 9 = .ok (.lcmp, 1) := by decide +kernel
theorem dX9_gcd_10 : decode cX9_gcd 10 = .ok (.ifCond .eq 21, 3) := by decide +kernel
theorem dX9_gcd_13 : decode cX9_gcd 13 = .ok (.lload 4, 2) := by decide +kernel
theorem dX9_gcd_15 : decode cX9_gcd 15 = .ok (.lload 6, 2) := by decide +kernel
theorem dX9_gcd_17 : decode cX9_gcd 17 = .ok (.lrem, 1) := by decide +kernel
theorem dX9_gcd_18 : decode cX9_gcd 18 = .ok (.lstore 8, 2) := by decide +kernel
theorem dX9_gcd_20 : decode cX9_gcd 20 = .ok (.lload 6, 2) := by decide +kernel
theorem dX9_gcd_22 : decode cX9_gcd 22 = .ok (.lstore 4, 2) := by decide +kernel
theorem dX9_gcd_24 : decode cX9_gcd 24 = .ok (.lload 8, 2) := by decide +kernel
theorem dX9_gcd_26 : decode cX9_gcd 26 = .ok (.lstore 6, 2) := by decide +kernel
theorem dX9_gcd_28 : decode cX9_gcd 28 = .ok (.goto (-22), 3) := by decide +kernel
theorem dX9_gcd_31 : decode cX9_gcd 31 = .ok (.lload 4, 2) := by decide +kernel
theorem dX9_gcd_33 : decode cX9_gcd 33 = .ok (.lreturn, 1) := by decide +kernel
theorem dX9_odds_0 : decode cX9_odds 0 = .ok (.aload_n 0, 1) := by decide +kernel
theorem dX9_odds_1 : decode cX9_odds 1 = .ok (.iconst 0, 1) := by decide +kernel
theorem dX9_odds_2 : decode cX9_odds 2 = .ok (.putfield 44, 3) := by decide +kernel
theorem dX9_odds_5 : decode cX9_odds 5 = .ok (.aload_n 0, 1) := by decide +kernel
theorem dX9_odds_6 : decode cX9_odds 6 = .ok (.iload_n 1, 1) := by decide +kernel
theorem dX9_odds_7 : decode cX9_odds 7 = .ok (.invokevirtual 153, 3) := by decide +kernel
theorem dX9_odds_10 : decode cX9_odds 10 = .ok (.ifCond .eq 22, 3) := by decide +kernel
theorem dX9_odds_13 : decode cX9_odds 13 = .ok (.iload_n 2, 1) := by decide +kernel
theorem dX9_odds_14 : decode cX9_odds 14 = .ok (.iconst 0, 1) := by decide +kernel
theorem dX9_odds_15 : decode cX9_odds 15 = .ok (.bipush 10, 2) := by decide +kernel
theorem dX9_odds_17 : decode cX9_odds 17 = .ok (.invokestatic 48, 3) := by decide +kernel
theorem dX9_odds_20 : decode cX9_odds 20 = .ok (.ifCond .eq 12, 3) := by decide +kernel
theorem dX9_odds_23 : decode cX9_odds 23 = .ok (.iload_n 3, 1) := by decide +kernel
theorem dX9_odds_24 : decode cX9_odds 24 = .ok (.iconst 0, 1) := by decide +kernel
theorem dX9_odds_25 : decode cX9_odds 25 = .ok (.iconst 1, 1) := by decide +kernel
theorem dX9_odds_26 : decode cX9_odds 26 = .ok (.invokestatic 48, 3) := by decide +kernel
theorem dX9_odds_29 : decode cX9_odds 29 = .ok (.ifCond .ne 7, 3) := by decide +kernel
theorem dX9_odds_32 : decode cX9_odds 32 = .ok (.ldc2_w 201, 3) := by decide +kernel
theorem dX9_odds_35 : decode cX9_odds 35 = .ok (.lreturn, 1) := by decide +kernel
theorem dX9_odds_36 : decode cX9_odds 36 = .ok (.lconst 0, 1) := by decide +kernel
theorem dX9_odds_37 : decode cX9_odds 37 = .ok (.lstore 4, 2) := by decide +kernel
theorem dX9_odds_39 : decode cX9_odds 39 = .ok (.lconst 1, 1) := by decide +kernel
theorem dX9_odds_40 : decode cX9_odds 40 = .ok (.lstore 6, 2) := by decide +kernel
theorem dX9_odds_42 : decode cX9_odds 42 = .ok (.iconst 0, 1) := by decide +kernel
theorem dX9_odds_43 : decode cX9_odds 43 = .ok (.istore 8, 2) := by decide +kernel
theorem dX9_odds_45 : decode cX9_odds 45 = .ok (.iload 8, 2) := by decide +kernel
theorem dX9_odds_47 : decode cX9_odds 47 = .ok (.aload_n 0, 1) := by decide +kernel
theorem dX9_odds_48 : decode cX9_odds 48 = .ok (.getfield 25, 3) := by decide +kernel
theorem dX9_odds_51 : decode cX9_odds 51 = .ok (.iload_n 1, 1) := by decide +kernel
theorem dX9_odds_52 : decode cX9_odds 52 = .ok (.iaload, 1) := by decide +kernel
theorem dX9_odds_53 : decode cX9_odds 53 = .ok (.invokestatic 118, 3) := by decide +kernel
theorem dX9_odds_56 : decode cX9_odds 56 = .ok (.if_icmp .ge 17, 3) := by decide +kernel
theorem dX9_odds_59 : decode cX9_odds 59 = .ok (.lload 6, 2) := by decide +kernel
theorem dX9_odds_61 : decode cX9_odds 61 = .ok (.ldc2_w 203, 3) := by decide +kernel
theorem dX9_odds_64 : decode cX9_odds 64 = .ok (.lmul, 1) := by decide +kernel
theorem dX9_odds_65 : decode cX9_odds 65 = .ok (.lstore 6, 2) := by decide +kernel
theorem dX9_odds_67 : decode cX9_odds 67 = .ok (.iinc 8 1, 3) := by decide +kernel
theorem dX9_odds_70 : decode cX9_odds 70 = .ok (.goto (-25), 3) := by decide +kernel
theorem dX9_odds_73 : decode cX9_odds 73 = .ok (.iconst 0, 1) := by decide +kernel
theorem dX9_odds_74 : decode cX9_odds 74 = .ok (.istore 8, 2) := by decide +kernel
theorem dX9_odds_76 : decode cX9_odds 76 = .ok (.iload 8, 2) := by decide +kernel
theorem dX9_odds_78 : decode cX9_odds 78 = .ok (.sipush 256, 3) := by decide +kernel
theorem dX9_odds_81 : decode cX9_odds 81 = .ok (.if_icmp .ge 90, 3) := by decide +kernel
theorem dX9_odds_84 : decode cX9_odds 84 = .ok (.iload 8, 2) := by decide +kernel
theorem dX9_odds_86 : decode cX9_odds 86 = .ok (.aload_n 0, 1) := by decide +kernel
theorem dX9_odds_87 : decode cX9_odds 87 = .ok (.getfield 25, 3) := by decide +kernel
theorem dX9_odds_90 : decode cX9_odds 90 = .ok (.iload_n 1, 1) := by decide +kernel
theorem dX9_odds_91 : decode cX9_odds 91 = .ok (.iaload, 1) := by decide +kernel
theorem dX9_odds_92 : decode cX9_odds 92 = .ok (.iconst (-1), 1) := by decide +kernel
theorem dX9_odds_93 : decode cX9_odds 93 = .ok (.ixor, 1) := by decide +kernel
theorem dX9_odds_94 : decode cX9_odds 94 = .ok (.iand, 1) := by decide +kernel
theorem dX9_odds_95 : decode cX9_odds 95 = .ok (.ifCond .ne 70, 3) := by decide +kernel
theorem dX9_odds_98 : decode cX9_odds 98 = .ok (.aload_n 0, 1) := by decide +kernel
theorem dX9_odds_99 : decode cX9_odds 99 = .ok (.iload 8, 2) := by decide +kernel
theorem dX9_odds_101 : decode cX9_odds 101 = .ok (.invokevirtual 157, 3) := by decide +kernel
theorem dX9_odds_104 : decode cX9_odds 104 = .ok (.ifCond .eq 61, 3) := by decide +kernel
theorem dX9_odds_107 : decode cX9_odds 107 = .ok (.lconst 1, 1) := by decide +kernel
theorem dX9_odds_108 : decode cX9_odds 108 = .ok (.lstore 9, 2) := by decide +kernel
theorem dX9_odds_110 : decode cX9_odds 110 = .ok (.iconst 0, 1) := by decide +kernel
theorem dX9_odds_111 : decode cX9_odds 111 = .ok (.istore 11, 2) := by decide +kernel
theorem dX9_odds_113 : decode cX9_odds 113 = .ok (.iload 11, 2) := by decide +kernel
theorem dX9_odds_115 : decode cX9_odds 115 = .ok (.aload_n 0, 1) := by decide +kernel
theorem dX9_odds_116 : decode cX9_odds 116 = .ok (.getfield 25, 3) := by decide +kernel
theorem dX9_odds_119 : decode cX9_odds 119 = .ok (.iload_n 1, 1) := by decide +kernel
theorem dX9_odds_120 : decode cX9_odds 120 = .ok (.iaload, 1) := by decide +kernel
theorem dX9_odds_121 : decode cX9_odds 121 = .ok (.invokestatic 118, 3) := by decide +kernel
theorem dX9_odds_124 : decode cX9_odds 124 = .ok (.if_icmp .ge 34, 3) := by decide +kernel
theorem dX9_odds_127 : decode cX9_odds 127 = .ok (.lload 9, 2) := by decide +kernel
theorem dX9_odds_129 : decode cX9_odds 129 = .ok (.iload 11, 2) := by decide +kernel
theorem dX9_odds_131 : decode cX9_odds 131 = .ok (.iload 8, 2) := by decide +kernel
theorem dX9_odds_133 : decode cX9_odds 133 = .ok (.invokestatic 118, 3) := by decide +kernel
theorem dX9_odds_136 : decode cX9_odds 136 = .ok (.if_icmp .ge 11, 3) := by decide +kernel
theorem dX9_odds_139 : decode cX9_odds 139 = .ok (.bipush 10, 2) := by decide +kernel
theorem dX9_odds_141 : decode cX9_odds 141 = .ok (.iload_n 2, 1) := by decide +kernel
theorem dX9_odds_142 : decode cX9_odds 142 = .ok (.isub, 1) := by decide +kernel
theorem dX9_odds_143 : decode cX9_odds 143 = .ok (.i2l, 1) := by decide +kernel
theorem dX9_odds_144 : decode cX9_odds 144 = .ok (.goto 5, 3) := by decide +kernel
theorem dX9_odds_147 : decode cX9_odds 147 = .ok (.iload_n 2, 1) := by decide +kernel
theorem dX9_odds_148 : decode cX9_odds 148 = .ok (.i2l, 1) := by decide +kernel
theorem dX9_odds_149 : decode cX9_odds 149 = .ok (.lmul, 1) := by decide +kernel
theorem dX9_odds_150 : decode cX9_odds 150 = .ok (.lstore 9, 2) := by decide +kernel
theorem dX9_odds_152 : decode cX9_odds 152 = .ok (.iinc 11 1, 3) := by decide +kernel
theorem dX9_odds_155 : decode cX9_odds 155 = .ok (.goto (-42), 3) := by decide +kernel
theorem dX9_odds_158 : decode cX9_odds 158 = .ok (.lload 4, 2) := by decide +kernel
theorem dX9_odds_160 : decode cX9_odds 160 = .ok (.lload 9, 2) := by decide +kernel
theorem dX9_odds_162 : decode cX9_odds 162 = .ok (.ladd, 1) := by decide +kernel
theorem dX9_odds_163 : decode cX9_odds 163 = .ok (.lstore 4, 2) := by decide +kernel
theorem dX9_odds_165 : decode cX9_odds 165 = .ok (.iinc 8 1, 3) := by decide +kernel
theorem dX9_odds_168 : decode cX9_odds 168 = .ok (.goto (-92), 3) := by decide +kernel
theorem dX9_odds_171 : decode cX9_odds 171 = .ok (.lload 4, 2) := by decide +kernel
theorem dX9_odds_173 : decode cX9_odds 173 = .ok (.lload 6, 2) := by decide +kernel
theorem dX9_odds_175 : decode cX9_odds 175 = .ok (.invokestatic 205, 3) := by decide +kernel
theorem dX9_odds_178 : decode cX9_odds 178 = .ok (.lstore 8, 2) := by decide +kernel
theorem dX9_odds_180 : decode cX9_odds 180 = .ok (.iload_n 3, 1) := by decide +kernel
theorem dX9_odds_181 : decode cX9_odds 181 = .ok (.ifCond .ne 11, 3) := by decide +kernel
theorem dX9_odds_184 : decode cX9_odds 184 = .ok (.lload 4, 2) := by decide +kernel
theorem dX9_odds_186 : decode cX9_odds 186 = .ok (.lload 8, 2) := by decide +kernel
theorem dX9_odds_188 : decode cX9_odds 188 = .ok (.ldiv, 1) := by decide +kernel
theorem dX9_odds_189 : decode cX9_odds 189 = .ok (.goto 8, 3) := by decide +kernel
theorem dX9_odds_192 : decode cX9_odds 192 = .ok (.lload 6, 2) := by decide +kernel
theorem dX9_odds_194 : decode cX9_odds 194 = .ok (.lload 8, 2) := by decide +kernel
theorem dX9_odds_196 : decode cX9_odds 196 = .ok (.ldiv, 1) := by decide +kernel
theorem dX9_odds_197 : decode cX9_odds 197 = .ok (.lreturn, 1) := by decide +kernel
theorem dX9_shown_0 : decode cX9_shown 0 = .ok (.aload_n 0, 1) := by decide +kernel
theorem dX9_shown_1 : decode cX9_shown 1 = .ok (.iconst 0, 1) := by decide +kernel
theorem dX9_shown_2 : decode cX9_shown 2 = .ok (.putfield 44, 3) := by decide +kernel
theorem dX9_shown_5 : decode cX9_shown 5 = .ok (.iload_n 1, 1) := by decide +kernel
theorem dX9_shown_6 : decode cX9_shown 6 = .ok (.iconst 0, 1) := by decide +kernel
theorem dX9_shown_7 : decode cX9_shown 7 = .ok (.bipush 7, 2) := by decide +kernel
theorem dX9_shown_9 : decode cX9_shown 9 = .ok (.invokestatic 48, 3) := by decide +kernel
theorem dX9_shown_12 : decode cX9_shown 12 = .ok (.ifCond .eq 12, 3) := by decide +kernel
theorem dX9_shown_15 : decode cX9_shown 15 = .ok (.iload_n 2, 1) := by decide +kernel
theorem dX9_shown_16 : decode cX9_shown 16 = .ok (.iconst 0, 1) := by decide +kernel
theorem dX9_shown_17 : decode cX9_shown 17 = .ok (.iconst 1, 1) := by decide +kernel
theorem dX9_shown_18 : decode cX9_shown 18 = .ok (.invokestatic 48, 3) := by decide +kernel
theorem dX9_shown_21 : decode cX9_shown 21 = .ok (.ifCond .ne 5, 3) := by decide +kernel
theorem dX9_shown_24 : decode cX9_shown 24 = .ok (.iconst (-1), 1) := by decide +kernel
theorem dX9_shown_25 : decode cX9_shown 25 = .ok (.ireturn, 1) := by decide +kernel
theorem dX9_shown_26 : decode cX9_shown 26 = .ok (.aload_n 0, 1) := by decide +kernel
theorem dX9_shown_27 : decode cX9_shown 27 = .ok (.getfield 146, 3) := by decide +kernel
theorem dX9_shown_30 : decode cX9_shown 30 = .ok (.bipush 6, 2) := by decide +kernel
theorem dX9_shown_32 : decode cX9_shown 32 = .ok (.if_icmp .ne 6, 3) := by decide +kernel
theorem dX9_shown_35 : decode cX9_shown 35 = .ok (.bipush (-3), 2) := by decide +kernel
theorem dX9_shown_37 : decode cX9_shown 37 = .ok (.ireturn, 1) := by decide +kernel
theorem dX9_shown_38 : decode cX9_shown 38 = .ok (.aload_n 0, 1) := by decide +kernel
theorem dX9_shown_39 : decode cX9_shown 39 = .ok (.getfield 38, 3) := by decide +kernel
theorem dX9_shown_42 : decode cX9_shown 42 = .ok (.aload_n 0, 1) := by decide +kernel
theorem dX9_shown_43 : decode cX9_shown 43 = .ok (.getfield 146, 3) := by decide +kernel
theorem dX9_shown_46 : decode cX9_shown 46 = .ok (.iload_n 1, 1) := by decide +kernel
theorem dX9_shown_47 : decode cX9_shown 47 = .ok (.iastore, 1) := by decide +kernel
theorem dX9_shown_48 : decode cX9_shown 48 = .ok (.aload_n 0, 1) := by decide +kernel
theorem dX9_shown_49 : decode cX9_shown 49 = .ok (.getfield 41, 3) := by decide +kernel
theorem dX9_shown_52 : decode cX9_shown 52 = .ok (.aload_n 0, 1) := by decide +kernel
theorem dX9_shown_53 : decode cX9_shown 53 = .ok (.getfield 146, 3) := by decide +kernel
theorem dX9_shown_56 : decode cX9_shown 56 = .ok (.iload_n 2, 1) := by decide +kernel
theorem dX9_shown_57 : decode cX9_shown 57 = .ok (.iastore, 1) := by decide +kernel
theorem dX9_shown_58 : decode cX9_shown 58 = .ok (.aload_n 0, 1) := by decide +kernel
theorem dX9_shown_59 : decode cX9_shown 59 = .ok (.dup, 1) := by decide +kernel
theorem dX9_shown_60 : decode cX9_shown 60 = .ok (.getfield 146, 3) := by decide +kernel
theorem dX9_shown_63 : decode cX9_shown 63 = .ok (.iconst 1, 1) := by decide +kernel
theorem dX9_shown_64 : decode cX9_shown 64 = .ok (.iadd, 1) := by decide +kernel
theorem dX9_shown_65 : decode cX9_shown 65 = .ok (.putfield 146, 3) := by decide +kernel
theorem dX9_shown_68 : decode cX9_shown 68 = .ok (.aload_n 0, 1) := by decide +kernel
theorem dX9_shown_69 : decode cX9_shown 69 = .ok (.getfield 146, 3) := by decide +kernel
theorem dX9_shown_72 : decode cX9_shown 72 = .ok (.ireturn, 1) := by decide +kernel
theorem dX9_forget_0 : decode cX9_forget 0 = .ok (.aload_n 0, 1) := by decide +kernel
theorem dX9_forget_1 : decode cX9_forget 1 = .ok (.iconst 0, 1) := by decide +kernel
theorem dX9_forget_2 : decode cX9_forget 2 = .ok (.putfield 44, 3) := by decide +kernel
theorem dX9_forget_5 : decode cX9_forget 5 = .ok (.aload_n 0, 1) := by decide +kernel
theorem dX9_forget_6 : decode cX9_forget 6 = .ok (.getfield 146, 3) := by decide +kernel
theorem dX9_forget_9 : decode cX9_forget 9 = .ok (.istore_n 1, 1) := by decide +kernel
theorem dX9_forget_10 : decode cX9_forget 10 = .ok (.aload_n 0, 1) := by decide +kernel
theorem dX9_forget_11 : decode cX9_forget 11 = .ok (.iconst 0, 1) := by decide +kernel
theorem dX9_forget_12 : decode cX9_forget 12 = .ok (.putfield 146, 3) := by decide +kernel
theorem dX9_forget_15 : decode cX9_forget 15 = .ok (.iload_n 1, 1) := by decide +kernel
theorem dX9_forget_16 : decode cX9_forget 16 = .ok (.ireturn, 1) := by decide +kernel
theorem dX9_whoFits_0 : decode cX9_whoFits 0 = .ok (.iconst 0, 1) := by decide +kernel
theorem dX9_whoFits_1 : decode cX9_whoFits 1 = .ok (.istore_n 1, 1) := by decide +kernel
theorem dX9_whoFits_2 : decode cX9_whoFits 2 = .ok (.iconst 0, 1) := by decide +kernel
theorem dX9_whoFits_3 : decode cX9_whoFits 3 = .ok (.istore_n 2, 1) := by decide +kernel
theorem dX9_whoFits_4 : decode cX9_whoFits 4 = .ok (.iload_n 2, 1) := by decide +kernel
theorem dX9_whoFits_5 : decode cX9_whoFits 5 = .ok (.aload_n 0, 1) := by decide +kernel
theorem dX9_whoFits_6 : decode cX9_whoFits 6 = .ok (.getfield 134, 3) := by decide +kernel
theorem dX9_whoFits_9 : decode cX9_whoFits 9 = .ok (.if_icmp .ge 79, 3) := by decide +kernel
theorem dX9_whoFits_12 : decode cX9_whoFits 12 = .ok (.iconst 1, 1) := by decide +kernel
theorem dX9_whoFits_13 : decode cX9_whoFits 13 = .ok (.istore_n 3, 1) := by decide +kernel
theorem dX9_whoFits_14 : decode cX9_whoFits 14 = .ok (.iconst 0, 1) := by decide +kernel
theorem dX9_whoFits_15 : decode cX9_whoFits 15 = .ok (.istore 4, 2) := by decide +kernel
theorem dX9_whoFits_17 : decode cX9_whoFits 17 = .ok (.iload 4, 2) := by decide +kernel
theorem dX9_whoFits_19 : decode cX9_whoFits 19 = .ok (.aload_n 0, 1) := by decide +kernel
theorem dX9_whoFits_20 : decode cX9_whoFits 20 = .ok (.getfield 146, 3) := by decide +kernel
theorem dX9_whoFits_23 : decode cX9_whoFits 23 = .ok (.if_icmp .ge 45, 3) := by decide +kernel
theorem dX9_whoFits_26 : decode cX9_whoFits 26 = .ok (.iload_n 3, 1) := by decide +kernel
theorem dX9_whoFits_27 : decode cX9_whoFits 27 = .ok (.ifCond .eq 33, 3) := by decide +kernel
theorem dX9_whoFits_30 : decode cX9_whoFits 30 = .ok (.aload_n 0, 1) := by decide +kernel
theorem dX9_whoFits_31 : decode cX9_whoFits 31 = .ok (.getfield 25, 3) := by decide +kernel
theorem dX9_whoFits_34 : decode cX9_whoFits 34 = .ok (.iload_n 2, 1) := by decide +kernel
theorem dX9_whoFits_35 : decode cX9_whoFits 35 = .ok (.iaload, 1) := by decide +kernel
theorem dX9_whoFits_36 : decode cX9_whoFits 36 = .ok (.aload_n 0, 1) := by decide +kernel
theorem dX9_whoFits_37 : decode cX9_whoFits 37 = .ok (.getfield 38, 3) := by decide +kernel
theorem dX9_whoFits_40 : decode cX9_whoFits 40 = .ok (.iload 4, 2) := by decide +kernel
theorem dX9_whoFits_42 : decode cX9_whoFits 42 = .ok (.iaload, 1) := by decide +kernel
theorem dX9_whoFits_43 : decode cX9_whoFits 43 = .ok (.ishr, 1) := by decide +kernel
theorem dX9_whoFits_44 : decode cX9_whoFits 44 = .ok (.iconst 1, 1) := by decide +kernel
theorem dX9_whoFits_45 : decode cX9_whoFits 45 = .ok (.iand, 1) := by decide +kernel
theorem dX9_whoFits_46 : decode cX9_whoFits 46 = .ok (.aload_n 0, 1) := by decide +kernel
theorem dX9_whoFits_47 : decode cX9_whoFits 47 = .ok (.getfield 41, 3) := by decide +kernel
theorem dX9_whoFits_50 : decode cX9_whoFits 50 = .ok (.iload 4, 2) := by decide +kernel
theorem dX9_whoFits_52 : decode cX9_whoFits 52 = .ok (.iaload, 1) := by decide +kernel
theorem dX9_whoFits_53 : decode cX9_whoFits 53 = .ok (.if_icmp .ne 7, 3) := by decide +kernel
theorem dX9_whoFits_56 : decode cX9_whoFits 56 = .ok (.iconst 1, 1) := by decide +kernel
theorem dX9_whoFits_57 : decode cX9_whoFits 57 = .ok (.goto 4, 3) := by decide +kernel
theorem dX9_whoFits_60 : decode cX9_whoFits 60 = .ok (.iconst 0, 1) := by decide +kernel
theorem dX9_whoFits_61 : decode cX9_whoFits 61 = .ok (.istore_n 3, 1) := by decide +kernel
theorem dX9_whoFits_62 : decode cX9_whoFits 62 = .ok (.iinc 4 1, 3) := by decide +kernel
theorem dX9_whoFits_65 : decode cX9_whoFits 65 = .ok (.goto (-48), 3) := by decide +kernel
theorem dX9_whoFits_68 : decode cX9_whoFits 68 = .ok (.iload_n 1, 1) := by decide +kernel
theorem dX9_whoFits_69 : decode cX9_whoFits 69 = .ok (.iload_n 3, 1) := by decide +kernel
theorem dX9_whoFits_70 : decode cX9_whoFits 70 = .ok (.ifCond .eq 9, 3) := by decide +kernel
theorem dX9_whoFits_73 : decode cX9_whoFits 73 = .ok (.iconst 1, 1) := by decide +kernel
theorem dX9_whoFits_74 : decode cX9_whoFits 74 = .ok (.iload_n 2, 1) := by decide +kernel
theorem dX9_whoFits_75 : decode cX9_whoFits 75 = .ok (.ishl, 1) := by decide +kernel
theorem dX9_whoFits_76 : decode cX9_whoFits 76 = .ok (.goto 4, 3) := by decide +kernel
theorem dX9_whoFits_79 : decode cX9_whoFits 79 = .ok (.iconst 0, 1) := by decide +kernel
theorem dX9_whoFits_80 : decode cX9_whoFits 80 = .ok (.ior, 1) := by decide +kernel
theorem dX9_whoFits_81 : decode cX9_whoFits 81 = .ok (.istore_n 1, 1) := by decide +kernel
theorem dX9_whoFits_82 : decode cX9_whoFits 82 = .ok (.iinc 2 1, 3) := by decide +kernel
theorem dX9_whoFits_85 : decode cX9_whoFits 85 = .ok (.goto (-81), 3) := by decide +kernel
theorem dX9_whoFits_88 : decode cX9_whoFits 88 = .ok (.iload_n 1, 1) := by decide +kernel
theorem dX9_whoFits_89 : decode cX9_whoFits 89 = .ok (.ireturn, 1) := by decide +kernel
theorem dX9_who_0 : decode cX9_who 0 = .ok (.aload_n 0, 1) := by decide +kernel
theorem dX9_who_1 : decode cX9_who 1 = .ok (.iconst 0, 1) := by decide +kernel
theorem dX9_who_2 : decode cX9_who 2 = .ok (.putfield 44, 3) := by decide +kernel
theorem dX9_who_5 : decode cX9_who 5 = .ok (.aload_n 0, 1) := by decide +kernel
theorem dX9_who_6 : decode cX9_who 6 = .ok (.invokevirtual 209, 3) := by decide +kernel
theorem dX9_who_9 : decode cX9_who 9 = .ok (.ireturn, 1) := by decide +kernel
theorem dX9_tell_0 : decode cX9_tell 0 = .ok (.aload_n 0, 1) := by decide +kernel
theorem dX9_tell_1 : decode cX9_tell 1 = .ok (.iconst 0, 1) := by decide +kernel
theorem dX9_tell_2 : decode cX9_tell 2 = .ok (.putfield 44, 3) := by decide +kernel
theorem dX9_tell_5 : decode cX9_tell 5 = .ok (.iload_n 1, 1) := by decide +kernel
theorem dX9_tell_6 : decode cX9_tell 6 = .ok (.iconst 0, 1) := by decide +kernel
theorem dX9_tell_7 : decode cX9_tell 7 = .ok (.iconst 1, 1) := by decide +kernel
theorem dX9_tell_8 : decode cX9_tell 8 = .ok (.invokestatic 48, 3) := by decide +kernel
theorem dX9_tell_11 : decode cX9_tell 11 = .ok (.ifCond .ne 5, 3) := by decide +kernel
theorem dX9_tell_14 : decode cX9_tell 14 = .ok (.iconst (-1), 1) := by decide +kernel
theorem dX9_tell_15 : decode cX9_tell 15 = .ok (.ireturn, 1) := by decide +kernel
theorem dX9_tell_16 : decode cX9_tell 16 = .ok (.aload_n 0, 1) := by decide +kernel
theorem dX9_tell_17 : decode cX9_tell 17 = .ok (.invokevirtual 209, 3) := by decide +kernel
theorem dX9_tell_20 : decode cX9_tell 20 = .ok (.istore_n 2, 1) := by decide +kernel
theorem dX9_tell_21 : decode cX9_tell 21 = .ok (.bipush (-9), 2) := by decide +kernel
theorem dX9_tell_23 : decode cX9_tell 23 = .ok (.istore_n 3, 1) := by decide +kernel
theorem dX9_tell_24 : decode cX9_tell 24 = .ok (.bipush (-9), 2) := by decide +kernel
theorem dX9_tell_26 : decode cX9_tell 26 = .ok (.istore 4, 2) := by decide +kernel
theorem dX9_tell_28 : decode cX9_tell 28 = .ok (.iconst 0, 1) := by decide +kernel
theorem dX9_tell_29 : decode cX9_tell 29 = .ok (.istore 5, 2) := by decide +kernel
theorem dX9_tell_31 : decode cX9_tell 31 = .ok (.iload 5, 2) := by decide +kernel
theorem dX9_tell_33 : decode cX9_tell 33 = .ok (.bipush 8, 2) := by decide +kernel
theorem dX9_tell_35 : decode cX9_tell 35 = .ok (.if_icmp .ge 116, 3) := by decide +kernel
theorem dX9_tell_38 : decode cX9_tell 38 = .ok (.iload_n 2, 1) := by decide +kernel
theorem dX9_tell_39 : decode cX9_tell 39 = .ok (.ifCond .eq 112, 3) := by decide +kernel
theorem dX9_tell_42 : decode cX9_tell 42 = .ok (.iconst 0, 1) := by decide +kernel
theorem dX9_tell_43 : decode cX9_tell 43 = .ok (.istore 6, 2) := by decide +kernel
theorem dX9_tell_45 : decode cX9_tell 45 = .ok (.iconst 0, 1) := by decide +kernel
theorem dX9_tell_46 : decode cX9_tell 46 = .ok (.istore 7, 2) := by decide +kernel
theorem dX9_tell_48 : decode cX9_tell 48 = .ok (.iload 7, 2) := by decide +kernel
theorem dX9_tell_50 : decode cX9_tell 50 = .ok (.aload_n 0, 1) := by decide +kernel
theorem dX9_tell_51 : decode cX9_tell 51 = .ok (.getfield 134, 3) := by decide +kernel
theorem dX9_tell_54 : decode cX9_tell 54 = .ok (.if_icmp .ge 31, 3) := by decide +kernel
theorem dX9_tell_57 : decode cX9_tell 57 = .ok (.iload 6, 2) := by decide +kernel
theorem dX9_tell_59 : decode cX9_tell 59 = .ok (.iload_n 2, 1) := by decide +kernel
theorem dX9_tell_60 : decode cX9_tell 60 = .ok (.iload 7, 2) := by decide +kernel
theorem dX9_tell_62 : decode cX9_tell 62 = .ok (.ishr, 1) := by decide +kernel
theorem dX9_tell_63 : decode cX9_tell 63 = .ok (.aload_n 0, 1) := by decide +kernel
theorem dX9_tell_64 : decode cX9_tell 64 = .ok (.getfield 25, 3) := by decide +kernel
theorem dX9_tell_67 : decode cX9_tell 67 = .ok (.iload 7, 2) := by decide +kernel
theorem dX9_tell_69 : decode cX9_tell 69 = .ok (.iaload, 1) := by decide +kernel
theorem dX9_tell_70 : decode cX9_tell 70 = .ok (.iload 5, 2) := by decide +kernel
theorem dX9_tell_72 : decode cX9_tell 72 = .ok (.ishr, 1) := by decide +kernel
theorem dX9_tell_73 : decode cX9_tell 73 = .ok (.iand, 1) := by decide +kernel
theorem dX9_tell_74 : decode cX9_tell 74 = .ok (.iconst 1, 1) := by decide +kernel
theorem dX9_tell_75 : decode cX9_tell 75 = .ok (.iand, 1) := by decide +kernel
theorem dX9_tell_76 : decode cX9_tell 76 = .ok (.iadd, 1) := by decide +kernel
theorem dX9_tell_77 : decode cX9_tell 77 = .ok (.istore 6, 2) := by decide +kernel
theorem dX9_tell_79 : decode cX9_tell 79 = .ok (.iinc 7 1, 3) := by decide +kernel
theorem dX9_tell_82 : decode cX9_tell 82 = .ok (.goto (-34), 3) := by decide +kernel
theorem dX9_tell_85 : decode cX9_tell 85 = .ok (.iload_n 2, 1) := by decide +kernel
theorem dX9_tell_86 : decode cX9_tell 86 = .ok (.invokestatic 118, 3) := by decide +kernel
theorem dX9_tell_89 : decode cX9_tell 89 = .ok (.iload 6, 2) := by decide +kernel
theorem dX9_tell_91 : decode cX9_tell 91 = .ok (.isub, 1) := by decide +kernel
theorem dX9_tell_92 : decode cX9_tell 92 = .ok (.istore 7, 2) := by decide +kernel
theorem dX9_tell_94 : decode cX9_tell 94 = .ok (.iload 6, 2) := by decide +kernel
theorem dX9_tell_96 : decode cX9_tell 96 = .ok (.iload 7, 2) := by decide +kernel
theorem dX9_tell_98 : decode cX9_tell 98 = .ok (.if_icmp .le 8, 3) := by decide +kernel
theorem dX9_tell_101 : decode cX9_tell 101 = .ok (.iload 6, 2) := by decide +kernel
theorem dX9_tell_103 : decode cX9_tell 103 = .ok (.goto 5, 3) := by decide +kernel
theorem dX9_tell_106 : decode cX9_tell 106 = .ok (.iload 7, 2) := by decide +kernel
theorem dX9_tell_108 : decode cX9_tell 108 = .ok (.istore 8, 2) := by decide +kernel
theorem dX9_tell_110 : decode cX9_tell 110 = .ok (.iload_n 3, 1) := by decide +kernel
theorem dX9_tell_111 : decode cX9_tell 111 = .ok (.bipush (-9), 2) := by decide +kernel
theorem dX9_tell_113 : decode cX9_tell 113 = .ok (.if_icmp .eq 10, 3) := by decide +kernel
theorem dX9_tell_116 : decode cX9_tell 116 = .ok (.iload 8, 2) := by decide +kernel
theorem dX9_tell_118 : decode cX9_tell 118 = .ok (.iload 4, 2) := by decide +kernel
theorem dX9_tell_120 : decode cX9_tell 120 = .ok (.if_icmp .ge 8, 3) := by decide +kernel
theorem dX9_tell_123 : decode cX9_tell 123 = .ok (.iload 5, 2) := by decide +kernel
theorem dX9_tell_125 : decode cX9_tell 125 = .ok (.goto 4, 3) := by decide +kernel
theorem dX9_tell_128 : decode cX9_tell 128 = .ok (.iload_n 3, 1) := by decide +kernel
theorem dX9_tell_129 : decode cX9_tell 129 = .ok (.istore_n 3, 1) := by decide +kernel
theorem dX9_tell_130 : decode cX9_tell 130 = .ok (.iload_n 3, 1) := by decide +kernel
theorem dX9_tell_131 : decode cX9_tell 131 = .ok (.iload 5, 2) := by decide +kernel
theorem dX9_tell_133 : decode cX9_tell 133 = .ok (.if_icmp .ne 8, 3) := by decide +kernel
theorem dX9_tell_136 : decode cX9_tell 136 = .ok (.iload 8, 2) := by decide +kernel
theorem dX9_tell_138 : decode cX9_tell 138 = .ok (.goto 5, 3) := by decide +kernel
theorem dX9_tell_141 : decode cX9_tell 141 = .ok (.iload 4, 2) := by decide +kernel
theorem dX9_tell_143 : decode cX9_tell 143 = .ok (.istore 4, 2) := by decide +kernel
theorem dX9_tell_145 : decode cX9_tell 145 = .ok (.iinc 5 1, 3) := by decide +kernel
theorem dX9_tell_148 : decode cX9_tell 148 = .ok (.goto (-117), 3) := by decide +kernel
theorem dX9_tell_151 : decode cX9_tell 151 = .ok (.iload_n 1, 1) := by decide +kernel
theorem dX9_tell_152 : decode cX9_tell 152 = .ok (.ifCond .ne 7, 3) := by decide +kernel
theorem dX9_tell_155 : decode cX9_tell 155 = .ok (.iload_n 3, 1) := by decide +kernel
theorem dX9_tell_156 : decode cX9_tell 156 = .ok (.goto 5, 3) := by decide +kernel
theorem dX9_tell_159 : decode cX9_tell 159 = .ok (.iload 4, 2) := by decide +kernel
theorem dX9_tell_161 : decode cX9_tell 161 = .ok (.ireturn, 1) := by decide +kernel
theorem dX9_rate_0 : decode cX9_rate 0 = .ok (.aload_n 0, 1) := by decide +kernel
theorem dX9_rate_1 : decode cX9_rate 1 = .ok (.iconst 0, 1) := by decide +kernel
theorem dX9_rate_2 : decode cX9_rate 2 = .ok (.putfield 44, 3) := by decide +kernel
theorem dX9_rate_5 : decode cX9_rate 5 = .ok (.iload_n 1, 1) := by decide +kernel
theorem dX9_rate_6 : decode cX9_rate 6 = .ok (.iconst 0, 1) := by decide +kernel
theorem dX9_rate_7 : decode cX9_rate 7 = .ok (.iconst 5, 1) := by decide +kernel
theorem dX9_rate_8 : decode cX9_rate 8 = .ok (.invokestatic 48, 3) := by decide +kernel
theorem dX9_rate_11 : decode cX9_rate 11 = .ok (.ifCond .eq 11, 3) := by decide +kernel
theorem dX9_rate_14 : decode cX9_rate 14 = .ok (.aload_n 0, 1) := by decide +kernel
theorem dX9_rate_15 : decode cX9_rate 15 = .ok (.iload_n 2, 1) := by decide +kernel
theorem dX9_rate_16 : decode cX9_rate 16 = .ok (.invokevirtual 153, 3) := by decide +kernel
theorem dX9_rate_19 : decode cX9_rate 19 = .ok (.ifCond .ne 6, 3) := by decide +kernel
theorem dX9_rate_22 : decode cX9_rate 22 = .ok (.ldc 212, 2) := by decide +kernel
theorem dX9_rate_24 : decode cX9_rate 24 = .ok (.ireturn, 1) := by decide +kernel
theorem dX9_rate_25 : decode cX9_rate 25 = .ok (.aload_n 0, 1) := by decide +kernel
theorem dX9_rate_26 : decode cX9_rate 26 = .ok (.getfield 25, 3) := by decide +kernel
theorem dX9_rate_29 : decode cX9_rate 29 = .ok (.iload_n 2, 1) := by decide +kernel
theorem dX9_rate_30 : decode cX9_rate 30 = .ok (.iaload, 1) := by decide +kernel
theorem dX9_rate_31 : decode cX9_rate 31 = .ok (.invokestatic 118, 3) := by decide +kernel
theorem dX9_rate_34 : decode cX9_rate 34 = .ok (.istore_n 3, 1) := by decide +kernel
theorem dX9_rate_35 : decode cX9_rate 35 = .ok (.iload_n 3, 1) := by decide +kernel
theorem dX9_rate_36 : decode cX9_rate 36 = .ok (.istore 4, 2) := by decide +kernel
theorem dX9_rate_38 : decode cX9_rate 38 = .ok (.iconst 0, 1) := by decide +kernel
theorem dX9_rate_39 : decode cX9_rate 39 = .ok (.istore 5, 2) := by decide +kernel
theorem dX9_rate_41 : decode cX9_rate 41 = .ok (.iload 5, 2) := by decide +kernel
theorem dX9_rate_43 : decode cX9_rate 43 = .ok (.aload_n 0, 1) := by decide +kernel
theorem dX9_rate_44 : decode cX9_rate 44 = .ok (.getfield 140, 3) := by decide +kernel
theorem dX9_rate_47 : decode cX9_rate 47 = .ok (.if_icmp .ge 34, 3) := by decide +kernel
theorem dX9_rate_50 : decode cX9_rate 50 = .ok (.iload 4, 2) := by decide +kernel
theorem dX9_rate_52 : decode cX9_rate 52 = .ok (.aload_n 0, 1) := by decide +kernel
theorem dX9_rate_53 : decode cX9_rate 53 = .ok (.aload_n 0, 1) := by decide +kernel
theorem dX9_rate_54 : decode cX9_rate 54 = .ok (.getfield 25, 3) := by decide +kernel
theorem dX9_rate_57 : decode cX9_rate 57 = .ok (.iload_n 2, 1) := by decide +kernel
theorem dX9_rate_58 : decode cX9_rate 58 = .ok (.iaload, 1) := by decide +kernel
theorem dX9_rate_59 : decode cX9_rate 59 = .ok (.iload 5, 2) := by decide +kernel
theorem dX9_rate_61 : decode cX9_rate 61 = .ok (.invokevirtual 149, 3) := by decide +kernel
theorem dX9_rate_64 : decode cX9_rate 64 = .ok (.ifCond .eq 7, 3) := by decide +kernel
theorem dX9_rate_67 : decode cX9_rate 67 = .ok (.iconst 1, 1) := by decide +kernel
theorem dX9_rate_68 : decode cX9_rate 68 = .ok (.goto 4, 3) := by decide +kernel
theorem dX9_rate_71 : decode cX9_rate 71 = .ok (.iconst 0, 1) := by decide +kernel
theorem dX9_rate_72 : decode cX9_rate 72 = .ok (.iadd, 1) := by decide +kernel
theorem dX9_rate_73 : decode cX9_rate 73 = .ok (.istore 4, 2) := by decide +kernel
theorem dX9_rate_75 : decode cX9_rate 75 = .ok (.iinc 5 1, 3) := by decide +kernel
theorem dX9_rate_78 : decode cX9_rate 78 = .ok (.goto (-37), 3) := by decide +kernel
theorem dX9_rate_81 : decode cX9_rate 81 = .ok (.iload_n 3, 1) := by decide +kernel
theorem dX9_rate_82 : decode cX9_rate 82 = .ok (.aload_n 0, 1) := by decide +kernel
theorem dX9_rate_83 : decode cX9_rate 83 = .ok (.getfield 25, 3) := by decide +kernel
theorem dX9_rate_86 : decode cX9_rate 86 = .ok (.iconst 5, 1) := by decide +kernel
theorem dX9_rate_87 : decode cX9_rate 87 = .ok (.iload_n 2, 1) := by decide +kernel
theorem dX9_rate_88 : decode cX9_rate 88 = .ok (.iadd, 1) := by decide +kernel
theorem dX9_rate_89 : decode cX9_rate 89 = .ok (.iaload, 1) := by decide +kernel
theorem dX9_rate_90 : decode cX9_rate 90 = .ok (.isub, 1) := by decide +kernel
theorem dX9_rate_91 : decode cX9_rate 91 = .ok (.istore 5, 2) := by decide +kernel
theorem dX9_rate_93 : decode cX9_rate 93 = .ok (.aload_n 0, 1) := by decide +kernel
theorem dX9_rate_94 : decode cX9_rate 94 = .ok (.dup, 1) := by decide +kernel
theorem dX9_rate_95 : decode cX9_rate 95 = .ok (.getfield 213, 3) := by decide +kernel
theorem dX9_rate_98 : decode cX9_rate 98 = .ok (.iload_n 1, 1) := by decide +kernel
theorem dX9_rate_99 : decode cX9_rate 99 = .ok (.ifCond .ne 7, 3) := by decide +kernel
theorem dX9_rate_102 : decode cX9_rate 102 = .ok (.lconst 1, 1) := by decide +kernel
theorem dX9_rate_103 : decode cX9_rate 103 = .ok (.goto 50, 3) := by decide +kernel
theorem dX9_rate_106 : decode cX9_rate 106 = .ok (.iload_n 1, 1) := by decide +kernel
theorem dX9_rate_107 : decode cX9_rate 107 = .ok (.iconst 1, 1) := by decide +kernel
theorem dX9_rate_108 : decode cX9_rate 108 = .ok (.if_icmp .ne 9, 3) := by decide +kernel
theorem dX9_rate_111 : decode cX9_rate 111 = .ok (.ldc2_w 217, 3) := by decide +kernel
theorem dX9_rate_114 : decode cX9_rate 114 = .ok (.goto 39, 3) := by decide +kernel
theorem dX9_rate_117 : decode cX9_rate 117 = .ok (.iload_n 1, 1) := by decide +kernel
theorem dX9_rate_118 : decode cX9_rate 118 = .ok (.iconst 2, 1) := by decide +kernel
theorem dX9_rate_119 : decode cX9_rate 119 = .ok (.if_icmp .ne 9, 3) := by decide +kernel
theorem dX9_rate_122 : decode cX9_rate 122 = .ok (.ldc2_w 219, 3) := by decide +kernel
theorem dX9_rate_125 : decode cX9_rate 125 = .ok (.goto 28, 3) := by decide +kernel
theorem dX9_rate_128 : decode cX9_rate 128 = .ok (.iload_n 1, 1) := by decide +kernel
theorem dX9_rate_129 : decode cX9_rate 129 = .ok (.iconst 3, 1) := by decide +kernel
theorem dX9_rate_130 : decode cX9_rate 130 = .ok (.if_icmp .ne 9, 3) := by decide +kernel
theorem dX9_rate_133 : decode cX9_rate 133 = .ok (.ldc2_w 221, 3) := by decide +kernel
theorem dX9_rate_136 : decode cX9_rate 136 = .ok (.goto 17, 3) := by decide +kernel
theorem dX9_rate_139 : decode cX9_rate 139 = .ok (.iload_n 1, 1) := by decide +kernel
theorem dX9_rate_140 : decode cX9_rate 140 = .ok (.iconst 4, 1) := by decide +kernel
theorem dX9_rate_141 : decode cX9_rate 141 = .ok (.if_icmp .ne 9, 3) := by decide +kernel
theorem dX9_rate_144 : decode cX9_rate 144 = .ok (.ldc2_w 223, 3) := by decide +kernel
theorem dX9_rate_147 : decode cX9_rate 147 = .ok (.goto 6, 3) := by decide +kernel
theorem dX9_rate_150 : decode cX9_rate 150 = .ok (.ldc2_w 225, 3) := by decide +kernel
theorem dX9_rate_153 : decode cX9_rate 153 = .ok (.ladd, 1) := by decide +kernel
theorem dX9_rate_154 : decode cX9_rate 154 = .ok (.putfield 213, 3) := by decide +kernel
theorem dX9_rate_157 : decode cX9_rate 157 = .ok (.iload_n 1, 1) := by decide +kernel
theorem dX9_rate_158 : decode cX9_rate 158 = .ok (.ifCond .ne 7, 3) := by decide +kernel
theorem dX9_rate_161 : decode cX9_rate 161 = .ok (.iload_n 3, 1) := by decide +kernel
theorem dX9_rate_162 : decode cX9_rate 162 = .ok (.goto 63, 3) := by decide +kernel
theorem dX9_rate_165 : decode cX9_rate 165 = .ok (.iload_n 1, 1) := by decide +kernel
theorem dX9_rate_166 : decode cX9_rate 166 = .ok (.iconst 1, 1) := by decide +kernel
theorem dX9_rate_167 : decode cX9_rate 167 = .ok (.if_icmp .ne 8, 3) := by decide +kernel
theorem dX9_rate_170 : decode cX9_rate 170 = .ok (.iload 4, 2) := by decide +kernel
theorem dX9_rate_172 : decode cX9_rate 172 = .ok (.goto 53, 3) := by decide +kernel
theorem dX9_rate_175 : decode cX9_rate 175 = .ok (.iload_n 1, 1) := by decide +kernel
theorem dX9_rate_176 : decode cX9_rate 176 = .ok (.iconst 2, 1) := by decide +kernel
theorem dX9_rate_177 : decode cX9_rate 177 = .ok (.if_icmp .ne 8, 3) := by decide +kernel
theorem dX9_rate_180 : decode cX9_rate 180 = .ok (.iload 5, 2) := by decide +kernel
theorem dX9_rate_182 : decode cX9_rate 182 = .ok (.goto 43, 3) := by decide +kernel
theorem dX9_rate_185 : decode cX9_rate 185 = .ok (.iload_n 1, 1) := by decide +kernel
theorem dX9_rate_186 : decode cX9_rate 186 = .ok (.iconst 3, 1) := by decide +kernel
theorem dX9_rate_187 : decode cX9_rate 187 = .ok (.if_icmp .ne 10, 3) := by decide +kernel
theorem dX9_rate_190 : decode cX9_rate 190 = .ok (.iconst 2, 1) := by decide +kernel
theorem dX9_rate_191 : decode cX9_rate 191 = .ok (.iload 4, 2) := by decide +kernel
theorem dX9_rate_193 : decode cX9_rate 193 = .ok (.imul, 1) := by decide +kernel
theorem dX9_rate_194 : decode cX9_rate 194 = .ok (.goto 31, 3) := by decide +kernel
theorem dX9_rate_197 : decode cX9_rate 197 = .ok (.iload_n 1, 1) := by decide +kernel
theorem dX9_rate_198 : decode cX9_rate 198 = .ok (.iconst 4, 1) := by decide +kernel
theorem dX9_rate_199 : decode cX9_rate 199 = .ok (.if_icmp .ne 10, 3) := by decide +kernel
theorem dX9_rate_202 : decode cX9_rate 202 = .ok (.iload 5, 2) := by decide +kernel
theorem dX9_rate_204 : decode cX9_rate 204 = .ok (.iload_n 2, 1) := by decide +kernel
theorem dX9_rate_205 : decode cX9_rate 205 = .ok (.iadd, 1) := by decide +kernel
theorem dX9_rate_206 : decode cX9_rate 206 = .ok (.goto 19, 3) := by decide +kernel
theorem dX9_rate_209 : decode cX9_rate 209 = .ok (.iload_n 3, 1) := by decide +kernel
theorem dX9_rate_210 : decode cX9_rate 210 = .ok (.aload_n 0, 1) := by decide +kernel
theorem dX9_rate_211 : decode cX9_rate 211 = .ok (.getfield 25, 3) := by decide +kernel
theorem dX9_rate_214 : decode cX9_rate 214 = .ok (.iload_n 2, 1) := by decide +kernel
theorem dX9_rate_215 : decode cX9_rate 215 = .ok (.iaload, 1) := by decide +kernel
theorem dX9_rate_216 : decode cX9_rate 216 = .ok (.aload_n 0, 1) := by decide +kernel
theorem dX9_rate_217 : decode cX9_rate 217 = .ok (.getfield 131, 3) := by decide +kernel
theorem dX9_rate_220 : decode cX9_rate 220 = .ok (.iand, 1) := by decide +kernel
theorem dX9_rate_221 : decode cX9_rate 221 = .ok (.invokestatic 118, 3) := by decide +kernel
theorem dX9_rate_224 : decode cX9_rate 224 = .ok (.iadd, 1) := by decide +kernel
theorem dX9_rate_225 : decode cX9_rate 225 = .ok (.ireturn, 1) := by decide +kernel
theorem dX9_keep_0 : decode cX9_keep 0 = .ok (.aload_n 0, 1) := by decide +kernel
theorem dX9_keep_1 : decode cX9_keep 1 = .ok (.iconst 0, 1) := by decide +kernel
theorem dX9_keep_2 : decode cX9_keep 2 = .ok (.putfield 44, 3) := by decide +kernel
theorem dX9_keep_5 : decode cX9_keep 5 = .ok (.iload_n 1, 1) := by decide +kernel
theorem dX9_keep_6 : decode cX9_keep 6 = .ok (.iconst 0, 1) := by decide +kernel
theorem dX9_keep_7 : decode cX9_keep 7 = .ok (.iconst 1, 1) := by decide +kernel
theorem dX9_keep_8 : decode cX9_keep 8 = .ok (.invokestatic 48, 3) := by decide +kernel
theorem dX9_keep_11 : decode cX9_keep 11 = .ok (.ifCond .ne 5, 3) := by decide +kernel
theorem dX9_keep_14 : decode cX9_keep 14 = .ok (.iconst (-1), 1) := by decide +kernel
theorem dX9_keep_15 : decode cX9_keep 15 = .ok (.ireturn, 1) := by decide +kernel
theorem dX9_keep_16 : decode cX9_keep 16 = .ok (.iconst 0, 1) := by decide +kernel
theorem dX9_keep_17 : decode cX9_keep 17 = .ok (.istore_n 2, 1) := by decide +kernel
theorem dX9_keep_18 : decode cX9_keep 18 = .ok (.iload_n 2, 1) := by decide +kernel
theorem dX9_keep_19 : decode cX9_keep 19 = .ok (.bipush 18, 2) := by decide +kernel
theorem dX9_keep_21 : decode cX9_keep 21 = .ok (.if_icmp .ge 26, 3) := by decide +kernel
theorem dX9_keep_24 : decode cX9_keep 24 = .ok (.aload_n 0, 1) := by decide +kernel
theorem dX9_keep_25 : decode cX9_keep 25 = .ok (.getfield 28, 3) := by decide +kernel
theorem dX9_keep_28 : decode cX9_keep 28 = .ok (.bipush 18, 2) := by decide +kernel
theorem dX9_keep_30 : decode cX9_keep 30 = .ok (.iload_n 1, 1) := by decide +kernel
theorem dX9_keep_31 : decode cX9_keep 31 = .ok (.imul, 1) := by decide +kernel
theorem dX9_keep_32 : decode cX9_keep 32 = .ok (.iload_n 2, 1) := by decide +kernel
theorem dX9_keep_33 : decode cX9_keep 33 = .ok (.iadd, 1) := by decide +kernel
theorem dX9_keep_34 : decode cX9_keep 34 = .ok (.aload_n 0, 1) := by decide +kernel
theorem dX9_keep_35 : decode cX9_keep 35 = .ok (.getfield 25, 3) := by decide +kernel
theorem dX9_keep_38 : decode cX9_keep 38 = .ok (.iload_n 2, 1) := by decide +kernel
theorem dX9_keep_39 : decode cX9_keep 39 = .ok (.iaload, 1) := by decide +kernel
theorem dX9_keep_40 : decode cX9_keep 40 = .ok (.iastore, 1) := by decide +kernel
theorem dX9_keep_41 : decode cX9_keep 41 = .ok (.iinc 2 1, 3) := by decide +kernel
theorem dX9_keep_44 : decode cX9_keep 44 = .ok (.goto (-26), 3) := by decide +kernel
theorem dX9_keep_47 : decode cX9_keep 47 = .ok (.aload_n 0, 1) := by decide +kernel
theorem dX9_keep_48 : decode cX9_keep 48 = .ok (.getfield 31, 3) := by decide +kernel
theorem dX9_keep_51 : decode cX9_keep 51 = .ok (.iload_n 1, 1) := by decide +kernel
theorem dX9_keep_52 : decode cX9_keep 52 = .ok (.iconst 1, 1) := by decide +kernel
theorem dX9_keep_53 : decode cX9_keep 53 = .ok (.bastore, 1) := by decide +kernel
theorem dX9_keep_54 : decode cX9_keep 54 = .ok (.aload_n 0, 1) := by decide +kernel
theorem dX9_keep_55 : decode cX9_keep 55 = .ok (.invokevirtual 173, 3) := by decide +kernel
theorem dX9_keep_58 : decode cX9_keep 58 = .ok (.invokestatic 118, 3) := by decide +kernel
theorem dX9_keep_61 : decode cX9_keep 61 = .ok (.ireturn, 1) := by decide +kernel
theorem dX9_back_0 : decode cX9_back 0 = .ok (.aload_n 0, 1) := by decide +kernel
theorem dX9_back_1 : decode cX9_back 1 = .ok (.iconst 0, 1) := by decide +kernel
theorem dX9_back_2 : decode cX9_back 2 = .ok (.putfield 44, 3) := by decide +kernel
theorem dX9_back_5 : decode cX9_back 5 = .ok (.iload_n 1, 1) := by decide +kernel
theorem dX9_back_6 : decode cX9_back 6 = .ok (.iconst 0, 1) := by decide +kernel
theorem dX9_back_7 : decode cX9_back 7 = .ok (.iconst 1, 1) := by decide +kernel
theorem dX9_back_8 : decode cX9_back 8 = .ok (.invokestatic 48, 3) := by decide +kernel
theorem dX9_back_11 : decode cX9_back 11 = .ok (.ifCond .ne 5, 3) := by decide +kernel
theorem dX9_back_14 : decode cX9_back 14 = .ok (.iconst (-1), 1) := by decide +kernel
theorem dX9_back_15 : decode cX9_back 15 = .ok (.ireturn, 1) := by decide +kernel
theorem dX9_back_16 : decode cX9_back 16 = .ok (.aload_n 0, 1) := by decide +kernel
theorem dX9_back_17 : decode cX9_back 17 = .ok (.getfield 31, 3) := by decide +kernel
theorem dX9_back_20 : decode cX9_back 20 = .ok (.iload_n 1, 1) := by decide +kernel
theorem dX9_back_21 : decode cX9_back 21 = .ok (.baload, 1) := by decide +kernel
theorem dX9_back_22 : decode cX9_back 22 = .ok (.ifCond .ne 6, 3) := by decide +kernel
theorem dX9_back_25 : decode cX9_back 25 = .ok (.bipush (-2), 2) := by decide +kernel
theorem dX9_back_27 : decode cX9_back 27 = .ok (.ireturn, 1) := by decide +kernel
theorem dX9_back_28 : decode cX9_back 28 = .ok (.iconst 0, 1) := by decide +kernel
theorem dX9_back_29 : decode cX9_back 29 = .ok (.istore_n 2, 1) := by decide +kernel
theorem dX9_back_30 : decode cX9_back 30 = .ok (.iload_n 2, 1) := by decide +kernel
theorem dX9_back_31 : decode cX9_back 31 = .ok (.bipush 18, 2) := by decide +kernel
theorem dX9_back_33 : decode cX9_back 33 = .ok (.if_icmp .ge 26, 3) := by decide +kernel
theorem dX9_back_36 : decode cX9_back 36 = .ok (.aload_n 0, 1) := by decide +kernel
theorem dX9_back_37 : decode cX9_back 37 = .ok (.getfield 25, 3) := by decide +kernel
theorem dX9_back_40 : decode cX9_back 40 = .ok (.iload_n 2, 1) := by decide +kernel
theorem dX9_back_41 : decode cX9_back 41 = .ok (.aload_n 0, 1) := by decide +kernel
theorem dX9_back_42 : decode cX9_back 42 = .ok (.getfield 28, 3) := by decide +kernel
theorem dX9_back_45 : decode cX9_back 45 = .ok (.bipush 18, 2) := by decide +kernel
theorem dX9_back_47 : decode cX9_back 47 = .ok (.iload_n 1, 1) := by decide +kernel
theorem dX9_back_48 : decode cX9_back 48 = .ok (.imul, 1) := by decide +kernel
theorem dX9_back_49 : decode cX9_back 49 = .ok (.iload_n 2, 1) := by decide +kernel
theorem dX9_back_50 : decode cX9_back 50 = .ok (.iadd, 1) := by decide +kernel
theorem dX9_back_51 : decode cX9_back 51 = .ok (.iaload, 1) := by decide +kernel
theorem dX9_back_52 : decode cX9_back 52 = .ok (.iastore, 1) := by decide +kernel
theorem dX9_back_53 : decode cX9_back 53 = .ok (.iinc 2 1, 3) := by decide +kernel
theorem dX9_back_56 : decode cX9_back 56 = .ok (.goto (-26), 3) := by decide +kernel
theorem dX9_back_59 : decode cX9_back 59 = .ok (.aload_n 0, 1) := by decide +kernel
theorem dX9_back_60 : decode cX9_back 60 = .ok (.iconst 0, 1) := by decide +kernel
theorem dX9_back_61 : decode cX9_back 61 = .ok (.putfield 143, 3) := by decide +kernel
theorem dX9_back_64 : decode cX9_back 64 = .ok (.aload_n 0, 1) := by decide +kernel
theorem dX9_back_65 : decode cX9_back 65 = .ok (.invokevirtual 173, 3) := by decide +kernel
theorem dX9_back_68 : decode cX9_back 68 = .ok (.invokestatic 118, 3) := by decide +kernel
theorem dX9_back_71 : decode cX9_back 71 = .ok (.ireturn, 1) := by decide +kernel
theorem dX9_count_0 : decode cX9_count 0 = .ok (.aload_n 0, 1) := by decide +kernel
theorem dX9_count_1 : decode cX9_count 1 = .ok (.iconst 0, 1) := by decide +kernel
theorem dX9_count_2 : decode cX9_count 2 = .ok (.putfield 44, 3) := by decide +kernel
theorem dX9_count_5 : decode cX9_count 5 = .ok (.iload_n 1, 1) := by decide +kernel
theorem dX9_count_6 : decode cX9_count 6 = .ok (.ifCond .ne 10, 3) := by decide +kernel
theorem dX9_count_9 : decode cX9_count 9 = .ok (.aload_n 0, 1) := by decide +kernel
theorem dX9_count_10 : decode cX9_count 10 = .ok (.getfield 134, 3) := by decide +kernel
theorem dX9_count_13 : decode cX9_count 13 = .ok (.goto 52, 3) := by decide +kernel
theorem dX9_count_16 : decode cX9_count 16 = .ok (.iload_n 1, 1) := by decide +kernel
theorem dX9_count_17 : decode cX9_count 17 = .ok (.iconst 1, 1) := by decide +kernel
theorem dX9_count_18 : decode cX9_count 18 = .ok (.if_icmp .ne 10, 3) := by decide +kernel
theorem dX9_count_21 : decode cX9_count 21 = .ok (.aload_n 0, 1) := by decide +kernel
theorem dX9_count_22 : decode cX9_count 22 = .ok (.getfield 137, 3) := by decide +kernel
theorem dX9_count_25 : decode cX9_count 25 = .ok (.goto 40, 3) := by decide +kernel
theorem dX9_count_28 : decode cX9_count 28 = .ok (.iload_n 1, 1) := by decide +kernel
theorem dX9_count_29 : decode cX9_count 29 = .ok (.iconst 2, 1) := by decide +kernel
theorem dX9_count_30 : decode cX9_count 30 = .ok (.if_icmp .ne 10, 3) := by decide +kernel
theorem dX9_count_33 : decode cX9_count 33 = .ok (.aload_n 0, 1) := by decide +kernel
theorem dX9_count_34 : decode cX9_count 34 = .ok (.getfield 140, 3) := by decide +kernel
theorem dX9_count_37 : decode cX9_count 37 = .ok (.goto 28, 3) := by decide +kernel
theorem dX9_count_40 : decode cX9_count 40 = .ok (.iload_n 1, 1) := by decide +kernel
theorem dX9_count_41 : decode cX9_count 41 = .ok (.iconst 3, 1) := by decide +kernel
theorem dX9_count_42 : decode cX9_count 42 = .ok (.if_icmp .ne 10, 3) := by decide +kernel
theorem dX9_count_45 : decode cX9_count 45 = .ok (.aload_n 0, 1) := by decide +kernel
theorem dX9_count_46 : decode cX9_count 46 = .ok (.getfield 146, 3) := by decide +kernel
theorem dX9_count_49 : decode cX9_count 49 = .ok (.goto 16, 3) := by decide +kernel
theorem dX9_count_52 : decode cX9_count 52 = .ok (.iload_n 1, 1) := by decide +kernel
theorem dX9_count_53 : decode cX9_count 53 = .ok (.iconst 4, 1) := by decide +kernel
theorem dX9_count_54 : decode cX9_count 54 = .ok (.if_icmp .ne 10, 3) := by decide +kernel
theorem dX9_count_57 : decode cX9_count 57 = .ok (.aload_n 0, 1) := by decide +kernel
theorem dX9_count_58 : decode cX9_count 58 = .ok (.getfield 52, 3) := by decide +kernel
theorem dX9_count_61 : decode cX9_count 61 = .ok (.goto 4, 3) := by decide +kernel
theorem dX9_count_64 : decode cX9_count 64 = .ok (.iconst (-1), 1) := by decide +kernel
theorem dX9_count_65 : decode cX9_count 65 = .ok (.ireturn, 1) := by decide +kernel
theorem dX9_trace_0 : decode cX9_trace 0 = .ok (.aload_n 0, 1) := by decide +kernel
theorem dX9_trace_1 : decode cX9_trace 1 = .ok (.iconst 0, 1) := by decide +kernel
theorem dX9_trace_2 : decode cX9_trace 2 = .ok (.putfield 44, 3) := by decide +kernel
theorem dX9_trace_5 : decode cX9_trace 5 = .ok (.aload_n 0, 1) := by decide +kernel
theorem dX9_trace_6 : decode cX9_trace 6 = .ok (.getfield 213, 3) := by decide +kernel
theorem dX9_trace_9 : decode cX9_trace 9 = .ok (.lreturn, 1) := by decide +kernel
theorem dJ6_bitCount_0f7a4_0 : decode cJ6_bitCount_0f7a4 0 = .ok (.iload_n 0, 1) := by decide +kernel
theorem dJ6_bitCount_0f7a4_1 : decode cJ6_bitCount_0f7a4 1 = .ok (.iload_n 0, 1) := by decide +kernel
theorem dJ6_bitCount_0f7a4_2 : decode cJ6_bitCount_0f7a4 2 = .ok (.iconst 1, 1) := by decide +kernel
theorem dJ6_bitCount_0f7a4_3 : decode cJ6_bitCount_0f7a4 3 = .ok (.iushr, 1) := by decide +kernel
theorem dJ6_bitCount_0f7a4_4 : decode cJ6_bitCount_0f7a4 4 = .ok (.ldc_w 265, 3) := by decide +kernel
theorem dJ6_bitCount_0f7a4_7 : decode cJ6_bitCount_0f7a4 7 = .ok (.iand, 1) := by decide +kernel
theorem dJ6_bitCount_0f7a4_8 : decode cJ6_bitCount_0f7a4 8 = .ok (.isub, 1) := by decide +kernel
theorem dJ6_bitCount_0f7a4_9 : decode cJ6_bitCount_0f7a4 9 = .ok (.istore_n 0, 1) := by decide +kernel
theorem dJ6_bitCount_0f7a4_10 : decode cJ6_bitCount_0f7a4 10 = .ok (.iload_n 0, 1) := by decide +kernel
theorem dJ6_bitCount_0f7a4_11 : decode cJ6_bitCount_0f7a4 11 = .ok (.ldc_w 266, 3) := by decide +kernel
theorem dJ6_bitCount_0f7a4_14 : decode cJ6_bitCount_0f7a4 14 = .ok (.iand, 1) := by decide +kernel
theorem dJ6_bitCount_0f7a4_15 : decode cJ6_bitCount_0f7a4 15 = .ok (.iload_n 0, 1) := by decide +kernel
theorem dJ6_bitCount_0f7a4_16 : decode cJ6_bitCount_0f7a4 16 = .ok (.iconst 2, 1) := by decide +kernel
theorem dJ6_bitCount_0f7a4_17 : decode cJ6_bitCount_0f7a4 17 = .ok (.iushr, 1) := by decide +kernel
theorem dJ6_bitCount_0f7a4_18 : decode cJ6_bitCount_0f7a4 18 = .ok (.ldc_w 266, 3) := by decide +kernel
theorem dJ6_bitCount_0f7a4_21 : decode cJ6_bitCount_0f7a4 21 = .ok (.iand, 1) := by decide +kernel
theorem dJ6_bitCount_0f7a4_22 : decode cJ6_bitCount_0f7a4 22 = .ok (.iadd, 1) := by decide +kernel
theorem dJ6_bitCount_0f7a4_23 : decode cJ6_bitCount_0f7a4 23 = .ok (.istore_n 0, 1) := by decide +kernel
theorem dJ6_bitCount_0f7a4_24 : decode cJ6_bitCount_0f7a4 24 = .ok (.iload_n 0, 1) := by decide +kernel
theorem dJ6_bitCount_0f7a4_25 : decode cJ6_bitCount_0f7a4 25 = .ok (.iload_n 0, 1) := by decide +kernel
theorem dJ6_bitCount_0f7a4_26 : decode cJ6_bitCount_0f7a4 26 = .ok (.iconst 4, 1) := by decide +kernel
theorem dJ6_bitCount_0f7a4_27 : decode cJ6_bitCount_0f7a4 27 = .ok (.iushr, 1) := by decide +kernel
theorem dJ6_bitCount_0f7a4_28 : decode cJ6_bitCount_0f7a4 28 = .ok (.iadd, 1) := by decide +kernel
theorem dJ6_bitCount_0f7a4_29 : decode cJ6_bitCount_0f7a4 29 = .ok (.ldc_w 267, 3) := by decide +kernel
theorem dJ6_bitCount_0f7a4_32 : decode cJ6_bitCount_0f7a4 32 = .ok (.iand, 1) := by decide +kernel
theorem dJ6_bitCount_0f7a4_33 : decode cJ6_bitCount_0f7a4 33 = .ok (.istore_n 0, 1) := by decide +kernel
theorem dJ6_bitCount_0f7a4_34 : decode cJ6_bitCount_0f7a4 34 = .ok (.iload_n 0, 1) := by decide +kernel
theorem dJ6_bitCount_0f7a4_35 : decode cJ6_bitCount_0f7a4 35 = .ok (.iload_n 0, 1) := by decide +kernel
theorem dJ6_bitCount_0f7a4_36 : decode cJ6_bitCount_0f7a4 36 = .ok (.bipush 8, 2) := by decide +kernel
theorem dJ6_bitCount_0f7a4_38 : decode cJ6_bitCount_0f7a4 38 = .ok (.iushr, 1) := by decide +kernel
theorem dJ6_bitCount_0f7a4_39 : decode cJ6_bitCount_0f7a4 39 = .ok (.iadd, 1) := by decide +kernel
theorem dJ6_bitCount_0f7a4_40 : decode cJ6_bitCount_0f7a4 40 = .ok (.istore_n 0, 1) := by decide +kernel
theorem dJ6_bitCount_0f7a4_41 : decode cJ6_bitCount_0f7a4 41 = .ok (.iload_n 0, 1) := by decide +kernel
theorem dJ6_bitCount_0f7a4_42 : decode cJ6_bitCount_0f7a4 42 = .ok (.iload_n 0, 1) := by decide +kernel
theorem dJ6_bitCount_0f7a4_43 : decode cJ6_bitCount_0f7a4 43 = .ok (.bipush 16, 2) := by decide +kernel
theorem dJ6_bitCount_0f7a4_45 : decode cJ6_bitCount_0f7a4 45 = .ok (.iushr, 1) := by decide +kernel
theorem dJ6_bitCount_0f7a4_46 : decode cJ6_bitCount_0f7a4 46 = .ok (.iadd, 1) := by decide +kernel
theorem dJ6_bitCount_0f7a4_47 : decode cJ6_bitCount_0f7a4 47 = .ok (.istore_n 0, 1) := by decide +kernel
theorem dJ6_bitCount_0f7a4_48 : decode cJ6_bitCount_0f7a4 48 = .ok (.iload_n 0, 1) := by decide +kernel
theorem dJ6_bitCount_0f7a4_49 : decode cJ6_bitCount_0f7a4 49 = .ok (.bipush 63, 2) := by decide +kernel
theorem dJ6_bitCount_0f7a4_51 : decode cJ6_bitCount_0f7a4 51 = .ok (.iand, 1) := by decide +kernel
theorem dJ6_bitCount_0f7a4_52 : decode cJ6_bitCount_0f7a4 52 = .ok (.ireturn, 1) := by decide +kernel
theorem dJ9_max_7cf53_0 : decode cJ9_max_7cf53 0 = .ok (.iload_n 0, 1) := by decide +kernel
theorem dJ9_max_7cf53_1 : decode cJ9_max_7cf53 1 = .ok (.iload_n 1, 1) := by decide +kernel
theorem dJ9_max_7cf53_2 : decode cJ9_max_7cf53 2 = .ok (.if_icmp .lt 7, 3) := by decide +kernel
theorem dJ9_max_7cf53_5 : decode cJ9_max_7cf53 5 = .ok (.iload_n 0, 1) := by decide +kernel
theorem dJ9_max_7cf53_6 : decode cJ9_max_7cf53 6 = .ok (.goto 4, 3) := by decide +kernel
theorem dJ9_max_7cf53_9 : decode cJ9_max_7cf53 9 = .ok (.iload_n 1, 1) := by decide +kernel
theorem dJ9_max_7cf53_10 : decode cJ9_max_7cf53 10 = .ok (.ireturn, 1) := by decide +kernel
theorem dJ9_max_f86c9_0 : decode cJ9_max_f86c9 0 = .ok (.lload_n 0, 1) := by decide +kernel
theorem dJ9_max_f86c9_1 : decode cJ9_max_f86c9 1 = .ok (.lload_n 2, 1) := by decide +kernel
theorem dJ9_max_f86c9_2 : decode cJ9_max_f86c9 2 = .ok (.lcmp, 1) := by decide +kernel
theorem dJ9_max_f86c9_3 : decode cJ9_max_f86c9 3 = .ok (.ifCond .lt 7, 3) := by decide +kernel
theorem dJ9_max_f86c9_6 : decode cJ9_max_f86c9 6 = .ok (.lload_n 0, 1) := by decide +kernel
theorem dJ9_max_f86c9_7 : decode cJ9_max_f86c9 7 = .ok (.goto 4, 3) := by decide +kernel
theorem dJ9_max_f86c9_10 : decode cJ9_max_f86c9 10 = .ok (.lload_n 2, 1) := by decide +kernel
theorem dJ9_max_f86c9_11 : decode cJ9_max_f86c9 11 = .ok (.lreturn, 1) := by decide +kernel
theorem dJ9_min_7cf53_0 : decode cJ9_min_7cf53 0 = .ok (.iload_n 0, 1) := by decide +kernel
theorem dJ9_min_7cf53_1 : decode cJ9_min_7cf53 1 = .ok (.iload_n 1, 1) := by decide +kernel
theorem dJ9_min_7cf53_2 : decode cJ9_min_7cf53 2 = .ok (.if_icmp .gt 7, 3) := by decide +kernel
theorem dJ9_min_7cf53_5 : decode cJ9_min_7cf53 5 = .ok (.iload_n 0, 1) := by decide +kernel
theorem dJ9_min_7cf53_6 : decode cJ9_min_7cf53 6 = .ok (.goto 4, 3) := by decide +kernel
theorem dJ9_min_7cf53_9 : decode cJ9_min_7cf53 9 = .ok (.iload_n 1, 1) := by decide +kernel
theorem dJ9_min_7cf53_10 : decode cJ9_min_7cf53 10 = .ok (.ireturn, 1) := by decide +kernel
theorem dJ0_length_8abf5_0 : decode cJ0_length_8abf5 0 = .ok (.aload_n 0, 1) := by decide +kernel
theorem dJ0_length_8abf5_1 : decode cJ0_length_8abf5 1 = .ok (.getfield 9, 3) := by decide +kernel
theorem dJ0_length_8abf5_4 : decode cJ0_length_8abf5 4 = .ok (.arraylength, 1) := by decide +kernel
theorem dJ0_length_8abf5_5 : decode cJ0_length_8abf5 5 = .ok (.aload_n 0, 1) := by decide +kernel
theorem dJ0_length_8abf5_6 : decode cJ0_length_8abf5 6 = .ok (.invokevirtual 335, 3) := by decide +kernel
theorem dJ0_length_8abf5_9 : decode cJ0_length_8abf5 9 = .ok (.ishr, 1) := by decide +kernel
theorem dJ0_length_8abf5_10 : decode cJ0_length_8abf5 10 = .ok (.ireturn, 1) := by decide +kernel
theorem dJ0_charAt_5068e_0 : decode cJ0_charAt_5068e 0 = .ok (.aload_n 0, 1) := by decide +kernel
theorem dJ0_charAt_5068e_1 : decode cJ0_charAt_5068e 1 = .ok (.invokevirtual 492, 3) := by decide +kernel
theorem dJ0_charAt_5068e_4 : decode cJ0_charAt_5068e 4 = .ok (.ifCond .eq 12, 3) := by decide +kernel
theorem dJ0_charAt_5068e_7 : decode cJ0_charAt_5068e 7 = .ok (.aload_n 0, 1) := by decide +kernel
theorem dJ0_charAt_5068e_8 : decode cJ0_charAt_5068e 8 = .ok (.getfield 9, 3) := by decide +kernel
theorem dJ0_charAt_5068e_11 : decode cJ0_charAt_5068e 11 = .ok (.iload_n 1, 1) := by decide +kernel
theorem dJ0_charAt_5068e_12 : decode cJ0_charAt_5068e 12 = .ok (.invokestatic 495, 3) := by decide +kernel
theorem dJ0_charAt_5068e_15 : decode cJ0_charAt_5068e 15 = .ok (.ireturn, 1) := by decide +kernel
theorem dJ0_charAt_5068e_16 : decode cJ0_charAt_5068e 16 = .ok (.aload_n 0, 1) := by decide +kernel
theorem dJ0_charAt_5068e_17 : decode cJ0_charAt_5068e 17 = .ok (.getfield 9, 3) := by decide +kernel
theorem dJ0_charAt_5068e_20 : decode cJ0_charAt_5068e 20 = .ok (.iload_n 1, 1) := by decide +kernel
theorem dJ0_charAt_5068e_21 : decode cJ0_charAt_5068e 21 = .ok (.invokestatic 498, 3) := by decide +kernel
theorem dJ0_charAt_5068e_24 : decode cJ0_charAt_5068e 24 = .ok (.ireturn, 1) := by decide +kernel
theorem dJ0_coder_7d493_0 : decode cJ0_coder_7d493 0 = .ok (.getstatic 38, 3) := by decide +kernel
theorem dJ0_coder_7d493_3 : decode cJ0_coder_7d493 3 = .ok (.ifCond .eq 10, 3) := by decide +kernel
theorem dJ0_coder_7d493_6 : decode cJ0_coder_7d493 6 = .ok (.aload_n 0, 1) := by decide +kernel
theorem dJ0_coder_7d493_7 : decode cJ0_coder_7d493 7 = .ok (.getfield 15, 3) := by decide +kernel
theorem dJ0_coder_7d493_10 : decode cJ0_coder_7d493 10 = .ok (.goto 4, 3) := by decide +kernel
theorem dJ0_coder_7d493_13 : decode cJ0_coder_7d493 13 = .ok (.iconst 1, 1) := by decide +kernel
theorem dJ0_coder_7d493_14 : decode cJ0_coder_7d493 14 = .ok (.ireturn, 1) := by decide +kernel
theorem dJ0_isLatin1_aae02_0 : decode cJ0_isLatin1_aae02 0 = .ok (.getstatic 38, 3) := by decide +kernel
theorem dJ0_isLatin1_aae02_3 : decode cJ0_isLatin1_aae02 3 = .ok (.ifCond .eq 14, 3) := by decide +kernel
theorem dJ0_isLatin1_aae02_6 : decode cJ0_isLatin1_aae02 6 = .ok (.aload_n 0, 1) := by decide +kernel
theorem dJ0_isLatin1_aae02_7 : decode cJ0_isLatin1_aae02 7 = .ok (.getfield 15, 3) := by decide +kernel
theorem dJ0_isLatin1_aae02_10 : decode cJ0_isLatin1_aae02 10 = .ok (.ifCond .ne 7, 3) := by decide +kernel
theorem dJ0_isLatin1_aae02_13 : decode cJ0_isLatin1_aae02 13 = .ok (.iconst 1, 1) := by decide +kernel
theorem dJ0_isLatin1_aae02_14 : decode cJ0_isLatin1_aae02 14 = .ok (.goto 4, 3) := by decide +kernel
theorem dJ0_isLatin1_aae02_17 : decode cJ0_isLatin1_aae02 17 = .ok (.iconst 0, 1) := by decide +kernel
theorem dJ0_isLatin1_aae02_18 : decode cJ0_isLatin1_aae02 18 = .ok (.ireturn, 1) := by decide +kernel
theorem dJ0_checkIndex_df160_0 : decode cJ0_checkIndex_df160 0 = .ok (.iload_n 0, 1) := by decide +kernel
theorem dJ0_checkIndex_df160_1 : decode cJ0_checkIndex_df160 1 = .ok (.iload_n 1, 1) := by decide +kernel
theorem dJ0_checkIndex_df160_2 : decode cJ0_checkIndex_df160 2 = .ok (.getstatic 1053, 3) := by decide +kernel
theorem dJ0_checkIndex_df160_5 : decode cJ0_checkIndex_df160 5 = .ok (.invokestatic 1059, 3) := by decide +kernel
theorem dJ0_checkIndex_df160_8 : decode cJ0_checkIndex_df160 8 = .ok (.pop, 1) := by decide +kernel
theorem dJ0_checkIndex_df160_9 : decode cJ0_checkIndex_df160 9 = .ok (.return_, 1) := by decide +kernel
theorem dJ1_charAt_3b067_0 : decode cJ1_charAt_3b067 0 = .ok (.iload_n 1, 1) := by decide +kernel
theorem dJ1_charAt_3b067_1 : decode cJ1_charAt_3b067 1 = .ok (.aload_n 0, 1) := by decide +kernel
theorem dJ1_charAt_3b067_2 : decode cJ1_charAt_3b067 2 = .ok (.arraylength, 1) := by decide +kernel
theorem dJ1_charAt_3b067_3 : decode cJ1_charAt_3b067 3 = .ok (.invokestatic 9, 3) := by decide +kernel
theorem dJ1_charAt_3b067_6 : decode cJ1_charAt_3b067 6 = .ok (.aload_n 0, 1) := by decide +kernel
theorem dJ1_charAt_3b067_7 : decode cJ1_charAt_3b067 7 = .ok (.iload_n 1, 1) := by decide +kernel
theorem dJ1_charAt_3b067_8 : decode cJ1_charAt_3b067 8 = .ok (.baload, 1) := by decide +kernel
theorem dJ1_charAt_3b067_9 : decode cJ1_charAt_3b067 9 = .ok (.sipush 255, 3) := by decide +kernel
theorem dJ1_charAt_3b067_12 : decode cJ1_charAt_3b067 12 = .ok (.iand, 1) := by decide +kernel
theorem dJ1_charAt_3b067_13 : decode cJ1_charAt_3b067 13 = .ok (.i2c, 1) := by decide +kernel
theorem dJ1_charAt_3b067_14 : decode cJ1_charAt_3b067 14 = .ok (.ireturn, 1) := by decide +kernel
theorem dJ2_getChar_3b067_0 : decode cJ2_getChar_3b067 0 = .ok (.getstatic 44, 3) := by decide +kernel
theorem dJ2_getChar_3b067_3 : decode cJ2_getChar_3b067 3 = .ok (.ifCond .ne 25, 3) := by decide +kernel
theorem dJ2_getChar_3b067_6 : decode cJ2_getChar_3b067 6 = .ok (.iload_n 1, 1) := by decide +kernel
theorem dJ2_getChar_3b067_7 : decode cJ2_getChar_3b067 7 = .ok (.ifCond .lt 11, 3) := by decide +kernel
theorem dJ2_getChar_3b067_10 : decode cJ2_getChar_3b067 10 = .ok (.iload_n 1, 1) := by decide +kernel
theorem dJ2_getChar_3b067_11 : decode cJ2_getChar_3b067 11 = .ok (.aload_n 0, 1) := by decide +kernel
theorem dJ2_getChar_3b067_12 : decode cJ2_getChar_3b067 12 = .ok (.invokestatic 48, 3) := by decide +kernel
theorem dJ2_getChar_3b067_15 : decode cJ2_getChar_3b067 15 = .ok (.if_icmp .lt 13, 3) := by decide +kernel
theorem dJ2_getChar_3b067_18 : decode cJ2_getChar_3b067 18 = .ok (.new 52, 3) := by decide +kernel
theorem dJ2_getChar_3b067_21 : decode cJ2_getChar_3b067 21 = .ok (.dup, 1) := by decide +kernel
theorem dJ2_getChar_3b067_22 : decode cJ2_getChar_3b067 22 = .ok (.ldc 54, 2) := by decide +kernel
theorem dJ2_getChar_3b067_24 : decode cJ2_getChar_3b067 24 = .ok (.invokespecial 56, 3) := by decide +kernel
theorem dJ2_getChar_3b067_27 : decode cJ2_getChar_3b067 27 = .ok (.athrow, 1) := by decide +kernel
theorem dJ2_getChar_3b067_28 : decode cJ2_getChar_3b067 28 = .ok (.iload_n 1, 1) := by decide +kernel
theorem dJ2_getChar_3b067_29 : decode cJ2_getChar_3b067 29 = .ok (.iconst 1, 1) := by decide +kernel
theorem dJ2_getChar_3b067_30 : decode cJ2_getChar_3b067 30 = .ok (.ishl, 1) := by decide +kernel
theorem dJ2_getChar_3b067_31 : decode cJ2_getChar_3b067 31 = .ok (.istore_n 1, 1) := by decide +kernel
theorem dJ2_getChar_3b067_32 : decode cJ2_getChar_3b067 32 = .ok (.aload_n 0, 1) := by decide +kernel
theorem dJ2_getChar_3b067_33 : decode cJ2_getChar_3b067 33 = .ok (.iload_n 1, 1) := by decide +kernel
theorem dJ2_getChar_3b067_34 : decode cJ2_getChar_3b067 34 = .ok (.iinc 1 1, 3) := by decide +kernel
theorem dJ2_getChar_3b067_37 : decode cJ2_getChar_3b067 37 = .ok (.baload, 1) := by decide +kernel
theorem dJ2_getChar_3b067_38 : decode cJ2_getChar_3b067 38 = .ok (.sipush 255, 3) := by decide +kernel
theorem dJ2_getChar_3b067_41 : decode cJ2_getChar_3b067 41 = .ok (.iand, 1) := by decide +kernel
theorem dJ2_getChar_3b067_42 : decode cJ2_getChar_3b067 42 = .ok (.getstatic 59, 3) := by decide +kernel
end
section
theorem dJ2_getChar_3b067_45 : decode cJ2_getChar_3b067 45 = .ok (.ishl, 1) := by decide +kernel
theorem dJ2_getChar_3b067_46 : decode cJ2_getChar_3b067 46 = .ok (.aload_n 0, 1) := by decide +kernel
theorem dJ2_getChar_3b067_47 : decode cJ2_getChar_3b067 47 = .ok (.iload_n 1, 1) := by decide +kernel
theorem dJ2_getChar_3b067_48 : decode cJ2_getChar_3b067 48 = .ok (.baload, 1) := by decide +kernel
theorem dJ2_getChar_3b067_49 : decode cJ2_getChar_3b067 49 = .ok (.sipush 255, 3) := by decide +kernel
theorem dJ2_getChar_3b067_52 : decode cJ2_getChar_3b067 52 = .ok (.iand, 1) := by decide +kernel
theorem dJ2_getChar_3b067_53 : decode cJ2_getChar_3b067 53 = .ok (.getstatic 63, 3) := by decide +kernel
theorem dJ2_getChar_3b067_56 : decode cJ2_getChar_3b067 56 = .ok (.ishl, 1) := by decide +kernel
theorem dJ2_getChar_3b067_57 : decode cJ2_getChar_3b067 57 = .ok (.ior, 1) := by decide +kernel
theorem dJ2_getChar_3b067_58 : decode cJ2_getChar_3b067 58 = .ok (.i2c, 1) := by decide +kernel
theorem dJ2_getChar_3b067_59 : decode cJ2_getChar_3b067 59 = .ok (.ireturn, 1) := by decide +kernel
theorem dJ2_length_9d52b_0 : decode cJ2_length_9d52b 0 = .ok (.aload_n 0, 1) := by decide +kernel
theorem dJ2_length_9d52b_1 : decode cJ2_length_9d52b 1 = .ok (.arraylength, 1) := by decide +kernel
theorem dJ2_length_9d52b_2 : decode cJ2_length_9d52b 2 = .ok (.iconst 1, 1) := by decide +kernel
theorem dJ2_length_9d52b_3 : decode cJ2_length_9d52b 3 = .ok (.ishr, 1) := by decide +kernel
theorem dJ2_length_9d52b_4 : decode cJ2_length_9d52b 4 = .ok (.ireturn, 1) := by decide +kernel
theorem dJ2_charAt_3b067_0 : decode cJ2_charAt_3b067 0 = .ok (.iload_n 1, 1) := by decide +kernel
theorem dJ2_charAt_3b067_1 : decode cJ2_charAt_3b067 1 = .ok (.aload_n 0, 1) := by decide +kernel
theorem dJ2_charAt_3b067_2 : decode cJ2_charAt_3b067 2 = .ok (.invokestatic 67, 3) := by decide +kernel
theorem dJ2_charAt_3b067_5 : decode cJ2_charAt_3b067 5 = .ok (.aload_n 0, 1) := by decide +kernel
theorem dJ2_charAt_3b067_6 : decode cJ2_charAt_3b067 6 = .ok (.iload_n 1, 1) := by decide +kernel
theorem dJ2_charAt_3b067_7 : decode cJ2_charAt_3b067 7 = .ok (.invokestatic 71, 3) := by decide +kernel
theorem dJ2_charAt_3b067_10 : decode cJ2_charAt_3b067 10 = .ok (.ireturn, 1) := by decide +kernel
theorem dJ2_checkIndex_2214a_0 : decode cJ2_checkIndex_2214a 0 = .ok (.iload_n 0, 1) := by decide +kernel
theorem dJ2_checkIndex_2214a_1 : decode cJ2_checkIndex_2214a 1 = .ok (.aload_n 1, 1) := by decide +kernel
theorem dJ2_checkIndex_2214a_2 : decode cJ2_checkIndex_2214a 2 = .ok (.invokestatic 48, 3) := by decide +kernel
theorem dJ2_checkIndex_2214a_5 : decode cJ2_checkIndex_2214a 5 = .ok (.invokestatic 414, 3) := by decide +kernel
theorem dJ2_checkIndex_2214a_8 : decode cJ2_checkIndex_2214a 8 = .ok (.return_, 1) := by decide +kernel
theorem dJ3_checkIndex_8e157_0 : decode cJ3_checkIndex_8e157 0 = .ok (.iload_n 0, 1) := by decide +kernel
theorem dJ3_checkIndex_8e157_1 : decode cJ3_checkIndex_8e157 1 = .ok (.ifCond .lt 8, 3) := by decide +kernel
theorem dJ3_checkIndex_8e157_4 : decode cJ3_checkIndex_8e157 4 = .ok (.iload_n 0, 1) := by decide +kernel
theorem dJ3_checkIndex_8e157_5 : decode cJ3_checkIndex_8e157 5 = .ok (.iload_n 1, 1) := by decide +kernel
theorem dJ3_checkIndex_8e157_6 : decode cJ3_checkIndex_8e157 6 = .ok (.if_icmp .lt 10, 3) := by decide +kernel
theorem dJ3_checkIndex_8e157_9 : decode cJ3_checkIndex_8e157 9 = .ok (.aload_n 2, 1) := by decide +kernel
theorem dJ3_checkIndex_8e157_10 : decode cJ3_checkIndex_8e157 10 = .ok (.iload_n 0, 1) := by decide +kernel
theorem dJ3_checkIndex_8e157_11 : decode cJ3_checkIndex_8e157 11 = .ok (.iload_n 1, 1) := by decide +kernel
theorem dJ3_checkIndex_8e157_12 : decode cJ3_checkIndex_8e157 12 = .ok (.invokestatic 95, 3) := by decide +kernel
theorem dJ3_checkIndex_8e157_15 : decode cJ3_checkIndex_8e157 15 = .ok (.athrow, 1) := by decide +kernel
theorem dJ3_checkIndex_8e157_16 : decode cJ3_checkIndex_8e157 16 = .ok (.iload_n 0, 1) := by decide +kernel
theorem dJ3_checkIndex_8e157_17 : decode cJ3_checkIndex_8e157 17 = .ok (.ireturn, 1) := by decide +kernel
end
section
theorem dL_law_0 : decode cL_law 0 = .ok (.new 7, 3) := by decide +kernel
theorem dL_law_3 : decode cL_law 3 = .ok (.dup, 1) := by decide +kernel
theorem dL_law_4 : decode cL_law 4 = .ok (.invokespecial 9, 3) := by decide +kernel
theorem dL_law_7 : decode cL_law 7 = .ok (.astore_n 1, 1) := by decide +kernel
theorem dL_law_8 : decode cL_law 8 = .ok (.new 10, 3) := by decide +kernel
theorem dL_law_11 : decode cL_law 11 = .ok (.dup, 1) := by decide +kernel
theorem dL_law_12 : decode cL_law 12 = .ok (.invokespecial 12, 3) := by decide +kernel
theorem dL_law_15 : decode cL_law 15 = .ok (.astore_n 2, 1) := by decide +kernel
theorem dL_law_16 : decode cL_law 16 = .ok (.iconst 0, 1) := by decide +kernel
theorem dL_law_17 : decode cL_law 17 = .ok (.istore_n 3, 1) := by decide +kernel
theorem dL_law_18 : decode cL_law 18 = .ok (.iload_n 3, 1) := by decide +kernel
theorem dL_law_19 : decode cL_law 19 = .ok (.aload_n 0, 1) := by decide +kernel
theorem dL_law_20 : decode cL_law 20 = .ok (.arraylength, 1) := by decide +kernel
theorem dL_law_21 : decode cL_law 21 = .ok (.iconst 4, 1) := by decide +kernel
theorem dL_law_22 : decode cL_law 22 = .ok (.isub, 1) := by decide +kernel
theorem dL_law_23 : decode cL_law 23 = .ok (.if_icmp .gt 865, 3) := by decide +kernel
theorem dL_law_26 : decode cL_law 26 = .ok (.aload_n 0, 1) := by decide +kernel
theorem dL_law_27 : decode cL_law 27 = .ok (.iload_n 3, 1) := by decide +kernel
theorem dL_law_28 : decode cL_law 28 = .ok (.iaload, 1) := by decide +kernel
theorem dL_law_29 : decode cL_law 29 = .ok (.bipush 31, 2) := by decide +kernel
theorem dL_law_31 : decode cL_law 31 = .ok (.iand, 1) := by decide +kernel
theorem dL_law_32 : decode cL_law 32 = .ok (.tableswitch 850 0 25 #[120, 183, 196, 209, 242, 275, 308, 341, 374, 407, 450, 463, 486, 519, 552, 575, 608, 652, 685, 698, 711, 734, 767, 790, 813, 836], 120) := by decide +kernel
theorem dL_law_152 : decode cL_law 152 = .ok (.aload_n 1, 1) := by decide +kernel
theorem dL_law_153 : decode cL_law 153 = .ok (.aload_n 0, 1) := by decide +kernel
theorem dL_law_154 : decode cL_law 154 = .ok (.iload_n 3, 1) := by decide +kernel
theorem dL_law_155 : decode cL_law 155 = .ok (.iconst 1, 1) := by decide +kernel
theorem dL_law_156 : decode cL_law 156 = .ok (.iadd, 1) := by decide +kernel
theorem dL_law_157 : decode cL_law 157 = .ok (.iaload, 1) := by decide +kernel
theorem dL_law_158 : decode cL_law 158 = .ok (.i2l, 1) := by decide +kernel
theorem dL_law_159 : decode cL_law 159 = .ok (.bipush 32, 2) := by decide +kernel
theorem dL_law_161 : decode cL_law 161 = .ok (.lshl, 1) := by decide +kernel
theorem dL_law_162 : decode cL_law 162 = .ok (.aload_n 0, 1) := by decide +kernel
theorem dL_law_163 : decode cL_law 163 = .ok (.iload_n 3, 1) := by decide +kernel
theorem dL_law_164 : decode cL_law 164 = .ok (.iconst 2, 1) := by decide +kernel
theorem dL_law_165 : decode cL_law 165 = .ok (.iadd, 1) := by decide +kernel
theorem dL_law_166 : decode cL_law 166 = .ok (.iaload, 1) := by decide +kernel
theorem dL_law_167 : decode cL_law 167 = .ok (.i2l, 1) := by decide +kernel
theorem dL_law_168 : decode cL_law 168 = .ok (.ldc2_w 13, 3) := by decide +kernel
theorem dL_law_171 : decode cL_law 171 = .ok (.land, 1) := by decide +kernel
theorem dL_law_172 : decode cL_law 172 = .ok (.lor, 1) := by decide +kernel
theorem dL_law_173 : decode cL_law 173 = .ok (.aload_n 0, 1) := by decide +kernel
theorem dL_law_174 : decode cL_law 174 = .ok (.iload_n 3, 1) := by decide +kernel
theorem dL_law_175 : decode cL_law 175 = .ok (.iconst 3, 1) := by decide +kernel
theorem dL_law_176 : decode cL_law 176 = .ok (.iadd, 1) := by decide +kernel
theorem dL_law_177 : decode cL_law 177 = .ok (.iaload, 1) := by decide +kernel
theorem dL_law_178 : decode cL_law 178 = .ok (.invokevirtual 15, 3) := by decide +kernel
theorem dL_law_181 : decode cL_law 181 = .ok (.aload_n 2, 1) := by decide +kernel
theorem dL_law_182 : decode cL_law 182 = .ok (.aload_n 0, 1) := by decide +kernel
theorem dL_law_183 : decode cL_law 183 = .ok (.iload_n 3, 1) := by decide +kernel
theorem dL_law_184 : decode cL_law 184 = .ok (.iconst 1, 1) := by decide +kernel
theorem dL_law_185 : decode cL_law 185 = .ok (.iadd, 1) := by decide +kernel
theorem dL_law_186 : decode cL_law 186 = .ok (.iaload, 1) := by decide +kernel
theorem dL_law_187 : decode cL_law 187 = .ok (.i2l, 1) := by decide +kernel
theorem dL_law_188 : decode cL_law 188 = .ok (.bipush 32, 2) := by decide +kernel
theorem dL_law_190 : decode cL_law 190 = .ok (.lshl, 1) := by decide +kernel
theorem dL_law_191 : decode cL_law 191 = .ok (.aload_n 0, 1) := by decide +kernel
theorem dL_law_192 : decode cL_law 192 = .ok (.iload_n 3, 1) := by decide +kernel
theorem dL_law_193 : decode cL_law 193 = .ok (.iconst 2, 1) := by decide +kernel
theorem dL_law_194 : decode cL_law 194 = .ok (.iadd, 1) := by decide +kernel
theorem dL_law_195 : decode cL_law 195 = .ok (.iaload, 1) := by decide +kernel
theorem dL_law_196 : decode cL_law 196 = .ok (.i2l, 1) := by decide +kernel
theorem dL_law_197 : decode cL_law 197 = .ok (.ldc2_w 13, 3) := by decide +kernel
theorem dL_law_200 : decode cL_law 200 = .ok (.land, 1) := by decide +kernel
theorem dL_law_201 : decode cL_law 201 = .ok (.lor, 1) := by decide +kernel
theorem dL_law_202 : decode cL_law 202 = .ok (.aload_n 0, 1) := by decide +kernel
theorem dL_law_203 : decode cL_law 203 = .ok (.iload_n 3, 1) := by decide +kernel
theorem dL_law_204 : decode cL_law 204 = .ok (.iconst 3, 1) := by decide +kernel
theorem dL_law_205 : decode cL_law 205 = .ok (.iadd, 1) := by decide +kernel
theorem dL_law_206 : decode cL_law 206 = .ok (.iaload, 1) := by decide +kernel
theorem dL_law_207 : decode cL_law 207 = .ok (.invokevirtual 19, 3) := by decide +kernel
theorem dL_law_210 : decode cL_law 210 = .ok (.if_icmp .eq 672, 3) := by decide +kernel
theorem dL_law_213 : decode cL_law 213 = .ok (.iconst 0, 1) := by decide +kernel
theorem dL_law_214 : decode cL_law 214 = .ok (.ireturn, 1) := by decide +kernel
theorem dL_law_215 : decode cL_law 215 = .ok (.aload_n 1, 1) := by decide +kernel
theorem dL_law_216 : decode cL_law 216 = .ok (.invokevirtual 20, 3) := by decide +kernel
theorem dL_law_219 : decode cL_law 219 = .ok (.aload_n 2, 1) := by decide +kernel
theorem dL_law_220 : decode cL_law 220 = .ok (.invokevirtual 24, 3) := by decide +kernel
theorem dL_law_223 : decode cL_law 223 = .ok (.if_icmp .eq 659, 3) := by decide +kernel
theorem dL_law_226 : decode cL_law 226 = .ok (.iconst 0, 1) := by decide +kernel
theorem dL_law_227 : decode cL_law 227 = .ok (.ireturn, 1) := by decide +kernel
theorem dL_law_228 : decode cL_law 228 = .ok (.aload_n 1, 1) := by decide +kernel
theorem dL_law_229 : decode cL_law 229 = .ok (.invokevirtual 25, 3) := by decide +kernel
theorem dL_law_232 : decode cL_law 232 = .ok (.aload_n 2, 1) := by decide +kernel
theorem dL_law_233 : decode cL_law 233 = .ok (.invokevirtual 28, 3) := by decide +kernel
theorem dL_law_236 : decode cL_law 236 = .ok (.if_icmp .eq 646, 3) := by decide +kernel
theorem dL_law_239 : decode cL_law 239 = .ok (.iconst 0, 1) := by decide +kernel
theorem dL_law_240 : decode cL_law 240 = .ok (.ireturn, 1) := by decide +kernel
theorem dL_law_241 : decode cL_law 241 = .ok (.aload_n 1, 1) := by decide +kernel
theorem dL_law_242 : decode cL_law 242 = .ok (.aload_n 0, 1) := by decide +kernel
theorem dL_law_243 : decode cL_law 243 = .ok (.iload_n 3, 1) := by decide +kernel
theorem dL_law_244 : decode cL_law 244 = .ok (.iconst 1, 1) := by decide +kernel
theorem dL_law_245 : decode cL_law 245 = .ok (.iadd, 1) := by decide +kernel
theorem dL_law_246 : decode cL_law 246 = .ok (.iaload, 1) := by decide +kernel
theorem dL_law_247 : decode cL_law 247 = .ok (.aload_n 0, 1) := by decide +kernel
theorem dL_law_248 : decode cL_law 248 = .ok (.iload_n 3, 1) := by decide +kernel
theorem dL_law_249 : decode cL_law 249 = .ok (.iconst 2, 1) := by decide +kernel
theorem dL_law_250 : decode cL_law 250 = .ok (.iadd, 1) := by decide +kernel
theorem dL_law_251 : decode cL_law 251 = .ok (.iaload, 1) := by decide +kernel
theorem dL_law_252 : decode cL_law 252 = .ok (.invokevirtual 29, 3) := by decide +kernel
theorem dL_law_255 : decode cL_law 255 = .ok (.aload_n 2, 1) := by decide +kernel
theorem dL_law_256 : decode cL_law 256 = .ok (.aload_n 0, 1) := by decide +kernel
theorem dL_law_257 : decode cL_law 257 = .ok (.iload_n 3, 1) := by decide +kernel
theorem dL_law_258 : decode cL_law 258 = .ok (.iconst 1, 1) := by decide +kernel
theorem dL_law_259 : decode cL_law 259 = .ok (.iadd, 1) := by decide +kernel
theorem dL_law_260 : decode cL_law 260 = .ok (.iaload, 1) := by decide +kernel
theorem dL_law_261 : decode cL_law 261 = .ok (.aload_n 0, 1) := by decide +kernel
theorem dL_law_262 : decode cL_law 262 = .ok (.iload_n 3, 1) := by decide +kernel
theorem dL_law_263 : decode cL_law 263 = .ok (.iconst 2, 1) := by decide +kernel
theorem dL_law_264 : decode cL_law 264 = .ok (.iadd, 1) := by decide +kernel
theorem dL_law_265 : decode cL_law 265 = .ok (.iaload, 1) := by decide +kernel
theorem dL_law_266 : decode cL_law 266 = .ok (.invokevirtual 33, 3) := by decide +kernel
theorem dL_law_269 : decode cL_law 269 = .ok (.if_icmp .eq 613, 3) := by decide +kernel
theorem dL_law_272 : decode cL_law 272 = .ok (.iconst 0, 1) := by decide +kernel
theorem dL_law_273 : decode cL_law 273 = .ok (.ireturn, 1) := by decide +kernel
theorem dL_law_274 : decode cL_law 274 = .ok (.aload_n 1, 1) := by decide +kernel
theorem dL_law_275 : decode cL_law 275 = .ok (.aload_n 0, 1) := by decide +kernel
theorem dL_law_276 : decode cL_law 276 = .ok (.iload_n 3, 1) := by decide +kernel
theorem dL_law_277 : decode cL_law 277 = .ok (.iconst 1, 1) := by decide +kernel
theorem dL_law_278 : decode cL_law 278 = .ok (.iadd, 1) := by decide +kernel
theorem dL_law_279 : decode cL_law 279 = .ok (.iaload, 1) := by decide +kernel
theorem dL_law_280 : decode cL_law 280 = .ok (.aload_n 0, 1) := by decide +kernel
theorem dL_law_281 : decode cL_law 281 = .ok (.iload_n 3, 1) := by decide +kernel
theorem dL_law_282 : decode cL_law 282 = .ok (.iconst 2, 1) := by decide +kernel
theorem dL_law_283 : decode cL_law 283 = .ok (.iadd, 1) := by decide +kernel
theorem dL_law_284 : decode cL_law 284 = .ok (.iaload, 1) := by decide +kernel
theorem dL_law_285 : decode cL_law 285 = .ok (.invokevirtual 34, 3) := by decide +kernel
theorem dL_law_288 : decode cL_law 288 = .ok (.aload_n 2, 1) := by decide +kernel
theorem dL_law_289 : decode cL_law 289 = .ok (.aload_n 0, 1) := by decide +kernel
theorem dL_law_290 : decode cL_law 290 = .ok (.iload_n 3, 1) := by decide +kernel
theorem dL_law_291 : decode cL_law 291 = .ok (.iconst 1, 1) := by decide +kernel
theorem dL_law_292 : decode cL_law 292 = .ok (.iadd, 1) := by decide +kernel
theorem dL_law_293 : decode cL_law 293 = .ok (.iaload, 1) := by decide +kernel
theorem dL_law_294 : decode cL_law 294 = .ok (.aload_n 0, 1) := by decide +kernel
theorem dL_law_295 : decode cL_law 295 = .ok (.iload_n 3, 1) := by decide +kernel
theorem dL_law_296 : decode cL_law 296 = .ok (.iconst 2, 1) := by decide +kernel
theorem dL_law_297 : decode cL_law 297 = .ok (.iadd, 1) := by decide +kernel
theorem dL_law_298 : decode cL_law 298 = .ok (.iaload, 1) := by decide +kernel
theorem dL_law_299 : decode cL_law 299 = .ok (.invokevirtual 37, 3) := by decide +kernel
theorem dL_law_302 : decode cL_law 302 = .ok (.if_icmp .eq 580, 3) := by decide +kernel
theorem dL_law_305 : decode cL_law 305 = .ok (.iconst 0, 1) := by decide +kernel
theorem dL_law_306 : decode cL_law 306 = .ok (.ireturn, 1) := by decide +kernel
theorem dL_law_307 : decode cL_law 307 = .ok (.aload_n 1, 1) := by decide +kernel
theorem dL_law_308 : decode cL_law 308 = .ok (.aload_n 0, 1) := by decide +kernel
theorem dL_law_309 : decode cL_law 309 = .ok (.iload_n 3, 1) := by decide +kernel
theorem dL_law_310 : decode cL_law 310 = .ok (.iconst 1, 1) := by decide +kernel
theorem dL_law_311 : decode cL_law 311 = .ok (.iadd, 1) := by decide +kernel
theorem dL_law_312 : decode cL_law 312 = .ok (.iaload, 1) := by decide +kernel
theorem dL_law_313 : decode cL_law 313 = .ok (.aload_n 0, 1) := by decide +kernel
theorem dL_law_314 : decode cL_law 314 = .ok (.iload_n 3, 1) := by decide +kernel
theorem dL_law_315 : decode cL_law 315 = .ok (.iconst 2, 1) := by decide +kernel
theorem dL_law_316 : decode cL_law 316 = .ok (.iadd, 1) := by decide +kernel
theorem dL_law_317 : decode cL_law 317 = .ok (.iaload, 1) := by decide +kernel
theorem dL_law_318 : decode cL_law 318 = .ok (.invokevirtual 38, 3) := by decide +kernel
theorem dL_law_321 : decode cL_law 321 = .ok (.aload_n 2, 1) := by decide +kernel
theorem dL_law_322 : decode cL_law 322 = .ok (.aload_n 0, 1) := by decide +kernel
theorem dL_law_323 : decode cL_law 323 = .ok (.iload_n 3, 1) := by decide +kernel
theorem dL_law_324 : decode cL_law 324 = .ok (.iconst 1, 1) := by decide +kernel
theorem dL_law_325 : decode cL_law 325 = .ok (.iadd, 1) := by decide +kernel
theorem dL_law_326 : decode cL_law 326 = .ok (.iaload, 1) := by decide +kernel
theorem dL_law_327 : decode cL_law 327 = .ok (.aload_n 0, 1) := by decide +kernel
theorem dL_law_328 : decode cL_law 328 = .ok (.iload_n 3, 1) := by decide +kernel
theorem dL_law_329 : decode cL_law 329 = .ok (.iconst 2, 1) := by decide +kernel
theorem dL_law_330 : decode cL_law 330 = .ok (.iadd, 1) := by decide +kernel
theorem dL_law_331 : decode cL_law 331 = .ok (.iaload, 1) := by decide +kernel
theorem dL_law_332 : decode cL_law 332 = .ok (.invokevirtual 41, 3) := by decide +kernel
theorem dL_law_335 : decode cL_law 335 = .ok (.if_icmp .eq 547, 3) := by decide +kernel
theorem dL_law_338 : decode cL_law 338 = .ok (.iconst 0, 1) := by decide +kernel
theorem dL_law_339 : decode cL_law 339 = .ok (.ireturn, 1) := by decide +kernel
theorem dL_law_340 : decode cL_law 340 = .ok (.aload_n 1, 1) := by decide +kernel
theorem dL_law_341 : decode cL_law 341 = .ok (.aload_n 0, 1) := by decide +kernel
theorem dL_law_342 : decode cL_law 342 = .ok (.iload_n 3, 1) := by decide +kernel
theorem dL_law_343 : decode cL_law 343 = .ok (.iconst 1, 1) := by decide +kernel
theorem dL_law_344 : decode cL_law 344 = .ok (.iadd, 1) := by decide +kernel
theorem dL_law_345 : decode cL_law 345 = .ok (.iaload, 1) := by decide +kernel
theorem dL_law_346 : decode cL_law 346 = .ok (.aload_n 0, 1) := by decide +kernel
theorem dL_law_347 : decode cL_law 347 = .ok (.iload_n 3, 1) := by decide +kernel
theorem dL_law_348 : decode cL_law 348 = .ok (.iconst 2, 1) := by decide +kernel
theorem dL_law_349 : decode cL_law 349 = .ok (.iadd, 1) := by decide +kernel
theorem dL_law_350 : decode cL_law 350 = .ok (.iaload, 1) := by decide +kernel
theorem dL_law_351 : decode cL_law 351 = .ok (.invokevirtual 42, 3) := by decide +kernel
theorem dL_law_354 : decode cL_law 354 = .ok (.aload_n 2, 1) := by decide +kernel
theorem dL_law_355 : decode cL_law 355 = .ok (.aload_n 0, 1) := by decide +kernel
theorem dL_law_356 : decode cL_law 356 = .ok (.iload_n 3, 1) := by decide +kernel
theorem dL_law_357 : decode cL_law 357 = .ok (.iconst 1, 1) := by decide +kernel
theorem dL_law_358 : decode cL_law 358 = .ok (.iadd, 1) := by decide +kernel
theorem dL_law_359 : decode cL_law 359 = .ok (.iaload, 1) := by decide +kernel
theorem dL_law_360 : decode cL_law 360 = .ok (.aload_n 0, 1) := by decide +kernel
theorem dL_law_361 : decode cL_law 361 = .ok (.iload_n 3, 1) := by decide +kernel
theorem dL_law_362 : decode cL_law 362 = .ok (.iconst 2, 1) := by decide +kernel
theorem dL_law_363 : decode cL_law 363 = .ok (.iadd, 1) := by decide +kernel
theorem dL_law_364 : decode cL_law 364 = .ok (.iaload, 1) := by decide +kernel
theorem dL_law_365 : decode cL_law 365 = .ok (.invokevirtual 45, 3) := by decide +kernel
theorem dL_law_368 : decode cL_law 368 = .ok (.if_icmp .eq 514, 3) := by decide +kernel
theorem dL_law_371 : decode cL_law 371 = .ok (.iconst 0, 1) := by decide +kernel
theorem dL_law_372 : decode cL_law 372 = .ok (.ireturn, 1) := by decide +kernel
theorem dL_law_373 : decode cL_law 373 = .ok (.aload_n 1, 1) := by decide +kernel
theorem dL_law_374 : decode cL_law 374 = .ok (.aload_n 0, 1) := by decide +kernel
theorem dL_law_375 : decode cL_law 375 = .ok (.iload_n 3, 1) := by decide +kernel
theorem dL_law_376 : decode cL_law 376 = .ok (.iconst 1, 1) := by decide +kernel
theorem dL_law_377 : decode cL_law 377 = .ok (.iadd, 1) := by decide +kernel
theorem dL_law_378 : decode cL_law 378 = .ok (.iaload, 1) := by decide +kernel
theorem dL_law_379 : decode cL_law 379 = .ok (.aload_n 0, 1) := by decide +kernel
theorem dL_law_380 : decode cL_law 380 = .ok (.iload_n 3, 1) := by decide +kernel
theorem dL_law_381 : decode cL_law 381 = .ok (.iconst 2, 1) := by decide +kernel
theorem dL_law_382 : decode cL_law 382 = .ok (.iadd, 1) := by decide +kernel
theorem dL_law_383 : decode cL_law 383 = .ok (.iaload, 1) := by decide +kernel
theorem dL_law_384 : decode cL_law 384 = .ok (.invokevirtual 46, 3) := by decide +kernel
theorem dL_law_387 : decode cL_law 387 = .ok (.aload_n 2, 1) := by decide +kernel
theorem dL_law_388 : decode cL_law 388 = .ok (.aload_n 0, 1) := by decide +kernel
theorem dL_law_389 : decode cL_law 389 = .ok (.iload_n 3, 1) := by decide +kernel
theorem dL_law_390 : decode cL_law 390 = .ok (.iconst 1, 1) := by decide +kernel
theorem dL_law_391 : decode cL_law 391 = .ok (.iadd, 1) := by decide +kernel
theorem dL_law_392 : decode cL_law 392 = .ok (.iaload, 1) := by decide +kernel
theorem dL_law_393 : decode cL_law 393 = .ok (.aload_n 0, 1) := by decide +kernel
theorem dL_law_394 : decode cL_law 394 = .ok (.iload_n 3, 1) := by decide +kernel
theorem dL_law_395 : decode cL_law 395 = .ok (.iconst 2, 1) := by decide +kernel
theorem dL_law_396 : decode cL_law 396 = .ok (.iadd, 1) := by decide +kernel
theorem dL_law_397 : decode cL_law 397 = .ok (.iaload, 1) := by decide +kernel
theorem dL_law_398 : decode cL_law 398 = .ok (.invokevirtual 49, 3) := by decide +kernel
theorem dL_law_401 : decode cL_law 401 = .ok (.if_icmp .eq 481, 3) := by decide +kernel
theorem dL_law_404 : decode cL_law 404 = .ok (.iconst 0, 1) := by decide +kernel
theorem dL_law_405 : decode cL_law 405 = .ok (.ireturn, 1) := by decide +kernel
theorem dL_law_406 : decode cL_law 406 = .ok (.aload_n 1, 1) := by decide +kernel
theorem dL_law_407 : decode cL_law 407 = .ok (.aload_n 0, 1) := by decide +kernel
theorem dL_law_408 : decode cL_law 408 = .ok (.iload_n 3, 1) := by decide +kernel
theorem dL_law_409 : decode cL_law 409 = .ok (.iconst 1, 1) := by decide +kernel
theorem dL_law_410 : decode cL_law 410 = .ok (.iadd, 1) := by decide +kernel
theorem dL_law_411 : decode cL_law 411 = .ok (.iaload, 1) := by decide +kernel
theorem dL_law_412 : decode cL_law 412 = .ok (.aload_n 0, 1) := by decide +kernel
theorem dL_law_413 : decode cL_law 413 = .ok (.iload_n 3, 1) := by decide +kernel
theorem dL_law_414 : decode cL_law 414 = .ok (.iconst 2, 1) := by decide +kernel
theorem dL_law_415 : decode cL_law 415 = .ok (.iadd, 1) := by decide +kernel
theorem dL_law_416 : decode cL_law 416 = .ok (.iaload, 1) := by decide +kernel
theorem dL_law_417 : decode cL_law 417 = .ok (.invokevirtual 50, 3) := by decide +kernel
theorem dL_law_420 : decode cL_law 420 = .ok (.aload_n 2, 1) := by decide +kernel
theorem dL_law_421 : decode cL_law 421 = .ok (.aload_n 0, 1) := by decide +kernel
theorem dL_law_422 : decode cL_law 422 = .ok (.iload_n 3, 1) := by decide +kernel
theorem dL_law_423 : decode cL_law 423 = .ok (.iconst 1, 1) := by decide +kernel
theorem dL_law_424 : decode cL_law 424 = .ok (.iadd, 1) := by decide +kernel
theorem dL_law_425 : decode cL_law 425 = .ok (.iaload, 1) := by decide +kernel
theorem dL_law_426 : decode cL_law 426 = .ok (.aload_n 0, 1) := by decide +kernel
theorem dL_law_427 : decode cL_law 427 = .ok (.iload_n 3, 1) := by decide +kernel
theorem dL_law_428 : decode cL_law 428 = .ok (.iconst 2, 1) := by decide +kernel
theorem dL_law_429 : decode cL_law 429 = .ok (.iadd, 1) := by decide +kernel
theorem dL_law_430 : decode cL_law 430 = .ok (.iaload, 1) := by decide +kernel
theorem dL_law_431 : decode cL_law 431 = .ok (.invokevirtual 53, 3) := by decide +kernel
theorem dL_law_434 : decode cL_law 434 = .ok (.if_icmp .eq 448, 3) := by decide +kernel
theorem dL_law_437 : decode cL_law 437 = .ok (.iconst 0, 1) := by decide +kernel
theorem dL_law_438 : decode cL_law 438 = .ok (.ireturn, 1) := by decide +kernel
theorem dL_law_439 : decode cL_law 439 = .ok (.aload_n 1, 1) := by decide +kernel
theorem dL_law_440 : decode cL_law 440 = .ok (.aload_n 0, 1) := by decide +kernel
theorem dL_law_441 : decode cL_law 441 = .ok (.iload_n 3, 1) := by decide +kernel
theorem dL_law_442 : decode cL_law 442 = .ok (.iconst 1, 1) := by decide +kernel
theorem dL_law_443 : decode cL_law 443 = .ok (.iadd, 1) := by decide +kernel
theorem dL_law_444 : decode cL_law 444 = .ok (.iaload, 1) := by decide +kernel
theorem dL_law_445 : decode cL_law 445 = .ok (.aload_n 0, 1) := by decide +kernel
theorem dL_law_446 : decode cL_law 446 = .ok (.iload_n 3, 1) := by decide +kernel
theorem dL_law_447 : decode cL_law 447 = .ok (.iconst 2, 1) := by decide +kernel
theorem dL_law_448 : decode cL_law 448 = .ok (.iadd, 1) := by decide +kernel
theorem dL_law_449 : decode cL_law 449 = .ok (.iaload, 1) := by decide +kernel
theorem dL_law_450 : decode cL_law 450 = .ok (.aload_n 0, 1) := by decide +kernel
theorem dL_law_451 : decode cL_law 451 = .ok (.iload_n 3, 1) := by decide +kernel
theorem dL_law_452 : decode cL_law 452 = .ok (.iconst 3, 1) := by decide +kernel
theorem dL_law_453 : decode cL_law 453 = .ok (.iadd, 1) := by decide +kernel
theorem dL_law_454 : decode cL_law 454 = .ok (.iaload, 1) := by decide +kernel
theorem dL_law_455 : decode cL_law 455 = .ok (.invokevirtual 54, 3) := by decide +kernel
theorem dL_law_458 : decode cL_law 458 = .ok (.aload_n 2, 1) := by decide +kernel
theorem dL_law_459 : decode cL_law 459 = .ok (.aload_n 0, 1) := by decide +kernel
theorem dL_law_460 : decode cL_law 460 = .ok (.iload_n 3, 1) := by decide +kernel
theorem dL_law_461 : decode cL_law 461 = .ok (.iconst 1, 1) := by decide +kernel
theorem dL_law_462 : decode cL_law 462 = .ok (.iadd, 1) := by decide +kernel
theorem dL_law_463 : decode cL_law 463 = .ok (.iaload, 1) := by decide +kernel
theorem dL_law_464 : decode cL_law 464 = .ok (.aload_n 0, 1) := by decide +kernel
theorem dL_law_465 : decode cL_law 465 = .ok (.iload_n 3, 1) := by decide +kernel
theorem dL_law_466 : decode cL_law 466 = .ok (.iconst 2, 1) := by decide +kernel
theorem dL_law_467 : decode cL_law 467 = .ok (.iadd, 1) := by decide +kernel
theorem dL_law_468 : decode cL_law 468 = .ok (.iaload, 1) := by decide +kernel
theorem dL_law_469 : decode cL_law 469 = .ok (.aload_n 0, 1) := by decide +kernel
theorem dL_law_470 : decode cL_law 470 = .ok (.iload_n 3, 1) := by decide +kernel
theorem dL_law_471 : decode cL_law 471 = .ok (.iconst 3, 1) := by decide +kernel
theorem dL_law_472 : decode cL_law 472 = .ok (.iadd, 1) := by decide +kernel
theorem dL_law_473 : decode cL_law 473 = .ok (.iaload, 1) := by decide +kernel
theorem dL_law_474 : decode cL_law 474 = .ok (.invokevirtual 58, 3) := by decide +kernel
theorem dL_law_477 : decode cL_law 477 = .ok (.if_icmp .eq 405, 3) := by decide +kernel
theorem dL_law_480 : decode cL_law 480 = .ok (.iconst 0, 1) := by decide +kernel
theorem dL_law_481 : decode cL_law 481 = .ok (.ireturn, 1) := by decide +kernel
theorem dL_law_482 : decode cL_law 482 = .ok (.aload_n 1, 1) := by decide +kernel
theorem dL_law_483 : decode cL_law 483 = .ok (.invokevirtual 59, 3) := by decide +kernel
theorem dL_law_486 : decode cL_law 486 = .ok (.aload_n 2, 1) := by decide +kernel
theorem dL_law_487 : decode cL_law 487 = .ok (.invokevirtual 62, 3) := by decide +kernel
theorem dL_law_490 : decode cL_law 490 = .ok (.if_icmp .eq 392, 3) := by decide +kernel
theorem dL_law_493 : decode cL_law 493 = .ok (.iconst 0, 1) := by decide +kernel
theorem dL_law_494 : decode cL_law 494 = .ok (.ireturn, 1) := by decide +kernel
theorem dL_law_495 : decode cL_law 495 = .ok (.aload_n 1, 1) := by decide +kernel
theorem dL_law_496 : decode cL_law 496 = .ok (.aload_n 0, 1) := by decide +kernel
theorem dL_law_497 : decode cL_law 497 = .ok (.iload_n 3, 1) := by decide +kernel
theorem dL_law_498 : decode cL_law 498 = .ok (.iconst 1, 1) := by decide +kernel
theorem dL_law_499 : decode cL_law 499 = .ok (.iadd, 1) := by decide +kernel
theorem dL_law_500 : decode cL_law 500 = .ok (.iaload, 1) := by decide +kernel
theorem dL_law_501 : decode cL_law 501 = .ok (.invokevirtual 63, 3) := by decide +kernel
end
section
theorem dL_law_504 : decode cL_law 504 = .ok (.aload_n 2, 1) := by decide +kernel
theorem dL_law_505 : decode cL_law 505 = .ok (.aload_n 0, 1) := by decide +kernel
theorem dL_law_506 : decode cL_law 506 = .ok (.iload_n 3, 1) := by decide +kernel
theorem dL_law_507 : decode cL_law 507 = .ok (.iconst 1, 1) := by decide +kernel
theorem dL_law_508 : decode cL_law 508 = .ok (.iadd, 1) := by decide +kernel
theorem dL_law_509 : decode cL_law 509 = .ok (.iaload, 1) := by decide +kernel
theorem dL_law_510 : decode cL_law 510 = .ok (.invokevirtual 67, 3) := by decide +kernel
theorem dL_law_513 : decode cL_law 513 = .ok (.if_icmp .eq 369, 3) := by decide +kernel
theorem dL_law_516 : decode cL_law 516 = .ok (.iconst 0, 1) := by decide +kernel
theorem dL_law_517 : decode cL_law 517 = .ok (.ireturn, 1) := by decide +kernel
theorem dL_law_518 : decode cL_law 518 = .ok (.aload_n 1, 1) := by decide +kernel
theorem dL_law_519 : decode cL_law 519 = .ok (.aload_n 0, 1) := by decide +kernel
theorem dL_law_520 : decode cL_law 520 = .ok (.iload_n 3, 1) := by decide +kernel
theorem dL_law_521 : decode cL_law 521 = .ok (.iconst 1, 1) := by decide +kernel
theorem dL_law_522 : decode cL_law 522 = .ok (.iadd, 1) := by decide +kernel
theorem dL_law_523 : decode cL_law 523 = .ok (.iaload, 1) := by decide +kernel
theorem dL_law_524 : decode cL_law 524 = .ok (.aload_n 0, 1) := by decide +kernel
theorem dL_law_525 : decode cL_law 525 = .ok (.iload_n 3, 1) := by decide +kernel
theorem dL_law_526 : decode cL_law 526 = .ok (.iconst 2, 1) := by decide +kernel
theorem dL_law_527 : decode cL_law 527 = .ok (.iadd, 1) := by decide +kernel
theorem dL_law_528 : decode cL_law 528 = .ok (.iaload, 1) := by decide +kernel
theorem dL_law_529 : decode cL_law 529 = .ok (.invokevirtual 68, 3) := by decide +kernel
theorem dL_law_532 : decode cL_law 532 = .ok (.aload_n 2, 1) := by decide +kernel
theorem dL_law_533 : decode cL_law 533 = .ok (.aload_n 0, 1) := by decide +kernel
theorem dL_law_534 : decode cL_law 534 = .ok (.iload_n 3, 1) := by decide +kernel
theorem dL_law_535 : decode cL_law 535 = .ok (.iconst 1, 1) := by decide +kernel
theorem dL_law_536 : decode cL_law 536 = .ok (.iadd, 1) := by decide +kernel
theorem dL_law_537 : decode cL_law 537 = .ok (.iaload, 1) := by decide +kernel
theorem dL_law_538 : decode cL_law 538 = .ok (.aload_n 0, 1) := by decide +kernel
theorem dL_law_539 : decode cL_law 539 = .ok (.iload_n 3, 1) := by decide +kernel
theorem dL_law_540 : decode cL_law 540 = .ok (.iconst 2, 1) := by decide +kernel
theorem dL_law_541 : decode cL_law 541 = .ok (.iadd, 1) := by decide +kernel
theorem dL_law_542 : decode cL_law 542 = .ok (.iaload, 1) := by decide +kernel
theorem dL_law_543 : decode cL_law 543 = .ok (.invokevirtual 71, 3) := by decide +kernel
theorem dL_law_546 : decode cL_law 546 = .ok (.if_icmp .eq 336, 3) := by decide +kernel
theorem dL_law_549 : decode cL_law 549 = .ok (.iconst 0, 1) := by decide +kernel
theorem dL_law_550 : decode cL_law 550 = .ok (.ireturn, 1) := by decide +kernel
theorem dL_law_551 : decode cL_law 551 = .ok (.aload_n 1, 1) := by decide +kernel
theorem dL_law_552 : decode cL_law 552 = .ok (.aload_n 0, 1) := by decide +kernel
theorem dL_law_553 : decode cL_law 553 = .ok (.iload_n 3, 1) := by decide +kernel
theorem dL_law_554 : decode cL_law 554 = .ok (.iconst 1, 1) := by decide +kernel
theorem dL_law_555 : decode cL_law 555 = .ok (.iadd, 1) := by decide +kernel
theorem dL_law_556 : decode cL_law 556 = .ok (.iaload, 1) := by decide +kernel
theorem dL_law_557 : decode cL_law 557 = .ok (.aload_n 0, 1) := by decide +kernel
theorem dL_law_558 : decode cL_law 558 = .ok (.iload_n 3, 1) := by decide +kernel
theorem dL_law_559 : decode cL_law 559 = .ok (.iconst 2, 1) := by decide +kernel
theorem dL_law_560 : decode cL_law 560 = .ok (.iadd, 1) := by decide +kernel
theorem dL_law_561 : decode cL_law 561 = .ok (.iaload, 1) := by decide +kernel
theorem dL_law_562 : decode cL_law 562 = .ok (.invokevirtual 72, 3) := by decide +kernel
theorem dL_law_565 : decode cL_law 565 = .ok (.aload_n 2, 1) := by decide +kernel
theorem dL_law_566 : decode cL_law 566 = .ok (.aload_n 0, 1) := by decide +kernel
theorem dL_law_567 : decode cL_law 567 = .ok (.iload_n 3, 1) := by decide +kernel
theorem dL_law_568 : decode cL_law 568 = .ok (.iconst 1, 1) := by decide +kernel
theorem dL_law_569 : decode cL_law 569 = .ok (.iadd, 1) := by decide +kernel
theorem dL_law_570 : decode cL_law 570 = .ok (.iaload, 1) := by decide +kernel
theorem dL_law_571 : decode cL_law 571 = .ok (.aload_n 0, 1) := by decide +kernel
theorem dL_law_572 : decode cL_law 572 = .ok (.iload_n 3, 1) := by decide +kernel
theorem dL_law_573 : decode cL_law 573 = .ok (.iconst 2, 1) := by decide +kernel
theorem dL_law_574 : decode cL_law 574 = .ok (.iadd, 1) := by decide +kernel
theorem dL_law_575 : decode cL_law 575 = .ok (.iaload, 1) := by decide +kernel
theorem dL_law_576 : decode cL_law 576 = .ok (.invokevirtual 75, 3) := by decide +kernel
theorem dL_law_579 : decode cL_law 579 = .ok (.if_icmp .eq 303, 3) := by decide +kernel
theorem dL_law_582 : decode cL_law 582 = .ok (.iconst 0, 1) := by decide +kernel
theorem dL_law_583 : decode cL_law 583 = .ok (.ireturn, 1) := by decide +kernel
theorem dL_law_584 : decode cL_law 584 = .ok (.aload_n 1, 1) := by decide +kernel
theorem dL_law_585 : decode cL_law 585 = .ok (.aload_n 0, 1) := by decide +kernel
theorem dL_law_586 : decode cL_law 586 = .ok (.iload_n 3, 1) := by decide +kernel
theorem dL_law_587 : decode cL_law 587 = .ok (.iconst 1, 1) := by decide +kernel
theorem dL_law_588 : decode cL_law 588 = .ok (.iadd, 1) := by decide +kernel
theorem dL_law_589 : decode cL_law 589 = .ok (.iaload, 1) := by decide +kernel
theorem dL_law_590 : decode cL_law 590 = .ok (.invokevirtual 76, 3) := by decide +kernel
theorem dL_law_593 : decode cL_law 593 = .ok (.aload_n 2, 1) := by decide +kernel
theorem dL_law_594 : decode cL_law 594 = .ok (.aload_n 0, 1) := by decide +kernel
theorem dL_law_595 : decode cL_law 595 = .ok (.iload_n 3, 1) := by decide +kernel
theorem dL_law_596 : decode cL_law 596 = .ok (.iconst 1, 1) := by decide +kernel
theorem dL_law_597 : decode cL_law 597 = .ok (.iadd, 1) := by decide +kernel
theorem dL_law_598 : decode cL_law 598 = .ok (.iaload, 1) := by decide +kernel
theorem dL_law_599 : decode cL_law 599 = .ok (.invokevirtual 79, 3) := by decide +kernel
theorem dL_law_602 : decode cL_law 602 = .ok (.if_icmp .eq 280, 3) := by decide +kernel
theorem dL_law_605 : decode cL_law 605 = .ok (.iconst 0, 1) := by decide +kernel
theorem dL_law_606 : decode cL_law 606 = .ok (.ireturn, 1) := by decide +kernel
theorem dL_law_607 : decode cL_law 607 = .ok (.aload_n 1, 1) := by decide +kernel
theorem dL_law_608 : decode cL_law 608 = .ok (.aload_n 0, 1) := by decide +kernel
theorem dL_law_609 : decode cL_law 609 = .ok (.iload_n 3, 1) := by decide +kernel
theorem dL_law_610 : decode cL_law 610 = .ok (.iconst 1, 1) := by decide +kernel
theorem dL_law_611 : decode cL_law 611 = .ok (.iadd, 1) := by decide +kernel
theorem dL_law_612 : decode cL_law 612 = .ok (.iaload, 1) := by decide +kernel
theorem dL_law_613 : decode cL_law 613 = .ok (.aload_n 0, 1) := by decide +kernel
theorem dL_law_614 : decode cL_law 614 = .ok (.iload_n 3, 1) := by decide +kernel
theorem dL_law_615 : decode cL_law 615 = .ok (.iconst 2, 1) := by decide +kernel
theorem dL_law_616 : decode cL_law 616 = .ok (.iadd, 1) := by decide +kernel
theorem dL_law_617 : decode cL_law 617 = .ok (.iaload, 1) := by decide +kernel
theorem dL_law_618 : decode cL_law 618 = .ok (.invokevirtual 80, 3) := by decide +kernel
theorem dL_law_621 : decode cL_law 621 = .ok (.aload_n 2, 1) := by decide +kernel
theorem dL_law_622 : decode cL_law 622 = .ok (.aload_n 0, 1) := by decide +kernel
theorem dL_law_623 : decode cL_law 623 = .ok (.iload_n 3, 1) := by decide +kernel
theorem dL_law_624 : decode cL_law 624 = .ok (.iconst 1, 1) := by decide +kernel
theorem dL_law_625 : decode cL_law 625 = .ok (.iadd, 1) := by decide +kernel
theorem dL_law_626 : decode cL_law 626 = .ok (.iaload, 1) := by decide +kernel
theorem dL_law_627 : decode cL_law 627 = .ok (.aload_n 0, 1) := by decide +kernel
theorem dL_law_628 : decode cL_law 628 = .ok (.iload_n 3, 1) := by decide +kernel
theorem dL_law_629 : decode cL_law 629 = .ok (.iconst 2, 1) := by decide +kernel
theorem dL_law_630 : decode cL_law 630 = .ok (.iadd, 1) := by decide +kernel
theorem dL_law_631 : decode cL_law 631 = .ok (.iaload, 1) := by decide +kernel
theorem dL_law_632 : decode cL_law 632 = .ok (.invokevirtual 83, 3) := by decide +kernel
theorem dL_law_635 : decode cL_law 635 = .ok (.if_icmp .eq 247, 3) := by decide +kernel
theorem dL_law_638 : decode cL_law 638 = .ok (.iconst 0, 1) := by decide +kernel
theorem dL_law_639 : decode cL_law 639 = .ok (.ireturn, 1) := by decide +kernel
theorem dL_law_640 : decode cL_law 640 = .ok (.aload_n 1, 1) := by decide +kernel
theorem dL_law_641 : decode cL_law 641 = .ok (.aload_n 0, 1) := by decide +kernel
theorem dL_law_642 : decode cL_law 642 = .ok (.iload_n 3, 1) := by decide +kernel
theorem dL_law_643 : decode cL_law 643 = .ok (.iconst 1, 1) := by decide +kernel
theorem dL_law_644 : decode cL_law 644 = .ok (.iadd, 1) := by decide +kernel
theorem dL_law_645 : decode cL_law 645 = .ok (.iaload, 1) := by decide +kernel
theorem dL_law_646 : decode cL_law 646 = .ok (.aload_n 0, 1) := by decide +kernel
theorem dL_law_647 : decode cL_law 647 = .ok (.iload_n 3, 1) := by decide +kernel
theorem dL_law_648 : decode cL_law 648 = .ok (.iconst 2, 1) := by decide +kernel
theorem dL_law_649 : decode cL_law 649 = .ok (.iadd, 1) := by decide +kernel
theorem dL_law_650 : decode cL_law 650 = .ok (.iaload, 1) := by decide +kernel
theorem dL_law_651 : decode cL_law 651 = .ok (.aload_n 0, 1) := by decide +kernel
theorem dL_law_652 : decode cL_law 652 = .ok (.iload_n 3, 1) := by decide +kernel
theorem dL_law_653 : decode cL_law 653 = .ok (.iconst 3, 1) := by decide +kernel
theorem dL_law_654 : decode cL_law 654 = .ok (.iadd, 1) := by decide +kernel
theorem dL_law_655 : decode cL_law 655 = .ok (.iaload, 1) := by decide +kernel
theorem dL_law_656 : decode cL_law 656 = .ok (.invokevirtual 84, 3) := by decide +kernel
theorem dL_law_659 : decode cL_law 659 = .ok (.aload_n 2, 1) := by decide +kernel
theorem dL_law_660 : decode cL_law 660 = .ok (.aload_n 0, 1) := by decide +kernel
theorem dL_law_661 : decode cL_law 661 = .ok (.iload_n 3, 1) := by decide +kernel
theorem dL_law_662 : decode cL_law 662 = .ok (.iconst 1, 1) := by decide +kernel
theorem dL_law_663 : decode cL_law 663 = .ok (.iadd, 1) := by decide +kernel
theorem dL_law_664 : decode cL_law 664 = .ok (.iaload, 1) := by decide +kernel
theorem dL_law_665 : decode cL_law 665 = .ok (.aload_n 0, 1) := by decide +kernel
theorem dL_law_666 : decode cL_law 666 = .ok (.iload_n 3, 1) := by decide +kernel
theorem dL_law_667 : decode cL_law 667 = .ok (.iconst 2, 1) := by decide +kernel
theorem dL_law_668 : decode cL_law 668 = .ok (.iadd, 1) := by decide +kernel
theorem dL_law_669 : decode cL_law 669 = .ok (.iaload, 1) := by decide +kernel
theorem dL_law_670 : decode cL_law 670 = .ok (.aload_n 0, 1) := by decide +kernel
theorem dL_law_671 : decode cL_law 671 = .ok (.iload_n 3, 1) := by decide +kernel
theorem dL_law_672 : decode cL_law 672 = .ok (.iconst 3, 1) := by decide +kernel
theorem dL_law_673 : decode cL_law 673 = .ok (.iadd, 1) := by decide +kernel
theorem dL_law_674 : decode cL_law 674 = .ok (.iaload, 1) := by decide +kernel
theorem dL_law_675 : decode cL_law 675 = .ok (.invokevirtual 88, 3) := by decide +kernel
theorem dL_law_678 : decode cL_law 678 = .ok (.lcmp, 1) := by decide +kernel
theorem dL_law_679 : decode cL_law 679 = .ok (.ifCond .eq 203, 3) := by decide +kernel
theorem dL_law_682 : decode cL_law 682 = .ok (.iconst 0, 1) := by decide +kernel
theorem dL_law_683 : decode cL_law 683 = .ok (.ireturn, 1) := by decide +kernel
theorem dL_law_684 : decode cL_law 684 = .ok (.aload_n 1, 1) := by decide +kernel
theorem dL_law_685 : decode cL_law 685 = .ok (.aload_n 0, 1) := by decide +kernel
theorem dL_law_686 : decode cL_law 686 = .ok (.iload_n 3, 1) := by decide +kernel
theorem dL_law_687 : decode cL_law 687 = .ok (.iconst 1, 1) := by decide +kernel
theorem dL_law_688 : decode cL_law 688 = .ok (.iadd, 1) := by decide +kernel
theorem dL_law_689 : decode cL_law 689 = .ok (.iaload, 1) := by decide +kernel
theorem dL_law_690 : decode cL_law 690 = .ok (.aload_n 0, 1) := by decide +kernel
theorem dL_law_691 : decode cL_law 691 = .ok (.iload_n 3, 1) := by decide +kernel
theorem dL_law_692 : decode cL_law 692 = .ok (.iconst 2, 1) := by decide +kernel
theorem dL_law_693 : decode cL_law 693 = .ok (.iadd, 1) := by decide +kernel
theorem dL_law_694 : decode cL_law 694 = .ok (.iaload, 1) := by decide +kernel
theorem dL_law_695 : decode cL_law 695 = .ok (.invokevirtual 89, 3) := by decide +kernel
theorem dL_law_698 : decode cL_law 698 = .ok (.aload_n 2, 1) := by decide +kernel
theorem dL_law_699 : decode cL_law 699 = .ok (.aload_n 0, 1) := by decide +kernel
theorem dL_law_700 : decode cL_law 700 = .ok (.iload_n 3, 1) := by decide +kernel
theorem dL_law_701 : decode cL_law 701 = .ok (.iconst 1, 1) := by decide +kernel
theorem dL_law_702 : decode cL_law 702 = .ok (.iadd, 1) := by decide +kernel
theorem dL_law_703 : decode cL_law 703 = .ok (.iaload, 1) := by decide +kernel
theorem dL_law_704 : decode cL_law 704 = .ok (.aload_n 0, 1) := by decide +kernel
theorem dL_law_705 : decode cL_law 705 = .ok (.iload_n 3, 1) := by decide +kernel
theorem dL_law_706 : decode cL_law 706 = .ok (.iconst 2, 1) := by decide +kernel
theorem dL_law_707 : decode cL_law 707 = .ok (.iadd, 1) := by decide +kernel
theorem dL_law_708 : decode cL_law 708 = .ok (.iaload, 1) := by decide +kernel
theorem dL_law_709 : decode cL_law 709 = .ok (.invokevirtual 92, 3) := by decide +kernel
theorem dL_law_712 : decode cL_law 712 = .ok (.if_icmp .eq 170, 3) := by decide +kernel
theorem dL_law_715 : decode cL_law 715 = .ok (.iconst 0, 1) := by decide +kernel
theorem dL_law_716 : decode cL_law 716 = .ok (.ireturn, 1) := by decide +kernel
theorem dL_law_717 : decode cL_law 717 = .ok (.aload_n 1, 1) := by decide +kernel
theorem dL_law_718 : decode cL_law 718 = .ok (.invokevirtual 93, 3) := by decide +kernel
theorem dL_law_721 : decode cL_law 721 = .ok (.aload_n 2, 1) := by decide +kernel
theorem dL_law_722 : decode cL_law 722 = .ok (.invokevirtual 96, 3) := by decide +kernel
theorem dL_law_725 : decode cL_law 725 = .ok (.if_icmp .eq 157, 3) := by decide +kernel
theorem dL_law_728 : decode cL_law 728 = .ok (.iconst 0, 1) := by decide +kernel
theorem dL_law_729 : decode cL_law 729 = .ok (.ireturn, 1) := by decide +kernel
theorem dL_law_730 : decode cL_law 730 = .ok (.aload_n 1, 1) := by decide +kernel
theorem dL_law_731 : decode cL_law 731 = .ok (.invokevirtual 97, 3) := by decide +kernel
theorem dL_law_734 : decode cL_law 734 = .ok (.aload_n 2, 1) := by decide +kernel
theorem dL_law_735 : decode cL_law 735 = .ok (.invokevirtual 100, 3) := by decide +kernel
theorem dL_law_738 : decode cL_law 738 = .ok (.if_icmp .eq 144, 3) := by decide +kernel
theorem dL_law_741 : decode cL_law 741 = .ok (.iconst 0, 1) := by decide +kernel
theorem dL_law_742 : decode cL_law 742 = .ok (.ireturn, 1) := by decide +kernel
theorem dL_law_743 : decode cL_law 743 = .ok (.aload_n 1, 1) := by decide +kernel
theorem dL_law_744 : decode cL_law 744 = .ok (.aload_n 0, 1) := by decide +kernel
theorem dL_law_745 : decode cL_law 745 = .ok (.iload_n 3, 1) := by decide +kernel
theorem dL_law_746 : decode cL_law 746 = .ok (.iconst 1, 1) := by decide +kernel
theorem dL_law_747 : decode cL_law 747 = .ok (.iadd, 1) := by decide +kernel
theorem dL_law_748 : decode cL_law 748 = .ok (.iaload, 1) := by decide +kernel
theorem dL_law_749 : decode cL_law 749 = .ok (.invokevirtual 101, 3) := by decide +kernel
theorem dL_law_752 : decode cL_law 752 = .ok (.aload_n 2, 1) := by decide +kernel
theorem dL_law_753 : decode cL_law 753 = .ok (.aload_n 0, 1) := by decide +kernel
theorem dL_law_754 : decode cL_law 754 = .ok (.iload_n 3, 1) := by decide +kernel
theorem dL_law_755 : decode cL_law 755 = .ok (.iconst 1, 1) := by decide +kernel
theorem dL_law_756 : decode cL_law 756 = .ok (.iadd, 1) := by decide +kernel
theorem dL_law_757 : decode cL_law 757 = .ok (.iaload, 1) := by decide +kernel
theorem dL_law_758 : decode cL_law 758 = .ok (.invokevirtual 104, 3) := by decide +kernel
theorem dL_law_761 : decode cL_law 761 = .ok (.if_icmp .eq 121, 3) := by decide +kernel
theorem dL_law_764 : decode cL_law 764 = .ok (.iconst 0, 1) := by decide +kernel
theorem dL_law_765 : decode cL_law 765 = .ok (.ireturn, 1) := by decide +kernel
theorem dL_law_766 : decode cL_law 766 = .ok (.aload_n 1, 1) := by decide +kernel
theorem dL_law_767 : decode cL_law 767 = .ok (.aload_n 0, 1) := by decide +kernel
theorem dL_law_768 : decode cL_law 768 = .ok (.iload_n 3, 1) := by decide +kernel
theorem dL_law_769 : decode cL_law 769 = .ok (.iconst 1, 1) := by decide +kernel
theorem dL_law_770 : decode cL_law 770 = .ok (.iadd, 1) := by decide +kernel
theorem dL_law_771 : decode cL_law 771 = .ok (.iaload, 1) := by decide +kernel
theorem dL_law_772 : decode cL_law 772 = .ok (.aload_n 0, 1) := by decide +kernel
theorem dL_law_773 : decode cL_law 773 = .ok (.iload_n 3, 1) := by decide +kernel
theorem dL_law_774 : decode cL_law 774 = .ok (.iconst 2, 1) := by decide +kernel
theorem dL_law_775 : decode cL_law 775 = .ok (.iadd, 1) := by decide +kernel
theorem dL_law_776 : decode cL_law 776 = .ok (.iaload, 1) := by decide +kernel
theorem dL_law_777 : decode cL_law 777 = .ok (.invokevirtual 105, 3) := by decide +kernel
theorem dL_law_780 : decode cL_law 780 = .ok (.aload_n 2, 1) := by decide +kernel
theorem dL_law_781 : decode cL_law 781 = .ok (.aload_n 0, 1) := by decide +kernel
theorem dL_law_782 : decode cL_law 782 = .ok (.iload_n 3, 1) := by decide +kernel
theorem dL_law_783 : decode cL_law 783 = .ok (.iconst 1, 1) := by decide +kernel
theorem dL_law_784 : decode cL_law 784 = .ok (.iadd, 1) := by decide +kernel
theorem dL_law_785 : decode cL_law 785 = .ok (.iaload, 1) := by decide +kernel
theorem dL_law_786 : decode cL_law 786 = .ok (.aload_n 0, 1) := by decide +kernel
theorem dL_law_787 : decode cL_law 787 = .ok (.iload_n 3, 1) := by decide +kernel
theorem dL_law_788 : decode cL_law 788 = .ok (.iconst 2, 1) := by decide +kernel
theorem dL_law_789 : decode cL_law 789 = .ok (.iadd, 1) := by decide +kernel
theorem dL_law_790 : decode cL_law 790 = .ok (.iaload, 1) := by decide +kernel
theorem dL_law_791 : decode cL_law 791 = .ok (.invokevirtual 108, 3) := by decide +kernel
theorem dL_law_794 : decode cL_law 794 = .ok (.if_icmp .eq 88, 3) := by decide +kernel
theorem dL_law_797 : decode cL_law 797 = .ok (.iconst 0, 1) := by decide +kernel
theorem dL_law_798 : decode cL_law 798 = .ok (.ireturn, 1) := by decide +kernel
theorem dL_law_799 : decode cL_law 799 = .ok (.aload_n 1, 1) := by decide +kernel
theorem dL_law_800 : decode cL_law 800 = .ok (.aload_n 0, 1) := by decide +kernel
theorem dL_law_801 : decode cL_law 801 = .ok (.iload_n 3, 1) := by decide +kernel
theorem dL_law_802 : decode cL_law 802 = .ok (.iconst 1, 1) := by decide +kernel
theorem dL_law_803 : decode cL_law 803 = .ok (.iadd, 1) := by decide +kernel
theorem dL_law_804 : decode cL_law 804 = .ok (.iaload, 1) := by decide +kernel
theorem dL_law_805 : decode cL_law 805 = .ok (.invokevirtual 109, 3) := by decide +kernel
theorem dL_law_808 : decode cL_law 808 = .ok (.aload_n 2, 1) := by decide +kernel
theorem dL_law_809 : decode cL_law 809 = .ok (.aload_n 0, 1) := by decide +kernel
theorem dL_law_810 : decode cL_law 810 = .ok (.iload_n 3, 1) := by decide +kernel
theorem dL_law_811 : decode cL_law 811 = .ok (.iconst 1, 1) := by decide +kernel
theorem dL_law_812 : decode cL_law 812 = .ok (.iadd, 1) := by decide +kernel
theorem dL_law_813 : decode cL_law 813 = .ok (.iaload, 1) := by decide +kernel
theorem dL_law_814 : decode cL_law 814 = .ok (.invokevirtual 112, 3) := by decide +kernel
theorem dL_law_817 : decode cL_law 817 = .ok (.if_icmp .eq 65, 3) := by decide +kernel
theorem dL_law_820 : decode cL_law 820 = .ok (.iconst 0, 1) := by decide +kernel
theorem dL_law_821 : decode cL_law 821 = .ok (.ireturn, 1) := by decide +kernel
theorem dL_law_822 : decode cL_law 822 = .ok (.aload_n 1, 1) := by decide +kernel
theorem dL_law_823 : decode cL_law 823 = .ok (.aload_n 0, 1) := by decide +kernel
theorem dL_law_824 : decode cL_law 824 = .ok (.iload_n 3, 1) := by decide +kernel
theorem dL_law_825 : decode cL_law 825 = .ok (.iconst 1, 1) := by decide +kernel
theorem dL_law_826 : decode cL_law 826 = .ok (.iadd, 1) := by decide +kernel
theorem dL_law_827 : decode cL_law 827 = .ok (.iaload, 1) := by decide +kernel
theorem dL_law_828 : decode cL_law 828 = .ok (.invokevirtual 113, 3) := by decide +kernel
theorem dL_law_831 : decode cL_law 831 = .ok (.aload_n 2, 1) := by decide +kernel
theorem dL_law_832 : decode cL_law 832 = .ok (.aload_n 0, 1) := by decide +kernel
theorem dL_law_833 : decode cL_law 833 = .ok (.iload_n 3, 1) := by decide +kernel
theorem dL_law_834 : decode cL_law 834 = .ok (.iconst 1, 1) := by decide +kernel
theorem dL_law_835 : decode cL_law 835 = .ok (.iadd, 1) := by decide +kernel
theorem dL_law_836 : decode cL_law 836 = .ok (.iaload, 1) := by decide +kernel
theorem dL_law_837 : decode cL_law 837 = .ok (.invokevirtual 116, 3) := by decide +kernel
theorem dL_law_840 : decode cL_law 840 = .ok (.if_icmp .eq 42, 3) := by decide +kernel
theorem dL_law_843 : decode cL_law 843 = .ok (.iconst 0, 1) := by decide +kernel
theorem dL_law_844 : decode cL_law 844 = .ok (.ireturn, 1) := by decide +kernel
theorem dL_law_845 : decode cL_law 845 = .ok (.aload_n 1, 1) := by decide +kernel
theorem dL_law_846 : decode cL_law 846 = .ok (.aload_n 0, 1) := by decide +kernel
theorem dL_law_847 : decode cL_law 847 = .ok (.iload_n 3, 1) := by decide +kernel
theorem dL_law_848 : decode cL_law 848 = .ok (.iconst 1, 1) := by decide +kernel
theorem dL_law_849 : decode cL_law 849 = .ok (.iadd, 1) := by decide +kernel
theorem dL_law_850 : decode cL_law 850 = .ok (.iaload, 1) := by decide +kernel
theorem dL_law_851 : decode cL_law 851 = .ok (.invokevirtual 117, 3) := by decide +kernel
theorem dL_law_854 : decode cL_law 854 = .ok (.aload_n 2, 1) := by decide +kernel
theorem dL_law_855 : decode cL_law 855 = .ok (.aload_n 0, 1) := by decide +kernel
theorem dL_law_856 : decode cL_law 856 = .ok (.iload_n 3, 1) := by decide +kernel
theorem dL_law_857 : decode cL_law 857 = .ok (.iconst 1, 1) := by decide +kernel
theorem dL_law_858 : decode cL_law 858 = .ok (.iadd, 1) := by decide +kernel
theorem dL_law_859 : decode cL_law 859 = .ok (.iaload, 1) := by decide +kernel
theorem dL_law_860 : decode cL_law 860 = .ok (.invokevirtual 120, 3) := by decide +kernel
theorem dL_law_863 : decode cL_law 863 = .ok (.if_icmp .eq 19, 3) := by decide +kernel
theorem dL_law_866 : decode cL_law 866 = .ok (.iconst 0, 1) := by decide +kernel
theorem dL_law_867 : decode cL_law 867 = .ok (.ireturn, 1) := by decide +kernel
theorem dL_law_868 : decode cL_law 868 = .ok (.aload_n 1, 1) := by decide +kernel
theorem dL_law_869 : decode cL_law 869 = .ok (.invokevirtual 121, 3) := by decide +kernel
theorem dL_law_872 : decode cL_law 872 = .ok (.aload_n 2, 1) := by decide +kernel
theorem dL_law_873 : decode cL_law 873 = .ok (.invokevirtual 125, 3) := by decide +kernel
theorem dL_law_876 : decode cL_law 876 = .ok (.lcmp, 1) := by decide +kernel
theorem dL_law_877 : decode cL_law 877 = .ok (.ifCond .eq 5, 3) := by decide +kernel
theorem dL_law_880 : decode cL_law 880 = .ok (.iconst 0, 1) := by decide +kernel
theorem dL_law_881 : decode cL_law 881 = .ok (.ireturn, 1) := by decide +kernel
theorem dL_law_882 : decode cL_law 882 = .ok (.iinc 3 4, 3) := by decide +kernel
theorem dL_law_885 : decode cL_law 885 = .ok (.goto (-867), 3) := by decide +kernel
theorem dL_law_888 : decode cL_law 888 = .ok (.iconst 1, 1) := by decide +kernel
theorem dL_law_889 : decode cL_law 889 = .ok (.ireturn, 1) := by decide +kernel
end
