-- ===== PART A: goes FIRST, ahead of the names: the tables' words, and 'selects' of the private methods out of them =====
/-- a private method of a class that the tables say can be made, by its rows of tables_1 -/
def lw_okq (q : MethodName × Nat) : Prop := (q.1.cls ≠ "java/lang/invoke/MethodHandle" ∧ q.1.cls ≠ "java/lang/invoke/VarHandle") ∧ Cond.instantiable q.1.cls q.2 ∈ tables_1 ∧ Cond.privateMethod q.1 ∈ tables_1 ∧ Cond.instanceMethod q.1 ∈ tables_1
theorem lw_p0 : lw_okq (⟨"ProofReader$Tokens", "at", "(I)I"⟩, 8) := ⟨⟨by decide +kernel, by decide +kernel⟩, List.mem_of_getElem? (i := 109) (by decide +kernel), List.mem_of_getElem? (i := 394) (by decide +kernel), List.mem_of_getElem? (i := 395) (by decide +kernel)⟩
theorem lw_p1 : lw_okq (⟨"ProofReader$Tokens", "takeName", "()Z"⟩, 8) := ⟨⟨by decide +kernel, by decide +kernel⟩, List.mem_of_getElem? (i := 109) (by decide +kernel), List.mem_of_getElem? (i := 401) (by decide +kernel), List.mem_of_getElem? (i := 402) (by decide +kernel)⟩
theorem lw_p2 : lw_okq (⟨"ProofReader$Tokens", "takeArrow", "()Z"⟩, 8) := ⟨⟨by decide +kernel, by decide +kernel⟩, List.mem_of_getElem? (i := 109) (by decide +kernel), List.mem_of_getElem? (i := 410) (by decide +kernel), List.mem_of_getElem? (i := 411) (by decide +kernel)⟩
theorem lw_p3 : lw_okq (⟨"ProofReader$Parser", "nameAndColon", "()Z"⟩, 17) := ⟨⟨by decide +kernel, by decide +kernel⟩, List.mem_of_getElem? (i := 187) (by decide +kernel), List.mem_of_getElem? (i := 421) (by decide +kernel), List.mem_of_getElem? (i := 422) (by decide +kernel)⟩
theorem lw_p4 : lw_okq (⟨"ProofReader$Parser", "isNow", "(I)Z"⟩, 17) := ⟨⟨by decide +kernel, by decide +kernel⟩, List.mem_of_getElem? (i := 187) (by decide +kernel), List.mem_of_getElem? (i := 425) (by decide +kernel), List.mem_of_getElem? (i := 426) (by decide +kernel)⟩
theorem lw_p5 : lw_okq (⟨"ProofReader$Parser", "isNext", "(I)Z"⟩, 17) := ⟨⟨by decide +kernel, by decide +kernel⟩, List.mem_of_getElem? (i := 187) (by decide +kernel), List.mem_of_getElem? (i := 438) (by decide +kernel), List.mem_of_getElem? (i := 439) (by decide +kernel)⟩
theorem lw_p6 : lw_okq (⟨"ProofReader$Parser", "wholeExpression", "()Z"⟩, 17) := ⟨⟨by decide +kernel, by decide +kernel⟩, List.mem_of_getElem? (i := 187) (by decide +kernel), List.mem_of_getElem? (i := 443) (by decide +kernel), List.mem_of_getElem? (i := 444) (by decide +kernel)⟩
theorem lw_p7 : lw_okq (⟨"ProofReader$Parser", "expression", "()Z"⟩, 17) := ⟨⟨by decide +kernel, by decide +kernel⟩, List.mem_of_getElem? (i := 187) (by decide +kernel), List.mem_of_getElem? (i := 447) (by decide +kernel), List.mem_of_getElem? (i := 448) (by decide +kernel)⟩
theorem lw_p8 : lw_okq (⟨"ProofReader$Parser", "product", "()Z"⟩, 17) := ⟨⟨by decide +kernel, by decide +kernel⟩, List.mem_of_getElem? (i := 187) (by decide +kernel), List.mem_of_getElem? (i := 451) (by decide +kernel), List.mem_of_getElem? (i := 452) (by decide +kernel)⟩
theorem lw_p9 : lw_okq (⟨"ProofReader$Parser", "opens", "()Z"⟩, 17) := ⟨⟨by decide +kernel, by decide +kernel⟩, List.mem_of_getElem? (i := 187) (by decide +kernel), List.mem_of_getElem? (i := 455) (by decide +kernel), List.mem_of_getElem? (i := 456) (by decide +kernel)⟩
theorem lw_p10 : lw_okq (⟨"ProofReader$Parser", "node", "(II)Z"⟩, 17) := ⟨⟨by decide +kernel, by decide +kernel⟩, List.mem_of_getElem? (i := 187) (by decide +kernel), List.mem_of_getElem? (i := 459) (by decide +kernel), List.mem_of_getElem? (i := 460) (by decide +kernel)⟩
theorem lw_p11 : lw_okq (⟨"ProofReader$Parser", "counts", "()Z"⟩, 17) := ⟨⟨by decide +kernel, by decide +kernel⟩, List.mem_of_getElem? (i := 187) (by decide +kernel), List.mem_of_getElem? (i := 463) (by decide +kernel), List.mem_of_getElem? (i := 464) (by decide +kernel)⟩
theorem lw_p12 : lw_okq (⟨"ProofReader$Parser", "scope", "(IJJ)Z"⟩, 17) := ⟨⟨by decide +kernel, by decide +kernel⟩, List.mem_of_getElem? (i := 187) (by decide +kernel), List.mem_of_getElem? (i := 471) (by decide +kernel), List.mem_of_getElem? (i := 472) (by decide +kernel)⟩
theorem lw_p13 : lw_okq (⟨"ProofReader$Parser", "function", "()Z"⟩, 17) := ⟨⟨by decide +kernel, by decide +kernel⟩, List.mem_of_getElem? (i := 187) (by decide +kernel), List.mem_of_getElem? (i := 475) (by decide +kernel), List.mem_of_getElem? (i := 476) (by decide +kernel)⟩
theorem lw_p14 : lw_okq (⟨"ProofReader$Parser", "simple", "()Z"⟩, 17) := ⟨⟨by decide +kernel, by decide +kernel⟩, List.mem_of_getElem? (i := 187) (by decide +kernel), List.mem_of_getElem? (i := 479) (by decide +kernel), List.mem_of_getElem? (i := 480) (by decide +kernel)⟩
theorem lw_p15 : lw_okq (⟨"ProofReader$Parser", "atom", "()Z"⟩, 17) := ⟨⟨by decide +kernel, by decide +kernel⟩, List.mem_of_getElem? (i := 187) (by decide +kernel), List.mem_of_getElem? (i := 483) (by decide +kernel), List.mem_of_getElem? (i := 484) (by decide +kernel)⟩
def lw_privs_1 : List (MethodName × Nat) := [(⟨"ProofReader$Tokens", "at", "(I)I"⟩, 8), (⟨"ProofReader$Tokens", "takeName", "()Z"⟩, 8), (⟨"ProofReader$Tokens", "takeArrow", "()Z"⟩, 8), (⟨"ProofReader$Parser", "nameAndColon", "()Z"⟩, 17), (⟨"ProofReader$Parser", "isNow", "(I)Z"⟩, 17), (⟨"ProofReader$Parser", "isNext", "(I)Z"⟩, 17), (⟨"ProofReader$Parser", "wholeExpression", "()Z"⟩, 17), (⟨"ProofReader$Parser", "expression", "()Z"⟩, 17), (⟨"ProofReader$Parser", "product", "()Z"⟩, 17), (⟨"ProofReader$Parser", "opens", "()Z"⟩, 17), (⟨"ProofReader$Parser", "node", "(II)Z"⟩, 17), (⟨"ProofReader$Parser", "counts", "()Z"⟩, 17), (⟨"ProofReader$Parser", "scope", "(IJJ)Z"⟩, 17), (⟨"ProofReader$Parser", "function", "()Z"⟩, 17), (⟨"ProofReader$Parser", "simple", "()Z"⟩, 17), (⟨"ProofReader$Parser", "atom", "()Z"⟩, 17)]
theorem lw_r1 : ∀ q ∈ lw_privs_1, lw_okq q := List.forall_mem_cons.mpr ⟨lw_p0, List.forall_mem_cons.mpr ⟨lw_p1, List.forall_mem_cons.mpr ⟨lw_p2, List.forall_mem_cons.mpr ⟨lw_p3, List.forall_mem_cons.mpr ⟨lw_p4, List.forall_mem_cons.mpr ⟨lw_p5, List.forall_mem_cons.mpr ⟨lw_p6, List.forall_mem_cons.mpr ⟨lw_p7, List.forall_mem_cons.mpr ⟨lw_p8, List.forall_mem_cons.mpr ⟨lw_p9, List.forall_mem_cons.mpr ⟨lw_p10, List.forall_mem_cons.mpr ⟨lw_p11, List.forall_mem_cons.mpr ⟨lw_p12, List.forall_mem_cons.mpr ⟨lw_p13, List.forall_mem_cons.mpr ⟨lw_p14, List.forall_mem_cons.mpr ⟨lw_p15, fun _ h => absurd h List.not_mem_nil⟩⟩⟩⟩⟩⟩⟩⟩⟩⟩⟩⟩⟩⟩⟩⟩
theorem lw_p16 : lw_okq (⟨"ProofReader$Parser", "meaning", "()I"⟩, 17) := ⟨⟨by decide +kernel, by decide +kernel⟩, List.mem_of_getElem? (i := 187) (by decide +kernel), List.mem_of_getElem? (i := 487) (by decide +kernel), List.mem_of_getElem? (i := 488) (by decide +kernel)⟩
theorem lw_p17 : lw_okq (⟨"ProofReader$Parser", "atomBegins", "()Z"⟩, 17) := ⟨⟨by decide +kernel, by decide +kernel⟩, List.mem_of_getElem? (i := 187) (by decide +kernel), List.mem_of_getElem? (i := 491) (by decide +kernel), List.mem_of_getElem? (i := 492) (by decide +kernel)⟩
theorem lw_p18 : lw_okq (⟨"ProofReader$Parser", "arrow", "(I)Z"⟩, 17) := ⟨⟨by decide +kernel, by decide +kernel⟩, List.mem_of_getElem? (i := 187) (by decide +kernel), List.mem_of_getElem? (i := 495) (by decide +kernel), List.mem_of_getElem? (i := 496) (by decide +kernel)⟩
theorem lw_p19 : lw_okq (⟨"ProofReader", "settle", "()Z"⟩, 9) := ⟨⟨by decide +kernel, by decide +kernel⟩, List.mem_of_getElem? (i := 24) (by decide +kernel), List.mem_of_getElem? (i := 510) (by decide +kernel), List.mem_of_getElem? (i := 511) (by decide +kernel)⟩
theorem lw_p20 : lw_okq (⟨"ProofReader$Checker", "isObjectHead", "(I)Z"⟩, 6) := ⟨⟨by decide +kernel, by decide +kernel⟩, List.mem_of_getElem? (i := 253) (by decide +kernel), List.mem_of_getElem? (i := 518) (by decide +kernel), List.mem_of_getElem? (i := 519) (by decide +kernel)⟩
theorem lw_p21 : lw_okq (⟨"ProofReader$Checker", "wrong", "(II)Z"⟩, 6) := ⟨⟨by decide +kernel, by decide +kernel⟩, List.mem_of_getElem? (i := 253) (by decide +kernel), List.mem_of_getElem? (i := 526) (by decide +kernel), List.mem_of_getElem? (i := 527) (by decide +kernel)⟩
theorem lw_p22 : lw_okq (⟨"ProofReader$Checker", "headType", "(I)I"⟩, 6) := ⟨⟨by decide +kernel, by decide +kernel⟩, List.mem_of_getElem? (i := 253) (by decide +kernel), List.mem_of_getElem? (i := 531) (by decide +kernel), List.mem_of_getElem? (i := 532) (by decide +kernel)⟩
theorem lw_p23 : lw_okq (⟨"ProofReader$Checker", "fit", "(II)Z"⟩, 6) := ⟨⟨by decide +kernel, by decide +kernel⟩, List.mem_of_getElem? (i := 253) (by decide +kernel), List.mem_of_getElem? (i := 539) (by decide +kernel), List.mem_of_getElem? (i := 540) (by decide +kernel)⟩
theorem lw_p24 : lw_okq (⟨"ProofReader$Checker", "object", "(III)Z"⟩, 6) := ⟨⟨by decide +kernel, by decide +kernel⟩, List.mem_of_getElem? (i := 253) (by decide +kernel), List.mem_of_getElem? (i := 543) (by decide +kernel), List.mem_of_getElem? (i := 544) (by decide +kernel)⟩
theorem lw_p25 : lw_okq (⟨"ProofReader$Checker", "application", "(III)Z"⟩, 6) := ⟨⟨by decide +kernel, by decide +kernel⟩, List.mem_of_getElem? (i := 253) (by decide +kernel), List.mem_of_getElem? (i := 547) (by decide +kernel), List.mem_of_getElem? (i := 548) (by decide +kernel)⟩
theorem lw_p26 : lw_okq (⟨"ProofReader$Putter", "push", "(II)V"⟩, 11) := ⟨⟨by decide +kernel, by decide +kernel⟩, List.mem_of_getElem? (i := 259) (by decide +kernel), List.mem_of_getElem? (i := 564) (by decide +kernel), List.mem_of_getElem? (i := 565) (by decide +kernel)⟩
theorem lw_p27 : lw_okq (⟨"ProofReader$Putter", "step", "(I)Z"⟩, 11) := ⟨⟨by decide +kernel, by decide +kernel⟩, List.mem_of_getElem? (i := 259) (by decide +kernel), List.mem_of_getElem? (i := 569) (by decide +kernel), List.mem_of_getElem? (i := 570) (by decide +kernel)⟩
theorem lw_p28 : lw_okq (⟨"ProofReader$Putter", "shiftOf", "(I)I"⟩, 11) := ⟨⟨by decide +kernel, by decide +kernel⟩, List.mem_of_getElem? (i := 259) (by decide +kernel), List.mem_of_getElem? (i := 573) (by decide +kernel), List.mem_of_getElem? (i := 574) (by decide +kernel)⟩
theorem lw_p29 : lw_okq (⟨"ProofReader$Printer", "close", "(I)V"⟩, 8) := ⟨⟨by decide +kernel, by decide +kernel⟩, List.mem_of_getElem? (i := 319) (by decide +kernel), List.mem_of_getElem? (i := 592) (by decide +kernel), List.mem_of_getElem? (i := 593) (by decide +kernel)⟩
theorem lw_p30 : lw_okq (⟨"ProofReader$Printer", "markParts", "(I)V"⟩, 8) := ⟨⟨by decide +kernel, by decide +kernel⟩, List.mem_of_getElem? (i := 319) (by decide +kernel), List.mem_of_getElem? (i := 600) (by decide +kernel), List.mem_of_getElem? (i := 601) (by decide +kernel)⟩
theorem lw_p31 : lw_okq (⟨"ProofReader$Printer", "node", "(I)V"⟩, 8) := ⟨⟨by decide +kernel, by decide +kernel⟩, List.mem_of_getElem? (i := 319) (by decide +kernel), List.mem_of_getElem? (i := 604) (by decide +kernel), List.mem_of_getElem? (i := 605) (by decide +kernel)⟩
def lw_privs_2 : List (MethodName × Nat) := [(⟨"ProofReader$Parser", "meaning", "()I"⟩, 17), (⟨"ProofReader$Parser", "atomBegins", "()Z"⟩, 17), (⟨"ProofReader$Parser", "arrow", "(I)Z"⟩, 17), (⟨"ProofReader", "settle", "()Z"⟩, 9), (⟨"ProofReader$Checker", "isObjectHead", "(I)Z"⟩, 6), (⟨"ProofReader$Checker", "wrong", "(II)Z"⟩, 6), (⟨"ProofReader$Checker", "headType", "(I)I"⟩, 6), (⟨"ProofReader$Checker", "fit", "(II)Z"⟩, 6), (⟨"ProofReader$Checker", "object", "(III)Z"⟩, 6), (⟨"ProofReader$Checker", "application", "(III)Z"⟩, 6), (⟨"ProofReader$Putter", "push", "(II)V"⟩, 11), (⟨"ProofReader$Putter", "step", "(I)Z"⟩, 11), (⟨"ProofReader$Putter", "shiftOf", "(I)I"⟩, 11), (⟨"ProofReader$Printer", "close", "(I)V"⟩, 8), (⟨"ProofReader$Printer", "markParts", "(I)V"⟩, 8), (⟨"ProofReader$Printer", "node", "(I)V"⟩, 8)]
theorem lw_r2 : ∀ q ∈ lw_privs_2, lw_okq q := List.forall_mem_cons.mpr ⟨lw_p16, List.forall_mem_cons.mpr ⟨lw_p17, List.forall_mem_cons.mpr ⟨lw_p18, List.forall_mem_cons.mpr ⟨lw_p19, List.forall_mem_cons.mpr ⟨lw_p20, List.forall_mem_cons.mpr ⟨lw_p21, List.forall_mem_cons.mpr ⟨lw_p22, List.forall_mem_cons.mpr ⟨lw_p23, List.forall_mem_cons.mpr ⟨lw_p24, List.forall_mem_cons.mpr ⟨lw_p25, List.forall_mem_cons.mpr ⟨lw_p26, List.forall_mem_cons.mpr ⟨lw_p27, List.forall_mem_cons.mpr ⟨lw_p28, List.forall_mem_cons.mpr ⟨lw_p29, List.forall_mem_cons.mpr ⟨lw_p30, List.forall_mem_cons.mpr ⟨lw_p31, fun _ h => absurd h List.not_mem_nil⟩⟩⟩⟩⟩⟩⟩⟩⟩⟩⟩⟩⟩⟩⟩⟩
theorem lw_p32 : lw_okq (⟨"ProofReader$Printer", "closeLater", "(II)V"⟩, 8) := ⟨⟨by decide +kernel, by decide +kernel⟩, List.mem_of_getElem? (i := 319) (by decide +kernel), List.mem_of_getElem? (i := 608) (by decide +kernel), List.mem_of_getElem? (i := 609) (by decide +kernel)⟩
theorem lw_p33 : lw_okq (⟨"ProofReader$Printer", "word", "(Ljava/lang/String;)V"⟩, 8) := ⟨⟨by decide +kernel, by decide +kernel⟩, List.mem_of_getElem? (i := 319) (by decide +kernel), List.mem_of_getElem? (i := 613) (by decide +kernel), List.mem_of_getElem? (i := 614) (by decide +kernel)⟩
theorem lw_p34 : lw_okq (⟨"ProofReader$Printer", "variable", "(I)V"⟩, 8) := ⟨⟨by decide +kernel, by decide +kernel⟩, List.mem_of_getElem? (i := 319) (by decide +kernel), List.mem_of_getElem? (i := 665) (by decide +kernel), List.mem_of_getElem? (i := 666) (by decide +kernel)⟩
theorem lw_p35 : lw_okq (⟨"ProofReader$Printer", "head", "(I)V"⟩, 8) := ⟨⟨by decide +kernel, by decide +kernel⟩, List.mem_of_getElem? (i := 319) (by decide +kernel), List.mem_of_getElem? (i := 670) (by decide +kernel), List.mem_of_getElem? (i := 671) (by decide +kernel)⟩
theorem lw_p36 : lw_okq (⟨"ProofReader$Printer", "bytesOf", "(J)V"⟩, 8) := ⟨⟨by decide +kernel, by decide +kernel⟩, List.mem_of_getElem? (i := 319) (by decide +kernel), List.mem_of_getElem? (i := 674) (by decide +kernel), List.mem_of_getElem? (i := 675) (by decide +kernel)⟩
theorem lw_p37 : lw_okq (⟨"ProofReader$Checker", "type", "(IZZ)Z"⟩, 6) := ⟨⟨by decide +kernel, by decide +kernel⟩, List.mem_of_getElem? (i := 253) (by decide +kernel), List.mem_of_getElem? (i := 679) (by decide +kernel), List.mem_of_getElem? (i := 680) (by decide +kernel)⟩
theorem lw_p38 : lw_okq (⟨"ProofReader$Checker", "familyApplication", "(I)Z"⟩, 6) := ⟨⟨by decide +kernel, by decide +kernel⟩, List.mem_of_getElem? (i := 253) (by decide +kernel), List.mem_of_getElem? (i := 684) (by decide +kernel), List.mem_of_getElem? (i := 685) (by decide +kernel)⟩
theorem lw_p39 : lw_okq (⟨"java/lang/Throwable", "fillInStackTrace", "(I)Ljava/lang/Throwable;"⟩, 6) := ⟨⟨by decide +kernel, by decide +kernel⟩, List.mem_of_getElem? (i := 784) (by decide +kernel), List.mem_of_getElem? (i := 782) (by decide +kernel), List.mem_of_getElem? (i := 783) (by decide +kernel)⟩
theorem lw_p40 : lw_okq (⟨"ProofReaderModel", "readToken", "()V"⟩, 61) := ⟨⟨by decide +kernel, by decide +kernel⟩, List.mem_of_getElem? (i := 854) (by decide +kernel), List.mem_of_getElem? (i := 1054) (by decide +kernel), List.mem_of_getElem? (i := 1055) (by decide +kernel)⟩
theorem lw_p41 : lw_okq (⟨"ProofReaderModel", "readName", "()V"⟩, 61) := ⟨⟨by decide +kernel, by decide +kernel⟩, List.mem_of_getElem? (i := 854) (by decide +kernel), List.mem_of_getElem? (i := 1061) (by decide +kernel), List.mem_of_getElem? (i := 1062) (by decide +kernel)⟩
theorem lw_p42 : lw_okq (⟨"ProofReaderModel", "tell", "()Z"⟩, 61) := ⟨⟨by decide +kernel, by decide +kernel⟩, List.mem_of_getElem? (i := 854) (by decide +kernel), List.mem_of_getElem? (i := 1069) (by decide +kernel), List.mem_of_getElem? (i := 1070) (by decide +kernel)⟩
theorem lw_p43 : lw_okq (⟨"ProofReaderModel", "constantOf", "()I"⟩, 61) := ⟨⟨by decide +kernel, by decide +kernel⟩, List.mem_of_getElem? (i := 854) (by decide +kernel), List.mem_of_getElem? (i := 1073) (by decide +kernel), List.mem_of_getElem? (i := 1074) (by decide +kernel)⟩
theorem lw_p44 : lw_okq (⟨"ProofReaderModel", "fails", "(II)Z"⟩, 61) := ⟨⟨by decide +kernel, by decide +kernel⟩, List.mem_of_getElem? (i := 854) (by decide +kernel), List.mem_of_getElem? (i := 1077) (by decide +kernel), List.mem_of_getElem? (i := 1078) (by decide +kernel)⟩
theorem lw_p45 : lw_okq (⟨"ProofReaderModel", "takes", "(I)Z"⟩, 61) := ⟨⟨by decide +kernel, by decide +kernel⟩, List.mem_of_getElem? (i := 854) (by decide +kernel), List.mem_of_getElem? (i := 1081) (by decide +kernel), List.mem_of_getElem? (i := 1082) (by decide +kernel)⟩
theorem lw_p46 : lw_okq (⟨"ProofReaderModel", "failsToken", "()Z"⟩, 61) := ⟨⟨by decide +kernel, by decide +kernel⟩, List.mem_of_getElem? (i := 854) (by decide +kernel), List.mem_of_getElem? (i := 1085) (by decide +kernel), List.mem_of_getElem? (i := 1086) (by decide +kernel)⟩
theorem lw_p47 : lw_okq (⟨"ProofReaderModel", "readExpression", "(Z)Z"⟩, 61) := ⟨⟨by decide +kernel, by decide +kernel⟩, List.mem_of_getElem? (i := 854) (by decide +kernel), List.mem_of_getElem? (i := 1089) (by decide +kernel), List.mem_of_getElem? (i := 1090) (by decide +kernel)⟩
def lw_privs_3 : List (MethodName × Nat) := [(⟨"ProofReader$Printer", "closeLater", "(II)V"⟩, 8), (⟨"ProofReader$Printer", "word", "(Ljava/lang/String;)V"⟩, 8), (⟨"ProofReader$Printer", "variable", "(I)V"⟩, 8), (⟨"ProofReader$Printer", "head", "(I)V"⟩, 8), (⟨"ProofReader$Printer", "bytesOf", "(J)V"⟩, 8), (⟨"ProofReader$Checker", "type", "(IZZ)Z"⟩, 6), (⟨"ProofReader$Checker", "familyApplication", "(I)Z"⟩, 6), (⟨"java/lang/Throwable", "fillInStackTrace", "(I)Ljava/lang/Throwable;"⟩, 6), (⟨"ProofReaderModel", "readToken", "()V"⟩, 61), (⟨"ProofReaderModel", "readName", "()V"⟩, 61), (⟨"ProofReaderModel", "tell", "()Z"⟩, 61), (⟨"ProofReaderModel", "constantOf", "()I"⟩, 61), (⟨"ProofReaderModel", "fails", "(II)Z"⟩, 61), (⟨"ProofReaderModel", "takes", "(I)Z"⟩, 61), (⟨"ProofReaderModel", "failsToken", "()Z"⟩, 61), (⟨"ProofReaderModel", "readExpression", "(Z)Z"⟩, 61)]
theorem lw_r3 : ∀ q ∈ lw_privs_3, lw_okq q := List.forall_mem_cons.mpr ⟨lw_p32, List.forall_mem_cons.mpr ⟨lw_p33, List.forall_mem_cons.mpr ⟨lw_p34, List.forall_mem_cons.mpr ⟨lw_p35, List.forall_mem_cons.mpr ⟨lw_p36, List.forall_mem_cons.mpr ⟨lw_p37, List.forall_mem_cons.mpr ⟨lw_p38, List.forall_mem_cons.mpr ⟨lw_p39, List.forall_mem_cons.mpr ⟨lw_p40, List.forall_mem_cons.mpr ⟨lw_p41, List.forall_mem_cons.mpr ⟨lw_p42, List.forall_mem_cons.mpr ⟨lw_p43, List.forall_mem_cons.mpr ⟨lw_p44, List.forall_mem_cons.mpr ⟨lw_p45, List.forall_mem_cons.mpr ⟨lw_p46, List.forall_mem_cons.mpr ⟨lw_p47, fun _ h => absurd h List.not_mem_nil⟩⟩⟩⟩⟩⟩⟩⟩⟩⟩⟩⟩⟩⟩⟩⟩
theorem lw_p48 : lw_okq (⟨"ProofReaderModel", "goesOn", "()Z"⟩, 61) := ⟨⟨by decide +kernel, by decide +kernel⟩, List.mem_of_getElem? (i := 854) (by decide +kernel), List.mem_of_getElem? (i := 1093) (by decide +kernel), List.mem_of_getElem? (i := 1094) (by decide +kernel)⟩
theorem lw_p49 : lw_okq (⟨"ProofReaderModel", "argument", "()Z"⟩, 61) := ⟨⟨by decide +kernel, by decide +kernel⟩, List.mem_of_getElem? (i := 854) (by decide +kernel), List.mem_of_getElem? (i := 1097) (by decide +kernel), List.mem_of_getElem? (i := 1098) (by decide +kernel)⟩
theorem lw_p50 : lw_okq (⟨"ProofReaderModel", "counts", "(II)Z"⟩, 61) := ⟨⟨by decide +kernel, by decide +kernel⟩, List.mem_of_getElem? (i := 854) (by decide +kernel), List.mem_of_getElem? (i := 1101) (by decide +kernel), List.mem_of_getElem? (i := 1102) (by decide +kernel)⟩
theorem lw_p51 : lw_okq (⟨"ProofReaderModel", "enter", "(I)V"⟩, 61) := ⟨⟨by decide +kernel, by decide +kernel⟩, List.mem_of_getElem? (i := 854) (by decide +kernel), List.mem_of_getElem? (i := 1105) (by decide +kernel), List.mem_of_getElem? (i := 1106) (by decide +kernel)⟩
theorem lw_p52 : lw_okq (⟨"ProofReaderModel", "readHead", "()Z"⟩, 61) := ⟨⟨by decide +kernel, by decide +kernel⟩, List.mem_of_getElem? (i := 854) (by decide +kernel), List.mem_of_getElem? (i := 1109) (by decide +kernel), List.mem_of_getElem? (i := 1110) (by decide +kernel)⟩
theorem lw_p53 : lw_okq (⟨"ProofReaderModel", "find", "()I"⟩, 61) := ⟨⟨by decide +kernel, by decide +kernel⟩, List.mem_of_getElem? (i := 854) (by decide +kernel), List.mem_of_getElem? (i := 1113) (by decide +kernel), List.mem_of_getElem? (i := 1114) (by decide +kernel)⟩
theorem lw_p54 : lw_okq (⟨"ProofReaderModel", "put", "(I)V"⟩, 61) := ⟨⟨by decide +kernel, by decide +kernel⟩, List.mem_of_getElem? (i := 854) (by decide +kernel), List.mem_of_getElem? (i := 1117) (by decide +kernel), List.mem_of_getElem? (i := 1118) (by decide +kernel)⟩
theorem lw_p55 : lw_okq (⟨"ProofReaderModel", "arrow", "()Z"⟩, 61) := ⟨⟨by decide +kernel, by decide +kernel⟩, List.mem_of_getElem? (i := 854) (by decide +kernel), List.mem_of_getElem? (i := 1121) (by decide +kernel), List.mem_of_getElem? (i := 1122) (by decide +kernel)⟩
theorem lw_p56 : lw_okq (⟨"ProofReaderModel", "leave", "()V"⟩, 61) := ⟨⟨by decide +kernel, by decide +kernel⟩, List.mem_of_getElem? (i := 854) (by decide +kernel), List.mem_of_getElem? (i := 1125) (by decide +kernel), List.mem_of_getElem? (i := 1126) (by decide +kernel)⟩
theorem lw_p57 : lw_okq (⟨"ProofReaderModel", "show", "(IJJ)V"⟩, 61) := ⟨⟨by decide +kernel, by decide +kernel⟩, List.mem_of_getElem? (i := 854) (by decide +kernel), List.mem_of_getElem? (i := 1129) (by decide +kernel), List.mem_of_getElem? (i := 1130) (by decide +kernel)⟩
theorem lw_p58 : lw_okq (⟨"ProofReaderModel", "begins", "()Z"⟩, 61) := ⟨⟨by decide +kernel, by decide +kernel⟩, List.mem_of_getElem? (i := 854) (by decide +kernel), List.mem_of_getElem? (i := 1133) (by decide +kernel), List.mem_of_getElem? (i := 1134) (by decide +kernel)⟩
theorem lw_p59 : lw_okq (⟨"ProofReaderModel", "beginProduct", "()Z"⟩, 61) := ⟨⟨by decide +kernel, by decide +kernel⟩, List.mem_of_getElem? (i := 854) (by decide +kernel), List.mem_of_getElem? (i := 1137) (by decide +kernel), List.mem_of_getElem? (i := 1138) (by decide +kernel)⟩
theorem lw_p60 : lw_okq (⟨"ProofReaderModel", "beginFunction", "()Z"⟩, 61) := ⟨⟨by decide +kernel, by decide +kernel⟩, List.mem_of_getElem? (i := 854) (by decide +kernel), List.mem_of_getElem? (i := 1141) (by decide +kernel), List.mem_of_getElem? (i := 1142) (by decide +kernel)⟩
theorem lw_p61 : lw_okq (⟨"ProofReaderModel", "then", "(IIIIIII)V"⟩, 61) := ⟨⟨by decide +kernel, by decide +kernel⟩, List.mem_of_getElem? (i := 854) (by decide +kernel), List.mem_of_getElem? (i := 1145) (by decide +kernel), List.mem_of_getElem? (i := 1146) (by decide +kernel)⟩
theorem lw_p62 : lw_okq (⟨"ProofReaderModel", "doAll", "()Z"⟩, 61) := ⟨⟨by decide +kernel, by decide +kernel⟩, List.mem_of_getElem? (i := 854) (by decide +kernel), List.mem_of_getElem? (i := 1149) (by decide +kernel), List.mem_of_getElem? (i := 1150) (by decide +kernel)⟩
theorem lw_p63 : lw_okq (⟨"ProofReaderModel", "doTask", "(I)Z"⟩, 61) := ⟨⟨by decide +kernel, by decide +kernel⟩, List.mem_of_getElem? (i := 854) (by decide +kernel), List.mem_of_getElem? (i := 1153) (by decide +kernel), List.mem_of_getElem? (i := 1154) (by decide +kernel)⟩
def lw_privs_4 : List (MethodName × Nat) := [(⟨"ProofReaderModel", "goesOn", "()Z"⟩, 61), (⟨"ProofReaderModel", "argument", "()Z"⟩, 61), (⟨"ProofReaderModel", "counts", "(II)Z"⟩, 61), (⟨"ProofReaderModel", "enter", "(I)V"⟩, 61), (⟨"ProofReaderModel", "readHead", "()Z"⟩, 61), (⟨"ProofReaderModel", "find", "()I"⟩, 61), (⟨"ProofReaderModel", "put", "(I)V"⟩, 61), (⟨"ProofReaderModel", "arrow", "()Z"⟩, 61), (⟨"ProofReaderModel", "leave", "()V"⟩, 61), (⟨"ProofReaderModel", "show", "(IJJ)V"⟩, 61), (⟨"ProofReaderModel", "begins", "()Z"⟩, 61), (⟨"ProofReaderModel", "beginProduct", "()Z"⟩, 61), (⟨"ProofReaderModel", "beginFunction", "()Z"⟩, 61), (⟨"ProofReaderModel", "then", "(IIIIIII)V"⟩, 61), (⟨"ProofReaderModel", "doAll", "()Z"⟩, 61), (⟨"ProofReaderModel", "doTask", "(I)Z"⟩, 61)]
theorem lw_r4 : ∀ q ∈ lw_privs_4, lw_okq q := List.forall_mem_cons.mpr ⟨lw_p48, List.forall_mem_cons.mpr ⟨lw_p49, List.forall_mem_cons.mpr ⟨lw_p50, List.forall_mem_cons.mpr ⟨lw_p51, List.forall_mem_cons.mpr ⟨lw_p52, List.forall_mem_cons.mpr ⟨lw_p53, List.forall_mem_cons.mpr ⟨lw_p54, List.forall_mem_cons.mpr ⟨lw_p55, List.forall_mem_cons.mpr ⟨lw_p56, List.forall_mem_cons.mpr ⟨lw_p57, List.forall_mem_cons.mpr ⟨lw_p58, List.forall_mem_cons.mpr ⟨lw_p59, List.forall_mem_cons.mpr ⟨lw_p60, List.forall_mem_cons.mpr ⟨lw_p61, List.forall_mem_cons.mpr ⟨lw_p62, List.forall_mem_cons.mpr ⟨lw_p63, fun _ h => absurd h List.not_mem_nil⟩⟩⟩⟩⟩⟩⟩⟩⟩⟩⟩⟩⟩⟩⟩⟩
theorem lw_p64 : lw_okq (⟨"ProofReaderModel", "checkSort", "(II)Z"⟩, 61) := ⟨⟨by decide +kernel, by decide +kernel⟩, List.mem_of_getElem? (i := 854) (by decide +kernel), List.mem_of_getElem? (i := 1157) (by decide +kernel), List.mem_of_getElem? (i := 1158) (by decide +kernel)⟩
theorem lw_p65 : lw_okq (⟨"ProofReaderModel", "isFamily", "(I)Z"⟩, 61) := ⟨⟨by decide +kernel, by decide +kernel⟩, List.mem_of_getElem? (i := 854) (by decide +kernel), List.mem_of_getElem? (i := 1161) (by decide +kernel), List.mem_of_getElem? (i := 1162) (by decide +kernel)⟩
theorem lw_p66 : lw_okq (⟨"ProofReaderModel", "skip", "(II)I"⟩, 61) := ⟨⟨by decide +kernel, by decide +kernel⟩, List.mem_of_getElem? (i := 854) (by decide +kernel), List.mem_of_getElem? (i := 1165) (by decide +kernel), List.mem_of_getElem? (i := 1166) (by decide +kernel)⟩
theorem lw_p67 : lw_okq (⟨"ProofReaderModel", "from", "(II)I"⟩, 61) := ⟨⟨by decide +kernel, by decide +kernel⟩, List.mem_of_getElem? (i := 854) (by decide +kernel), List.mem_of_getElem? (i := 1169) (by decide +kernel), List.mem_of_getElem? (i := 1170) (by decide +kernel)⟩
theorem lw_p68 : lw_okq (⟨"ProofReaderModel", "startArguments", "(III)V"⟩, 61) := ⟨⟨by decide +kernel, by decide +kernel⟩, List.mem_of_getElem? (i := 854) (by decide +kernel), List.mem_of_getElem? (i := 1173) (by decide +kernel), List.mem_of_getElem? (i := 1174) (by decide +kernel)⟩
theorem lw_p69 : lw_okq (⟨"ProofReaderModel", "copy", "(IIII)I"⟩, 61) := ⟨⟨by decide +kernel, by decide +kernel⟩, List.mem_of_getElem? (i := 854) (by decide +kernel), List.mem_of_getElem? (i := 1177) (by decide +kernel), List.mem_of_getElem? (i := 1178) (by decide +kernel)⟩
theorem lw_p70 : lw_okq (⟨"ProofReaderModel", "later", "(III)V"⟩, 61) := ⟨⟨by decide +kernel, by decide +kernel⟩, List.mem_of_getElem? (i := 854) (by decide +kernel), List.mem_of_getElem? (i := 1181) (by decide +kernel), List.mem_of_getElem? (i := 1182) (by decide +kernel)⟩
theorem lw_p71 : lw_okq (⟨"ProofReaderModel", "giveApplication", "(IIII)V"⟩, 61) := ⟨⟨by decide +kernel, by decide +kernel⟩, List.mem_of_getElem? (i := 854) (by decide +kernel), List.mem_of_getElem? (i := 1185) (by decide +kernel), List.mem_of_getElem? (i := 1186) (by decide +kernel)⟩
theorem lw_p72 : lw_okq (⟨"ProofReaderModel", "giveInPlace", "(II)V"⟩, 61) := ⟨⟨by decide +kernel, by decide +kernel⟩, List.mem_of_getElem? (i := 854) (by decide +kernel), List.mem_of_getElem? (i := 1189) (by decide +kernel), List.mem_of_getElem? (i := 1190) (by decide +kernel)⟩
theorem lw_p73 : lw_okq (⟨"ProofReaderModel", "give", "(I)V"⟩, 61) := ⟨⟨by decide +kernel, by decide +kernel⟩, List.mem_of_getElem? (i := 854) (by decide +kernel), List.mem_of_getElem? (i := 1193) (by decide +kernel), List.mem_of_getElem? (i := 1194) (by decide +kernel)⟩
theorem lw_p74 : lw_okq (⟨"ProofReaderModel", "giveBinder", "(II)V"⟩, 61) := ⟨⟨by decide +kernel, by decide +kernel⟩, List.mem_of_getElem? (i := 854) (by decide +kernel), List.mem_of_getElem? (i := 1197) (by decide +kernel), List.mem_of_getElem? (i := 1198) (by decide +kernel)⟩
theorem lw_p75 : lw_okq (⟨"ProofReaderModel", "checkObject", "(II)Z"⟩, 61) := ⟨⟨by decide +kernel, by decide +kernel⟩, List.mem_of_getElem? (i := 854) (by decide +kernel), List.mem_of_getElem? (i := 1201) (by decide +kernel), List.mem_of_getElem? (i := 1202) (by decide +kernel)⟩
theorem lw_p76 : lw_okq (⟨"ProofReaderModel", "checkFunction", "(II)V"⟩, 61) := ⟨⟨by decide +kernel, by decide +kernel⟩, List.mem_of_getElem? (i := 854) (by decide +kernel), List.mem_of_getElem? (i := 1205) (by decide +kernel), List.mem_of_getElem? (i := 1206) (by decide +kernel)⟩
theorem lw_p77 : lw_okq (⟨"ProofReaderModel", "checkArguments", "(I)Z"⟩, 61) := ⟨⟨by decide +kernel, by decide +kernel⟩, List.mem_of_getElem? (i := 854) (by decide +kernel), List.mem_of_getElem? (i := 1209) (by decide +kernel), List.mem_of_getElem? (i := 1210) (by decide +kernel)⟩
theorem lw_p78 : lw_okq (⟨"ProofReaderModel", "print", "(I)Z"⟩, 61) := ⟨⟨by decide +kernel, by decide +kernel⟩, List.mem_of_getElem? (i := 854) (by decide +kernel), List.mem_of_getElem? (i := 1213) (by decide +kernel), List.mem_of_getElem? (i := 1214) (by decide +kernel)⟩
theorem lw_p79 : lw_okq (⟨"ProofReaderModel", "sayPart", "(II)V"⟩, 61) := ⟨⟨by decide +kernel, by decide +kernel⟩, List.mem_of_getElem? (i := 854) (by decide +kernel), List.mem_of_getElem? (i := 1217) (by decide +kernel), List.mem_of_getElem? (i := 1218) (by decide +kernel)⟩
def lw_privs_5 : List (MethodName × Nat) := [(⟨"ProofReaderModel", "checkSort", "(II)Z"⟩, 61), (⟨"ProofReaderModel", "isFamily", "(I)Z"⟩, 61), (⟨"ProofReaderModel", "skip", "(II)I"⟩, 61), (⟨"ProofReaderModel", "from", "(II)I"⟩, 61), (⟨"ProofReaderModel", "startArguments", "(III)V"⟩, 61), (⟨"ProofReaderModel", "copy", "(IIII)I"⟩, 61), (⟨"ProofReaderModel", "later", "(III)V"⟩, 61), (⟨"ProofReaderModel", "giveApplication", "(IIII)V"⟩, 61), (⟨"ProofReaderModel", "giveInPlace", "(II)V"⟩, 61), (⟨"ProofReaderModel", "give", "(I)V"⟩, 61), (⟨"ProofReaderModel", "giveBinder", "(II)V"⟩, 61), (⟨"ProofReaderModel", "checkObject", "(II)Z"⟩, 61), (⟨"ProofReaderModel", "checkFunction", "(II)V"⟩, 61), (⟨"ProofReaderModel", "checkArguments", "(I)Z"⟩, 61), (⟨"ProofReaderModel", "print", "(I)Z"⟩, 61), (⟨"ProofReaderModel", "sayPart", "(II)V"⟩, 61)]
theorem lw_r5 : ∀ q ∈ lw_privs_5, lw_okq q := List.forall_mem_cons.mpr ⟨lw_p64, List.forall_mem_cons.mpr ⟨lw_p65, List.forall_mem_cons.mpr ⟨lw_p66, List.forall_mem_cons.mpr ⟨lw_p67, List.forall_mem_cons.mpr ⟨lw_p68, List.forall_mem_cons.mpr ⟨lw_p69, List.forall_mem_cons.mpr ⟨lw_p70, List.forall_mem_cons.mpr ⟨lw_p71, List.forall_mem_cons.mpr ⟨lw_p72, List.forall_mem_cons.mpr ⟨lw_p73, List.forall_mem_cons.mpr ⟨lw_p74, List.forall_mem_cons.mpr ⟨lw_p75, List.forall_mem_cons.mpr ⟨lw_p76, List.forall_mem_cons.mpr ⟨lw_p77, List.forall_mem_cons.mpr ⟨lw_p78, List.forall_mem_cons.mpr ⟨lw_p79, fun _ h => absurd h List.not_mem_nil⟩⟩⟩⟩⟩⟩⟩⟩⟩⟩⟩⟩⟩⟩⟩⟩
theorem lw_p80 : lw_okq (⟨"ProofReaderModel", "say", "(I)V"⟩, 61) := ⟨⟨by decide +kernel, by decide +kernel⟩, List.mem_of_getElem? (i := 854) (by decide +kernel), List.mem_of_getElem? (i := 1221) (by decide +kernel), List.mem_of_getElem? (i := 1222) (by decide +kernel)⟩
theorem lw_p81 : lw_okq (⟨"ProofReaderModel", "sayNumber", "(I)V"⟩, 61) := ⟨⟨by decide +kernel, by decide +kernel⟩, List.mem_of_getElem? (i := 854) (by decide +kernel), List.mem_of_getElem? (i := 1225) (by decide +kernel), List.mem_of_getElem? (i := 1226) (by decide +kernel)⟩
theorem lw_p82 : lw_okq (⟨"ProofReaderModel", "sayApplication", "(II)V"⟩, 61) := ⟨⟨by decide +kernel, by decide +kernel⟩, List.mem_of_getElem? (i := 854) (by decide +kernel), List.mem_of_getElem? (i := 1229) (by decide +kernel), List.mem_of_getElem? (i := 1230) (by decide +kernel)⟩
theorem lw_p83 : lw_okq (⟨"ProofReaderModel", "sayName", "(JJ)V"⟩, 61) := ⟨⟨by decide +kernel, by decide +kernel⟩, List.mem_of_getElem? (i := 854) (by decide +kernel), List.mem_of_getElem? (i := 1233) (by decide +kernel), List.mem_of_getElem? (i := 1234) (by decide +kernel)⟩
theorem lw_p84 : lw_okq (⟨"ProofReaderModel", "isSame", "(II)Z"⟩, 61) := ⟨⟨by decide +kernel, by decide +kernel⟩, List.mem_of_getElem? (i := 854) (by decide +kernel), List.mem_of_getElem? (i := 1238) (by decide +kernel), List.mem_of_getElem? (i := 1239) (by decide +kernel)⟩
theorem lw_p85 : lw_okq (⟨"ProofReaderModel", "goBehind", "(I)Z"⟩, 61) := ⟨⟨by decide +kernel, by decide +kernel⟩, List.mem_of_getElem? (i := 854) (by decide +kernel), List.mem_of_getElem? (i := 1242) (by decide +kernel), List.mem_of_getElem? (i := 1243) (by decide +kernel)⟩
theorem lw_p86 : lw_okq (⟨"ProofReaderModel", "keep", "(IJJ)V"⟩, 61) := ⟨⟨by decide +kernel, by decide +kernel⟩, List.mem_of_getElem? (i := 854) (by decide +kernel), List.mem_of_getElem? (i := 1246) (by decide +kernel), List.mem_of_getElem? (i := 1247) (by decide +kernel)⟩
theorem lw_p87 : lw_okq (⟨"ProofReaderModel", "question", "()Z"⟩, 61) := ⟨⟨by decide +kernel, by decide +kernel⟩, List.mem_of_getElem? (i := 854) (by decide +kernel), List.mem_of_getElem? (i := 1250) (by decide +kernel), List.mem_of_getElem? (i := 1251) (by decide +kernel)⟩
theorem lw_p88 : lw_okq (⟨"ProofReaderModel", "lastPart", "(I)I"⟩, 61) := ⟨⟨by decide +kernel, by decide +kernel⟩, List.mem_of_getElem? (i := 854) (by decide +kernel), List.mem_of_getElem? (i := 1278) (by decide +kernel), List.mem_of_getElem? (i := 1279) (by decide +kernel)⟩
theorem lw_p89 : lw_okq (⟨"ProofReaderModel", "products", "(I)I"⟩, 61) := ⟨⟨by decide +kernel, by decide +kernel⟩, List.mem_of_getElem? (i := 854) (by decide +kernel), List.mem_of_getElem? (i := 1282) (by decide +kernel), List.mem_of_getElem? (i := 1283) (by decide +kernel)⟩
theorem lw_p90 : lw_okq (⟨"ProofReaderModel", "size", "(I)I"⟩, 61) := ⟨⟨by decide +kernel, by decide +kernel⟩, List.mem_of_getElem? (i := 854) (by decide +kernel), List.mem_of_getElem? (i := 1286) (by decide +kernel), List.mem_of_getElem? (i := 1287) (by decide +kernel)⟩
theorem lw_p91 : lw_okq (⟨"ProofReaderModel", "order", "(I)I"⟩, 61) := ⟨⟨by decide +kernel, by decide +kernel⟩, List.mem_of_getElem? (i := 854) (by decide +kernel), List.mem_of_getElem? (i := 1290) (by decide +kernel), List.mem_of_getElem? (i := 1291) (by decide +kernel)⟩
def lw_privs_6 : List (MethodName × Nat) := [(⟨"ProofReaderModel", "say", "(I)V"⟩, 61), (⟨"ProofReaderModel", "sayNumber", "(I)V"⟩, 61), (⟨"ProofReaderModel", "sayApplication", "(II)V"⟩, 61), (⟨"ProofReaderModel", "sayName", "(JJ)V"⟩, 61), (⟨"ProofReaderModel", "isSame", "(II)Z"⟩, 61), (⟨"ProofReaderModel", "goBehind", "(I)Z"⟩, 61), (⟨"ProofReaderModel", "keep", "(IJJ)V"⟩, 61), (⟨"ProofReaderModel", "question", "()Z"⟩, 61), (⟨"ProofReaderModel", "lastPart", "(I)I"⟩, 61), (⟨"ProofReaderModel", "products", "(I)I"⟩, 61), (⟨"ProofReaderModel", "size", "(I)I"⟩, 61), (⟨"ProofReaderModel", "order", "(I)I"⟩, 61)]
theorem lw_r6 : ∀ q ∈ lw_privs_6, lw_okq q := List.forall_mem_cons.mpr ⟨lw_p80, List.forall_mem_cons.mpr ⟨lw_p81, List.forall_mem_cons.mpr ⟨lw_p82, List.forall_mem_cons.mpr ⟨lw_p83, List.forall_mem_cons.mpr ⟨lw_p84, List.forall_mem_cons.mpr ⟨lw_p85, List.forall_mem_cons.mpr ⟨lw_p86, List.forall_mem_cons.mpr ⟨lw_p87, List.forall_mem_cons.mpr ⟨lw_p88, List.forall_mem_cons.mpr ⟨lw_p89, List.forall_mem_cons.mpr ⟨lw_p90, List.forall_mem_cons.mpr ⟨lw_p91, fun _ h => absurd h List.not_mem_nil⟩⟩⟩⟩⟩⟩⟩⟩⟩⟩⟩⟩
def lw_privs : List (MethodName × Nat) := lw_privs_1 ++ (lw_privs_2 ++ (lw_privs_3 ++ (lw_privs_4 ++ (lw_privs_5 ++ (lw_privs_6)))))
def lw_tbl : List Cond := k2_sels lw_privs ++ tables_1
theorem lw_privs_ok : ∀ q ∈ lw_privs, lw_okq q := by
  show ∀ q ∈ lw_privs_1 ++ (lw_privs_2 ++ (lw_privs_3 ++ (lw_privs_4 ++ (lw_privs_5 ++ (lw_privs_6))))), lw_okq q
  exact List.forall_mem_append.mpr ⟨lw_r1, List.forall_mem_append.mpr ⟨lw_r2, List.forall_mem_append.mpr ⟨lw_r3, List.forall_mem_append.mpr ⟨lw_r4, List.forall_mem_append.mpr ⟨lw_r5, lw_r6⟩⟩⟩⟩⟩

theorem goodIn_r {big : List Cond} (ws : List Cond) (ps : List Nat) (hp : ws = ps.filterMap (fun i => big[i]?)) : ∀ w ∈ ws, w ∈ big := by
  intro w hw
  rw [hp] at hw
  obtain ⟨i, -, hi⟩ := List.mem_filterMap.mp hw
  exact List.mem_of_getElem? hi
/-- the words that a callee may ask of its caller -/
def tb : List Cond := lw_tbl.filter goodWord
theorem tbm {w : Cond} (i : Nat) (h : lw_tbl[i]? = some w) (g : goodWord w = true) : w ∈ tb := List.mem_filter.mpr ⟨List.mem_of_getElem? h, g⟩
theorem tb_of {args : Array Value} {s : State} (hts : ∀ w ∈ lw_tbl, w.before args s = true) : ∀ w ∈ tb, w.before args s = true := fun w h => hts w (List.mem_filter.mp h).1
def R_F : String := "ProofReader$Fault"
def F_F : u_T := fun k => match k with
  | 0 => ("ProofReader$Fault", "number", "I", false)
  | _ => ("ProofReader$Fault", "where", "I", false)
def ft_F : Nat → FieldType := fun k => match k with
  | 0 => .int
  | _ => .int
abbrev w_F : List Cond := u_ws R_F F_F 2
theorem n_F : ∀ a, a < 2 → ∀ b, b < 2 → a ≠ b → (F_F a).2.1 ≠ (F_F b).2.1 := by decide +kernel
theorem ft_F_ok : ∀ k, k < 2 → parseFieldDescriptor (F_F k).2.2.1 = some (ft_F k) := by decide +kernel
theorem i0_F : ∀ w ∈ w_F, w ∈ lw_tbl := goodIn_r w_F [133, 135] (by decide +kernel)
theorem i_F : ∀ w ∈ w_F, w ∈ tb := fun w h => List.mem_filter.mpr ⟨i0_F w h, List.all_eq_true.mp (show w_F.all goodWord = true by decide +kernel) w h⟩
def R_C : String := "ProofReader$Code"
def F_C : u_T := fun k => match k with
  | 0 => ("ProofReader$Code", "head", "[I", true)
  | 1 => ("ProofReader$Code", "arity", "[I", true)
  | 2 => ("ProofReader$Code", "size", "[I", true)
  | 3 => ("ProofReader$Code", "level", "[I", true)
  | _ => ("ProofReader$Code", "where", "[I", true)
def ft_C : Nat → FieldType := fun k => match k with
  | 0 => .array .int
  | 1 => .array .int
  | 2 => .array .int
  | 3 => .array .int
  | _ => .array .int
abbrev w_C : List Cond := u_ws R_C F_C 5
theorem n_C : ∀ a, a < 5 → ∀ b, b < 5 → a ≠ b → (F_C a).2.1 ≠ (F_C b).2.1 := by decide +kernel
theorem ft_C_ok : ∀ k, k < 5 → parseFieldDescriptor (F_C k).2.2.1 = some (ft_C k) := by decide +kernel
theorem i0_C : ∀ w ∈ w_C, w ∈ lw_tbl := goodIn_r w_C [168, 170, 172, 174, 176] (by decide +kernel)
theorem i_C : ∀ w ∈ w_C, w ∈ tb := fun w h => List.mem_filter.mpr ⟨i0_C w h, List.all_eq_true.mp (show w_C.all goodWord = true by decide +kernel) w h⟩
def R_P : String := "ProofReader$Paper"
def F_P : u_T := fun k => match k with
  | 0 => ("ProofReader$Paper", "bytes", "[B", true)
  | 1 => ("ProofReader$Paper", "length", "I", false)
  | _ => ("ProofReader$Paper", "overrun", "Z", false)
def ft_P : Nat → FieldType := fun k => match k with
  | 0 => .array .byte
  | 1 => .int
  | _ => .boolean
abbrev w_P : List Cond := u_ws R_P F_P 3
theorem n_P : ∀ a, a < 3 → ∀ b, b < 3 → a ≠ b → (F_P a).2.1 ≠ (F_P b).2.1 := by decide +kernel
theorem ft_P_ok : ∀ k, k < 3 → parseFieldDescriptor (F_P k).2.2.1 = some (ft_P k) := by decide +kernel
theorem i0_P : ∀ w ∈ w_P, w ∈ lw_tbl := goodIn_r w_P [192, 194, 196] (by decide +kernel)
theorem i_P : ∀ w ∈ w_P, w ∈ tb := fun w h => List.mem_filter.mpr ⟨i0_P w h, List.all_eq_true.mp (show w_P.all goodWord = true by decide +kernel) w h⟩
def R_T : String := "ProofReader$Tokens"
def F_T : u_T := fun k => match k with
  | 0 => ("ProofReader$Tokens", "fault", "LProofReader$Fault;", true)
  | 1 => ("ProofReader$Tokens", "bytes", "[B", true)
  | 2 => ("ProofReader$Tokens", "next", "I", false)
  | 3 => ("ProofReader$Tokens", "length", "I", false)
  | 4 => ("ProofReader$Tokens", "kind", "I", false)
  | 5 => ("ProofReader$Tokens", "start", "I", false)
  | 6 => ("ProofReader$Tokens", "front", "J", false)
  | _ => ("ProofReader$Tokens", "back", "J", false)
def ft_T : Nat → FieldType := fun k => match k with
  | 0 => .object "ProofReader$Fault"
  | 1 => .array .byte
  | 2 => .int
  | 3 => .int
  | 4 => .int
  | 5 => .int
  | 6 => .long
  | _ => .long
abbrev w_T : List Cond := u_ws R_T F_T 8
theorem n_T : ∀ a, a < 8 → ∀ b, b < 8 → a ≠ b → (F_T a).2.1 ≠ (F_T b).2.1 := by decide +kernel
theorem ft_T_ok : ∀ k, k < 8 → parseFieldDescriptor (F_T k).2.2.1 = some (ft_T k) := by decide +kernel
theorem i0_T : ∀ w ∈ w_T, w ∈ lw_tbl := goodIn_r w_T [220, 222, 224, 226, 228, 230, 232, 234] (by decide +kernel)
theorem i_T : ∀ w ∈ w_T, w ∈ tb := fun w h => List.mem_filter.mpr ⟨i0_T w h, List.all_eq_true.mp (show w_T.all goodWord = true by decide +kernel) w h⟩
def R_K : String := "ProofReader$Constants"
def F_K : u_T := fun k => match k with
  | 0 => ("ProofReader$Constants", "code", "LProofReader$Code;", true)
  | 1 => ("ProofReader$Constants", "front", "[J", true)
  | 2 => ("ProofReader$Constants", "back", "[J", true)
  | 3 => ("ProofReader$Constants", "root", "[I", true)
  | 4 => ("ProofReader$Constants", "target", "[I", true)
  | 5 => ("ProofReader$Constants", "proved", "[Z", true)
  | 6 => ("ProofReader$Constants", "count", "I", false)
  | _ => ("ProofReader$Constants", "end", "I", false)
def ft_K : Nat → FieldType := fun k => match k with
  | 0 => .object "ProofReader$Code"
  | 1 => .array .long
  | 2 => .array .long
  | 3 => .array .int
  | 4 => .array .int
  | 5 => .array .boolean
  | 6 => .int
  | _ => .int
abbrev w_K : List Cond := u_ws R_K F_K 8
theorem n_K : ∀ a, a < 8 → ∀ b, b < 8 → a ≠ b → (F_K a).2.1 ≠ (F_K b).2.1 := by decide +kernel
theorem ft_K_ok : ∀ k, k < 8 → parseFieldDescriptor (F_K k).2.2.1 = some (ft_K k) := by decide +kernel
theorem i0_K : ∀ w ∈ w_K, w ∈ lw_tbl := goodIn_r w_K [259, 261, 263, 265, 267, 269, 271, 273] (by decide +kernel)
theorem i_K : ∀ w ∈ w_K, w ∈ tb := fun w h => List.mem_filter.mpr ⟨i0_K w h, List.all_eq_true.mp (show w_K.all goodWord = true by decide +kernel) w h⟩
def R_R : String := "ProofReader$Parser"
def F_R : u_T := fun k => match k with
  | 0 => ("ProofReader$Parser", "tokens", "LProofReader$Tokens;", true)
  | 1 => ("ProofReader$Parser", "code", "LProofReader$Code;", true)
  | 2 => ("ProofReader$Parser", "constants", "LProofReader$Constants;", true)
  | 3 => ("ProofReader$Parser", "fault", "LProofReader$Fault;", true)
  | 4 => ("ProofReader$Parser", "scopeFront", "[J", true)
  | 5 => ("ProofReader$Parser", "scopeBack", "[J", true)
  | 6 => ("ProofReader$Parser", "level", "I", false)
  | 7 => ("ProofReader$Parser", "open", "I", false)
  | 8 => ("ProofReader$Parser", "nodes", "I", false)
  | 9 => ("ProofReader$Parser", "end", "I", false)
  | 10 => ("ProofReader$Parser", "start", "I", false)
  | 11 => ("ProofReader$Parser", "question", "Z", false)
  | 12 => ("ProofReader$Parser", "proved", "Z", false)
  | 13 => ("ProofReader$Parser", "front", "J", false)
  | 14 => ("ProofReader$Parser", "back", "J", false)
  | 15 => ("ProofReader$Parser", "first", "I", false)
  | _ => ("ProofReader$Parser", "second", "I", false)
def ft_R : Nat → FieldType := fun k => match k with
  | 0 => .object "ProofReader$Tokens"
  | 1 => .object "ProofReader$Code"
  | 2 => .object "ProofReader$Constants"
  | 3 => .object "ProofReader$Fault"
  | 4 => .array .long
  | 5 => .array .long
  | 6 => .int
  | 7 => .int
  | 8 => .int
  | 9 => .int
  | 10 => .int
  | 11 => .boolean
  | 12 => .boolean
  | 13 => .long
  | 14 => .long
  | 15 => .int
  | _ => .int
abbrev w_R : List Cond := u_ws R_R F_R 17
theorem n_R : ∀ a, a < 17 → ∀ b, b < 17 → a ≠ b → (F_R a).2.1 ≠ (F_R b).2.1 := by decide +kernel
theorem ft_R_ok : ∀ k, k < 17 → parseFieldDescriptor (F_R k).2.2.1 = some (ft_R k) := by decide +kernel
theorem i0_R : ∀ w ∈ w_R, w ∈ lw_tbl := goodIn_r w_R [309, 311, 313, 315, 317, 319, 321, 323, 325, 327, 329, 331, 333, 335, 337, 339, 341] (by decide +kernel)
theorem i_R : ∀ w ∈ w_R, w ∈ tb := fun w h => List.mem_filter.mpr ⟨i0_R w h, List.all_eq_true.mp (show w_R.all goodWord = true by decide +kernel) w h⟩
def R_U : String := "ProofReader$Putter"
def F_U : u_T := fun k => match k with
  | 0 => ("ProofReader$Putter", "code", "LProofReader$Code;", true)
  | 1 => ("ProofReader$Putter", "at", "[I", true)
  | 2 => ("ProofReader$Putter", "stop", "[I", true)
  | 3 => ("ProofReader$Putter", "base", "[I", true)
  | 4 => ("ProofReader$Putter", "shift", "[I", true)
  | 5 => ("ProofReader$Putter", "call", "[I", true)
  | 6 => ("ProofReader$Putter", "top", "I", false)
  | 7 => ("ProofReader$Putter", "variable", "I", false)
  | 8 => ("ProofReader$Putter", "argument", "I", false)
  | 9 => ("ProofReader$Putter", "from", "I", false)
  | _ => ("ProofReader$Putter", "end", "I", false)
def ft_U : Nat → FieldType := fun k => match k with
  | 0 => .object "ProofReader$Code"
  | 1 => .array .int
  | 2 => .array .int
  | 3 => .array .int
  | 4 => .array .int
  | 5 => .array .int
  | 6 => .int
  | 7 => .int
  | 8 => .int
  | 9 => .int
  | _ => .int
abbrev w_U : List Cond := u_ws R_U F_U 11
theorem n_U : ∀ a, a < 11 → ∀ b, b < 11 → a ≠ b → (F_U a).2.1 ≠ (F_U b).2.1 := by decide +kernel
theorem ft_U_ok : ∀ k, k < 11 → parseFieldDescriptor (F_U k).2.2.1 = some (ft_U k) := by decide +kernel
theorem i0_U : ∀ w ∈ w_U, w ∈ lw_tbl := goodIn_r w_U [367, 369, 371, 373, 375, 377, 379, 381, 383, 385, 387] (by decide +kernel)
theorem i_U : ∀ w ∈ w_U, w ∈ tb := fun w h => List.mem_filter.mpr ⟨i0_U w h, List.all_eq_true.mp (show w_U.all goodWord = true by decide +kernel) w h⟩
def R_H : String := "ProofReader$Checker"
def F_H : u_T := fun k => match k with
  | 0 => ("ProofReader$Checker", "code", "LProofReader$Code;", true)
  | 1 => ("ProofReader$Checker", "constants", "LProofReader$Constants;", true)
  | 2 => ("ProofReader$Checker", "fault", "LProofReader$Fault;", true)
  | 3 => ("ProofReader$Checker", "putter", "LProofReader$Putter;", true)
  | 4 => ("ProofReader$Checker", "typeOf", "[I", true)
  | _ => ("ProofReader$Checker", "work", "I", false)
def ft_H : Nat → FieldType := fun k => match k with
  | 0 => .object "ProofReader$Code"
  | 1 => .object "ProofReader$Constants"
  | 2 => .object "ProofReader$Fault"
  | 3 => .object "ProofReader$Putter"
  | 4 => .array .int
  | _ => .int
abbrev w_H : List Cond := u_ws R_H F_H 6
theorem n_H : ∀ a, a < 6 → ∀ b, b < 6 → a ≠ b → (F_H a).2.1 ≠ (F_H b).2.1 := by decide +kernel
theorem ft_H_ok : ∀ k, k < 6 → parseFieldDescriptor (F_H k).2.2.1 = some (ft_H k) := by decide +kernel
theorem i0_H : ∀ w ∈ w_H, w ∈ lw_tbl := goodIn_r w_H [397, 399, 401, 403, 405, 407] (by decide +kernel)
theorem i_H : ∀ w ∈ w_H, w ∈ tb := fun w h => List.mem_filter.mpr ⟨i0_H w h, List.all_eq_true.mp (show w_H.all goodWord = true by decide +kernel) w h⟩
def R_I : String := "ProofReader$Printer"
def F_I : u_T := fun k => match k with
  | 0 => ("ProofReader$Printer", "code", "LProofReader$Code;", true)
  | 1 => ("ProofReader$Printer", "constants", "LProofReader$Constants;", true)
  | 2 => ("ProofReader$Printer", "paper", "LProofReader$Paper;", true)
  | 3 => ("ProofReader$Printer", "isArgument", "[Z", true)
  | 4 => ("ProofReader$Printer", "closeAt", "[I", true)
  | 5 => ("ProofReader$Printer", "closeWith", "[I", true)
  | 6 => ("ProofReader$Printer", "closing", "I", false)
  | _ => ("ProofReader$Printer", "root", "I", false)
def ft_I : Nat → FieldType := fun k => match k with
  | 0 => .object "ProofReader$Code"
  | 1 => .object "ProofReader$Constants"
  | 2 => .object "ProofReader$Paper"
  | 3 => .array .boolean
  | 4 => .array .int
  | 5 => .array .int
  | 6 => .int
  | _ => .int
abbrev w_I : List Cond := u_ws R_I F_I 8
theorem n_I : ∀ a, a < 8 → ∀ b, b < 8 → a ≠ b → (F_I a).2.1 ≠ (F_I b).2.1 := by decide +kernel
theorem ft_I_ok : ∀ k, k < 8 → parseFieldDescriptor (F_I k).2.2.1 = some (ft_I k) := by decide +kernel
theorem i0_I : ∀ w ∈ w_I, w ∈ lw_tbl := goodIn_r w_I [424, 426, 428, 430, 432, 434, 436, 438] (by decide +kernel)
theorem i_I : ∀ w ∈ w_I, w ∈ tb := fun w h => List.mem_filter.mpr ⟨i0_I w h, List.all_eq_true.mp (show w_I.all goodWord = true by decide +kernel) w h⟩
def R_X : String := "ProofReader"
def F_X : u_T := fun k => match k with
  | 0 => ("ProofReader", "fault", "LProofReader$Fault;", true)
  | 1 => ("ProofReader", "code", "LProofReader$Code;", true)
  | 2 => ("ProofReader", "paper", "LProofReader$Paper;", true)
  | 3 => ("ProofReader", "tokens", "LProofReader$Tokens;", true)
  | 4 => ("ProofReader", "constants", "LProofReader$Constants;", true)
  | 5 => ("ProofReader", "parser", "LProofReader$Parser;", true)
  | 6 => ("ProofReader", "checker", "LProofReader$Checker;", true)
  | 7 => ("ProofReader", "printer", "LProofReader$Printer;", true)
  | _ => ("ProofReader", "fed", "I", false)
def ft_X : Nat → FieldType := fun k => match k with
  | 0 => .object "ProofReader$Fault"
  | 1 => .object "ProofReader$Code"
  | 2 => .object "ProofReader$Paper"
  | 3 => .object "ProofReader$Tokens"
  | 4 => .object "ProofReader$Constants"
  | 5 => .object "ProofReader$Parser"
  | 6 => .object "ProofReader$Checker"
  | 7 => .object "ProofReader$Printer"
  | _ => .int
abbrev w_X : List Cond := u_ws R_X F_X 9
theorem n_X : ∀ a, a < 9 → ∀ b, b < 9 → a ≠ b → (F_X a).2.1 ≠ (F_X b).2.1 := by decide +kernel
theorem ft_X_ok : ∀ k, k < 9 → parseFieldDescriptor (F_X k).2.2.1 = some (ft_X k) := by decide +kernel
theorem i0_X : ∀ w ∈ w_X, w ∈ lw_tbl := goodIn_r w_X [450, 452, 454, 456, 458, 460, 462, 464, 466] (by decide +kernel)
theorem i_X : ∀ w ∈ w_X, w ∈ tb := fun w h => List.mem_filter.mpr ⟨i0_X w h, List.all_eq_true.mp (show w_X.all goodWord = true by decide +kernel) w h⟩
def R_M : String := "ProofReaderModel"
def F_M : u_T := fun k => match k with
  | 0 => ("ProofReaderModel", "thrown", "I", false)
  | 1 => ("ProofReaderModel", "text", "[I", true)
  | 2 => ("ProofReaderModel", "length", "I", false)
  | 3 => ("ProofReaderModel", "came", "I", false)
  | 4 => ("ProofReaderModel", "fault", "I", false)
  | 5 => ("ProofReaderModel", "place", "I", false)
  | 6 => ("ProofReaderModel", "paper", "[I", true)
  | 7 => ("ProofReaderModel", "papered", "I", false)
  | 8 => ("ProofReaderModel", "constants", "I", false)
  | 9 => ("ProofReaderModel", "firstHalf", "[J", true)
  | 10 => ("ProofReaderModel", "secondHalf", "[J", true)
  | 11 => ("ProofReaderModel", "stored", "[I", true)
  | 12 => ("ProofReaderModel", "proved", "[I", true)
  | 13 => ("ProofReaderModel", "at", "I", false)
  | 14 => ("ProofReaderModel", "token", "I", false)
  | 15 => ("ProofReaderModel", "tokenAt", "I", false)
  | 16 => ("ProofReaderModel", "nameFirst", "J", false)
  | 17 => ("ProofReaderModel", "nameSecond", "J", false)
  | 18 => ("ProofReaderModel", "written", "[I", true)
  | 19 => ("ProofReaderModel", "places", "[I", true)
  | 20 => ("ProofReaderModel", "end", "I", false)
  | 21 => ("ProofReaderModel", "second", "I", false)
  | 22 => ("ProofReaderModel", "ids", "I", false)
  | 23 => ("ProofReaderModel", "nodes", "I", false)
  | 24 => ("ProofReaderModel", "opens", "I", false)
  | 25 => ("ProofReaderModel", "levelOpens", "I", false)
  | 26 => ("ProofReaderModel", "start", "I", false)
  | 27 => ("ProofReaderModel", "app", "I", false)
  | 28 => ("ProofReaderModel", "behind", "Z", false)
  | 29 => ("ProofReaderModel", "levelKind", "[I", true)
  | 30 => ("ProofReaderModel", "levelStart", "[I", true)
  | 31 => ("ProofReaderModel", "levelApp", "[I", true)
  | 32 => ("ProofReaderModel", "levelHad", "[I", true)
  | 33 => ("ProofReaderModel", "levelScope", "[I", true)
  | 34 => ("ProofReaderModel", "levelId", "[I", true)
  | 35 => ("ProofReaderModel", "levelFirst", "[J", true)
  | 36 => ("ProofReaderModel", "levelSecond", "[J", true)
  | 37 => ("ProofReaderModel", "level", "I", false)
  | 38 => ("ProofReaderModel", "scopeFirst", "[J", true)
  | 39 => ("ProofReaderModel", "scopeSecond", "[J", true)
  | 40 => ("ProofReaderModel", "scopeId", "[I", true)
  | 41 => ("ProofReaderModel", "scope", "I", false)
  | 42 => ("ProofReaderModel", "made", "[I", true)
  | 43 => ("ProofReaderModel", "top", "I", false)
  | 44 => ("ProofReaderModel", "typeOf", "[I", true)
  | 45 => ("ProofReaderModel", "tasks", "[I", true)
  | 46 => ("ProofReaderModel", "left", "I", false)
  | 47 => ("ProofReaderModel", "todo", "[I", true)
  | 48 => ("ProofReaderModel", "waits", "I", false)
  | 49 => ("ProofReaderModel", "renamed", "[I", true)
  | 50 => ("ProofReaderModel", "bound", "[I", true)
  | 51 => ("ProofReaderModel", "fresh", "I", false)
  | 52 => ("ProofReaderModel", "changed", "I", false)
  | 53 => ("ProofReaderModel", "changedTo", "I", false)
  | 54 => ("ProofReaderModel", "out", "I", false)
  | 55 => ("ProofReaderModel", "counted", "I", false)
  | 56 => ("ProofReaderModel", "markA", "[I", true)
  | 57 => ("ProofReaderModel", "markB", "[I", true)
  | 58 => ("ProofReaderModel", "line", "[I", true)
  | 59 => ("ProofReaderModel", "printed", "I", false)
  | _ => ("ProofReaderModel", "questionAt", "I", false)
def ft_M : Nat → FieldType := fun k => match k with
  | 0 => .int
  | 1 => .array .int
  | 2 => .int
  | 3 => .int
  | 4 => .int
  | 5 => .int
  | 6 => .array .int
  | 7 => .int
  | 8 => .int
  | 9 => .array .long
  | 10 => .array .long
  | 11 => .array .int
  | 12 => .array .int
  | 13 => .int
  | 14 => .int
  | 15 => .int
  | 16 => .long
  | 17 => .long
  | 18 => .array .int
  | 19 => .array .int
  | 20 => .int
  | 21 => .int
  | 22 => .int
  | 23 => .int
  | 24 => .int
  | 25 => .int
  | 26 => .int
  | 27 => .int
  | 28 => .boolean
  | 29 => .array .int
  | 30 => .array .int
  | 31 => .array .int
  | 32 => .array .int
  | 33 => .array .int
  | 34 => .array .int
  | 35 => .array .long
  | 36 => .array .long
  | 37 => .int
  | 38 => .array .long
  | 39 => .array .long
  | 40 => .array .int
  | 41 => .int
  | 42 => .array .int
  | 43 => .int
  | 44 => .array .int
  | 45 => .array .int
  | 46 => .int
  | 47 => .array .int
  | 48 => .int
  | 49 => .array .int
  | 50 => .array .int
  | 51 => .int
  | 52 => .int
  | 53 => .int
  | 54 => .int
  | 55 => .int
  | 56 => .array .int
  | 57 => .array .int
  | 58 => .array .int
  | 59 => .int
  | _ => .int
abbrev w_M : List Cond := u_ws R_M F_M 61
theorem n_M : ∀ a, a < 61 → ∀ b, b < 61 → a ≠ b → (F_M a).2.1 ≠ (F_M b).2.1 := by decide +kernel
theorem ft_M_ok : ∀ k, k < 61 → parseFieldDescriptor (F_M k).2.2.1 = some (ft_M k) := by decide +kernel
theorem i0_M : ∀ w ∈ w_M, w ∈ lw_tbl := goodIn_r w_M [1014, 1016, 1018, 1020, 1022, 1024, 1026, 1028, 1030, 1032, 1034, 1036, 1038, 1040, 1042, 1044, 1046, 1048, 1050, 1052, 1054, 1056, 1058, 1060, 1062, 1064, 1066, 1068, 1070, 1072, 1074, 1076, 1078, 1080, 1082, 1084, 1086, 1088, 1090, 1092, 1094, 1096, 1098, 1100, 1102, 1104, 1106, 1108, 1110, 1112, 1114, 1116, 1118, 1120, 1122, 1124, 1126, 1128, 1130, 1132, 1134] (by decide +kernel)
theorem i_M : ∀ w ∈ w_M, w ∈ tb := fun w h => List.mem_filter.mpr ⟨i0_M w h, List.all_eq_true.mp (show w_M.all goodWord = true by decide +kernel) w h⟩
abbrev cls : List vw_C := [(R_F, F_F, 2), (R_C, F_C, 5), (R_P, F_P, 3), (R_T, F_T, 8), (R_K, F_K, 8), (R_R, F_R, 17), (R_U, F_U, 11), (R_H, F_H, 6), (R_I, F_I, 8), (R_X, F_X, 9), (R_M, F_M, 61)]
abbrev b_F_init : ByteArray := prog_5_method_1_code
def y_F_init : MethodName := ⟨"ProofReader$Fault", "<init>", "()V"⟩
abbrev b_F_forget : ByteArray := prog_5_method_2_code
def y_F_forget : MethodName := ⟨"ProofReader$Fault", "forget", "()V"⟩
abbrev b_F_met : ByteArray := prog_5_method_3_code
def y_F_met : MethodName := ⟨"ProofReader$Fault", "met", "(II)Z"⟩
abbrev b_C_init : ByteArray := prog_3_method_1_code
def y_C_init : MethodName := ⟨"ProofReader$Code", "<init>", "()V"⟩
abbrev b_C_write : ByteArray := prog_3_method_2_code
def y_C_write : MethodName := ⟨"ProofReader$Code", "write", "(IIII)V"⟩
abbrev b_C_second : ByteArray := prog_3_method_3_code
def y_C_second : MethodName := ⟨"ProofReader$Code", "second", "(I)I"⟩
abbrev b_C_argument : ByteArray := prog_3_method_4_code
def y_C_argument : MethodName := ⟨"ProofReader$Code", "argument", "(II)I"⟩
abbrev b_C_measure : ByteArray := prog_3_method_5_code
def y_C_measure : MethodName := ⟨"ProofReader$Code", "measure", "(II)V"⟩
abbrev b_C_same : ByteArray := prog_3_method_6_code
def y_C_same : MethodName := ⟨"ProofReader$Code", "same", "(II)Z"⟩
abbrev b_C_move : ByteArray := prog_3_method_7_code
def y_C_move : MethodName := ⟨"ProofReader$Code", "move", "(III)V"⟩
abbrev b_C_makeRoom : ByteArray := prog_3_method_8_code
def y_C_makeRoom : MethodName := ⟨"ProofReader$Code", "makeRoom", "(II)V"⟩
abbrev b_C_lift : ByteArray := prog_3_method_9_code
def y_C_lift : MethodName := ⟨"ProofReader$Code", "lift", "(III)V"⟩
abbrev b_C_products : ByteArray := prog_3_method_10_code
def y_C_products : MethodName := ⟨"ProofReader$Code", "products", "(I)I"⟩
abbrev b_C_ending : ByteArray := prog_3_method_11_code
def y_C_ending : MethodName := ⟨"ProofReader$Code", "ending", "(I)I"⟩
abbrev b_C_order : ByteArray := prog_3_method_12_code
def y_C_order : MethodName := ⟨"ProofReader$Code", "order", "(I)I"⟩
abbrev b_P_init : ByteArray := prog_6_method_1_code
def y_P_init : MethodName := ⟨"ProofReader$Paper", "<init>", "()V"⟩
abbrev b_P_at : ByteArray := prog_6_method_2_code
def y_P_at : MethodName := ⟨"ProofReader$Paper", "at", "(J)J"⟩
abbrev b_P_add : ByteArray := prog_6_method_3_code
def y_P_add : MethodName := ⟨"ProofReader$Paper", "add", "(I)V"⟩
abbrev b_T_init : ByteArray := prog_10_method_1_code
def y_T_init : MethodName := ⟨"ProofReader$Tokens", "<init>", "(LProofReader$Fault;)V"⟩
abbrev b_T_append : ByteArray := prog_10_method_2_code
def y_T_append : MethodName := ⟨"ProofReader$Tokens", "append", "(B)V"⟩
abbrev b_T_drop : ByteArray := prog_10_method_3_code
def y_T_drop : MethodName := ⟨"ProofReader$Tokens", "drop", "()V"⟩
abbrev b_T_restart : ByteArray := prog_10_method_4_code
def y_T_restart : MethodName := ⟨"ProofReader$Tokens", "restart", "()V"⟩
abbrev b_T_advance : ByteArray := prog_10_method_5_code
def y_T_advance : MethodName := ⟨"ProofReader$Tokens", "advance", "()Z"⟩
abbrev b_T_at : ByteArray := prog_10_method_6_code
def y_T_at : MethodName := ⟨"ProofReader$Tokens", "at", "(I)I"⟩
abbrev b_T_takeName : ByteArray := prog_10_method_7_code
def y_T_takeName : MethodName := ⟨"ProofReader$Tokens", "takeName", "()Z"⟩
abbrev b_T_takeArrow : ByteArray := prog_10_method_8_code
def y_T_takeArrow : MethodName := ⟨"ProofReader$Tokens", "takeArrow", "()Z"⟩
abbrev b_T_isInNames : ByteArray := prog_10_method_9_code
def y_T_isInNames : MethodName := ⟨"ProofReader$Tokens", "isInNames", "(I)Z"⟩
abbrev b_T_isSingle : ByteArray := prog_10_method_10_code
def y_T_isSingle : MethodName := ⟨"ProofReader$Tokens", "isSingle", "(I)Z"⟩
abbrev b_K_init : ByteArray := prog_4_method_1_code
def y_K_init : MethodName := ⟨"ProofReader$Constants", "<init>", "(LProofReader$Code;)V"⟩
abbrev b_K_forget : ByteArray := prog_4_method_2_code
def y_K_forget : MethodName := ⟨"ProofReader$Constants", "forget", "()V"⟩
abbrev b_K_isFull : ByteArray := prog_4_method_3_code
def y_K_isFull : MethodName := ⟨"ProofReader$Constants", "isFull", "()Z"⟩
abbrev b_K_isFamily : ByteArray := prog_4_method_4_code
def y_K_isFamily : MethodName := ⟨"ProofReader$Constants", "isFamily", "(I)Z"⟩
abbrev b_K_find : ByteArray := prog_4_method_5_code
def y_K_find : MethodName := ⟨"ProofReader$Constants", "find", "(JJ)I"⟩
abbrev b_K_tell : ByteArray := prog_4_method_6_code
def y_K_tell : MethodName := ⟨"ProofReader$Constants", "tell", "(JJZ)V"⟩
abbrev b_R_init : ByteArray := prog_7_method_1_code
def y_R_init : MethodName := ⟨"ProofReader$Parser", "<init>", "(LProofReader$Tokens;LProofReader$Code;LProofReader$Constants;LProofReader$Fault;)V"⟩
abbrev b_R_sentence : ByteArray := prog_7_method_2_code
def y_R_sentence : MethodName := ⟨"ProofReader$Parser", "sentence", "()Z"⟩
abbrev b_R_nameAndColon : ByteArray := prog_7_method_3_code
def y_R_nameAndColon : MethodName := ⟨"ProofReader$Parser", "nameAndColon", "()Z"⟩
abbrev b_R_wholeExpression : ByteArray := prog_7_method_4_code
def y_R_wholeExpression : MethodName := ⟨"ProofReader$Parser", "wholeExpression", "()Z"⟩
abbrev b_R_isNow : ByteArray := prog_7_method_5_code
def y_R_isNow : MethodName := ⟨"ProofReader$Parser", "isNow", "(I)Z"⟩
abbrev b_R_isNext : ByteArray := prog_7_method_6_code
def y_R_isNext : MethodName := ⟨"ProofReader$Parser", "isNext", "(I)Z"⟩
abbrev b_R_opens : ByteArray := prog_7_method_7_code
def y_R_opens : MethodName := ⟨"ProofReader$Parser", "opens", "()Z"⟩
abbrev b_R_counts : ByteArray := prog_7_method_8_code
def y_R_counts : MethodName := ⟨"ProofReader$Parser", "counts", "()Z"⟩
abbrev b_R_node : ByteArray := prog_7_method_9_code
def y_R_node : MethodName := ⟨"ProofReader$Parser", "node", "(II)Z"⟩
abbrev b_R_expression : ByteArray := prog_7_method_10_code
def y_R_expression : MethodName := ⟨"ProofReader$Parser", "expression", "()Z"⟩
abbrev b_R_product : ByteArray := prog_7_method_11_code
def y_R_product : MethodName := ⟨"ProofReader$Parser", "product", "()Z"⟩
abbrev b_R_function : ByteArray := prog_7_method_12_code
def y_R_function : MethodName := ⟨"ProofReader$Parser", "function", "()Z"⟩
abbrev b_R_arrow : ByteArray := prog_7_method_13_code
def y_R_arrow : MethodName := ⟨"ProofReader$Parser", "arrow", "(I)Z"⟩
abbrev b_R_scope : ByteArray := prog_7_method_14_code
def y_R_scope : MethodName := ⟨"ProofReader$Parser", "scope", "(IJJ)Z"⟩
abbrev b_R_simple : ByteArray := prog_7_method_15_code
def y_R_simple : MethodName := ⟨"ProofReader$Parser", "simple", "()Z"⟩
abbrev b_R_atomBegins : ByteArray := prog_7_method_16_code
def y_R_atomBegins : MethodName := ⟨"ProofReader$Parser", "atomBegins", "()Z"⟩
abbrev b_R_atom : ByteArray := prog_7_method_17_code
def y_R_atom : MethodName := ⟨"ProofReader$Parser", "atom", "()Z"⟩
abbrev b_R_meaning : ByteArray := prog_7_method_18_code
def y_R_meaning : MethodName := ⟨"ProofReader$Parser", "meaning", "()I"⟩
abbrev b_U_init : ByteArray := prog_9_method_1_code
def y_U_init : MethodName := ⟨"ProofReader$Putter", "<init>", "(LProofReader$Code;)V"⟩
abbrev b_U_put : ByteArray := prog_9_method_2_code
def y_U_put : MethodName := ⟨"ProofReader$Putter", "put", "(II)Z"⟩
abbrev b_U_push : ByteArray := prog_9_method_3_code
def y_U_push : MethodName := ⟨"ProofReader$Putter", "push", "(II)V"⟩
abbrev b_U_step : ByteArray := prog_9_method_4_code
def y_U_step : MethodName := ⟨"ProofReader$Putter", "step", "(I)Z"⟩
abbrev b_U_shiftOf : ByteArray := prog_9_method_5_code
def y_U_shiftOf : MethodName := ⟨"ProofReader$Putter", "shiftOf", "(I)I"⟩
abbrev b_H_init : ByteArray := prog_2_method_1_code
def y_H_init : MethodName := ⟨"ProofReader$Checker", "<init>", "(LProofReader$Code;LProofReader$Constants;LProofReader$Fault;)V"⟩
abbrev b_H_wrong : ByteArray := prog_2_method_2_code
def y_H_wrong : MethodName := ⟨"ProofReader$Checker", "wrong", "(II)Z"⟩
abbrev b_H_type : ByteArray := prog_2_method_3_code
def y_H_type : MethodName := ⟨"ProofReader$Checker", "type", "(IZZ)Z"⟩
abbrev b_H_familyApplication : ByteArray := prog_2_method_4_code
def y_H_familyApplication : MethodName := ⟨"ProofReader$Checker", "familyApplication", "(I)Z"⟩
abbrev b_H_question : ByteArray := prog_2_method_5_code
def y_H_question : MethodName := ⟨"ProofReader$Checker", "question", "(I)Z"⟩
abbrev b_H_object : ByteArray := prog_2_method_6_code
def y_H_object : MethodName := ⟨"ProofReader$Checker", "object", "(III)Z"⟩
abbrev b_H_application : ByteArray := prog_2_method_7_code
def y_H_application : MethodName := ⟨"ProofReader$Checker", "application", "(III)Z"⟩
abbrev b_H_isObjectHead : ByteArray := prog_2_method_8_code
def y_H_isObjectHead : MethodName := ⟨"ProofReader$Checker", "isObjectHead", "(I)Z"⟩
abbrev b_H_headType : ByteArray := prog_2_method_9_code
def y_H_headType : MethodName := ⟨"ProofReader$Checker", "headType", "(I)I"⟩
abbrev b_H_fit : ByteArray := prog_2_method_10_code
def y_H_fit : MethodName := ⟨"ProofReader$Checker", "fit", "(II)Z"⟩
abbrev b_I_init : ByteArray := prog_8_method_1_code
def y_I_init : MethodName := ⟨"ProofReader$Printer", "<init>", "(LProofReader$Code;LProofReader$Constants;LProofReader$Paper;)V"⟩
abbrev b_I_print : ByteArray := prog_8_method_2_code
def y_I_print : MethodName := ⟨"ProofReader$Printer", "print", "(I)Z"⟩
abbrev b_I_markParts : ByteArray := prog_8_method_3_code
def y_I_markParts : MethodName := ⟨"ProofReader$Printer", "markParts", "(I)V"⟩
abbrev b_I_closeLater : ByteArray := prog_8_method_4_code
def y_I_closeLater : MethodName := ⟨"ProofReader$Printer", "closeLater", "(II)V"⟩
abbrev b_I_close : ByteArray := prog_8_method_5_code
def y_I_close : MethodName := ⟨"ProofReader$Printer", "close", "(I)V"⟩
abbrev b_I_node : ByteArray := prog_8_method_6_code
def y_I_node : MethodName := ⟨"ProofReader$Printer", "node", "(I)V"⟩
abbrev b_I_head : ByteArray := prog_8_method_7_code
def y_I_head : MethodName := ⟨"ProofReader$Printer", "head", "(I)V"⟩
abbrev b_I_bytesOf : ByteArray := prog_8_method_8_code
def y_I_bytesOf : MethodName := ⟨"ProofReader$Printer", "bytesOf", "(J)V"⟩
abbrev b_I_word : ByteArray := prog_8_method_9_code
def y_I_word : MethodName := ⟨"ProofReader$Printer", "word", "(Ljava/lang/String;)V"⟩
abbrev b_I_variable : ByteArray := prog_8_method_10_code
def y_I_variable : MethodName := ⟨"ProofReader$Printer", "variable", "(I)V"⟩
abbrev b_X_init : ByteArray := prog_1_method_1_code
def y_X_init : MethodName := ⟨"ProofReader", "<init>", "()V"⟩
abbrev b_X_feed : ByteArray := prog_1_method_2_code
def y_X_feed : MethodName := ⟨"ProofReader", "feed", "(IJ)I"⟩
abbrev b_X_read : ByteArray := prog_1_method_3_code
def y_X_read : MethodName := ⟨"ProofReader", "read", "()I"⟩
abbrev b_X_fault : ByteArray := prog_1_method_4_code
def y_X_fault : MethodName := ⟨"ProofReader", "fault", "()I"⟩
abbrev b_X_place : ByteArray := prog_1_method_5_code
def y_X_place : MethodName := ⟨"ProofReader", "place", "()I"⟩
abbrev b_X_clear : ByteArray := prog_1_method_6_code
def y_X_clear : MethodName := ⟨"ProofReader", "clear", "()I"⟩
abbrev b_X_constants : ByteArray := prog_1_method_7_code
def y_X_constants : MethodName := ⟨"ProofReader", "constants", "()I"⟩
abbrev b_X_constant : ByteArray := prog_1_method_8_code
def y_X_constant : MethodName := ⟨"ProofReader", "constant", "(II)I"⟩
abbrev b_X_printed : ByteArray := prog_1_method_9_code
def y_X_printed : MethodName := ⟨"ProofReader", "printed", "()I"⟩
abbrev b_X_paper : ByteArray := prog_1_method_10_code
def y_X_paper : MethodName := ⟨"ProofReader", "paper", "(I)J"⟩
abbrev b_X_wipe : ByteArray := prog_1_method_11_code
def y_X_wipe : MethodName := ⟨"ProofReader", "wipe", "()I"⟩
abbrev b_X_settle : ByteArray := prog_1_method_12_code
def y_X_settle : MethodName := ⟨"ProofReader", "settle", "()Z"⟩
abbrev b_M_init : ByteArray := prog_12_method_1_code
def y_M_init : MethodName := ⟨"ProofReaderModel", "<init>", "()V"⟩
abbrev b_M_thrown : ByteArray := prog_12_method_2_code
def y_M_thrown : MethodName := ⟨"ProofReaderModel", "thrown", "()I"⟩
abbrev b_M_isNamed : ByteArray := prog_12_method_3_code
def y_M_isNamed : MethodName := ⟨"ProofReaderModel", "isNamed", "(I)Z"⟩
abbrev b_M_isSign : ByteArray := prog_12_method_4_code
def y_M_isSign : MethodName := ⟨"ProofReaderModel", "isSign", "(I)Z"⟩
abbrev b_M_readName : ByteArray := prog_12_method_5_code
def y_M_readName : MethodName := ⟨"ProofReaderModel", "readName", "()V"⟩
abbrev b_M_readToken : ByteArray := prog_12_method_6_code
def y_M_readToken : MethodName := ⟨"ProofReaderModel", "readToken", "()V"⟩
abbrev b_M_fails : ByteArray := prog_12_method_7_code
def y_M_fails : MethodName := ⟨"ProofReaderModel", "fails", "(II)Z"⟩
abbrev b_M_failsToken : ByteArray := prog_12_method_8_code
def y_M_failsToken : MethodName := ⟨"ProofReaderModel", "failsToken", "()Z"⟩
abbrev b_M_takes : ByteArray := prog_12_method_9_code
def y_M_takes : MethodName := ⟨"ProofReaderModel", "takes", "(I)Z"⟩
abbrev b_M_put : ByteArray := prog_12_method_10_code
def y_M_put : MethodName := ⟨"ProofReaderModel", "put", "(I)V"⟩
abbrev b_M_find : ByteArray := prog_12_method_11_code
def y_M_find : MethodName := ⟨"ProofReaderModel", "find", "()I"⟩
abbrev b_M_constantOf : ByteArray := prog_12_method_12_code
def y_M_constantOf : MethodName := ⟨"ProofReaderModel", "constantOf", "()I"⟩
abbrev b_M_counts : ByteArray := prog_12_method_13_code
def y_M_counts : MethodName := ⟨"ProofReaderModel", "counts", "(II)Z"⟩
abbrev b_M_readHead : ByteArray := prog_12_method_14_code
def y_M_readHead : MethodName := ⟨"ProofReaderModel", "readHead", "()Z"⟩
abbrev b_M_enter : ByteArray := prog_12_method_15_code
def y_M_enter : MethodName := ⟨"ProofReaderModel", "enter", "(I)V"⟩
abbrev b_M_leave : ByteArray := prog_12_method_16_code
def y_M_leave : MethodName := ⟨"ProofReaderModel", "leave", "()V"⟩
abbrev b_M_show : ByteArray := prog_12_method_17_code
def y_M_show : MethodName := ⟨"ProofReaderModel", "show", "(IJJ)V"⟩
abbrev b_M_beginProduct : ByteArray := prog_12_method_18_code
def y_M_beginProduct : MethodName := ⟨"ProofReaderModel", "beginProduct", "()Z"⟩
abbrev b_M_beginFunction : ByteArray := prog_12_method_19_code
def y_M_beginFunction : MethodName := ⟨"ProofReaderModel", "beginFunction", "()Z"⟩
abbrev b_M_begins : ByteArray := prog_12_method_20_code
def y_M_begins : MethodName := ⟨"ProofReaderModel", "begins", "()Z"⟩
abbrev b_M_arrow : ByteArray := prog_12_method_21_code
def y_M_arrow : MethodName := ⟨"ProofReaderModel", "arrow", "()Z"⟩
abbrev b_M_argument : ByteArray := prog_12_method_22_code
def y_M_argument : MethodName := ⟨"ProofReaderModel", "argument", "()Z"⟩
abbrev b_M_goesOn : ByteArray := prog_12_method_23_code
def y_M_goesOn : MethodName := ⟨"ProofReaderModel", "goesOn", "()Z"⟩
abbrev b_M_readExpression : ByteArray := prog_12_method_24_code
def y_M_readExpression : MethodName := ⟨"ProofReaderModel", "readExpression", "(Z)Z"⟩
abbrev b_M_from : ByteArray := prog_12_method_25_code
def y_M_from : MethodName := ⟨"ProofReaderModel", "from", "(II)I"⟩
abbrev b_M_skip : ByteArray := prog_12_method_26_code
def y_M_skip : MethodName := ⟨"ProofReaderModel", "skip", "(II)I"⟩
abbrev b_M_later : ByteArray := prog_12_method_27_code
def y_M_later : MethodName := ⟨"ProofReaderModel", "later", "(III)V"⟩
abbrev b_M_give : ByteArray := prog_12_method_28_code
def y_M_give : MethodName := ⟨"ProofReaderModel", "give", "(I)V"⟩
abbrev b_M_giveBinder : ByteArray := prog_12_method_29_code
def y_M_giveBinder : MethodName := ⟨"ProofReaderModel", "giveBinder", "(II)V"⟩
abbrev b_M_giveInPlace : ByteArray := prog_12_method_30_code
def y_M_giveInPlace : MethodName := ⟨"ProofReaderModel", "giveInPlace", "(II)V"⟩
abbrev b_M_giveApplication : ByteArray := prog_12_method_31_code
def y_M_giveApplication : MethodName := ⟨"ProofReaderModel", "giveApplication", "(IIII)V"⟩
abbrev b_M_copy : ByteArray := prog_12_method_32_code
def y_M_copy : MethodName := ⟨"ProofReaderModel", "copy", "(IIII)I"⟩
abbrev b_M_isSame : ByteArray := prog_12_method_33_code
def y_M_isSame : MethodName := ⟨"ProofReaderModel", "isSame", "(II)Z"⟩
abbrev b_M_then : ByteArray := prog_12_method_34_code
def y_M_then : MethodName := ⟨"ProofReaderModel", "then", "(IIIIIII)V"⟩
abbrev b_M_isFamily : ByteArray := prog_12_method_35_code
def y_M_isFamily : MethodName := ⟨"ProofReaderModel", "isFamily", "(I)Z"⟩
abbrev b_M_startArguments : ByteArray := prog_12_method_36_code
def y_M_startArguments : MethodName := ⟨"ProofReaderModel", "startArguments", "(III)V"⟩
abbrev b_M_checkSort : ByteArray := prog_12_method_37_code
def y_M_checkSort : MethodName := ⟨"ProofReaderModel", "checkSort", "(II)Z"⟩
abbrev b_M_checkObject : ByteArray := prog_12_method_38_code
def y_M_checkObject : MethodName := ⟨"ProofReaderModel", "checkObject", "(II)Z"⟩
abbrev b_M_checkFunction : ByteArray := prog_12_method_39_code
def y_M_checkFunction : MethodName := ⟨"ProofReaderModel", "checkFunction", "(II)V"⟩
abbrev b_M_checkArguments : ByteArray := prog_12_method_40_code
def y_M_checkArguments : MethodName := ⟨"ProofReaderModel", "checkArguments", "(I)Z"⟩
abbrev b_M_goBehind : ByteArray := prog_12_method_41_code
def y_M_goBehind : MethodName := ⟨"ProofReaderModel", "goBehind", "(I)Z"⟩
abbrev b_M_doTask : ByteArray := prog_12_method_42_code
def y_M_doTask : MethodName := ⟨"ProofReaderModel", "doTask", "(I)Z"⟩
abbrev b_M_doAll : ByteArray := prog_12_method_43_code
def y_M_doAll : MethodName := ⟨"ProofReaderModel", "doAll", "()Z"⟩
abbrev b_M_say : ByteArray := prog_12_method_44_code
def y_M_say : MethodName := ⟨"ProofReaderModel", "say", "(I)V"⟩
abbrev b_M_sayNumber : ByteArray := prog_12_method_45_code
def y_M_sayNumber : MethodName := ⟨"ProofReaderModel", "sayNumber", "(I)V"⟩
abbrev b_M_sayName : ByteArray := prog_12_method_46_code
def y_M_sayName : MethodName := ⟨"ProofReaderModel", "sayName", "(JJ)V"⟩
abbrev b_M_sayApplication : ByteArray := prog_12_method_47_code
def y_M_sayApplication : MethodName := ⟨"ProofReaderModel", "sayApplication", "(II)V"⟩
abbrev b_M_sayPart : ByteArray := prog_12_method_48_code
def y_M_sayPart : MethodName := ⟨"ProofReaderModel", "sayPart", "(II)V"⟩
abbrev b_M_print : ByteArray := prog_12_method_49_code
def y_M_print : MethodName := ⟨"ProofReaderModel", "print", "(I)Z"⟩
abbrev b_M_question : ByteArray := prog_12_method_50_code
def y_M_question : MethodName := ⟨"ProofReaderModel", "question", "()Z"⟩
abbrev b_M_keep : ByteArray := prog_12_method_51_code
def y_M_keep : MethodName := ⟨"ProofReaderModel", "keep", "(IJJ)V"⟩
abbrev b_M_tell : ByteArray := prog_12_method_52_code
def y_M_tell : MethodName := ⟨"ProofReaderModel", "tell", "()Z"⟩
abbrev b_M_read : ByteArray := prog_12_method_53_code
def y_M_read : MethodName := ⟨"ProofReaderModel", "read", "()I"⟩
abbrev b_M_feed : ByteArray := prog_12_method_54_code
def y_M_feed : MethodName := ⟨"ProofReaderModel", "feed", "(IJ)I"⟩
abbrev b_M_fault : ByteArray := prog_12_method_55_code
def y_M_fault : MethodName := ⟨"ProofReaderModel", "fault", "()I"⟩
abbrev b_M_place : ByteArray := prog_12_method_56_code
def y_M_place : MethodName := ⟨"ProofReaderModel", "place", "()I"⟩
abbrev b_M_clear : ByteArray := prog_12_method_57_code
def y_M_clear : MethodName := ⟨"ProofReaderModel", "clear", "()I"⟩
abbrev b_M_constants : ByteArray := prog_12_method_58_code
def y_M_constants : MethodName := ⟨"ProofReaderModel", "constants", "()I"⟩
abbrev b_M_lastPart : ByteArray := prog_12_method_59_code
def y_M_lastPart : MethodName := ⟨"ProofReaderModel", "lastPart", "(I)I"⟩
abbrev b_M_products : ByteArray := prog_12_method_60_code
def y_M_products : MethodName := ⟨"ProofReaderModel", "products", "(I)I"⟩
abbrev b_M_size : ByteArray := prog_12_method_61_code
def y_M_size : MethodName := ⟨"ProofReaderModel", "size", "(I)I"⟩
abbrev b_M_order : ByteArray := prog_12_method_62_code
def y_M_order : MethodName := ⟨"ProofReaderModel", "order", "(I)I"⟩
abbrev b_M_constant : ByteArray := prog_12_method_63_code
def y_M_constant : MethodName := ⟨"ProofReaderModel", "constant", "(II)I"⟩
abbrev b_M_printed : ByteArray := prog_12_method_64_code
def y_M_printed : MethodName := ⟨"ProofReaderModel", "printed", "()I"⟩
abbrev b_M_paper : ByteArray := prog_12_method_65_code
def y_M_paper : MethodName := ⟨"ProofReaderModel", "paper", "(I)J"⟩
abbrev b_M_wipe : ByteArray := prog_12_method_66_code
def y_M_wipe : MethodName := ⟨"ProofReaderModel", "wipe", "()I"⟩
abbrev b_L_feed : ByteArray := method_3_code
def y_L_feed : MethodName := ⟨"ProofReaderLaw", "feed", "(LProofReader;IJ[J)I"⟩
abbrev b_L_constant : ByteArray := method_4_code
def y_L_constant : MethodName := ⟨"ProofReaderLaw", "constant", "(LProofReader;II[J)I"⟩
