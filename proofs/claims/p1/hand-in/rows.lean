section
-- ===== PART A: goes FIRST, ahead of the names: the tables' words, and 'selects' of the private methods out of them =====
/-- a private method of a class that the tables say can be made, by its rows of tables_1 -/
def lw_okq (q : MethodName × Nat) : Prop := (q.1.cls ≠ "java/lang/invoke/MethodHandle" ∧ q.1.cls ≠ "java/lang/invoke/VarHandle") ∧ Cond.instantiable q.1.cls q.2 ∈ tables_1 ∧ Cond.privateMethod q.1 ∈ tables_1 ∧ Cond.instanceMethod q.1 ∈ tables_1
theorem lw_p0 : lw_okq (⟨"ProofReader$Tokens", "at", "(I)I"⟩, 8) := ⟨⟨by decide +kernel, by decide +kernel⟩, List.mem_of_getElem? (i := 109) (by decide +kernel), List.mem_of_getElem? (i := 394) (by decide +kernel), List.mem_of_getElem? (i := 395) (by decide +kernel)⟩
theorem lw_p1 : lw_okq (⟨"ProofReader$Tokens", "takeName", "()Z"⟩, 8) := ⟨⟨by decide +kernel, by decide +kernel⟩, List.mem_of_getElem? (i := 109) (by decide +kernel), List.mem_of_getElem? (i := 401) (by decide +kernel), List.mem_of_getElem? (i := 402) (by decide +kernel)⟩
theorem lw_p2 : lw_okq (⟨"ProofReader$Tokens", "takeArrow", "()Z"⟩, 8) := ⟨⟨by decide +kernel, by decide +kernel⟩, List.mem_of_getElem? (i := 109) (by decide +kernel), List.mem_of_getElem? (i := 410) (by decide +kernel), List.mem_of_getElem? (i := 411) (by decide +kernel)⟩
theorem lw_p3 : lw_okq (⟨"ProofReader$Parser", "nameAndColon", "()Z"⟩, 17) := ⟨⟨by decide +kernel, by decide +kernel⟩, List.mem_of_getElem? (i := 187) (by decide +kernel), List.mem_of_getElem? (i := 421) (by decide +kernel), List.mem_of_getElem? (i := 422) (by decide +kernel)⟩
theorem lw_p4 : lw_okq (⟨"ProofReader$Parser", "isNow", "(I)Z"⟩, 17) := ⟨⟨by decide +kernel, by decide +kernel⟩, List.mem_of_getElem? (i := 187) (by decide +kernel), List.mem_of_getElem? (i := 425) (by decide +kernel), List.mem_of_getElem? (i := 426) (by decide +kernel)⟩
theorem lw_p5 : lw_okq (⟨"ProofReader$Parser", "isNext", "(I)Z"⟩, 17) := ⟨⟨by decide +kernel, by decide +kernel⟩, List.mem_of_getElem? (i := 187) (by decide +kernel), List.mem_of_getElem? (i := 438) (by decide +kernel), List.mem_of_getElem? (i := 439) (by decide +kernel)⟩
theorem lw_p6 : lw_okq (⟨"ProofReader$Parser", "wholeExpression", "()Z"⟩, 17) := ⟨⟨by decide +kernel, by decide +kernel⟩, List.mem_of_getElem? (i := 187) (by decide +kernel), List.mem_of_getElem? (i := 443) (by decide +kernel), List.mem_of_getElem? (i := 444) (by decide +kernel)⟩
theorem lw_p7 : lw_okq (⟨"ProofReader$Parser", "expression", "()Z"⟩, 17) := ⟨⟨by decide +kernel, by decide +kernel⟩, List.mem_of_getElem? (i := 187) (by decide +kernel), List.mem_of_getElem? (i := 447) (by decide +kernel), List.mem_of_getElem? (i := 448) (by decide +kernel)⟩
theorem lw_p8 : lw_okq (⟨"ProofReader$Parser", "product", "()Z"⟩, 17) := ⟨⟨by decide +kernel, by decide +kernel⟩, List.mem_of_getElem? (i := 187) (by decide +kernel), List.mem_of_getElem? (i := 451) (by decide +kernel), List.mem_of_getElem? (i := 452) (by decide +kernel)⟩
theorem lw_p9 : lw_okq (⟨"ProofReader$Parser", "opens", "()Z"⟩, 17) := ⟨⟨by decide +kernel, by decide +kernel⟩, List.mem_of_getElem? (i := 187) (by decide +kernel), List.mem_of_getElem? (i := 455) (by decide +kernel), List.mem_of_getElem? (i := 456) (by decide +kernel)⟩
theorem lw_p10 : lw_okq (⟨"ProofReader$Parser", "node", "(II)Z"⟩, 17) := ⟨⟨by decide +kernel, by decide +kernel⟩, List.mem_of_getElem? (i := 187) (by decide +kernel), List.mem_of_getElem? (i := 459) (by decide +kernel), List.mem_of_getElem? (i := 460) (by decide +kernel)⟩
theorem lw_p11 : lw_okq (⟨"ProofReader$Parser", "counts", "()Z"⟩, 17) := ⟨⟨by decide +kernel, by decide +kernel⟩, List.mem_of_getElem? (i := 187) (by decide +kernel), List.mem_of_getElem? (i := 463) (by decide +kernel), List.mem_of_getElem? (i := 464) (by decide +kernel)⟩
theorem lw_p12 : lw_okq (⟨"ProofReader$Parser", "scope", "(IJJ)Z"⟩, 17) := ⟨⟨by decide +kernel, by decide +kernel⟩, List.mem_of_getElem? (i := 187) (by decide +kernel), List.mem_of_getElem? (i := 471) (by decide +kernel), List.mem_of_getElem? (i := 472) (by decide +kernel)⟩
theorem lw_p13 : lw_okq (⟨"ProofReader$Parser", "function", "()Z"⟩, 17) := ⟨⟨by decide +kernel, by decide +kernel⟩, List.mem_of_getElem? (i := 187) (by decide +kernel), List.mem_of_getElem? (i := 475) (by decide +kernel), List.mem_of_getElem? (i := 476) (by decide +kernel)⟩
theorem lw_p14 : lw_okq (⟨"ProofReader$Parser", "simple", "()Z"⟩, 17) := ⟨⟨by decide +kernel, by decide +kernel⟩, List.mem_of_getElem? (i := 187) (by decide +kernel), List.mem_of_getElem? (i := 479) (by decide +kernel), List.mem_of_getElem? (i := 480) (by decide +kernel)⟩
theorem lw_p15 : lw_okq (⟨"ProofReader$Parser", "atom", "()Z"⟩, 17) := ⟨⟨by decide +kernel, by decide +kernel⟩, List.mem_of_getElem? (i := 187) (by decide +kernel), List.mem_of_getElem? (i := 483) (by decide +kernel), List.mem_of_getElem? (i := 484) (by decide +kernel)⟩
def lw_privs_1 : List (MethodName × Nat) := [(⟨"ProofReader$Tokens", "at", "(I)I"⟩, 8), (⟨"ProofReader$Tokens", "takeName", "()Z"⟩, 8), (⟨"ProofReader$Tokens", "takeArrow", "()Z"⟩, 8), (⟨"ProofReader$Parser", "nameAndColon", "()Z"⟩, 17), (⟨"ProofReader$Parser", "isNow", "(I)Z"⟩, 17), (⟨"ProofReader$Parser", "isNext", "(I)Z"⟩, 17), (⟨"ProofReader$Parser", "wholeExpression", "()Z"⟩, 17), (⟨"ProofReader$Parser", "expression", "()Z"⟩, 17), (⟨"ProofReader$Parser", "product", "()Z"⟩, 17), (⟨"ProofReader$Parser", "opens", "()Z"⟩, 17), (⟨"ProofReader$Parser", "node", "(II)Z"⟩, 17), (⟨"ProofReader$Parser", "counts", "()Z"⟩, 17), (⟨"ProofReader$Parser", "scope", "(IJJ)Z"⟩, 17), (⟨"ProofReader$Parser", "function", "()Z"⟩, 17), (⟨"ProofReader$Parser", "simple", "()Z"⟩, 17), (⟨"ProofReader$Parser", "atom", "()Z"⟩, 17)]
theorem lw_r1 : ∀ q ∈ lw_privs_1, lw_okq q := List.forall_mem_cons.mpr ⟨lw_p0, List.forall_mem_cons.mpr ⟨lw_p1, List.forall_mem_cons.mpr ⟨lw_p2, List.forall_mem_cons.mpr ⟨lw_p3, List.forall_mem_cons.mpr ⟨lw_p4, List.forall_mem_cons.mpr ⟨lw_p5, List.forall_mem_cons.mpr ⟨lw_p6, List.forall_mem_cons.mpr ⟨lw_p7, List.forall_mem_cons.mpr ⟨lw_p8, List.forall_mem_cons.mpr ⟨lw_p9, List.forall_mem_cons.mpr ⟨lw_p10, List.forall_mem_cons.mpr ⟨lw_p11, List.forall_mem_cons.mpr ⟨lw_p12, List.forall_mem_cons.mpr ⟨lw_p13, List.forall_mem_cons.mpr ⟨lw_p14, List.forall_mem_cons.mpr ⟨lw_p15, fun _ h => absurd h List.not_mem_nil⟩⟩⟩⟩⟩⟩⟩⟩⟩⟩⟩⟩⟩⟩⟩⟩
theorem lw_p16 : lw_okq (⟨"ProofReader$Parser", "meaning", "()I"⟩, 17) := ⟨⟨by decide +kernel, by decide +kernel⟩, List.mem_of_getElem? (i := 187) (by decide +kernel), List.mem_of_getElem? (i := 487) (by decide +kernel), List.mem_of_getElem? (i := 488) (by decide +kernel)⟩
theorem lw_p17 : lw_okq (⟨"ProofReader$Parser", "atomBegins", "()Z"⟩, 17) := ⟨⟨by decide +kernel, by decide +kernel⟩, List.mem_of_getElem? (i := 187) (by decide +kernel), List.mem_of_getElem? (i := 491) (by decide +kernel), List.mem_of_getElem? (i := 492) (by decide +kernel)⟩
theorem lw_p18 : lw_okq (⟨"ProofReader$Parser", "arrow", "(I)Z"⟩, 17) := ⟨⟨by decide +kernel, by decide +kernel⟩, List.mem_of_getElem? (i := 187) (by decide +kernel), List.mem_of_getElem? (i := 495) (by decide +kernel), List.mem_of_getElem? (i := 496) (by decide +kernel)⟩
theorem lw_p19 : lw_okq (⟨"ProofReader", "settle", "()Z"⟩, 9) := ⟨⟨by decide +kernel, by decide +kernel⟩, List.mem_of_getElem? (i := 24) (by decide +kernel), List.mem_of_getElem? (i := 510) (by decide +kernel), List.mem_of_getElem? (i := 511) (by decide +kernel)⟩
theorem lw_p20 : lw_okq (⟨"ProofReader$Checker", "isObjectHead", "(I)Z"⟩, 6) := ⟨⟨by decide +kernel, by decide +kernel⟩, List.mem_of_getElem? (i := 253) (by decide +kernel), List.mem_of_getElem? (i := 518) (by decide +kernel), List.mem_of_getElem? (i := 519) (by decide +kernel)⟩
theorem lw_p21 : lw_okq (⟨"ProofReader$Checker", "wrong", "(II)Z"⟩, 6) := ⟨⟨by decide +kernel, by decide +kernel⟩, List.mem_of_getElem? (i := 253) (by decide +kernel), List.mem_of_getElem? (i := 526) (by decide +kernel), List.mem_of_getElem? (i := 527) (by decide +kernel)⟩
theorem lw_p22 : lw_okq (⟨"ProofReader$Checker", "headType", "(I)I"⟩, 6) := ⟨⟨by decide +kernel, by decide +kernel⟩, List.mem_of_getElem? (i := 253) (by decide +kernel), List.mem_of_getElem? (i := 531) (by decide +kernel), List.mem_of_getElem? (i := 532) (by decide +kernel)⟩
theorem lw_p23 : lw_okq (⟨"ProofReader$Checker", "fit", "(II)Z"⟩, 6) := ⟨⟨by decide +kernel, by decide +kernel⟩, List.mem_of_getElem? (i := 253) (by decide +kernel), List.mem_of_getElem? (i := 539) (by decide +kernel), List.mem_of_getElem? (i := 540) (by decide +kernel)⟩
theorem lw_p24 : lw_okq (⟨"ProofReader$Checker", "object", "(III)Z"⟩, 6) := ⟨⟨by decide +kernel, by decide +kernel⟩, List.mem_of_getElem? (i := 253) (by decide +kernel), List.mem_of_getElem? (i := 543) (by decide +kernel), List.mem_of_getElem? (i := 544) (by decide +kernel)⟩
theorem lw_p25 : lw_okq (⟨"ProofReader$Checker", "application", "(III)Z"⟩, 6) := ⟨⟨by decide +kernel, by decide +kernel⟩, List.mem_of_getElem? (i := 253) (by decide +kernel), List.mem_of_getElem? (i := 547) (by decide +kernel), List.mem_of_getElem? (i := 548) (by decide +kernel)⟩
theorem lw_p26 : lw_okq (⟨"ProofReader$Putter", "push", "(II)V"⟩, 11) := ⟨⟨by decide +kernel, by decide +kernel⟩, List.mem_of_getElem? (i := 259) (by decide +kernel), List.mem_of_getElem? (i := 564) (by decide +kernel), List.mem_of_getElem? (i := 565) (by decide +kernel)⟩
theorem lw_p27 : lw_okq (⟨"ProofReader$Putter", "step", "(I)Z"⟩, 11) := ⟨⟨by decide +kernel, by decide +kernel⟩, List.mem_of_getElem? (i := 259) (by decide +kernel), List.mem_of_getElem? (i := 569) (by decide +kernel), List.mem_of_getElem? (i := 570) (by decide +kernel)⟩
theorem lw_p28 : lw_okq (⟨"ProofReader$Putter", "shiftOf", "(I)I"⟩, 11) := ⟨⟨by decide +kernel, by decide +kernel⟩, List.mem_of_getElem? (i := 259) (by decide +kernel), List.mem_of_getElem? (i := 573) (by decide +kernel), List.mem_of_getElem? (i := 574) (by decide +kernel)⟩
theorem lw_p29 : lw_okq (⟨"ProofReader$Printer", "close", "(I)V"⟩, 8) := ⟨⟨by decide +kernel, by decide +kernel⟩, List.mem_of_getElem? (i := 319) (by decide +kernel), List.mem_of_getElem? (i := 592) (by decide +kernel), List.mem_of_getElem? (i := 593) (by decide +kernel)⟩
theorem lw_p30 : lw_okq (⟨"ProofReader$Printer", "markParts", "(I)V"⟩, 8) := ⟨⟨by decide +kernel, by decide +kernel⟩, List.mem_of_getElem? (i := 319) (by decide +kernel), List.mem_of_getElem? (i := 600) (by decide +kernel), List.mem_of_getElem? (i := 601) (by decide +kernel)⟩
theorem lw_p31 : lw_okq (⟨"ProofReader$Printer", "node", "(I)V"⟩, 8) := ⟨⟨by decide +kernel, by decide +kernel⟩, List.mem_of_getElem? (i := 319) (by decide +kernel), List.mem_of_getElem? (i := 604) (by decide +kernel), List.mem_of_getElem? (i := 605) (by decide +kernel)⟩
def lw_privs_2 : List (MethodName × Nat) := [(⟨"ProofReader$Parser", "meaning", "()I"⟩, 17), (⟨"ProofReader$Parser", "atomBegins", "()Z"⟩, 17), (⟨"ProofReader$Parser", "arrow", "(I)Z"⟩, 17), (⟨"ProofReader", "settle", "()Z"⟩, 9), (⟨"ProofReader$Checker", "isObjectHead", "(I)Z"⟩, 6), (⟨"ProofReader$Checker", "wrong", "(II)Z"⟩, 6), (⟨"ProofReader$Checker", "headType", "(I)I"⟩, 6), (⟨"ProofReader$Checker", "fit", "(II)Z"⟩, 6), (⟨"ProofReader$Checker", "object", "(III)Z"⟩, 6), (⟨"ProofReader$Checker", "application", "(III)Z"⟩, 6), (⟨"ProofReader$Putter", "push", "(II)V"⟩, 11), (⟨"ProofReader$Putter", "step", "(I)Z"⟩, 11), (⟨"ProofReader$Putter", "shiftOf", "(I)I"⟩, 11), (⟨"ProofReader$Printer", "close", "(I)V"⟩, 8), (⟨"ProofReader$Printer", "markParts", "(I)V"⟩, 8), (⟨"ProofReader$Printer", "node", "(I)V"⟩, 8)]
theorem lw_r2 : ∀ q ∈ lw_privs_2, lw_okq q := List.forall_mem_cons.mpr ⟨lw_p16, List.forall_mem_cons.mpr ⟨lw_p17, List.forall_mem_cons.mpr ⟨lw_p18, List.forall_mem_cons.mpr ⟨lw_p19, List.forall_mem_cons.mpr ⟨lw_p20, List.forall_mem_cons.mpr ⟨lw_p21, List.forall_mem_cons.mpr ⟨lw_p22, List.forall_mem_cons.mpr ⟨lw_p23, List.forall_mem_cons.mpr ⟨lw_p24, List.forall_mem_cons.mpr ⟨lw_p25, List.forall_mem_cons.mpr ⟨lw_p26, List.forall_mem_cons.mpr ⟨lw_p27, List.forall_mem_cons.mpr ⟨lw_p28, List.forall_mem_cons.mpr ⟨lw_p29, List.forall_mem_cons.mpr ⟨lw_p30, List.forall_mem_cons.mpr ⟨lw_p31, fun _ h => absurd h List.not_mem_nil⟩⟩⟩⟩⟩⟩⟩⟩⟩⟩⟩⟩⟩⟩⟩⟩
theorem lw_p32 : lw_okq (⟨"ProofReader$Printer", "closeLater", "(II)V"⟩, 8) := ⟨⟨by decide +kernel, by decide +kernel⟩, List.mem_of_getElem? (i := 319) (by decide +kernel), List.mem_of_getElem? (i := 608) (by decide +kernel), List.mem_of_getElem? (i := 609) (by decide +kernel)⟩
theorem lw_p33 : lw_okq (⟨"ProofReader$Printer", "word", "(Ljava/lang/String;)V"⟩, 8) := ⟨⟨by decide +kernel, by decide +kernel⟩, List.mem_of_getElem? (i := 319) (by decide +kernel), List.mem_of_getElem? (i := 613) (by decide +kernel), List.mem_of_getElem? (i := 614) (by decide +kernel)⟩
theorem lw_p34 : lw_okq (⟨"ProofReader$Printer", "variable", "(I)V"⟩, 8) := ⟨⟨by decide +kernel, by decide +kernel⟩, List.mem_of_getElem? (i := 319) (by decide +kernel), List.mem_of_getElem? (i := 665) (by decide +kernel), List.mem_of_getElem? (i := 666) (by decide +kernel)⟩
theorem lw_p35 : lw_okq (⟨"ProofReader$Printer", "head", "(I)V"⟩, 8) := ⟨⟨by decide +kernel, by decide +kernel⟩, List.mem_of_getElem? (i := 319) (by decide +kernel), List.mem_of_getElem? (i := 670) (by decide +kernel), List.mem_of_getElem? (i := 671) (by decide +kernel)⟩
theorem lw_p36 : lw_okq (⟨"ProofReader$Printer", "bytesOf", "(J)V"⟩, 8) := ⟨⟨by decide +kernel, by decide +kernel⟩, List.mem_of_getElem? (i := 319) (by decide +kernel), List.mem_of_getElem? (i := 674) (by decide +kernel), List.mem_of_getElem? (i := 675) (by decide +kernel)⟩
theorem lw_p37 : lw_okq (⟨"ProofReader$Checker", "type", "(IZZ)Z"⟩, 6) := ⟨⟨by decide +kernel, by decide +kernel⟩, List.mem_of_getElem? (i := 253) (by decide +kernel), List.mem_of_getElem? (i := 679) (by decide +kernel), List.mem_of_getElem? (i := 680) (by decide +kernel)⟩
theorem lw_p38 : lw_okq (⟨"ProofReader$Checker", "familyApplication", "(I)Z"⟩, 6) := ⟨⟨by decide +kernel, by decide +kernel⟩, List.mem_of_getElem? (i := 253) (by decide +kernel), List.mem_of_getElem? (i := 684) (by decide +kernel), List.mem_of_getElem? (i := 685) (by decide +kernel)⟩
theorem lw_p39 : lw_okq (⟨"java/lang/Throwable", "fillInStackTrace", "(I)Ljava/lang/Throwable;"⟩, 6) := ⟨⟨by decide +kernel, by decide +kernel⟩, List.mem_of_getElem? (i := 784) (by decide +kernel), List.mem_of_getElem? (i := 782) (by decide +kernel), List.mem_of_getElem? (i := 783) (by decide +kernel)⟩
theorem lw_p40 : lw_okq (⟨"ProofReaderModel", "readToken", "()V"⟩, 61) := ⟨⟨by decide +kernel, by decide +kernel⟩, List.mem_of_getElem? (i := 854) (by decide +kernel), List.mem_of_getElem? (i := 1054) (by decide +kernel), List.mem_of_getElem? (i := 1055) (by decide +kernel)⟩
theorem lw_p41 : lw_okq (⟨"ProofReaderModel", "readName", "()V"⟩, 61) := ⟨⟨by decide +kernel, by decide +kernel⟩, List.mem_of_getElem? (i := 854) (by decide +kernel), List.mem_of_getElem? (i := 1061) (by decide +kernel), List.mem_of_getElem? (i := 1062) (by decide +kernel)⟩
theorem lw_p42 : lw_okq (⟨"ProofReaderModel", "tell", "()Z"⟩, 61) := ⟨⟨by decide +kernel, by decide +kernel⟩, List.mem_of_getElem? (i := 854) (by decide +kernel), List.mem_of_getElem? (i := 1069) (by decide +kernel), List.mem_of_getElem? (i := 1070) (by decide +kernel)⟩
theorem lw_p43 : lw_okq (⟨"ProofReaderModel", "constantOf", "()I"⟩, 61) := ⟨⟨by decide +kernel, by decide +kernel⟩, List.mem_of_getElem? (i := 854) (by decide +kernel), List.mem_of_getElem? (i := 1073) (by decide +kernel), List.mem_of_getElem? (i := 1074) (by decide +kernel)⟩
theorem lw_p44 : lw_okq (⟨"ProofReaderModel", "fails", "(II)Z"⟩, 61) := ⟨⟨by decide +kernel, by decide +kernel⟩, List.mem_of_getElem? (i := 854) (by decide +kernel), List.mem_of_getElem? (i := 1077) (by decide +kernel), List.mem_of_getElem? (i := 1078) (by decide +kernel)⟩
theorem lw_p45 : lw_okq (⟨"ProofReaderModel", "takes", "(I)Z"⟩, 61) := ⟨⟨by decide +kernel, by decide +kernel⟩, List.mem_of_getElem? (i := 854) (by decide +kernel), List.mem_of_getElem? (i := 1081) (by decide +kernel), List.mem_of_getElem? (i := 1082) (by decide +kernel)⟩
theorem lw_p46 : lw_okq (⟨"ProofReaderModel", "failsToken", "()Z"⟩, 61) := ⟨⟨by decide +kernel, by decide +kernel⟩, List.mem_of_getElem? (i := 854) (by decide +kernel), List.mem_of_getElem? (i := 1085) (by decide +kernel), List.mem_of_getElem? (i := 1086) (by decide +kernel)⟩
theorem lw_p47 : lw_okq (⟨"ProofReaderModel", "readExpression", "(Z)Z"⟩, 61) := ⟨⟨by decide +kernel, by decide +kernel⟩, List.mem_of_getElem? (i := 854) (by decide +kernel), List.mem_of_getElem? (i := 1089) (by decide +kernel), List.mem_of_getElem? (i := 1090) (by decide +kernel)⟩
def lw_privs_3 : List (MethodName × Nat) := [(⟨"ProofReader$Printer", "closeLater", "(II)V"⟩, 8), (⟨"ProofReader$Printer", "word", "(Ljava/lang/String;)V"⟩, 8), (⟨"ProofReader$Printer", "variable", "(I)V"⟩, 8), (⟨"ProofReader$Printer", "head", "(I)V"⟩, 8), (⟨"ProofReader$Printer", "bytesOf", "(J)V"⟩, 8), (⟨"ProofReader$Checker", "type", "(IZZ)Z"⟩, 6), (⟨"ProofReader$Checker", "familyApplication", "(I)Z"⟩, 6), (⟨"java/lang/Throwable", "fillInStackTrace", "(I)Ljava/lang/Throwable;"⟩, 6), (⟨"ProofReaderModel", "readToken", "()V"⟩, 61), (⟨"ProofReaderModel", "readName", "()V"⟩, 61), (⟨"ProofReaderModel", "tell", "()Z"⟩, 61), (⟨"ProofReaderModel", "constantOf", "()I"⟩, 61), (⟨"ProofReaderModel", "fails", "(II)Z"⟩, 61), (⟨"ProofReaderModel", "takes", "(I)Z"⟩, 61), (⟨"ProofReaderModel", "failsToken", "()Z"⟩, 61), (⟨"ProofReaderModel", "readExpression", "(Z)Z"⟩, 61)]
theorem lw_r3 : ∀ q ∈ lw_privs_3, lw_okq q := List.forall_mem_cons.mpr ⟨lw_p32, List.forall_mem_cons.mpr ⟨lw_p33, List.forall_mem_cons.mpr ⟨lw_p34, List.forall_mem_cons.mpr ⟨lw_p35, List.forall_mem_cons.mpr ⟨lw_p36, List.forall_mem_cons.mpr ⟨lw_p37, List.forall_mem_cons.mpr ⟨lw_p38, List.forall_mem_cons.mpr ⟨lw_p39, List.forall_mem_cons.mpr ⟨lw_p40, List.forall_mem_cons.mpr ⟨lw_p41, List.forall_mem_cons.mpr ⟨lw_p42, List.forall_mem_cons.mpr ⟨lw_p43, List.forall_mem_cons.mpr ⟨lw_p44, List.forall_mem_cons.mpr ⟨lw_p45, List.forall_mem_cons.mpr ⟨lw_p46, List.forall_mem_cons.mpr ⟨lw_p47, fun _ h => absurd h List.not_mem_nil⟩⟩⟩⟩⟩⟩⟩⟩⟩⟩⟩⟩⟩⟩⟩⟩
theorem lw_p48 : lw_okq (⟨"ProofReaderModel", "goesOn", "()Z"⟩, 61) := ⟨⟨by decide +kernel, by decide +kernel⟩, List.mem_of_getElem? (i := 854) (by decide +kernel), List.mem_of_getElem? (i := 1093) (by decide +kernel), List.mem_of_getElem? (i := 1094) (by decide +kernel)⟩
theorem lw_p49 : lw_okq (⟨"ProofReaderModel", "argument", "()Z"⟩, 61) := ⟨⟨by decide +kernel, by decide +kernel⟩, List.mem_of_getElem? (i := 854) (by decide +kernel), List.mem_of_getElem? (i := 1097) (by decide +kernel), List.mem_of_getElem? (i := 1098) (by decide +kernel)⟩
theorem lw_p50 : lw_okq (⟨"ProofReaderModel", "counts", "(II)Z"⟩, 61) := ⟨⟨by decide +kernel, by decide +kernel⟩, List.mem_of_getElem? (i := 854) (by decide +kernel), List.mem_of_getElem? (i := 1101) (by decide +kernel), List.mem_of_getElem? (i := 1102) (by decide +kernel)⟩
theorem lw_p51 : lw_okq (⟨"ProofReaderModel", "enter", "(I)V"⟩, 61) := ⟨⟨by decide +kernel, by decide +kernel⟩, List.mem_of_getElem? (i := 854) (by decide +kernel), List.mem_of_getElem? (i := 1105) (by decide +kernel), List.mem_of_getElem? (i := 1106) (by decide +kernel)⟩
theorem lw_p52 : lw_okq (⟨"ProofReaderModel", "readHead", "()Z"⟩, 61) := ⟨⟨by decide +kernel, by decide +kernel⟩, List.mem_of_getElem? (i := 854) (by decide +kernel), List.mem_of_getElem? (i := 1109) (by decide +kernel), List.mem_of_getElem? (i := 1110) (by decide +kernel)⟩
theorem lw_p53 : lw_okq (⟨"ProofReaderModel", "find", "()I"⟩, 61) := ⟨⟨by decide +kernel, by decide +kernel⟩, List.mem_of_getElem? (i := 854) (by decide +kernel), List.mem_of_getElem? (i := 1113) (by decide +kernel), List.mem_of_getElem? (i := 1114) (by decide +kernel)⟩
theorem lw_p54 : lw_okq (⟨"ProofReaderModel", "put", "(I)V"⟩, 61) := ⟨⟨by decide +kernel, by decide +kernel⟩, List.mem_of_getElem? (i := 854) (by decide +kernel), List.mem_of_getElem? (i := 1117) (by decide +kernel), List.mem_of_getElem? (i := 1118) (by decide +kernel)⟩
theorem lw_p55 : lw_okq (⟨"ProofReaderModel", "arrow", "()Z"⟩, 61) := ⟨⟨by decide +kernel, by decide +kernel⟩, List.mem_of_getElem? (i := 854) (by decide +kernel), List.mem_of_getElem? (i := 1121) (by decide +kernel), List.mem_of_getElem? (i := 1122) (by decide +kernel)⟩
theorem lw_p56 : lw_okq (⟨"ProofReaderModel", "leave", "()V"⟩, 61) := ⟨⟨by decide +kernel, by decide +kernel⟩, List.mem_of_getElem? (i := 854) (by decide +kernel), List.mem_of_getElem? (i := 1125) (by decide +kernel), List.mem_of_getElem? (i := 1126) (by decide +kernel)⟩
theorem lw_p57 : lw_okq (⟨"ProofReaderModel", "show", "(IJJ)V"⟩, 61) := ⟨⟨by decide +kernel, by decide +kernel⟩, List.mem_of_getElem? (i := 854) (by decide +kernel), List.mem_of_getElem? (i := 1129) (by decide +kernel), List.mem_of_getElem? (i := 1130) (by decide +kernel)⟩
theorem lw_p58 : lw_okq (⟨"ProofReaderModel", "begins", "()Z"⟩, 61) := ⟨⟨by decide +kernel, by decide +kernel⟩, List.mem_of_getElem? (i := 854) (by decide +kernel), List.mem_of_getElem? (i := 1133) (by decide +kernel), List.mem_of_getElem? (i := 1134) (by decide +kernel)⟩
theorem lw_p59 : lw_okq (⟨"ProofReaderModel", "beginProduct", "()Z"⟩, 61) := ⟨⟨by decide +kernel, by decide +kernel⟩, List.mem_of_getElem? (i := 854) (by decide +kernel), List.mem_of_getElem? (i := 1137) (by decide +kernel), List.mem_of_getElem? (i := 1138) (by decide +kernel)⟩
theorem lw_p60 : lw_okq (⟨"ProofReaderModel", "beginFunction", "()Z"⟩, 61) := ⟨⟨by decide +kernel, by decide +kernel⟩, List.mem_of_getElem? (i := 854) (by decide +kernel), List.mem_of_getElem? (i := 1141) (by decide +kernel), List.mem_of_getElem? (i := 1142) (by decide +kernel)⟩
theorem lw_p61 : lw_okq (⟨"ProofReaderModel", "then", "(IIIIIII)V"⟩, 61) := ⟨⟨by decide +kernel, by decide +kernel⟩, List.mem_of_getElem? (i := 854) (by decide +kernel), List.mem_of_getElem? (i := 1145) (by decide +kernel), List.mem_of_getElem? (i := 1146) (by decide +kernel)⟩
theorem lw_p62 : lw_okq (⟨"ProofReaderModel", "doAll", "()Z"⟩, 61) := ⟨⟨by decide +kernel, by decide +kernel⟩, List.mem_of_getElem? (i := 854) (by decide +kernel), List.mem_of_getElem? (i := 1149) (by decide +kernel), List.mem_of_getElem? (i := 1150) (by decide +kernel)⟩
theorem lw_p63 : lw_okq (⟨"ProofReaderModel", "doTask", "(I)Z"⟩, 61) := ⟨⟨by decide +kernel, by decide +kernel⟩, List.mem_of_getElem? (i := 854) (by decide +kernel), List.mem_of_getElem? (i := 1153) (by decide +kernel), List.mem_of_getElem? (i := 1154) (by decide +kernel)⟩
def lw_privs_4 : List (MethodName × Nat) := [(⟨"ProofReaderModel", "goesOn", "()Z"⟩, 61), (⟨"ProofReaderModel", "argument", "()Z"⟩, 61), (⟨"ProofReaderModel", "counts", "(II)Z"⟩, 61), (⟨"ProofReaderModel", "enter", "(I)V"⟩, 61), (⟨"ProofReaderModel", "readHead", "()Z"⟩, 61), (⟨"ProofReaderModel", "find", "()I"⟩, 61), (⟨"ProofReaderModel", "put", "(I)V"⟩, 61), (⟨"ProofReaderModel", "arrow", "()Z"⟩, 61), (⟨"ProofReaderModel", "leave", "()V"⟩, 61), (⟨"ProofReaderModel", "show", "(IJJ)V"⟩, 61), (⟨"ProofReaderModel", "begins", "()Z"⟩, 61), (⟨"ProofReaderModel", "beginProduct", "()Z"⟩, 61), (⟨"ProofReaderModel", "beginFunction", "()Z"⟩, 61), (⟨"ProofReaderModel", "then", "(IIIIIII)V"⟩, 61), (⟨"ProofReaderModel", "doAll", "()Z"⟩, 61), (⟨"ProofReaderModel", "doTask", "(I)Z"⟩, 61)]
theorem lw_r4 : ∀ q ∈ lw_privs_4, lw_okq q := List.forall_mem_cons.mpr ⟨lw_p48, List.forall_mem_cons.mpr ⟨lw_p49, List.forall_mem_cons.mpr ⟨lw_p50, List.forall_mem_cons.mpr ⟨lw_p51, List.forall_mem_cons.mpr ⟨lw_p52, List.forall_mem_cons.mpr ⟨lw_p53, List.forall_mem_cons.mpr ⟨lw_p54, List.forall_mem_cons.mpr ⟨lw_p55, List.forall_mem_cons.mpr ⟨lw_p56, List.forall_mem_cons.mpr ⟨lw_p57, List.forall_mem_cons.mpr ⟨lw_p58, List.forall_mem_cons.mpr ⟨lw_p59, List.forall_mem_cons.mpr ⟨lw_p60, List.forall_mem_cons.mpr ⟨lw_p61, List.forall_mem_cons.mpr ⟨lw_p62, List.forall_mem_cons.mpr ⟨lw_p63, fun _ h => absurd h List.not_mem_nil⟩⟩⟩⟩⟩⟩⟩⟩⟩⟩⟩⟩⟩⟩⟩⟩
theorem lw_p64 : lw_okq (⟨"ProofReaderModel", "checkSort", "(II)Z"⟩, 61) := ⟨⟨by decide +kernel, by decide +kernel⟩, List.mem_of_getElem? (i := 854) (by decide +kernel), List.mem_of_getElem? (i := 1157) (by decide +kernel), List.mem_of_getElem? (i := 1158) (by decide +kernel)⟩
theorem lw_p65 : lw_okq (⟨"ProofReaderModel", "isFamily", "(I)Z"⟩, 61) := ⟨⟨by decide +kernel, by decide +kernel⟩, List.mem_of_getElem? (i := 854) (by decide +kernel), List.mem_of_getElem? (i := 1161) (by decide +kernel), List.mem_of_getElem? (i := 1162) (by decide +kernel)⟩
theorem lw_p66 : lw_okq (⟨"ProofReaderModel", "skip", "(II)I"⟩, 61) := ⟨⟨by decide +kernel, by decide +kernel⟩, List.mem_of_getElem? (i := 854) (by decide +kernel), List.mem_of_getElem? (i := 1165) (by decide +kernel), List.mem_of_getElem? (i := 1166) (by decide +kernel)⟩
theorem lw_p67 : lw_okq (⟨"ProofReaderModel", "from", "(II)I"⟩, 61) := ⟨⟨by decide +kernel, by decide +kernel⟩, List.mem_of_getElem? (i := 854) (by decide +kernel), List.mem_of_getElem? (i := 1169) (by decide +kernel), List.mem_of_getElem? (i := 1170) (by decide +kernel)⟩
theorem lw_p68 : lw_okq (⟨"ProofReaderModel", "startArguments", "(III)V"⟩, 61) := ⟨⟨by decide +kernel, by decide +kernel⟩, List.mem_of_getElem? (i := 854) (by decide +kernel), List.mem_of_getElem? (i := 1173) (by decide +kernel), List.mem_of_getElem? (i := 1174) (by decide +kernel)⟩
theorem lw_p69 : lw_okq (⟨"ProofReaderModel", "copy", "(IIII)I"⟩, 61) := ⟨⟨by decide +kernel, by decide +kernel⟩, List.mem_of_getElem? (i := 854) (by decide +kernel), List.mem_of_getElem? (i := 1177) (by decide +kernel), List.mem_of_getElem? (i := 1178) (by decide +kernel)⟩
theorem lw_p70 : lw_okq (⟨"ProofReaderModel", "later", "(III)V"⟩, 61) := ⟨⟨by decide +kernel, by decide +kernel⟩, List.mem_of_getElem? (i := 854) (by decide +kernel), List.mem_of_getElem? (i := 1181) (by decide +kernel), List.mem_of_getElem? (i := 1182) (by decide +kernel)⟩
theorem lw_p71 : lw_okq (⟨"ProofReaderModel", "giveApplication", "(IIII)V"⟩, 61) := ⟨⟨by decide +kernel, by decide +kernel⟩, List.mem_of_getElem? (i := 854) (by decide +kernel), List.mem_of_getElem? (i := 1185) (by decide +kernel), List.mem_of_getElem? (i := 1186) (by decide +kernel)⟩
theorem lw_p72 : lw_okq (⟨"ProofReaderModel", "giveInPlace", "(II)V"⟩, 61) := ⟨⟨by decide +kernel, by decide +kernel⟩, List.mem_of_getElem? (i := 854) (by decide +kernel), List.mem_of_getElem? (i := 1189) (by decide +kernel), List.mem_of_getElem? (i := 1190) (by decide +kernel)⟩
theorem lw_p73 : lw_okq (⟨"ProofReaderModel", "give", "(I)V"⟩, 61) := ⟨⟨by decide +kernel, by decide +kernel⟩, List.mem_of_getElem? (i := 854) (by decide +kernel), List.mem_of_getElem? (i := 1193) (by decide +kernel), List.mem_of_getElem? (i := 1194) (by decide +kernel)⟩
theorem lw_p74 : lw_okq (⟨"ProofReaderModel", "giveBinder", "(II)V"⟩, 61) := ⟨⟨by decide +kernel, by decide +kernel⟩, List.mem_of_getElem? (i := 854) (by decide +kernel), List.mem_of_getElem? (i := 1197) (by decide +kernel), List.mem_of_getElem? (i := 1198) (by decide +kernel)⟩
theorem lw_p75 : lw_okq (⟨"ProofReaderModel", "checkObject", "(II)Z"⟩, 61) := ⟨⟨by decide +kernel, by decide +kernel⟩, List.mem_of_getElem? (i := 854) (by decide +kernel), List.mem_of_getElem? (i := 1201) (by decide +kernel), List.mem_of_getElem? (i := 1202) (by decide +kernel)⟩
theorem lw_p76 : lw_okq (⟨"ProofReaderModel", "checkFunction", "(II)V"⟩, 61) := ⟨⟨by decide +kernel, by decide +kernel⟩, List.mem_of_getElem? (i := 854) (by decide +kernel), List.mem_of_getElem? (i := 1205) (by decide +kernel), List.mem_of_getElem? (i := 1206) (by decide +kernel)⟩
theorem lw_p77 : lw_okq (⟨"ProofReaderModel", "checkArguments", "(I)Z"⟩, 61) := ⟨⟨by decide +kernel, by decide +kernel⟩, List.mem_of_getElem? (i := 854) (by decide +kernel), List.mem_of_getElem? (i := 1209) (by decide +kernel), List.mem_of_getElem? (i := 1210) (by decide +kernel)⟩
theorem lw_p78 : lw_okq (⟨"ProofReaderModel", "print", "(I)Z"⟩, 61) := ⟨⟨by decide +kernel, by decide +kernel⟩, List.mem_of_getElem? (i := 854) (by decide +kernel), List.mem_of_getElem? (i := 1213) (by decide +kernel), List.mem_of_getElem? (i := 1214) (by decide +kernel)⟩
theorem lw_p79 : lw_okq (⟨"ProofReaderModel", "sayPart", "(II)V"⟩, 61) := ⟨⟨by decide +kernel, by decide +kernel⟩, List.mem_of_getElem? (i := 854) (by decide +kernel), List.mem_of_getElem? (i := 1217) (by decide +kernel), List.mem_of_getElem? (i := 1218) (by decide +kernel)⟩
def lw_privs_5 : List (MethodName × Nat) := [(⟨"ProofReaderModel", "checkSort", "(II)Z"⟩, 61), (⟨"ProofReaderModel", "isFamily", "(I)Z"⟩, 61), (⟨"ProofReaderModel", "skip", "(II)I"⟩, 61), (⟨"ProofReaderModel", "from", "(II)I"⟩, 61), (⟨"ProofReaderModel", "startArguments", "(III)V"⟩, 61), (⟨"ProofReaderModel", "copy", "(IIII)I"⟩, 61), (⟨"ProofReaderModel", "later", "(III)V"⟩, 61), (⟨"ProofReaderModel", "giveApplication", "(IIII)V"⟩, 61), (⟨"ProofReaderModel", "giveInPlace", "(II)V"⟩, 61), (⟨"ProofReaderModel", "give", "(I)V"⟩, 61), (⟨"ProofReaderModel", "giveBinder", "(II)V"⟩, 61), (⟨"ProofReaderModel", "checkObject", "(II)Z"⟩, 61), (⟨"ProofReaderModel", "checkFunction", "(II)V"⟩, 61), (⟨"ProofReaderModel", "checkArguments", "(I)Z"⟩, 61), (⟨"ProofReaderModel", "print", "(I)Z"⟩, 61), (⟨"ProofReaderModel", "sayPart", "(II)V"⟩, 61)]
theorem lw_r5 : ∀ q ∈ lw_privs_5, lw_okq q := List.forall_mem_cons.mpr ⟨lw_p64, List.forall_mem_cons.mpr ⟨lw_p65, List.forall_mem_cons.mpr ⟨lw_p66, List.forall_mem_cons.mpr ⟨lw_p67, List.forall_mem_cons.mpr ⟨lw_p68, List.forall_mem_cons.mpr ⟨lw_p69, List.forall_mem_cons.mpr ⟨lw_p70, List.forall_mem_cons.mpr ⟨lw_p71, List.forall_mem_cons.mpr ⟨lw_p72, List.forall_mem_cons.mpr ⟨lw_p73, List.forall_mem_cons.mpr ⟨lw_p74, List.forall_mem_cons.mpr ⟨lw_p75, List.forall_mem_cons.mpr ⟨lw_p76, List.forall_mem_cons.mpr ⟨lw_p77, List.forall_mem_cons.mpr ⟨lw_p78, List.forall_mem_cons.mpr ⟨lw_p79, fun _ h => absurd h List.not_mem_nil⟩⟩⟩⟩⟩⟩⟩⟩⟩⟩⟩⟩⟩⟩⟩⟩
theorem lw_p80 : lw_okq (⟨"ProofReaderModel", "say", "(I)V"⟩, 61) := ⟨⟨by decide +kernel, by decide +kernel⟩, List.mem_of_getElem? (i := 854) (by decide +kernel), List.mem_of_getElem? (i := 1221) (by decide +kernel), List.mem_of_getElem? (i := 1222) (by decide +kernel)⟩
theorem lw_p81 : lw_okq (⟨"ProofReaderModel", "sayNumber", "(I)V"⟩, 61) := ⟨⟨by decide +kernel, by decide +kernel⟩, List.mem_of_getElem? (i := 854) (by decide +kernel), List.mem_of_getElem? (i := 1225) (by decide +kernel), List.mem_of_getElem? (i := 1226) (by decide +kernel)⟩
theorem lw_p82 : lw_okq (⟨"ProofReaderModel", "sayApplication", "(II)V"⟩, 61) := ⟨⟨by decide +kernel, by decide +kernel⟩, List.mem_of_getElem? (i := 854) (by decide +kernel), List.mem_of_getElem? (i := 1229) (by decide +kernel), List.mem_of_getElem? (i := 1230) (by decide +kernel)⟩
theorem lw_p83 : lw_okq (⟨"ProofReaderModel", "sayName", "(JJ)V"⟩, 61) := ⟨⟨by decide +kernel, by decide +kernel⟩, List.mem_of_getElem? (i := 854) (by decide +kernel), List.mem_of_getElem? (i := 1233) (by decide +kernel), List.mem_of_getElem? (i := 1234) (by decide +kernel)⟩
theorem lw_p84 : lw_okq (⟨"ProofReaderModel", "isSame", "(II)Z"⟩, 61) := ⟨⟨by decide +kernel, by decide +kernel⟩, List.mem_of_getElem? (i := 854) (by decide +kernel), List.mem_of_getElem? (i := 1238) (by decide +kernel), List.mem_of_getElem? (i := 1239) (by decide +kernel)⟩
theorem lw_p85 : lw_okq (⟨"ProofReaderModel", "goBehind", "(I)Z"⟩, 61) := ⟨⟨by decide +kernel, by decide +kernel⟩, List.mem_of_getElem? (i := 854) (by decide +kernel), List.mem_of_getElem? (i := 1242) (by decide +kernel), List.mem_of_getElem? (i := 1243) (by decide +kernel)⟩
theorem lw_p86 : lw_okq (⟨"ProofReaderModel", "keep", "(IJJ)V"⟩, 61) := ⟨⟨by decide +kernel, by decide +kernel⟩, List.mem_of_getElem? (i := 854) (by decide +kernel), List.mem_of_getElem? (i := 1246) (by decide +kernel), List.mem_of_getElem? (i := 1247) (by decide +kernel)⟩
theorem lw_p87 : lw_okq (⟨"ProofReaderModel", "question", "()Z"⟩, 61) := ⟨⟨by decide +kernel, by decide +kernel⟩, List.mem_of_getElem? (i := 854) (by decide +kernel), List.mem_of_getElem? (i := 1250) (by decide +kernel), List.mem_of_getElem? (i := 1251) (by decide +kernel)⟩
theorem lw_p88 : lw_okq (⟨"ProofReaderModel", "lastPart", "(I)I"⟩, 61) := ⟨⟨by decide +kernel, by decide +kernel⟩, List.mem_of_getElem? (i := 854) (by decide +kernel), List.mem_of_getElem? (i := 1278) (by decide +kernel), List.mem_of_getElem? (i := 1279) (by decide +kernel)⟩
theorem lw_p89 : lw_okq (⟨"ProofReaderModel", "products", "(I)I"⟩, 61) := ⟨⟨by decide +kernel, by decide +kernel⟩, List.mem_of_getElem? (i := 854) (by decide +kernel), List.mem_of_getElem? (i := 1282) (by decide +kernel), List.mem_of_getElem? (i := 1283) (by decide +kernel)⟩
theorem lw_p90 : lw_okq (⟨"ProofReaderModel", "size", "(I)I"⟩, 61) := ⟨⟨by decide +kernel, by decide +kernel⟩, List.mem_of_getElem? (i := 854) (by decide +kernel), List.mem_of_getElem? (i := 1286) (by decide +kernel), List.mem_of_getElem? (i := 1287) (by decide +kernel)⟩
theorem lw_p91 : lw_okq (⟨"ProofReaderModel", "order", "(I)I"⟩, 61) := ⟨⟨by decide +kernel, by decide +kernel⟩, List.mem_of_getElem? (i := 854) (by decide +kernel), List.mem_of_getElem? (i := 1290) (by decide +kernel), List.mem_of_getElem? (i := 1291) (by decide +kernel)⟩
def lw_privs_6 : List (MethodName × Nat) := [(⟨"ProofReaderModel", "say", "(I)V"⟩, 61), (⟨"ProofReaderModel", "sayNumber", "(I)V"⟩, 61), (⟨"ProofReaderModel", "sayApplication", "(II)V"⟩, 61), (⟨"ProofReaderModel", "sayName", "(JJ)V"⟩, 61), (⟨"ProofReaderModel", "isSame", "(II)Z"⟩, 61), (⟨"ProofReaderModel", "goBehind", "(I)Z"⟩, 61), (⟨"ProofReaderModel", "keep", "(IJJ)V"⟩, 61), (⟨"ProofReaderModel", "question", "()Z"⟩, 61), (⟨"ProofReaderModel", "lastPart", "(I)I"⟩, 61), (⟨"ProofReaderModel", "products", "(I)I"⟩, 61), (⟨"ProofReaderModel", "size", "(I)I"⟩, 61), (⟨"ProofReaderModel", "order", "(I)I"⟩, 61)]
theorem lw_r6 : ∀ q ∈ lw_privs_6, lw_okq q := List.forall_mem_cons.mpr ⟨lw_p80, List.forall_mem_cons.mpr ⟨lw_p81, List.forall_mem_cons.mpr ⟨lw_p82, List.forall_mem_cons.mpr ⟨lw_p83, List.forall_mem_cons.mpr ⟨lw_p84, List.forall_mem_cons.mpr ⟨lw_p85, List.forall_mem_cons.mpr ⟨lw_p86, List.forall_mem_cons.mpr ⟨lw_p87, List.forall_mem_cons.mpr ⟨lw_p88, List.forall_mem_cons.mpr ⟨lw_p89, List.forall_mem_cons.mpr ⟨lw_p90, List.forall_mem_cons.mpr ⟨lw_p91, fun _ h => absurd h List.not_mem_nil⟩⟩⟩⟩⟩⟩⟩⟩⟩⟩⟩⟩
def lw_privs : List (MethodName × Nat) := lw_privs_1 ++ (lw_privs_2 ++ (lw_privs_3 ++ (lw_privs_4 ++ (lw_privs_5 ++ (lw_privs_6)))))
def lw_tbl : List Cond := k2_sels lw_privs ++ tables_1
theorem lw_privs_ok : ∀ q ∈ lw_privs, lw_okq q := by
  show ∀ q ∈ lw_privs_1 ++ (lw_privs_2 ++ (lw_privs_3 ++ (lw_privs_4 ++ (lw_privs_5 ++ (lw_privs_6))))), lw_okq q
  exact List.forall_mem_append.mpr ⟨lw_r1, List.forall_mem_append.mpr ⟨lw_r2, List.forall_mem_append.mpr ⟨lw_r3, List.forall_mem_append.mpr ⟨lw_r4, List.forall_mem_append.mpr ⟨lw_r5, lw_r6⟩⟩⟩⟩⟩

theorem goodIn_r {big : List Cond} (ws : List Cond) (ps : List Nat) (hp : ws = ps.filterMap (fun i => big[i]?)) : ∀ w ∈ ws, w ∈ big := by
  intro w hw
  rw [hp] at hw
  obtain ⟨i, -, hi⟩ := List.mem_filterMap.mp hw
  exact List.mem_of_getElem? hi
/-- the words that a callee may ask of its caller -/
def tb : List Cond := lw_tbl.filter goodWord
theorem tbm {w : Cond} (i : Nat) (h : lw_tbl[i]? = some w) (g : goodWord w = true) : w ∈ tb := List.mem_filter.mpr ⟨List.mem_of_getElem? h, g⟩
theorem tb_of {args : Array Value} {s : State} (hts : ∀ w ∈ lw_tbl, w.before args s = true) : ∀ w ∈ tb, w.before args s = true := fun w h => hts w (List.mem_filter.mp h).1
def R_F : String := "ProofReader$Fault"
def F_F : u_T := fun k => match k with
  | 0 => ("ProofReader$Fault", "number", "I", false)
  | _ => ("ProofReader$Fault", "where", "I", false)
def ft_F : Nat → FieldType := fun k => match k with
  | 0 => .int
  | _ => .int
abbrev w_F : List Cond := u_ws R_F F_F 2
theorem n_F : ∀ a, a < 2 → ∀ b, b < 2 → a ≠ b → (F_F a).2.1 ≠ (F_F b).2.1 := by decide +kernel
theorem ft_F_ok : ∀ k, k < 2 → parseFieldDescriptor (F_F k).2.2.1 = some (ft_F k) := by decide +kernel
theorem i0_F : ∀ w ∈ w_F, w ∈ lw_tbl := goodIn_r w_F [133, 135] (by decide +kernel)
theorem i_F : ∀ w ∈ w_F, w ∈ tb := fun w h => List.mem_filter.mpr ⟨i0_F w h, List.all_eq_true.mp (show w_F.all goodWord = true by decide +kernel) w h⟩
def R_C : String := "ProofReader$Code"
def F_C : u_T := fun k => match k with
  | 0 => ("ProofReader$Code", "head", "[I", true)
  | 1 => ("ProofReader$Code", "arity", "[I", true)
  | 2 => ("ProofReader$Code", "size", "[I", true)
  | 3 => ("ProofReader$Code", "level", "[I", true)
  | _ => ("ProofReader$Code", "where", "[I", true)
def ft_C : Nat → FieldType := fun k => match k with
  | 0 => .array .int
  | 1 => .array .int
  | 2 => .array .int
  | 3 => .array .int
  | _ => .array .int
abbrev w_C : List Cond := u_ws R_C F_C 5
theorem n_C : ∀ a, a < 5 → ∀ b, b < 5 → a ≠ b → (F_C a).2.1 ≠ (F_C b).2.1 := by decide +kernel
theorem ft_C_ok : ∀ k, k < 5 → parseFieldDescriptor (F_C k).2.2.1 = some (ft_C k) := by decide +kernel
theorem i0_C : ∀ w ∈ w_C, w ∈ lw_tbl := goodIn_r w_C [168, 170, 172, 174, 176] (by decide +kernel)
theorem i_C : ∀ w ∈ w_C, w ∈ tb := fun w h => List.mem_filter.mpr ⟨i0_C w h, List.all_eq_true.mp (show w_C.all goodWord = true by decide +kernel) w h⟩
def R_P : String := "ProofReader$Paper"
def F_P : u_T := fun k => match k with
  | 0 => ("ProofReader$Paper", "bytes", "[B", true)
  | 1 => ("ProofReader$Paper", "length", "I", false)
  | _ => ("ProofReader$Paper", "overrun", "Z", false)
def ft_P : Nat → FieldType := fun k => match k with
  | 0 => .array .byte
  | 1 => .int
  | _ => .boolean
abbrev w_P : List Cond := u_ws R_P F_P 3
theorem n_P : ∀ a, a < 3 → ∀ b, b < 3 → a ≠ b → (F_P a).2.1 ≠ (F_P b).2.1 := by decide +kernel
theorem ft_P_ok : ∀ k, k < 3 → parseFieldDescriptor (F_P k).2.2.1 = some (ft_P k) := by decide +kernel
theorem i0_P : ∀ w ∈ w_P, w ∈ lw_tbl := goodIn_r w_P [192, 194, 196] (by decide +kernel)
theorem i_P : ∀ w ∈ w_P, w ∈ tb := fun w h => List.mem_filter.mpr ⟨i0_P w h, List.all_eq_true.mp (show w_P.all goodWord = true by decide +kernel) w h⟩
def R_T : String := "ProofReader$Tokens"
def F_T : u_T := fun k => match k with
  | 0 => ("ProofReader$Tokens", "fault", "LProofReader$Fault;", true)
  | 1 => ("ProofReader$Tokens", "bytes", "[B", true)
  | 2 => ("ProofReader$Tokens", "next", "I", false)
  | 3 => ("ProofReader$Tokens", "length", "I", false)
  | 4 => ("ProofReader$Tokens", "kind", "I", false)
  | 5 => ("ProofReader$Tokens", "start", "I", false)
  | 6 => ("ProofReader$Tokens", "front", "J", false)
  | _ => ("ProofReader$Tokens", "back", "J", false)
def ft_T : Nat → FieldType := fun k => match k with
  | 0 => .object "ProofReader$Fault"
  | 1 => .array .byte
  | 2 => .int
  | 3 => .int
  | 4 => .int
  | 5 => .int
  | 6 => .long
  | _ => .long
abbrev w_T : List Cond := u_ws R_T F_T 8
theorem n_T : ∀ a, a < 8 → ∀ b, b < 8 → a ≠ b → (F_T a).2.1 ≠ (F_T b).2.1 := by decide +kernel
theorem ft_T_ok : ∀ k, k < 8 → parseFieldDescriptor (F_T k).2.2.1 = some (ft_T k) := by decide +kernel
theorem i0_T : ∀ w ∈ w_T, w ∈ lw_tbl := goodIn_r w_T [220, 222, 224, 226, 228, 230, 232, 234] (by decide +kernel)
theorem i_T : ∀ w ∈ w_T, w ∈ tb := fun w h => List.mem_filter.mpr ⟨i0_T w h, List.all_eq_true.mp (show w_T.all goodWord = true by decide +kernel) w h⟩
def R_K : String := "ProofReader$Constants"
def F_K : u_T := fun k => match k with
  | 0 => ("ProofReader$Constants", "code", "LProofReader$Code;", true)
  | 1 => ("ProofReader$Constants", "front", "[J", true)
  | 2 => ("ProofReader$Constants", "back", "[J", true)
  | 3 => ("ProofReader$Constants", "root", "[I", true)
  | 4 => ("ProofReader$Constants", "target", "[I", true)
  | 5 => ("ProofReader$Constants", "proved", "[Z", true)
  | 6 => ("ProofReader$Constants", "count", "I", false)
  | _ => ("ProofReader$Constants", "end", "I", false)
def ft_K : Nat → FieldType := fun k => match k with
  | 0 => .object "ProofReader$Code"
  | 1 => .array .long
  | 2 => .array .long
  | 3 => .array .int
  | 4 => .array .int
  | 5 => .array .boolean
  | 6 => .int
  | _ => .int
abbrev w_K : List Cond := u_ws R_K F_K 8
theorem n_K : ∀ a, a < 8 → ∀ b, b < 8 → a ≠ b → (F_K a).2.1 ≠ (F_K b).2.1 := by decide +kernel
theorem ft_K_ok : ∀ k, k < 8 → parseFieldDescriptor (F_K k).2.2.1 = some (ft_K k) := by decide +kernel
theorem i0_K : ∀ w ∈ w_K, w ∈ lw_tbl := goodIn_r w_K [259, 261, 263, 265, 267, 269, 271, 273] (by decide +kernel)
theorem i_K : ∀ w ∈ w_K, w ∈ tb := fun w h => List.mem_filter.mpr ⟨i0_K w h, List.all_eq_true.mp (show w_K.all goodWord = true by decide +kernel) w h⟩
def R_R : String := "ProofReader$Parser"
def F_R : u_T := fun k => match k with
  | 0 => ("ProofReader$Parser", "tokens", "LProofReader$Tokens;", true)
  | 1 => ("ProofReader$Parser", "code", "LProofReader$Code;", true)
  | 2 => ("ProofReader$Parser", "constants", "LProofReader$Constants;", true)
  | 3 => ("ProofReader$Parser", "fault", "LProofReader$Fault;", true)
  | 4 => ("ProofReader$Parser", "scopeFront", "[J", true)
  | 5 => ("ProofReader$Parser", "scopeBack", "[J", true)
  | 6 => ("ProofReader$Parser", "level", "I", false)
  | 7 => ("ProofReader$Parser", "open", "I", false)
  | 8 => ("ProofReader$Parser", "nodes", "I", false)
  | 9 => ("ProofReader$Parser", "end", "I", false)
  | 10 => ("ProofReader$Parser", "start", "I", false)
  | 11 => ("ProofReader$Parser", "question", "Z", false)
  | 12 => ("ProofReader$Parser", "proved", "Z", false)
  | 13 => ("ProofReader$Parser", "front", "J", false)
  | 14 => ("ProofReader$Parser", "back", "J", false)
  | 15 => ("ProofReader$Parser", "first", "I", false)
  | _ => ("ProofReader$Parser", "second", "I", false)
def ft_R : Nat → FieldType := fun k => match k with
  | 0 => .object "ProofReader$Tokens"
  | 1 => .object "ProofReader$Code"
  | 2 => .object "ProofReader$Constants"
  | 3 => .object "ProofReader$Fault"
  | 4 => .array .long
  | 5 => .array .long
  | 6 => .int
  | 7 => .int
  | 8 => .int
  | 9 => .int
  | 10 => .int
  | 11 => .boolean
  | 12 => .boolean
  | 13 => .long
  | 14 => .long
  | 15 => .int
  | _ => .int
abbrev w_R : List Cond := u_ws R_R F_R 17
theorem n_R : ∀ a, a < 17 → ∀ b, b < 17 → a ≠ b → (F_R a).2.1 ≠ (F_R b).2.1 := by decide +kernel
theorem ft_R_ok : ∀ k, k < 17 → parseFieldDescriptor (F_R k).2.2.1 = some (ft_R k) := by decide +kernel
theorem i0_R : ∀ w ∈ w_R, w ∈ lw_tbl := goodIn_r w_R [309, 311, 313, 315, 317, 319, 321, 323, 325, 327, 329, 331, 333, 335, 337, 339, 341] (by decide +kernel)
theorem i_R : ∀ w ∈ w_R, w ∈ tb := fun w h => List.mem_filter.mpr ⟨i0_R w h, List.all_eq_true.mp (show w_R.all goodWord = true by decide +kernel) w h⟩
def R_U : String := "ProofReader$Putter"
def F_U : u_T := fun k => match k with
  | 0 => ("ProofReader$Putter", "code", "LProofReader$Code;", true)
  | 1 => ("ProofReader$Putter", "at", "[I", true)
  | 2 => ("ProofReader$Putter", "stop", "[I", true)
  | 3 => ("ProofReader$Putter", "base", "[I", true)
  | 4 => ("ProofReader$Putter", "shift", "[I", true)
  | 5 => ("ProofReader$Putter", "call", "[I", true)
  | 6 => ("ProofReader$Putter", "top", "I", false)
  | 7 => ("ProofReader$Putter", "variable", "I", false)
  | 8 => ("ProofReader$Putter", "argument", "I", false)
  | 9 => ("ProofReader$Putter", "from", "I", false)
  | _ => ("ProofReader$Putter", "end", "I", false)
def ft_U : Nat → FieldType := fun k => match k with
  | 0 => .object "ProofReader$Code"
  | 1 => .array .int
  | 2 => .array .int
  | 3 => .array .int
  | 4 => .array .int
  | 5 => .array .int
  | 6 => .int
  | 7 => .int
  | 8 => .int
  | 9 => .int
  | _ => .int
abbrev w_U : List Cond := u_ws R_U F_U 11
theorem n_U : ∀ a, a < 11 → ∀ b, b < 11 → a ≠ b → (F_U a).2.1 ≠ (F_U b).2.1 := by decide +kernel
theorem ft_U_ok : ∀ k, k < 11 → parseFieldDescriptor (F_U k).2.2.1 = some (ft_U k) := by decide +kernel
theorem i0_U : ∀ w ∈ w_U, w ∈ lw_tbl := goodIn_r w_U [367, 369, 371, 373, 375, 377, 379, 381, 383, 385, 387] (by decide +kernel)
theorem i_U : ∀ w ∈ w_U, w ∈ tb := fun w h => List.mem_filter.mpr ⟨i0_U w h, List.all_eq_true.mp (show w_U.all goodWord = true by decide +kernel) w h⟩
def R_H : String := "ProofReader$Checker"
def F_H : u_T := fun k => match k with
  | 0 => ("ProofReader$Checker", "code", "LProofReader$Code;", true)
  | 1 => ("ProofReader$Checker", "constants", "LProofReader$Constants;", true)
  | 2 => ("ProofReader$Checker", "fault", "LProofReader$Fault;", true)
  | 3 => ("ProofReader$Checker", "putter", "LProofReader$Putter;", true)
  | 4 => ("ProofReader$Checker", "typeOf", "[I", true)
  | _ => ("ProofReader$Checker", "work", "I", false)
def ft_H : Nat → FieldType := fun k => match k with
  | 0 => .object "ProofReader$Code"
  | 1 => .object "ProofReader$Constants"
  | 2 => .object "ProofReader$Fault"
  | 3 => .object "ProofReader$Putter"
  | 4 => .array .int
  | _ => .int
abbrev w_H : List Cond := u_ws R_H F_H 6
theorem n_H : ∀ a, a < 6 → ∀ b, b < 6 → a ≠ b → (F_H a).2.1 ≠ (F_H b).2.1 := by decide +kernel
theorem ft_H_ok : ∀ k, k < 6 → parseFieldDescriptor (F_H k).2.2.1 = some (ft_H k) := by decide +kernel
theorem i0_H : ∀ w ∈ w_H, w ∈ lw_tbl := goodIn_r w_H [397, 399, 401, 403, 405, 407] (by decide +kernel)
theorem i_H : ∀ w ∈ w_H, w ∈ tb := fun w h => List.mem_filter.mpr ⟨i0_H w h, List.all_eq_true.mp (show w_H.all goodWord = true by decide +kernel) w h⟩
def R_I : String := "ProofReader$Printer"
def F_I : u_T := fun k => match k with
  | 0 => ("ProofReader$Printer", "code", "LProofReader$Code;", true)
  | 1 => ("ProofReader$Printer", "constants", "LProofReader$Constants;", true)
  | 2 => ("ProofReader$Printer", "paper", "LProofReader$Paper;", true)
  | 3 => ("ProofReader$Printer", "isArgument", "[Z", true)
  | 4 => ("ProofReader$Printer", "closeAt", "[I", true)
  | 5 => ("ProofReader$Printer", "closeWith", "[I", true)
  | 6 => ("ProofReader$Printer", "closing", "I", false)
  | _ => ("ProofReader$Printer", "root", "I", false)
def ft_I : Nat → FieldType := fun k => match k with
  | 0 => .object "ProofReader$Code"
  | 1 => .object "ProofReader$Constants"
  | 2 => .object "ProofReader$Paper"
  | 3 => .array .boolean
  | 4 => .array .int
  | 5 => .array .int
  | 6 => .int
  | _ => .int
abbrev w_I : List Cond := u_ws R_I F_I 8
theorem n_I : ∀ a, a < 8 → ∀ b, b < 8 → a ≠ b → (F_I a).2.1 ≠ (F_I b).2.1 := by decide +kernel
theorem ft_I_ok : ∀ k, k < 8 → parseFieldDescriptor (F_I k).2.2.1 = some (ft_I k) := by decide +kernel
theorem i0_I : ∀ w ∈ w_I, w ∈ lw_tbl := goodIn_r w_I [424, 426, 428, 430, 432, 434, 436, 438] (by decide +kernel)
theorem i_I : ∀ w ∈ w_I, w ∈ tb := fun w h => List.mem_filter.mpr ⟨i0_I w h, List.all_eq_true.mp (show w_I.all goodWord = true by decide +kernel) w h⟩
def R_X : String := "ProofReader"
def F_X : u_T := fun k => match k with
  | 0 => ("ProofReader", "fault", "LProofReader$Fault;", true)
  | 1 => ("ProofReader", "code", "LProofReader$Code;", true)
  | 2 => ("ProofReader", "paper", "LProofReader$Paper;", true)
  | 3 => ("ProofReader", "tokens", "LProofReader$Tokens;", true)
  | 4 => ("ProofReader", "constants", "LProofReader$Constants;", true)
  | 5 => ("ProofReader", "parser", "LProofReader$Parser;", true)
  | 6 => ("ProofReader", "checker", "LProofReader$Checker;", true)
  | 7 => ("ProofReader", "printer", "LProofReader$Printer;", true)
  | _ => ("ProofReader", "fed", "I", false)
def ft_X : Nat → FieldType := fun k => match k with
  | 0 => .object "ProofReader$Fault"
  | 1 => .object "ProofReader$Code"
  | 2 => .object "ProofReader$Paper"
  | 3 => .object "ProofReader$Tokens"
  | 4 => .object "ProofReader$Constants"
  | 5 => .object "ProofReader$Parser"
  | 6 => .object "ProofReader$Checker"
  | 7 => .object "ProofReader$Printer"
  | _ => .int
abbrev w_X : List Cond := u_ws R_X F_X 9
theorem n_X : ∀ a, a < 9 → ∀ b, b < 9 → a ≠ b → (F_X a).2.1 ≠ (F_X b).2.1 := by decide +kernel
theorem ft_X_ok : ∀ k, k < 9 → parseFieldDescriptor (F_X k).2.2.1 = some (ft_X k) := by decide +kernel
theorem i0_X : ∀ w ∈ w_X, w ∈ lw_tbl := goodIn_r w_X [450, 452, 454, 456, 458, 460, 462, 464, 466] (by decide +kernel)
theorem i_X : ∀ w ∈ w_X, w ∈ tb := fun w h => List.mem_filter.mpr ⟨i0_X w h, List.all_eq_true.mp (show w_X.all goodWord = true by decide +kernel) w h⟩
def R_M : String := "ProofReaderModel"
def F_M : u_T := fun k => match k with
  | 0 => ("ProofReaderModel", "thrown", "I", false)
  | 1 => ("ProofReaderModel", "text", "[I", true)
  | 2 => ("ProofReaderModel", "length", "I", false)
  | 3 => ("ProofReaderModel", "came", "I", false)
  | 4 => ("ProofReaderModel", "fault", "I", false)
  | 5 => ("ProofReaderModel", "place", "I", false)
  | 6 => ("ProofReaderModel", "paper", "[I", true)
  | 7 => ("ProofReaderModel", "papered", "I", false)
  | 8 => ("ProofReaderModel", "constants", "I", false)
  | 9 => ("ProofReaderModel", "firstHalf", "[J", true)
  | 10 => ("ProofReaderModel", "secondHalf", "[J", true)
  | 11 => ("ProofReaderModel", "stored", "[I", true)
  | 12 => ("ProofReaderModel", "proved", "[I", true)
  | 13 => ("ProofReaderModel", "at", "I", false)
  | 14 => ("ProofReaderModel", "token", "I", false)
  | 15 => ("ProofReaderModel", "tokenAt", "I", false)
  | 16 => ("ProofReaderModel", "nameFirst", "J", false)
  | 17 => ("ProofReaderModel", "nameSecond", "J", false)
  | 18 => ("ProofReaderModel", "written", "[I", true)
  | 19 => ("ProofReaderModel", "places", "[I", true)
  | 20 => ("ProofReaderModel", "end", "I", false)
  | 21 => ("ProofReaderModel", "second", "I", false)
  | 22 => ("ProofReaderModel", "ids", "I", false)
  | 23 => ("ProofReaderModel", "nodes", "I", false)
  | 24 => ("ProofReaderModel", "opens", "I", false)
  | 25 => ("ProofReaderModel", "levelOpens", "I", false)
  | 26 => ("ProofReaderModel", "start", "I", false)
  | 27 => ("ProofReaderModel", "app", "I", false)
  | 28 => ("ProofReaderModel", "behind", "Z", false)
  | 29 => ("ProofReaderModel", "levelKind", "[I", true)
  | 30 => ("ProofReaderModel", "levelStart", "[I", true)
  | 31 => ("ProofReaderModel", "levelApp", "[I", true)
  | 32 => ("ProofReaderModel", "levelHad", "[I", true)
  | 33 => ("ProofReaderModel", "levelScope", "[I", true)
  | 34 => ("ProofReaderModel", "levelId", "[I", true)
  | 35 => ("ProofReaderModel", "levelFirst", "[J", true)
  | 36 => ("ProofReaderModel", "levelSecond", "[J", true)
  | 37 => ("ProofReaderModel", "level", "I", false)
  | 38 => ("ProofReaderModel", "scopeFirst", "[J", true)
  | 39 => ("ProofReaderModel", "scopeSecond", "[J", true)
  | 40 => ("ProofReaderModel", "scopeId", "[I", true)
  | 41 => ("ProofReaderModel", "scope", "I", false)
  | 42 => ("ProofReaderModel", "made", "[I", true)
  | 43 => ("ProofReaderModel", "top", "I", false)
  | 44 => ("ProofReaderModel", "typeOf", "[I", true)
  | 45 => ("ProofReaderModel", "tasks", "[I", true)
  | 46 => ("ProofReaderModel", "left", "I", false)
  | 47 => ("ProofReaderModel", "todo", "[I", true)
  | 48 => ("ProofReaderModel", "waits", "I", false)
  | 49 => ("ProofReaderModel", "renamed", "[I", true)
  | 50 => ("ProofReaderModel", "bound", "[I", true)
  | 51 => ("ProofReaderModel", "fresh", "I", false)
  | 52 => ("ProofReaderModel", "changed", "I", false)
  | 53 => ("ProofReaderModel", "changedTo", "I", false)
  | 54 => ("ProofReaderModel", "out", "I", false)
  | 55 => ("ProofReaderModel", "counted", "I", false)
  | 56 => ("ProofReaderModel", "markA", "[I", true)
  | 57 => ("ProofReaderModel", "markB", "[I", true)
  | 58 => ("ProofReaderModel", "line", "[I", true)
  | 59 => ("ProofReaderModel", "printed", "I", false)
  | _ => ("ProofReaderModel", "questionAt", "I", false)
def ft_M : Nat → FieldType := fun k => match k with
  | 0 => .int
  | 1 => .array .int
  | 2 => .int
  | 3 => .int
  | 4 => .int
  | 5 => .int
  | 6 => .array .int
  | 7 => .int
  | 8 => .int
  | 9 => .array .long
  | 10 => .array .long
  | 11 => .array .int
  | 12 => .array .int
  | 13 => .int
  | 14 => .int
  | 15 => .int
  | 16 => .long
  | 17 => .long
  | 18 => .array .int
  | 19 => .array .int
  | 20 => .int
  | 21 => .int
  | 22 => .int
  | 23 => .int
  | 24 => .int
  | 25 => .int
  | 26 => .int
  | 27 => .int
  | 28 => .boolean
  | 29 => .array .int
  | 30 => .array .int
  | 31 => .array .int
  | 32 => .array .int
  | 33 => .array .int
  | 34 => .array .int
  | 35 => .array .long
  | 36 => .array .long
  | 37 => .int
  | 38 => .array .long
  | 39 => .array .long
  | 40 => .array .int
  | 41 => .int
  | 42 => .array .int
  | 43 => .int
  | 44 => .array .int
  | 45 => .array .int
  | 46 => .int
  | 47 => .array .int
  | 48 => .int
  | 49 => .array .int
  | 50 => .array .int
  | 51 => .int
  | 52 => .int
  | 53 => .int
  | 54 => .int
  | 55 => .int
  | 56 => .array .int
  | 57 => .array .int
  | 58 => .array .int
  | 59 => .int
  | _ => .int
abbrev w_M : List Cond := u_ws R_M F_M 61
theorem n_M : ∀ a, a < 61 → ∀ b, b < 61 → a ≠ b → (F_M a).2.1 ≠ (F_M b).2.1 := by decide +kernel
theorem ft_M_ok : ∀ k, k < 61 → parseFieldDescriptor (F_M k).2.2.1 = some (ft_M k) := by decide +kernel
theorem i0_M : ∀ w ∈ w_M, w ∈ lw_tbl := goodIn_r w_M [1014, 1016, 1018, 1020, 1022, 1024, 1026, 1028, 1030, 1032, 1034, 1036, 1038, 1040, 1042, 1044, 1046, 1048, 1050, 1052, 1054, 1056, 1058, 1060, 1062, 1064, 1066, 1068, 1070, 1072, 1074, 1076, 1078, 1080, 1082, 1084, 1086, 1088, 1090, 1092, 1094, 1096, 1098, 1100, 1102, 1104, 1106, 1108, 1110, 1112, 1114, 1116, 1118, 1120, 1122, 1124, 1126, 1128, 1130, 1132, 1134] (by decide +kernel)
theorem i_M : ∀ w ∈ w_M, w ∈ tb := fun w h => List.mem_filter.mpr ⟨i0_M w h, List.all_eq_true.mp (show w_M.all goodWord = true by decide +kernel) w h⟩
abbrev cls : List vw_C := [(R_F, F_F, 2), (R_C, F_C, 5), (R_P, F_P, 3), (R_T, F_T, 8), (R_K, F_K, 8), (R_R, F_R, 17), (R_U, F_U, 11), (R_H, F_H, 6), (R_I, F_I, 8), (R_X, F_X, 9), (R_M, F_M, 61)]
abbrev b_F_init : ByteArray := prog_5_method_1_code
def y_F_init : MethodName := ⟨"ProofReader$Fault", "<init>", "()V"⟩
abbrev b_F_forget : ByteArray := prog_5_method_2_code
def y_F_forget : MethodName := ⟨"ProofReader$Fault", "forget", "()V"⟩
abbrev b_F_met : ByteArray := prog_5_method_3_code
def y_F_met : MethodName := ⟨"ProofReader$Fault", "met", "(II)Z"⟩
abbrev b_C_init : ByteArray := prog_3_method_1_code
def y_C_init : MethodName := ⟨"ProofReader$Code", "<init>", "()V"⟩
abbrev b_C_write : ByteArray := prog_3_method_2_code
def y_C_write : MethodName := ⟨"ProofReader$Code", "write", "(IIII)V"⟩
abbrev b_C_second : ByteArray := prog_3_method_3_code
def y_C_second : MethodName := ⟨"ProofReader$Code", "second", "(I)I"⟩
abbrev b_C_argument : ByteArray := prog_3_method_4_code
def y_C_argument : MethodName := ⟨"ProofReader$Code", "argument", "(II)I"⟩
abbrev b_C_measure : ByteArray := prog_3_method_5_code
def y_C_measure : MethodName := ⟨"ProofReader$Code", "measure", "(II)V"⟩
abbrev b_C_same : ByteArray := prog_3_method_6_code
def y_C_same : MethodName := ⟨"ProofReader$Code", "same", "(II)Z"⟩
abbrev b_C_move : ByteArray := prog_3_method_7_code
def y_C_move : MethodName := ⟨"ProofReader$Code", "move", "(III)V"⟩
abbrev b_C_makeRoom : ByteArray := prog_3_method_8_code
def y_C_makeRoom : MethodName := ⟨"ProofReader$Code", "makeRoom", "(II)V"⟩
abbrev b_C_lift : ByteArray := prog_3_method_9_code
def y_C_lift : MethodName := ⟨"ProofReader$Code", "lift", "(III)V"⟩
abbrev b_C_products : ByteArray := prog_3_method_10_code
def y_C_products : MethodName := ⟨"ProofReader$Code", "products", "(I)I"⟩
abbrev b_C_ending : ByteArray := prog_3_method_11_code
def y_C_ending : MethodName := ⟨"ProofReader$Code", "ending", "(I)I"⟩
abbrev b_C_order : ByteArray := prog_3_method_12_code
def y_C_order : MethodName := ⟨"ProofReader$Code", "order", "(I)I"⟩
abbrev b_P_init : ByteArray := prog_6_method_1_code
def y_P_init : MethodName := ⟨"ProofReader$Paper", "<init>", "()V"⟩
abbrev b_P_at : ByteArray := prog_6_method_2_code
def y_P_at : MethodName := ⟨"ProofReader$Paper", "at", "(J)J"⟩
abbrev b_P_add : ByteArray := prog_6_method_3_code
def y_P_add : MethodName := ⟨"ProofReader$Paper", "add", "(I)V"⟩
abbrev b_T_init : ByteArray := prog_10_method_1_code
def y_T_init : MethodName := ⟨"ProofReader$Tokens", "<init>", "(LProofReader$Fault;)V"⟩
abbrev b_T_append : ByteArray := prog_10_method_2_code
def y_T_append : MethodName := ⟨"ProofReader$Tokens", "append", "(B)V"⟩
abbrev b_T_drop : ByteArray := prog_10_method_3_code
def y_T_drop : MethodName := ⟨"ProofReader$Tokens", "drop", "()V"⟩
abbrev b_T_restart : ByteArray := prog_10_method_4_code
def y_T_restart : MethodName := ⟨"ProofReader$Tokens", "restart", "()V"⟩
abbrev b_T_advance : ByteArray := prog_10_method_5_code
def y_T_advance : MethodName := ⟨"ProofReader$Tokens", "advance", "()Z"⟩
abbrev b_T_at : ByteArray := prog_10_method_6_code
def y_T_at : MethodName := ⟨"ProofReader$Tokens", "at", "(I)I"⟩
abbrev b_T_takeName : ByteArray := prog_10_method_7_code
def y_T_takeName : MethodName := ⟨"ProofReader$Tokens", "takeName", "()Z"⟩
abbrev b_T_takeArrow : ByteArray := prog_10_method_8_code
def y_T_takeArrow : MethodName := ⟨"ProofReader$Tokens", "takeArrow", "()Z"⟩
abbrev b_T_isInNames : ByteArray := prog_10_method_9_code
def y_T_isInNames : MethodName := ⟨"ProofReader$Tokens", "isInNames", "(I)Z"⟩
abbrev b_T_isSingle : ByteArray := prog_10_method_10_code
def y_T_isSingle : MethodName := ⟨"ProofReader$Tokens", "isSingle", "(I)Z"⟩
abbrev b_K_init : ByteArray := prog_4_method_1_code
def y_K_init : MethodName := ⟨"ProofReader$Constants", "<init>", "(LProofReader$Code;)V"⟩
abbrev b_K_forget : ByteArray := prog_4_method_2_code
def y_K_forget : MethodName := ⟨"ProofReader$Constants", "forget", "()V"⟩
abbrev b_K_isFull : ByteArray := prog_4_method_3_code
def y_K_isFull : MethodName := ⟨"ProofReader$Constants", "isFull", "()Z"⟩
abbrev b_K_isFamily : ByteArray := prog_4_method_4_code
def y_K_isFamily : MethodName := ⟨"ProofReader$Constants", "isFamily", "(I)Z"⟩
abbrev b_K_find : ByteArray := prog_4_method_5_code
def y_K_find : MethodName := ⟨"ProofReader$Constants", "find", "(JJ)I"⟩
abbrev b_K_tell : ByteArray := prog_4_method_6_code
def y_K_tell : MethodName := ⟨"ProofReader$Constants", "tell", "(JJZ)V"⟩
abbrev b_R_init : ByteArray := prog_7_method_1_code
def y_R_init : MethodName := ⟨"ProofReader$Parser", "<init>", "(LProofReader$Tokens;LProofReader$Code;LProofReader$Constants;LProofReader$Fault;)V"⟩
abbrev b_R_sentence : ByteArray := prog_7_method_2_code
def y_R_sentence : MethodName := ⟨"ProofReader$Parser", "sentence", "()Z"⟩
abbrev b_R_nameAndColon : ByteArray := prog_7_method_3_code
def y_R_nameAndColon : MethodName := ⟨"ProofReader$Parser", "nameAndColon", "()Z"⟩
abbrev b_R_wholeExpression : ByteArray := prog_7_method_4_code
def y_R_wholeExpression : MethodName := ⟨"ProofReader$Parser", "wholeExpression", "()Z"⟩
abbrev b_R_isNow : ByteArray := prog_7_method_5_code
def y_R_isNow : MethodName := ⟨"ProofReader$Parser", "isNow", "(I)Z"⟩
abbrev b_R_isNext : ByteArray := prog_7_method_6_code
def y_R_isNext : MethodName := ⟨"ProofReader$Parser", "isNext", "(I)Z"⟩
abbrev b_R_opens : ByteArray := prog_7_method_7_code
def y_R_opens : MethodName := ⟨"ProofReader$Parser", "opens", "()Z"⟩
abbrev b_R_counts : ByteArray := prog_7_method_8_code
def y_R_counts : MethodName := ⟨"ProofReader$Parser", "counts", "()Z"⟩
abbrev b_R_node : ByteArray := prog_7_method_9_code
def y_R_node : MethodName := ⟨"ProofReader$Parser", "node", "(II)Z"⟩
abbrev b_R_expression : ByteArray := prog_7_method_10_code
def y_R_expression : MethodName := ⟨"ProofReader$Parser", "expression", "()Z"⟩
abbrev b_R_product : ByteArray := prog_7_method_11_code
def y_R_product : MethodName := ⟨"ProofReader$Parser", "product", "()Z"⟩
abbrev b_R_function : ByteArray := prog_7_method_12_code
def y_R_function : MethodName := ⟨"ProofReader$Parser", "function", "()Z"⟩
abbrev b_R_arrow : ByteArray := prog_7_method_13_code
def y_R_arrow : MethodName := ⟨"ProofReader$Parser", "arrow", "(I)Z"⟩
abbrev b_R_scope : ByteArray := prog_7_method_14_code
def y_R_scope : MethodName := ⟨"ProofReader$Parser", "scope", "(IJJ)Z"⟩
abbrev b_R_simple : ByteArray := prog_7_method_15_code
def y_R_simple : MethodName := ⟨"ProofReader$Parser", "simple", "()Z"⟩
abbrev b_R_atomBegins : ByteArray := prog_7_method_16_code
def y_R_atomBegins : MethodName := ⟨"ProofReader$Parser", "atomBegins", "()Z"⟩
abbrev b_R_atom : ByteArray := prog_7_method_17_code
def y_R_atom : MethodName := ⟨"ProofReader$Parser", "atom", "()Z"⟩
abbrev b_R_meaning : ByteArray := prog_7_method_18_code
def y_R_meaning : MethodName := ⟨"ProofReader$Parser", "meaning", "()I"⟩
abbrev b_U_init : ByteArray := prog_9_method_1_code
def y_U_init : MethodName := ⟨"ProofReader$Putter", "<init>", "(LProofReader$Code;)V"⟩
abbrev b_U_put : ByteArray := prog_9_method_2_code
def y_U_put : MethodName := ⟨"ProofReader$Putter", "put", "(II)Z"⟩
abbrev b_U_push : ByteArray := prog_9_method_3_code
def y_U_push : MethodName := ⟨"ProofReader$Putter", "push", "(II)V"⟩
abbrev b_U_step : ByteArray := prog_9_method_4_code
def y_U_step : MethodName := ⟨"ProofReader$Putter", "step", "(I)Z"⟩
abbrev b_U_shiftOf : ByteArray := prog_9_method_5_code
def y_U_shiftOf : MethodName := ⟨"ProofReader$Putter", "shiftOf", "(I)I"⟩
abbrev b_H_init : ByteArray := prog_2_method_1_code
def y_H_init : MethodName := ⟨"ProofReader$Checker", "<init>", "(LProofReader$Code;LProofReader$Constants;LProofReader$Fault;)V"⟩
abbrev b_H_wrong : ByteArray := prog_2_method_2_code
def y_H_wrong : MethodName := ⟨"ProofReader$Checker", "wrong", "(II)Z"⟩
abbrev b_H_type : ByteArray := prog_2_method_3_code
def y_H_type : MethodName := ⟨"ProofReader$Checker", "type", "(IZZ)Z"⟩
abbrev b_H_familyApplication : ByteArray := prog_2_method_4_code
def y_H_familyApplication : MethodName := ⟨"ProofReader$Checker", "familyApplication", "(I)Z"⟩
abbrev b_H_question : ByteArray := prog_2_method_5_code
def y_H_question : MethodName := ⟨"ProofReader$Checker", "question", "(I)Z"⟩
abbrev b_H_object : ByteArray := prog_2_method_6_code
def y_H_object : MethodName := ⟨"ProofReader$Checker", "object", "(III)Z"⟩
abbrev b_H_application : ByteArray := prog_2_method_7_code
def y_H_application : MethodName := ⟨"ProofReader$Checker", "application", "(III)Z"⟩
abbrev b_H_isObjectHead : ByteArray := prog_2_method_8_code
def y_H_isObjectHead : MethodName := ⟨"ProofReader$Checker", "isObjectHead", "(I)Z"⟩
abbrev b_H_headType : ByteArray := prog_2_method_9_code
def y_H_headType : MethodName := ⟨"ProofReader$Checker", "headType", "(I)I"⟩
abbrev b_H_fit : ByteArray := prog_2_method_10_code
def y_H_fit : MethodName := ⟨"ProofReader$Checker", "fit", "(II)Z"⟩
abbrev b_I_init : ByteArray := prog_8_method_1_code
def y_I_init : MethodName := ⟨"ProofReader$Printer", "<init>", "(LProofReader$Code;LProofReader$Constants;LProofReader$Paper;)V"⟩
abbrev b_I_print : ByteArray := prog_8_method_2_code
def y_I_print : MethodName := ⟨"ProofReader$Printer", "print", "(I)Z"⟩
abbrev b_I_markParts : ByteArray := prog_8_method_3_code
def y_I_markParts : MethodName := ⟨"ProofReader$Printer", "markParts", "(I)V"⟩
abbrev b_I_closeLater : ByteArray := prog_8_method_4_code
def y_I_closeLater : MethodName := ⟨"ProofReader$Printer", "closeLater", "(II)V"⟩
abbrev b_I_close : ByteArray := prog_8_method_5_code
def y_I_close : MethodName := ⟨"ProofReader$Printer", "close", "(I)V"⟩
abbrev b_I_node : ByteArray := prog_8_method_6_code
def y_I_node : MethodName := ⟨"ProofReader$Printer", "node", "(I)V"⟩
abbrev b_I_head : ByteArray := prog_8_method_7_code
def y_I_head : MethodName := ⟨"ProofReader$Printer", "head", "(I)V"⟩
abbrev b_I_bytesOf : ByteArray := prog_8_method_8_code
def y_I_bytesOf : MethodName := ⟨"ProofReader$Printer", "bytesOf", "(J)V"⟩
abbrev b_I_word : ByteArray := prog_8_method_9_code
def y_I_word : MethodName := ⟨"ProofReader$Printer", "word", "(Ljava/lang/String;)V"⟩
abbrev b_I_variable : ByteArray := prog_8_method_10_code
def y_I_variable : MethodName := ⟨"ProofReader$Printer", "variable", "(I)V"⟩
abbrev b_X_init : ByteArray := prog_1_method_1_code
def y_X_init : MethodName := ⟨"ProofReader", "<init>", "()V"⟩
abbrev b_X_feed : ByteArray := prog_1_method_2_code
def y_X_feed : MethodName := ⟨"ProofReader", "feed", "(IJ)I"⟩
abbrev b_X_read : ByteArray := prog_1_method_3_code
def y_X_read : MethodName := ⟨"ProofReader", "read", "()I"⟩
abbrev b_X_fault : ByteArray := prog_1_method_4_code
def y_X_fault : MethodName := ⟨"ProofReader", "fault", "()I"⟩
abbrev b_X_place : ByteArray := prog_1_method_5_code
def y_X_place : MethodName := ⟨"ProofReader", "place", "()I"⟩
abbrev b_X_clear : ByteArray := prog_1_method_6_code
def y_X_clear : MethodName := ⟨"ProofReader", "clear", "()I"⟩
abbrev b_X_constants : ByteArray := prog_1_method_7_code
def y_X_constants : MethodName := ⟨"ProofReader", "constants", "()I"⟩
abbrev b_X_constant : ByteArray := prog_1_method_8_code
def y_X_constant : MethodName := ⟨"ProofReader", "constant", "(II)I"⟩
abbrev b_X_printed : ByteArray := prog_1_method_9_code
def y_X_printed : MethodName := ⟨"ProofReader", "printed", "()I"⟩
abbrev b_X_paper : ByteArray := prog_1_method_10_code
def y_X_paper : MethodName := ⟨"ProofReader", "paper", "(I)J"⟩
abbrev b_X_wipe : ByteArray := prog_1_method_11_code
def y_X_wipe : MethodName := ⟨"ProofReader", "wipe", "()I"⟩
abbrev b_X_settle : ByteArray := prog_1_method_12_code
def y_X_settle : MethodName := ⟨"ProofReader", "settle", "()Z"⟩
abbrev b_M_init : ByteArray := prog_12_method_1_code
def y_M_init : MethodName := ⟨"ProofReaderModel", "<init>", "()V"⟩
abbrev b_M_thrown : ByteArray := prog_12_method_2_code
def y_M_thrown : MethodName := ⟨"ProofReaderModel", "thrown", "()I"⟩
abbrev b_M_isNamed : ByteArray := prog_12_method_3_code
def y_M_isNamed : MethodName := ⟨"ProofReaderModel", "isNamed", "(I)Z"⟩
abbrev b_M_isSign : ByteArray := prog_12_method_4_code
def y_M_isSign : MethodName := ⟨"ProofReaderModel", "isSign", "(I)Z"⟩
abbrev b_M_readName : ByteArray := prog_12_method_5_code
def y_M_readName : MethodName := ⟨"ProofReaderModel", "readName", "()V"⟩
abbrev b_M_readToken : ByteArray := prog_12_method_6_code
def y_M_readToken : MethodName := ⟨"ProofReaderModel", "readToken", "()V"⟩
abbrev b_M_fails : ByteArray := prog_12_method_7_code
def y_M_fails : MethodName := ⟨"ProofReaderModel", "fails", "(II)Z"⟩
abbrev b_M_failsToken : ByteArray := prog_12_method_8_code
def y_M_failsToken : MethodName := ⟨"ProofReaderModel", "failsToken", "()Z"⟩
abbrev b_M_takes : ByteArray := prog_12_method_9_code
def y_M_takes : MethodName := ⟨"ProofReaderModel", "takes", "(I)Z"⟩
abbrev b_M_put : ByteArray := prog_12_method_10_code
def y_M_put : MethodName := ⟨"ProofReaderModel", "put", "(I)V"⟩
abbrev b_M_find : ByteArray := prog_12_method_11_code
def y_M_find : MethodName := ⟨"ProofReaderModel", "find", "()I"⟩
abbrev b_M_constantOf : ByteArray := prog_12_method_12_code
def y_M_constantOf : MethodName := ⟨"ProofReaderModel", "constantOf", "()I"⟩
abbrev b_M_counts : ByteArray := prog_12_method_13_code
def y_M_counts : MethodName := ⟨"ProofReaderModel", "counts", "(II)Z"⟩
abbrev b_M_readHead : ByteArray := prog_12_method_14_code
def y_M_readHead : MethodName := ⟨"ProofReaderModel", "readHead", "()Z"⟩
abbrev b_M_enter : ByteArray := prog_12_method_15_code
def y_M_enter : MethodName := ⟨"ProofReaderModel", "enter", "(I)V"⟩
abbrev b_M_leave : ByteArray := prog_12_method_16_code
def y_M_leave : MethodName := ⟨"ProofReaderModel", "leave", "()V"⟩
abbrev b_M_show : ByteArray := prog_12_method_17_code
def y_M_show : MethodName := ⟨"ProofReaderModel", "show", "(IJJ)V"⟩
abbrev b_M_beginProduct : ByteArray := prog_12_method_18_code
def y_M_beginProduct : MethodName := ⟨"ProofReaderModel", "beginProduct", "()Z"⟩
abbrev b_M_beginFunction : ByteArray := prog_12_method_19_code
def y_M_beginFunction : MethodName := ⟨"ProofReaderModel", "beginFunction", "()Z"⟩
abbrev b_M_begins : ByteArray := prog_12_method_20_code
def y_M_begins : MethodName := ⟨"ProofReaderModel", "begins", "()Z"⟩
abbrev b_M_arrow : ByteArray := prog_12_method_21_code
def y_M_arrow : MethodName := ⟨"ProofReaderModel", "arrow", "()Z"⟩
abbrev b_M_argument : ByteArray := prog_12_method_22_code
def y_M_argument : MethodName := ⟨"ProofReaderModel", "argument", "()Z"⟩
abbrev b_M_goesOn : ByteArray := prog_12_method_23_code
def y_M_goesOn : MethodName := ⟨"ProofReaderModel", "goesOn", "()Z"⟩
abbrev b_M_readExpression : ByteArray := prog_12_method_24_code
def y_M_readExpression : MethodName := ⟨"ProofReaderModel", "readExpression", "(Z)Z"⟩
abbrev b_M_from : ByteArray := prog_12_method_25_code
def y_M_from : MethodName := ⟨"ProofReaderModel", "from", "(II)I"⟩
abbrev b_M_skip : ByteArray := prog_12_method_26_code
def y_M_skip : MethodName := ⟨"ProofReaderModel", "skip", "(II)I"⟩
abbrev b_M_later : ByteArray := prog_12_method_27_code
def y_M_later : MethodName := ⟨"ProofReaderModel", "later", "(III)V"⟩
abbrev b_M_give : ByteArray := prog_12_method_28_code
def y_M_give : MethodName := ⟨"ProofReaderModel", "give", "(I)V"⟩
abbrev b_M_giveBinder : ByteArray := prog_12_method_29_code
def y_M_giveBinder : MethodName := ⟨"ProofReaderModel", "giveBinder", "(II)V"⟩
abbrev b_M_giveInPlace : ByteArray := prog_12_method_30_code
def y_M_giveInPlace : MethodName := ⟨"ProofReaderModel", "giveInPlace", "(II)V"⟩
abbrev b_M_giveApplication : ByteArray := prog_12_method_31_code
def y_M_giveApplication : MethodName := ⟨"ProofReaderModel", "giveApplication", "(IIII)V"⟩
abbrev b_M_copy : ByteArray := prog_12_method_32_code
def y_M_copy : MethodName := ⟨"ProofReaderModel", "copy", "(IIII)I"⟩
abbrev b_M_isSame : ByteArray := prog_12_method_33_code
def y_M_isSame : MethodName := ⟨"ProofReaderModel", "isSame", "(II)Z"⟩
abbrev b_M_then : ByteArray := prog_12_method_34_code
def y_M_then : MethodName := ⟨"ProofReaderModel", "then", "(IIIIIII)V"⟩
abbrev b_M_isFamily : ByteArray := prog_12_method_35_code
def y_M_isFamily : MethodName := ⟨"ProofReaderModel", "isFamily", "(I)Z"⟩
abbrev b_M_startArguments : ByteArray := prog_12_method_36_code
def y_M_startArguments : MethodName := ⟨"ProofReaderModel", "startArguments", "(III)V"⟩
abbrev b_M_checkSort : ByteArray := prog_12_method_37_code
def y_M_checkSort : MethodName := ⟨"ProofReaderModel", "checkSort", "(II)Z"⟩
abbrev b_M_checkObject : ByteArray := prog_12_method_38_code
def y_M_checkObject : MethodName := ⟨"ProofReaderModel", "checkObject", "(II)Z"⟩
abbrev b_M_checkFunction : ByteArray := prog_12_method_39_code
def y_M_checkFunction : MethodName := ⟨"ProofReaderModel", "checkFunction", "(II)V"⟩
abbrev b_M_checkArguments : ByteArray := prog_12_method_40_code
def y_M_checkArguments : MethodName := ⟨"ProofReaderModel", "checkArguments", "(I)Z"⟩
abbrev b_M_goBehind : ByteArray := prog_12_method_41_code
def y_M_goBehind : MethodName := ⟨"ProofReaderModel", "goBehind", "(I)Z"⟩
abbrev b_M_doTask : ByteArray := prog_12_method_42_code
def y_M_doTask : MethodName := ⟨"ProofReaderModel", "doTask", "(I)Z"⟩
abbrev b_M_doAll : ByteArray := prog_12_method_43_code
def y_M_doAll : MethodName := ⟨"ProofReaderModel", "doAll", "()Z"⟩
abbrev b_M_say : ByteArray := prog_12_method_44_code
def y_M_say : MethodName := ⟨"ProofReaderModel", "say", "(I)V"⟩
abbrev b_M_sayNumber : ByteArray := prog_12_method_45_code
def y_M_sayNumber : MethodName := ⟨"ProofReaderModel", "sayNumber", "(I)V"⟩
abbrev b_M_sayName : ByteArray := prog_12_method_46_code
def y_M_sayName : MethodName := ⟨"ProofReaderModel", "sayName", "(JJ)V"⟩
abbrev b_M_sayApplication : ByteArray := prog_12_method_47_code
def y_M_sayApplication : MethodName := ⟨"ProofReaderModel", "sayApplication", "(II)V"⟩
abbrev b_M_sayPart : ByteArray := prog_12_method_48_code
def y_M_sayPart : MethodName := ⟨"ProofReaderModel", "sayPart", "(II)V"⟩
abbrev b_M_print : ByteArray := prog_12_method_49_code
def y_M_print : MethodName := ⟨"ProofReaderModel", "print", "(I)Z"⟩
abbrev b_M_question : ByteArray := prog_12_method_50_code
def y_M_question : MethodName := ⟨"ProofReaderModel", "question", "()Z"⟩
abbrev b_M_keep : ByteArray := prog_12_method_51_code
def y_M_keep : MethodName := ⟨"ProofReaderModel", "keep", "(IJJ)V"⟩
abbrev b_M_tell : ByteArray := prog_12_method_52_code
def y_M_tell : MethodName := ⟨"ProofReaderModel", "tell", "()Z"⟩
abbrev b_M_read : ByteArray := prog_12_method_53_code
def y_M_read : MethodName := ⟨"ProofReaderModel", "read", "()I"⟩
abbrev b_M_feed : ByteArray := prog_12_method_54_code
def y_M_feed : MethodName := ⟨"ProofReaderModel", "feed", "(IJ)I"⟩
abbrev b_M_fault : ByteArray := prog_12_method_55_code
def y_M_fault : MethodName := ⟨"ProofReaderModel", "fault", "()I"⟩
abbrev b_M_place : ByteArray := prog_12_method_56_code
def y_M_place : MethodName := ⟨"ProofReaderModel", "place", "()I"⟩
abbrev b_M_clear : ByteArray := prog_12_method_57_code
def y_M_clear : MethodName := ⟨"ProofReaderModel", "clear", "()I"⟩
abbrev b_M_constants : ByteArray := prog_12_method_58_code
def y_M_constants : MethodName := ⟨"ProofReaderModel", "constants", "()I"⟩
abbrev b_M_lastPart : ByteArray := prog_12_method_59_code
def y_M_lastPart : MethodName := ⟨"ProofReaderModel", "lastPart", "(I)I"⟩
abbrev b_M_products : ByteArray := prog_12_method_60_code
def y_M_products : MethodName := ⟨"ProofReaderModel", "products", "(I)I"⟩
abbrev b_M_size : ByteArray := prog_12_method_61_code
def y_M_size : MethodName := ⟨"ProofReaderModel", "size", "(I)I"⟩
abbrev b_M_order : ByteArray := prog_12_method_62_code
def y_M_order : MethodName := ⟨"ProofReaderModel", "order", "(I)I"⟩
abbrev b_M_constant : ByteArray := prog_12_method_63_code
def y_M_constant : MethodName := ⟨"ProofReaderModel", "constant", "(II)I"⟩
abbrev b_M_printed : ByteArray := prog_12_method_64_code
def y_M_printed : MethodName := ⟨"ProofReaderModel", "printed", "()I"⟩
abbrev b_M_paper : ByteArray := prog_12_method_65_code
def y_M_paper : MethodName := ⟨"ProofReaderModel", "paper", "(I)J"⟩
abbrev b_M_wipe : ByteArray := prog_12_method_66_code
def y_M_wipe : MethodName := ⟨"ProofReaderModel", "wipe", "()I"⟩
abbrev b_L_feed : ByteArray := method_3_code
def y_L_feed : MethodName := ⟨"ProofReaderLaw", "feed", "(LProofReader;IJ[J)I"⟩
abbrev b_L_constant : ByteArray := method_4_code
def y_L_constant : MethodName := ⟨"ProofReaderLaw", "constant", "(LProofReader;II[J)I"⟩
end
section
theorem kz_L : Cond.initialized "ProofReaderLaw" ∈ tb := tbm 92 (by decide +kernel) (by decide +kernel)
theorem kz_X : Cond.initialized "ProofReader" ∈ tb := tbm 93 (by decide +kernel) (by decide +kernel)
theorem kz_F : Cond.initialized "ProofReader$Fault" ∈ tb := tbm 94 (by decide +kernel) (by decide +kernel)
theorem kz_C : Cond.initialized "ProofReader$Code" ∈ tb := tbm 95 (by decide +kernel) (by decide +kernel)
theorem kz_P : Cond.initialized "ProofReader$Paper" ∈ tb := tbm 96 (by decide +kernel) (by decide +kernel)
theorem kz_T : Cond.initialized "ProofReader$Tokens" ∈ tb := tbm 97 (by decide +kernel) (by decide +kernel)
theorem kz_K : Cond.initialized "ProofReader$Constants" ∈ tb := tbm 98 (by decide +kernel) (by decide +kernel)
theorem kz_R : Cond.initialized "ProofReader$Parser" ∈ tb := tbm 99 (by decide +kernel) (by decide +kernel)
theorem kz_H : Cond.initialized "ProofReader$Checker" ∈ tb := tbm 100 (by decide +kernel) (by decide +kernel)
theorem kz_U : Cond.initialized "ProofReader$Putter" ∈ tb := tbm 101 (by decide +kernel) (by decide +kernel)
theorem kz_I : Cond.initialized "ProofReader$Printer" ∈ tb := tbm 102 (by decide +kernel) (by decide +kernel)
theorem kz_M : Cond.initialized "ProofReaderModel" ∈ tb := tbm 103 (by decide +kernel) (by decide +kernel)
theorem kz_Throwable : Cond.initialized "java/lang/Throwable" ∈ tb := tbm 104 (by decide +kernel) (by decide +kernel)
theorem kz_Exception : Cond.initialized "java/lang/Exception" ∈ tb := tbm 105 (by decide +kernel) (by decide +kernel)
theorem kz_RuntimeException : Cond.initialized "java/lang/RuntimeException" ∈ tb := tbm 106 (by decide +kernel) (by decide +kernel)
theorem kz_IllegalArgumentException : Cond.initialized "java/lang/IllegalArgumentException" ∈ tb := tbm 107 (by decide +kernel) (by decide +kernel)
theorem kz_System : Cond.initialized "java/lang/System" ∈ tb := tbm 108 (by decide +kernel) (by decide +kernel)
theorem kz_String : Cond.initialized "java/lang/String" ∈ tb := tbm 109 (by decide +kernel) (by decide +kernel)
theorem kz_StringLatin1 : Cond.initialized "java/lang/StringLatin1" ∈ tb := tbm 110 (by decide +kernel) (by decide +kernel)
theorem kz_Preconditions : Cond.initialized "jdk/internal/util/Preconditions" ∈ tb := tbm 111 (by decide +kernel) (by decide +kernel)
theorem kz_StringUTF16 : Cond.initialized "java/lang/StringUTF16" ∈ tb := tbm 112 (by decide +kernel) (by decide +kernel)
theorem kz_IndexOutOfBoundsException : Cond.initialized "java/lang/IndexOutOfBoundsException" ∈ tb := tbm 113 (by decide +kernel) (by decide +kernel)
theorem kz_Math : Cond.initialized "java/lang/Math" ∈ tb := tbm 114 (by decide +kernel) (by decide +kernel)
theorem kc_L_8 : Cond.classLink "ProofReaderLaw" 8 "ProofReader" ∈ tb := tbm 115 (by decide +kernel) (by decide +kernel)
theorem kn_X : Cond.instantiable "ProofReader" 9 ∈ tb := tbm 116 (by decide +kernel) (by decide +kernel)
theorem km_L_21 : Cond.methodLink "ProofReaderLaw" 21 y_X_init ∈ tb := tbm 117 (by decide +kernel) (by decide +kernel)
theorem ki_X_init : Cond.instanceMethod y_X_init ∈ tb := tbm 118 (by decide +kernel) (by decide +kernel)
theorem kk_X_init : Cond.code y_X_init b_X_init 1 (Option.none : Option Jvm.ClassFile.FieldType) ∈ tb := tbm 119 (by decide +kernel) (by decide +kernel)
theorem km_X_1 : Cond.methodLink "ProofReader" 1 objectInit ∈ tb := tbm 120 (by decide +kernel) (by decide +kernel)
theorem ki_objectInit : Cond.instanceMethod objectInit ∈ tb := tbm 121 (by decide +kernel) (by decide +kernel)
theorem kk_objectInit : Cond.code objectInit object_method_1_code 1 (Option.none : Option Jvm.ClassFile.FieldType) ∈ tb := tbm 122 (by decide +kernel) (by decide +kernel)
theorem kc_X_7 : Cond.classLink "ProofReader" 7 "ProofReader$Fault" ∈ tb := tbm 123 (by decide +kernel) (by decide +kernel)
theorem kn_F : Cond.instantiable "ProofReader$Fault" 2 ∈ tb := tbm 124 (by decide +kernel) (by decide +kernel)
theorem ki_F_init : Cond.instanceMethod y_F_init ∈ tb := tbm 126 (by decide +kernel) (by decide +kernel)
theorem kk_F_init : Cond.code y_F_init b_F_init 1 (Option.none : Option Jvm.ClassFile.FieldType) ∈ tb := tbm 127 (by decide +kernel) (by decide +kernel)
theorem km_F_3 : Cond.methodLink "ProofReader$Fault" 3 objectInit ∈ tb := tbm 128 (by decide +kernel) (by decide +kernel)
theorem kf_F_9 : Cond.fieldLink "ProofReader$Fault" 9 "ProofReader$Fault" "number" "I" ∈ tb := tbm 129 (by decide +kernel) (by decide +kernel)
theorem kf_X_115 : Cond.fieldLink "ProofReader" 115 "ProofReader$Fault" "number" "I" ∈ tb := tbm 130 (by decide +kernel) (by decide +kernel)
theorem kf_F_15 : Cond.fieldLink "ProofReader$Fault" 15 "ProofReader$Fault" "where" "I" ∈ tb := tbm 131 (by decide +kernel) (by decide +kernel)
theorem kf_X_118 : Cond.fieldLink "ProofReader" 118 "ProofReader$Fault" "where" "I" ∈ tb := tbm 132 (by decide +kernel) (by decide +kernel)
theorem kc_X_16 : Cond.classLink "ProofReader" 16 "ProofReader$Code" ∈ tb := tbm 138 (by decide +kernel) (by decide +kernel)
theorem kn_C : Cond.instantiable "ProofReader$Code" 5 ∈ tb := tbm 139 (by decide +kernel) (by decide +kernel)
theorem ki_C_init : Cond.instanceMethod y_C_init ∈ tb := tbm 141 (by decide +kernel) (by decide +kernel)
theorem kk_C_init : Cond.code y_C_init b_C_init 1 (Option.none : Option Jvm.ClassFile.FieldType) ∈ tb := tbm 142 (by decide +kernel) (by decide +kernel)
theorem km_C_3 : Cond.methodLink "ProofReader$Code" 3 objectInit ∈ tb := tbm 143 (by decide +kernel) (by decide +kernel)
theorem kf_C_11 : Cond.fieldLink "ProofReader$Code" 11 "ProofReader$Code" "head" "[I" ∈ tb := tbm 144 (by decide +kernel) (by decide +kernel)
theorem kf_H_51 : Cond.fieldLink "ProofReader$Checker" 51 "ProofReader$Code" "head" "[I" ∈ tb := tbm 145 (by decide +kernel) (by decide +kernel)
theorem kf_I_71 : Cond.fieldLink "ProofReader$Printer" 71 "ProofReader$Code" "head" "[I" ∈ tb := tbm 146 (by decide +kernel) (by decide +kernel)
theorem kf_U_75 : Cond.fieldLink "ProofReader$Putter" 75 "ProofReader$Code" "head" "[I" ∈ tb := tbm 147 (by decide +kernel) (by decide +kernel)
theorem kf_K_46 : Cond.fieldLink "ProofReader$Constants" 46 "ProofReader$Code" "head" "[I" ∈ tb := tbm 148 (by decide +kernel) (by decide +kernel)
theorem kf_C_15 : Cond.fieldLink "ProofReader$Code" 15 "ProofReader$Code" "arity" "[I" ∈ tb := tbm 149 (by decide +kernel) (by decide +kernel)
theorem kf_I_68 : Cond.fieldLink "ProofReader$Printer" 68 "ProofReader$Code" "arity" "[I" ∈ tb := tbm 150 (by decide +kernel) (by decide +kernel)
theorem kf_U_81 : Cond.fieldLink "ProofReader$Putter" 81 "ProofReader$Code" "arity" "[I" ∈ tb := tbm 151 (by decide +kernel) (by decide +kernel)
theorem kf_H_103 : Cond.fieldLink "ProofReader$Checker" 103 "ProofReader$Code" "arity" "[I" ∈ tb := tbm 152 (by decide +kernel) (by decide +kernel)
theorem kf_R_162 : Cond.fieldLink "ProofReader$Parser" 162 "ProofReader$Code" "arity" "[I" ∈ tb := tbm 153 (by decide +kernel) (by decide +kernel)
theorem kf_C_18 : Cond.fieldLink "ProofReader$Code" 18 "ProofReader$Code" "size" "[I" ∈ tb := tbm 154 (by decide +kernel) (by decide +kernel)
theorem kf_I_46 : Cond.fieldLink "ProofReader$Printer" 46 "ProofReader$Code" "size" "[I" ∈ tb := tbm 155 (by decide +kernel) (by decide +kernel)
theorem kf_U_52 : Cond.fieldLink "ProofReader$Putter" 52 "ProofReader$Code" "size" "[I" ∈ tb := tbm 156 (by decide +kernel) (by decide +kernel)
theorem kf_K_53 : Cond.fieldLink "ProofReader$Constants" 53 "ProofReader$Code" "size" "[I" ∈ tb := tbm 157 (by decide +kernel) (by decide +kernel)
theorem kf_X_145 : Cond.fieldLink "ProofReader" 145 "ProofReader$Code" "size" "[I" ∈ tb := tbm 158 (by decide +kernel) (by decide +kernel)
theorem kf_H_106 : Cond.fieldLink "ProofReader$Checker" 106 "ProofReader$Code" "size" "[I" ∈ tb := tbm 159 (by decide +kernel) (by decide +kernel)
theorem kf_R_153 : Cond.fieldLink "ProofReader$Parser" 153 "ProofReader$Code" "size" "[I" ∈ tb := tbm 160 (by decide +kernel) (by decide +kernel)
theorem kf_C_21 : Cond.fieldLink "ProofReader$Code" 21 "ProofReader$Code" "level" "[I" ∈ tb := tbm 161 (by decide +kernel) (by decide +kernel)
theorem kf_U_47 : Cond.fieldLink "ProofReader$Putter" 47 "ProofReader$Code" "level" "[I" ∈ tb := tbm 162 (by decide +kernel) (by decide +kernel)
theorem kf_H_61 : Cond.fieldLink "ProofReader$Checker" 61 "ProofReader$Code" "level" "[I" ∈ tb := tbm 163 (by decide +kernel) (by decide +kernel)
theorem kf_I_84 : Cond.fieldLink "ProofReader$Printer" 84 "ProofReader$Code" "level" "[I" ∈ tb := tbm 164 (by decide +kernel) (by decide +kernel)
theorem kf_C_24 : Cond.fieldLink "ProofReader$Code" 24 "ProofReader$Code" "where" "[I" ∈ tb := tbm 165 (by decide +kernel) (by decide +kernel)
theorem kf_H_40 : Cond.fieldLink "ProofReader$Checker" 40 "ProofReader$Code" "where" "[I" ∈ tb := tbm 166 (by decide +kernel) (by decide +kernel)
theorem kf_R_123 : Cond.fieldLink "ProofReader$Parser" 123 "ProofReader$Code" "where" "[I" ∈ tb := tbm 167 (by decide +kernel) (by decide +kernel)
theorem ka_int : Cond.arrayClass Jvm.ClassFile.FieldType.int ∈ tb := tbm 179 (by decide +kernel) (by decide +kernel)
theorem kc_X_23 : Cond.classLink "ProofReader" 23 "ProofReader$Paper" ∈ tb := tbm 180 (by decide +kernel) (by decide +kernel)
theorem kn_P : Cond.instantiable "ProofReader$Paper" 3 ∈ tb := tbm 181 (by decide +kernel) (by decide +kernel)
theorem ki_P_init : Cond.instanceMethod y_P_init ∈ tb := tbm 183 (by decide +kernel) (by decide +kernel)
theorem kk_P_init : Cond.code y_P_init b_P_init 1 (Option.none : Option Jvm.ClassFile.FieldType) ∈ tb := tbm 184 (by decide +kernel) (by decide +kernel)
theorem km_P_3 : Cond.methodLink "ProofReader$Paper" 3 objectInit ∈ tb := tbm 185 (by decide +kernel) (by decide +kernel)
theorem kf_P_9 : Cond.fieldLink "ProofReader$Paper" 9 "ProofReader$Paper" "bytes" "[B" ∈ tb := tbm 186 (by decide +kernel) (by decide +kernel)
theorem kf_P_15 : Cond.fieldLink "ProofReader$Paper" 15 "ProofReader$Paper" "length" "I" ∈ tb := tbm 187 (by decide +kernel) (by decide +kernel)
theorem kf_I_41 : Cond.fieldLink "ProofReader$Printer" 41 "ProofReader$Paper" "length" "I" ∈ tb := tbm 188 (by decide +kernel) (by decide +kernel)
theorem kf_X_125 : Cond.fieldLink "ProofReader" 125 "ProofReader$Paper" "length" "I" ∈ tb := tbm 189 (by decide +kernel) (by decide +kernel)
theorem kf_P_19 : Cond.fieldLink "ProofReader$Paper" 19 "ProofReader$Paper" "overrun" "Z" ∈ tb := tbm 190 (by decide +kernel) (by decide +kernel)
theorem kf_I_51 : Cond.fieldLink "ProofReader$Printer" 51 "ProofReader$Paper" "overrun" "Z" ∈ tb := tbm 191 (by decide +kernel) (by decide +kernel)
theorem ka_byte : Cond.arrayClass Jvm.ClassFile.FieldType.byte ∈ tb := tbm 199 (by decide +kernel) (by decide +kernel)
theorem kc_X_30 : Cond.classLink "ProofReader" 30 "ProofReader$Tokens" ∈ tb := tbm 200 (by decide +kernel) (by decide +kernel)
theorem kn_T : Cond.instantiable "ProofReader$Tokens" 8 ∈ tb := tbm 201 (by decide +kernel) (by decide +kernel)
theorem km_X_32 : Cond.methodLink "ProofReader" 32 y_T_init ∈ tb := tbm 202 (by decide +kernel) (by decide +kernel)
theorem ki_T_init : Cond.instanceMethod y_T_init ∈ tb := tbm 203 (by decide +kernel) (by decide +kernel)
theorem kk_T_init : Cond.code y_T_init b_T_init 2 (Option.none : Option Jvm.ClassFile.FieldType) ∈ tb := tbm 204 (by decide +kernel) (by decide +kernel)
theorem km_T_3 : Cond.methodLink "ProofReader$Tokens" 3 objectInit ∈ tb := tbm 205 (by decide +kernel) (by decide +kernel)
theorem kf_T_35 : Cond.fieldLink "ProofReader$Tokens" 35 "ProofReader$Tokens" "fault" "LProofReader$Fault;" ∈ tb := tbm 206 (by decide +kernel) (by decide +kernel)
theorem kf_T_9 : Cond.fieldLink "ProofReader$Tokens" 9 "ProofReader$Tokens" "bytes" "[B" ∈ tb := tbm 207 (by decide +kernel) (by decide +kernel)
theorem kf_T_15 : Cond.fieldLink "ProofReader$Tokens" 15 "ProofReader$Tokens" "next" "I" ∈ tb := tbm 208 (by decide +kernel) (by decide +kernel)
theorem kf_T_19 : Cond.fieldLink "ProofReader$Tokens" 19 "ProofReader$Tokens" "length" "I" ∈ tb := tbm 209 (by decide +kernel) (by decide +kernel)
theorem kf_X_90 : Cond.fieldLink "ProofReader" 90 "ProofReader$Tokens" "length" "I" ∈ tb := tbm 210 (by decide +kernel) (by decide +kernel)
theorem kf_T_22 : Cond.fieldLink "ProofReader$Tokens" 22 "ProofReader$Tokens" "kind" "I" ∈ tb := tbm 211 (by decide +kernel) (by decide +kernel)
theorem kf_R_73 : Cond.fieldLink "ProofReader$Parser" 73 "ProofReader$Tokens" "kind" "I" ∈ tb := tbm 212 (by decide +kernel) (by decide +kernel)
theorem kf_X_103 : Cond.fieldLink "ProofReader" 103 "ProofReader$Tokens" "kind" "I" ∈ tb := tbm 213 (by decide +kernel) (by decide +kernel)
theorem kf_T_25 : Cond.fieldLink "ProofReader$Tokens" 25 "ProofReader$Tokens" "start" "I" ∈ tb := tbm 214 (by decide +kernel) (by decide +kernel)
theorem kf_R_70 : Cond.fieldLink "ProofReader$Parser" 70 "ProofReader$Tokens" "start" "I" ∈ tb := tbm 215 (by decide +kernel) (by decide +kernel)
theorem kf_T_28 : Cond.fieldLink "ProofReader$Tokens" 28 "ProofReader$Tokens" "front" "J" ∈ tb := tbm 216 (by decide +kernel) (by decide +kernel)
theorem kf_R_90 : Cond.fieldLink "ProofReader$Parser" 90 "ProofReader$Tokens" "front" "J" ∈ tb := tbm 217 (by decide +kernel) (by decide +kernel)
theorem kf_T_32 : Cond.fieldLink "ProofReader$Tokens" 32 "ProofReader$Tokens" "back" "J" ∈ tb := tbm 218 (by decide +kernel) (by decide +kernel)
theorem kf_R_91 : Cond.fieldLink "ProofReader$Parser" 91 "ProofReader$Tokens" "back" "J" ∈ tb := tbm 219 (by decide +kernel) (by decide +kernel)
theorem kc_X_39 : Cond.classLink "ProofReader" 39 "ProofReader$Constants" ∈ tb := tbm 237 (by decide +kernel) (by decide +kernel)
theorem kn_K : Cond.instantiable "ProofReader$Constants" 8 ∈ tb := tbm 238 (by decide +kernel) (by decide +kernel)
theorem km_X_41 : Cond.methodLink "ProofReader" 41 y_K_init ∈ tb := tbm 239 (by decide +kernel) (by decide +kernel)
theorem ki_K_init : Cond.instanceMethod y_K_init ∈ tb := tbm 240 (by decide +kernel) (by decide +kernel)
theorem kk_K_init : Cond.code y_K_init b_K_init 2 (Option.none : Option Jvm.ClassFile.FieldType) ∈ tb := tbm 241 (by decide +kernel) (by decide +kernel)
theorem km_K_3 : Cond.methodLink "ProofReader$Constants" 3 objectInit ∈ tb := tbm 242 (by decide +kernel) (by decide +kernel)
theorem kf_K_36 : Cond.fieldLink "ProofReader$Constants" 36 "ProofReader$Constants" "code" "LProofReader$Code;" ∈ tb := tbm 243 (by decide +kernel) (by decide +kernel)
theorem kf_K_9 : Cond.fieldLink "ProofReader$Constants" 9 "ProofReader$Constants" "front" "[J" ∈ tb := tbm 244 (by decide +kernel) (by decide +kernel)
theorem kf_I_96 : Cond.fieldLink "ProofReader$Printer" 96 "ProofReader$Constants" "front" "[J" ∈ tb := tbm 245 (by decide +kernel) (by decide +kernel)
theorem kf_K_15 : Cond.fieldLink "ProofReader$Constants" 15 "ProofReader$Constants" "back" "[J" ∈ tb := tbm 246 (by decide +kernel) (by decide +kernel)
theorem kf_I_106 : Cond.fieldLink "ProofReader$Printer" 106 "ProofReader$Constants" "back" "[J" ∈ tb := tbm 247 (by decide +kernel) (by decide +kernel)
theorem kf_K_18 : Cond.fieldLink "ProofReader$Constants" 18 "ProofReader$Constants" "root" "[I" ∈ tb := tbm 248 (by decide +kernel) (by decide +kernel)
theorem kf_H_77 : Cond.fieldLink "ProofReader$Checker" 77 "ProofReader$Constants" "root" "[I" ∈ tb := tbm 249 (by decide +kernel) (by decide +kernel)
theorem kf_X_137 : Cond.fieldLink "ProofReader" 137 "ProofReader$Constants" "root" "[I" ∈ tb := tbm 250 (by decide +kernel) (by decide +kernel)
theorem kf_K_22 : Cond.fieldLink "ProofReader$Constants" 22 "ProofReader$Constants" "target" "[I" ∈ tb := tbm 251 (by decide +kernel) (by decide +kernel)
theorem kf_X_155 : Cond.fieldLink "ProofReader" 155 "ProofReader$Constants" "target" "[I" ∈ tb := tbm 252 (by decide +kernel) (by decide +kernel)
theorem kf_K_25 : Cond.fieldLink "ProofReader$Constants" 25 "ProofReader$Constants" "proved" "[Z" ∈ tb := tbm 253 (by decide +kernel) (by decide +kernel)
theorem kf_X_151 : Cond.fieldLink "ProofReader" 151 "ProofReader$Constants" "proved" "[Z" ∈ tb := tbm 254 (by decide +kernel) (by decide +kernel)
theorem kf_K_29 : Cond.fieldLink "ProofReader$Constants" 29 "ProofReader$Constants" "count" "I" ∈ tb := tbm 255 (by decide +kernel) (by decide +kernel)
theorem kf_X_121 : Cond.fieldLink "ProofReader" 121 "ProofReader$Constants" "count" "I" ∈ tb := tbm 256 (by decide +kernel) (by decide +kernel)
theorem kf_K_33 : Cond.fieldLink "ProofReader$Constants" 33 "ProofReader$Constants" "end" "I" ∈ tb := tbm 257 (by decide +kernel) (by decide +kernel)
theorem kf_R_80 : Cond.fieldLink "ProofReader$Parser" 80 "ProofReader$Constants" "end" "I" ∈ tb := tbm 258 (by decide +kernel) (by decide +kernel)
theorem ka_long : Cond.arrayClass Jvm.ClassFile.FieldType.long ∈ tb := tbm 276 (by decide +kernel) (by decide +kernel)
theorem ka_boolean : Cond.arrayClass Jvm.ClassFile.FieldType.boolean ∈ tb := tbm 277 (by decide +kernel) (by decide +kernel)
theorem kc_X_48 : Cond.classLink "ProofReader" 48 "ProofReader$Parser" ∈ tb := tbm 278 (by decide +kernel) (by decide +kernel)
theorem kn_R : Cond.instantiable "ProofReader$Parser" 17 ∈ tb := tbm 279 (by decide +kernel) (by decide +kernel)
theorem km_X_50 : Cond.methodLink "ProofReader" 50 y_R_init ∈ tb := tbm 280 (by decide +kernel) (by decide +kernel)
theorem ki_R_init : Cond.instanceMethod y_R_init ∈ tb := tbm 281 (by decide +kernel) (by decide +kernel)
theorem kk_R_init : Cond.code y_R_init b_R_init 5 (Option.none : Option Jvm.ClassFile.FieldType) ∈ tb := tbm 282 (by decide +kernel) (by decide +kernel)
theorem km_R_3 : Cond.methodLink "ProofReader$Parser" 3 objectInit ∈ tb := tbm 283 (by decide +kernel) (by decide +kernel)
theorem kf_R_54 : Cond.fieldLink "ProofReader$Parser" 54 "ProofReader$Parser" "tokens" "LProofReader$Tokens;" ∈ tb := tbm 284 (by decide +kernel) (by decide +kernel)
theorem kf_R_58 : Cond.fieldLink "ProofReader$Parser" 58 "ProofReader$Parser" "code" "LProofReader$Code;" ∈ tb := tbm 285 (by decide +kernel) (by decide +kernel)
theorem kf_R_62 : Cond.fieldLink "ProofReader$Parser" 62 "ProofReader$Parser" "constants" "LProofReader$Constants;" ∈ tb := tbm 286 (by decide +kernel) (by decide +kernel)
theorem kf_R_66 : Cond.fieldLink "ProofReader$Parser" 66 "ProofReader$Parser" "fault" "LProofReader$Fault;" ∈ tb := tbm 287 (by decide +kernel) (by decide +kernel)
theorem kf_R_9 : Cond.fieldLink "ProofReader$Parser" 9 "ProofReader$Parser" "scopeFront" "[J" ∈ tb := tbm 288 (by decide +kernel) (by decide +kernel)
theorem kf_R_15 : Cond.fieldLink "ProofReader$Parser" 15 "ProofReader$Parser" "scopeBack" "[J" ∈ tb := tbm 289 (by decide +kernel) (by decide +kernel)
theorem kf_R_18 : Cond.fieldLink "ProofReader$Parser" 18 "ProofReader$Parser" "level" "I" ∈ tb := tbm 290 (by decide +kernel) (by decide +kernel)
theorem kf_R_22 : Cond.fieldLink "ProofReader$Parser" 22 "ProofReader$Parser" "open" "I" ∈ tb := tbm 291 (by decide +kernel) (by decide +kernel)
theorem kf_R_25 : Cond.fieldLink "ProofReader$Parser" 25 "ProofReader$Parser" "nodes" "I" ∈ tb := tbm 292 (by decide +kernel) (by decide +kernel)
theorem kf_R_28 : Cond.fieldLink "ProofReader$Parser" 28 "ProofReader$Parser" "end" "I" ∈ tb := tbm 293 (by decide +kernel) (by decide +kernel)
theorem kf_X_162 : Cond.fieldLink "ProofReader" 162 "ProofReader$Parser" "end" "I" ∈ tb := tbm 294 (by decide +kernel) (by decide +kernel)
theorem kf_R_31 : Cond.fieldLink "ProofReader$Parser" 31 "ProofReader$Parser" "start" "I" ∈ tb := tbm 295 (by decide +kernel) (by decide +kernel)
theorem kf_X_180 : Cond.fieldLink "ProofReader" 180 "ProofReader$Parser" "start" "I" ∈ tb := tbm 296 (by decide +kernel) (by decide +kernel)
theorem kf_R_34 : Cond.fieldLink "ProofReader$Parser" 34 "ProofReader$Parser" "question" "Z" ∈ tb := tbm 297 (by decide +kernel) (by decide +kernel)
theorem kf_X_168 : Cond.fieldLink "ProofReader" 168 "ProofReader$Parser" "question" "Z" ∈ tb := tbm 298 (by decide +kernel) (by decide +kernel)
theorem kf_R_38 : Cond.fieldLink "ProofReader$Parser" 38 "ProofReader$Parser" "proved" "Z" ∈ tb := tbm 299 (by decide +kernel) (by decide +kernel)
theorem kf_X_187 : Cond.fieldLink "ProofReader" 187 "ProofReader$Parser" "proved" "Z" ∈ tb := tbm 300 (by decide +kernel) (by decide +kernel)
theorem kf_R_41 : Cond.fieldLink "ProofReader$Parser" 41 "ProofReader$Parser" "front" "J" ∈ tb := tbm 301 (by decide +kernel) (by decide +kernel)
theorem kf_X_200 : Cond.fieldLink "ProofReader" 200 "ProofReader$Parser" "front" "J" ∈ tb := tbm 302 (by decide +kernel) (by decide +kernel)
theorem kf_R_45 : Cond.fieldLink "ProofReader$Parser" 45 "ProofReader$Parser" "back" "J" ∈ tb := tbm 303 (by decide +kernel) (by decide +kernel)
theorem kf_X_204 : Cond.fieldLink "ProofReader" 204 "ProofReader$Parser" "back" "J" ∈ tb := tbm 304 (by decide +kernel) (by decide +kernel)
theorem kf_R_48 : Cond.fieldLink "ProofReader$Parser" 48 "ProofReader$Parser" "first" "I" ∈ tb := tbm 305 (by decide +kernel) (by decide +kernel)
theorem kf_X_172 : Cond.fieldLink "ProofReader" 172 "ProofReader$Parser" "first" "I" ∈ tb := tbm 306 (by decide +kernel) (by decide +kernel)
theorem kf_R_51 : Cond.fieldLink "ProofReader$Parser" 51 "ProofReader$Parser" "second" "I" ∈ tb := tbm 307 (by decide +kernel) (by decide +kernel)
theorem kf_X_193 : Cond.fieldLink "ProofReader" 193 "ProofReader$Parser" "second" "I" ∈ tb := tbm 308 (by decide +kernel) (by decide +kernel)
theorem kc_X_57 : Cond.classLink "ProofReader" 57 "ProofReader$Checker" ∈ tb := tbm 344 (by decide +kernel) (by decide +kernel)
theorem kn_H : Cond.instantiable "ProofReader$Checker" 6 ∈ tb := tbm 345 (by decide +kernel) (by decide +kernel)
theorem km_X_59 : Cond.methodLink "ProofReader" 59 y_H_init ∈ tb := tbm 346 (by decide +kernel) (by decide +kernel)
theorem ki_H_init : Cond.instanceMethod y_H_init ∈ tb := tbm 347 (by decide +kernel) (by decide +kernel)
theorem kk_H_init : Cond.code y_H_init b_H_init 4 (Option.none : Option Jvm.ClassFile.FieldType) ∈ tb := tbm 348 (by decide +kernel) (by decide +kernel)
theorem km_H_3 : Cond.methodLink "ProofReader$Checker" 3 objectInit ∈ tb := tbm 349 (by decide +kernel) (by decide +kernel)
theorem kc_H_31 : Cond.classLink "ProofReader$Checker" 31 "ProofReader$Putter" ∈ tb := tbm 350 (by decide +kernel) (by decide +kernel)
theorem kn_U : Cond.instantiable "ProofReader$Putter" 11 ∈ tb := tbm 351 (by decide +kernel) (by decide +kernel)
theorem km_H_33 : Cond.methodLink "ProofReader$Checker" 33 y_U_init ∈ tb := tbm 352 (by decide +kernel) (by decide +kernel)
theorem ki_U_init : Cond.instanceMethod y_U_init ∈ tb := tbm 353 (by decide +kernel) (by decide +kernel)
theorem kk_U_init : Cond.code y_U_init b_U_init 2 (Option.none : Option Jvm.ClassFile.FieldType) ∈ tb := tbm 354 (by decide +kernel) (by decide +kernel)
theorem km_U_3 : Cond.methodLink "ProofReader$Putter" 3 objectInit ∈ tb := tbm 355 (by decide +kernel) (by decide +kernel)
theorem kf_U_43 : Cond.fieldLink "ProofReader$Putter" 43 "ProofReader$Putter" "code" "LProofReader$Code;" ∈ tb := tbm 356 (by decide +kernel) (by decide +kernel)
theorem kf_U_11 : Cond.fieldLink "ProofReader$Putter" 11 "ProofReader$Putter" "at" "[I" ∈ tb := tbm 357 (by decide +kernel) (by decide +kernel)
theorem kf_U_15 : Cond.fieldLink "ProofReader$Putter" 15 "ProofReader$Putter" "stop" "[I" ∈ tb := tbm 358 (by decide +kernel) (by decide +kernel)
theorem kf_U_18 : Cond.fieldLink "ProofReader$Putter" 18 "ProofReader$Putter" "base" "[I" ∈ tb := tbm 359 (by decide +kernel) (by decide +kernel)
theorem kf_U_21 : Cond.fieldLink "ProofReader$Putter" 21 "ProofReader$Putter" "shift" "[I" ∈ tb := tbm 360 (by decide +kernel) (by decide +kernel)
theorem kf_U_24 : Cond.fieldLink "ProofReader$Putter" 24 "ProofReader$Putter" "call" "[I" ∈ tb := tbm 361 (by decide +kernel) (by decide +kernel)
theorem kf_U_27 : Cond.fieldLink "ProofReader$Putter" 27 "ProofReader$Putter" "top" "I" ∈ tb := tbm 362 (by decide +kernel) (by decide +kernel)
theorem kf_U_31 : Cond.fieldLink "ProofReader$Putter" 31 "ProofReader$Putter" "variable" "I" ∈ tb := tbm 363 (by decide +kernel) (by decide +kernel)
theorem kf_U_34 : Cond.fieldLink "ProofReader$Putter" 34 "ProofReader$Putter" "argument" "I" ∈ tb := tbm 364 (by decide +kernel) (by decide +kernel)
theorem kf_U_37 : Cond.fieldLink "ProofReader$Putter" 37 "ProofReader$Putter" "from" "I" ∈ tb := tbm 365 (by decide +kernel) (by decide +kernel)
theorem kf_U_40 : Cond.fieldLink "ProofReader$Putter" 40 "ProofReader$Putter" "end" "I" ∈ tb := tbm 366 (by decide +kernel) (by decide +kernel)
theorem kf_H_19 : Cond.fieldLink "ProofReader$Checker" 19 "ProofReader$Checker" "code" "LProofReader$Code;" ∈ tb := tbm 390 (by decide +kernel) (by decide +kernel)
theorem kf_H_23 : Cond.fieldLink "ProofReader$Checker" 23 "ProofReader$Checker" "constants" "LProofReader$Constants;" ∈ tb := tbm 391 (by decide +kernel) (by decide +kernel)
theorem kf_H_27 : Cond.fieldLink "ProofReader$Checker" 27 "ProofReader$Checker" "fault" "LProofReader$Fault;" ∈ tb := tbm 392 (by decide +kernel) (by decide +kernel)
theorem kf_H_36 : Cond.fieldLink "ProofReader$Checker" 36 "ProofReader$Checker" "putter" "LProofReader$Putter;" ∈ tb := tbm 393 (by decide +kernel) (by decide +kernel)
theorem kf_H_9 : Cond.fieldLink "ProofReader$Checker" 9 "ProofReader$Checker" "typeOf" "[I" ∈ tb := tbm 394 (by decide +kernel) (by decide +kernel)
theorem kf_H_15 : Cond.fieldLink "ProofReader$Checker" 15 "ProofReader$Checker" "work" "I" ∈ tb := tbm 395 (by decide +kernel) (by decide +kernel)
theorem kf_X_165 : Cond.fieldLink "ProofReader" 165 "ProofReader$Checker" "work" "I" ∈ tb := tbm 396 (by decide +kernel) (by decide +kernel)
theorem kc_X_66 : Cond.classLink "ProofReader" 66 "ProofReader$Printer" ∈ tb := tbm 410 (by decide +kernel) (by decide +kernel)
theorem kn_I : Cond.instantiable "ProofReader$Printer" 8 ∈ tb := tbm 411 (by decide +kernel) (by decide +kernel)
theorem km_X_68 : Cond.methodLink "ProofReader" 68 y_I_init ∈ tb := tbm 412 (by decide +kernel) (by decide +kernel)
theorem ki_I_init : Cond.instanceMethod y_I_init ∈ tb := tbm 413 (by decide +kernel) (by decide +kernel)
theorem kk_I_init : Cond.code y_I_init b_I_init 4 (Option.none : Option Jvm.ClassFile.FieldType) ∈ tb := tbm 414 (by decide +kernel) (by decide +kernel)
theorem km_I_3 : Cond.methodLink "ProofReader$Printer" 3 objectInit ∈ tb := tbm 415 (by decide +kernel) (by decide +kernel)
theorem kf_I_29 : Cond.fieldLink "ProofReader$Printer" 29 "ProofReader$Printer" "code" "LProofReader$Code;" ∈ tb := tbm 416 (by decide +kernel) (by decide +kernel)
theorem kf_I_33 : Cond.fieldLink "ProofReader$Printer" 33 "ProofReader$Printer" "constants" "LProofReader$Constants;" ∈ tb := tbm 417 (by decide +kernel) (by decide +kernel)
theorem kf_I_37 : Cond.fieldLink "ProofReader$Printer" 37 "ProofReader$Printer" "paper" "LProofReader$Paper;" ∈ tb := tbm 418 (by decide +kernel) (by decide +kernel)
theorem kf_I_9 : Cond.fieldLink "ProofReader$Printer" 9 "ProofReader$Printer" "isArgument" "[Z" ∈ tb := tbm 419 (by decide +kernel) (by decide +kernel)
theorem kf_I_15 : Cond.fieldLink "ProofReader$Printer" 15 "ProofReader$Printer" "closeAt" "[I" ∈ tb := tbm 420 (by decide +kernel) (by decide +kernel)
theorem kf_I_19 : Cond.fieldLink "ProofReader$Printer" 19 "ProofReader$Printer" "closeWith" "[I" ∈ tb := tbm 421 (by decide +kernel) (by decide +kernel)
theorem kf_I_22 : Cond.fieldLink "ProofReader$Printer" 22 "ProofReader$Printer" "closing" "I" ∈ tb := tbm 422 (by decide +kernel) (by decide +kernel)
theorem kf_I_26 : Cond.fieldLink "ProofReader$Printer" 26 "ProofReader$Printer" "root" "I" ∈ tb := tbm 423 (by decide +kernel) (by decide +kernel)
theorem kf_X_10 : Cond.fieldLink "ProofReader" 10 "ProofReader" "fault" "LProofReader$Fault;" ∈ tb := tbm 441 (by decide +kernel) (by decide +kernel)
theorem kf_X_19 : Cond.fieldLink "ProofReader" 19 "ProofReader" "code" "LProofReader$Code;" ∈ tb := tbm 442 (by decide +kernel) (by decide +kernel)
theorem kf_X_26 : Cond.fieldLink "ProofReader" 26 "ProofReader" "paper" "LProofReader$Paper;" ∈ tb := tbm 443 (by decide +kernel) (by decide +kernel)
theorem kf_X_35 : Cond.fieldLink "ProofReader" 35 "ProofReader" "tokens" "LProofReader$Tokens;" ∈ tb := tbm 444 (by decide +kernel) (by decide +kernel)
theorem kf_X_44 : Cond.fieldLink "ProofReader" 44 "ProofReader" "constants" "LProofReader$Constants;" ∈ tb := tbm 445 (by decide +kernel) (by decide +kernel)
theorem kf_X_53 : Cond.fieldLink "ProofReader" 53 "ProofReader" "parser" "LProofReader$Parser;" ∈ tb := tbm 446 (by decide +kernel) (by decide +kernel)
theorem kf_X_62 : Cond.fieldLink "ProofReader" 62 "ProofReader" "checker" "LProofReader$Checker;" ∈ tb := tbm 447 (by decide +kernel) (by decide +kernel)
theorem kf_X_71 : Cond.fieldLink "ProofReader" 71 "ProofReader" "printer" "LProofReader$Printer;" ∈ tb := tbm 448 (by decide +kernel) (by decide +kernel)
theorem kf_X_75 : Cond.fieldLink "ProofReader" 75 "ProofReader" "fed" "I" ∈ tb := tbm 449 (by decide +kernel) (by decide +kernel)
theorem km_L_37 : Cond.methodLink "ProofReaderLaw" 37 y_X_read ∈ tb := tbm 469 (by decide +kernel) (by decide +kernel)
theorem ki_X_read : Cond.instanceMethod y_X_read ∈ tb := tbm 470 (by decide +kernel) (by decide +kernel)
theorem kv_X_read : Cond.selects "ProofReader" y_X_read y_X_read ∈ tb := tbm 471 (by decide +kernel) (by decide +kernel)
theorem kk_X_read : Cond.code y_X_read b_X_read 2 (Option.some Jvm.ClassFile.FieldType.int) ∈ tb := tbm 472 (by decide +kernel) (by decide +kernel)
theorem km_X_93 : Cond.methodLink "ProofReader" 93 y_F_forget ∈ tb := tbm 473 (by decide +kernel) (by decide +kernel)
theorem ki_F_forget : Cond.instanceMethod y_F_forget ∈ tb := tbm 474 (by decide +kernel) (by decide +kernel)
theorem kv_F_forget : Cond.selects "ProofReader$Fault" y_F_forget y_F_forget ∈ tb := tbm 475 (by decide +kernel) (by decide +kernel)
theorem kk_F_forget : Cond.code y_F_forget b_F_forget 1 (Option.none : Option Jvm.ClassFile.FieldType) ∈ tb := tbm 476 (by decide +kernel) (by decide +kernel)
theorem km_X_96 : Cond.methodLink "ProofReader" 96 y_T_restart ∈ tb := tbm 477 (by decide +kernel) (by decide +kernel)
theorem ki_T_restart : Cond.instanceMethod y_T_restart ∈ tb := tbm 478 (by decide +kernel) (by decide +kernel)
theorem kv_T_restart : Cond.selects "ProofReader$Tokens" y_T_restart y_T_restart ∈ tb := tbm 479 (by decide +kernel) (by decide +kernel)
theorem kk_T_restart : Cond.code y_T_restart b_T_restart 1 (Option.none : Option Jvm.ClassFile.FieldType) ∈ tb := tbm 480 (by decide +kernel) (by decide +kernel)
theorem km_X_99 : Cond.methodLink "ProofReader" 99 y_T_advance ∈ tb := tbm 481 (by decide +kernel) (by decide +kernel)
theorem ki_T_advance : Cond.instanceMethod y_T_advance ∈ tb := tbm 482 (by decide +kernel) (by decide +kernel)
theorem kv_T_advance : Cond.selects "ProofReader$Tokens" y_T_advance y_T_advance ∈ tb := tbm 483 (by decide +kernel) (by decide +kernel)
theorem kk_T_advance : Cond.code y_T_advance b_T_advance 2 (Option.some Jvm.ClassFile.FieldType.boolean) ∈ tb := tbm 484 (by decide +kernel) (by decide +kernel)
theorem km_T_39 : Cond.methodLink "ProofReader$Tokens" 39 y_T_at ∈ tb := tbm 485 (by decide +kernel) (by decide +kernel)
theorem ki_T_at : Cond.instanceMethod y_T_at ∈ tb := tbm 487 (by decide +kernel) (by decide +kernel)
theorem kk_T_at : Cond.code y_T_at b_T_at 2 (Option.some Jvm.ClassFile.FieldType.int) ∈ tb := tbm 488 (by decide +kernel) (by decide +kernel)
theorem km_T_43 : Cond.methodLink "ProofReader$Tokens" 43 y_T_isInNames ∈ tb := tbm 489 (by decide +kernel) (by decide +kernel)
theorem ks_T_isInNames : Cond.static y_T_isInNames ∈ tb := tbm 490 (by decide +kernel) (by decide +kernel)
theorem kk_T_isInNames : Cond.code y_T_isInNames b_T_isInNames 1 (Option.some Jvm.ClassFile.FieldType.boolean) ∈ tb := tbm 491 (by decide +kernel) (by decide +kernel)
theorem km_T_47 : Cond.methodLink "ProofReader$Tokens" 47 y_T_takeName ∈ tb := tbm 492 (by decide +kernel) (by decide +kernel)
theorem ki_T_takeName : Cond.instanceMethod y_T_takeName ∈ tb := tbm 494 (by decide +kernel) (by decide +kernel)
theorem kk_T_takeName : Cond.code y_T_takeName b_T_takeName 2 (Option.some Jvm.ClassFile.FieldType.boolean) ∈ tb := tbm 495 (by decide +kernel) (by decide +kernel)
theorem kq_T_63 : Cond.constantLong "ProofReader$Tokens" 63 1701869940 ∈ tb := tbm 496 (by decide +kernel) (by decide +kernel)
theorem km_T_57 : Cond.methodLink "ProofReader$Tokens" 57 y_F_met ∈ tb := tbm 497 (by decide +kernel) (by decide +kernel)
theorem ki_F_met : Cond.instanceMethod y_F_met ∈ tb := tbm 498 (by decide +kernel) (by decide +kernel)
theorem kv_F_met : Cond.selects "ProofReader$Fault" y_F_met y_F_met ∈ tb := tbm 499 (by decide +kernel) (by decide +kernel)
theorem kk_F_met : Cond.code y_F_met b_F_met 3 (Option.some Jvm.ClassFile.FieldType.boolean) ∈ tb := tbm 500 (by decide +kernel) (by decide +kernel)
theorem km_T_51 : Cond.methodLink "ProofReader$Tokens" 51 y_T_takeArrow ∈ tb := tbm 501 (by decide +kernel) (by decide +kernel)
theorem ki_T_takeArrow : Cond.instanceMethod y_T_takeArrow ∈ tb := tbm 503 (by decide +kernel) (by decide +kernel)
theorem kk_T_takeArrow : Cond.code y_T_takeArrow b_T_takeArrow 1 (Option.some Jvm.ClassFile.FieldType.boolean) ∈ tb := tbm 504 (by decide +kernel) (by decide +kernel)
theorem km_T_54 : Cond.methodLink "ProofReader$Tokens" 54 y_T_isSingle ∈ tb := tbm 505 (by decide +kernel) (by decide +kernel)
theorem ks_T_isSingle : Cond.static y_T_isSingle ∈ tb := tbm 506 (by decide +kernel) (by decide +kernel)
theorem kk_T_isSingle : Cond.code y_T_isSingle b_T_isSingle 1 (Option.some Jvm.ClassFile.FieldType.boolean) ∈ tb := tbm 507 (by decide +kernel) (by decide +kernel)
theorem km_X_106 : Cond.methodLink "ProofReader" 106 y_R_sentence ∈ tb := tbm 508 (by decide +kernel) (by decide +kernel)
theorem ki_R_sentence : Cond.instanceMethod y_R_sentence ∈ tb := tbm 509 (by decide +kernel) (by decide +kernel)
theorem kv_R_sentence : Cond.selects "ProofReader$Parser" y_R_sentence y_R_sentence ∈ tb := tbm 510 (by decide +kernel) (by decide +kernel)
theorem kk_R_sentence : Cond.code y_R_sentence b_R_sentence 1 (Option.some Jvm.ClassFile.FieldType.boolean) ∈ tb := tbm 511 (by decide +kernel) (by decide +kernel)
theorem km_R_76 : Cond.methodLink "ProofReader$Parser" 76 y_R_nameAndColon ∈ tb := tbm 512 (by decide +kernel) (by decide +kernel)
theorem ki_R_nameAndColon : Cond.instanceMethod y_R_nameAndColon ∈ tb := tbm 514 (by decide +kernel) (by decide +kernel)
theorem kk_R_nameAndColon : Cond.code y_R_nameAndColon b_R_nameAndColon 1 (Option.some Jvm.ClassFile.FieldType.boolean) ∈ tb := tbm 515 (by decide +kernel) (by decide +kernel)
theorem km_R_86 : Cond.methodLink "ProofReader$Parser" 86 y_R_isNow ∈ tb := tbm 516 (by decide +kernel) (by decide +kernel)
theorem ki_R_isNow : Cond.instanceMethod y_R_isNow ∈ tb := tbm 518 (by decide +kernel) (by decide +kernel)
theorem kk_R_isNow : Cond.code y_R_isNow b_R_isNow 2 (Option.some Jvm.ClassFile.FieldType.boolean) ∈ tb := tbm 519 (by decide +kernel) (by decide +kernel)
theorem km_R_99 : Cond.methodLink "ProofReader$Parser" 99 y_F_met ∈ tb := tbm 520 (by decide +kernel) (by decide +kernel)
theorem km_R_92 : Cond.methodLink "ProofReader$Parser" 92 y_K_isFull ∈ tb := tbm 521 (by decide +kernel) (by decide +kernel)
theorem ki_K_isFull : Cond.instanceMethod y_K_isFull ∈ tb := tbm 522 (by decide +kernel) (by decide +kernel)
theorem kv_K_isFull : Cond.selects "ProofReader$Constants" y_K_isFull y_K_isFull ∈ tb := tbm 523 (by decide +kernel) (by decide +kernel)
end
section
theorem kk_K_isFull : Cond.code y_K_isFull b_K_isFull 1 (Option.some Jvm.ClassFile.FieldType.boolean) ∈ tb := tbm 524 (by decide +kernel) (by decide +kernel)
theorem km_R_95 : Cond.methodLink "ProofReader$Parser" 95 y_K_find ∈ tb := tbm 525 (by decide +kernel) (by decide +kernel)
theorem ki_K_find : Cond.instanceMethod y_K_find ∈ tb := tbm 526 (by decide +kernel) (by decide +kernel)
theorem kv_K_find : Cond.selects "ProofReader$Constants" y_K_find y_K_find ∈ tb := tbm 527 (by decide +kernel) (by decide +kernel)
theorem kk_K_find : Cond.code y_K_find b_K_find 6 (Option.some Jvm.ClassFile.FieldType.int) ∈ tb := tbm 528 (by decide +kernel) (by decide +kernel)
theorem km_R_105 : Cond.methodLink "ProofReader$Parser" 105 y_R_isNext ∈ tb := tbm 529 (by decide +kernel) (by decide +kernel)
theorem ki_R_isNext : Cond.instanceMethod y_R_isNext ∈ tb := tbm 531 (by decide +kernel) (by decide +kernel)
theorem kk_R_isNext : Cond.code y_R_isNext b_R_isNext 2 (Option.some Jvm.ClassFile.FieldType.boolean) ∈ tb := tbm 532 (by decide +kernel) (by decide +kernel)
theorem km_R_108 : Cond.methodLink "ProofReader$Parser" 108 y_T_advance ∈ tb := tbm 533 (by decide +kernel) (by decide +kernel)
theorem km_R_83 : Cond.methodLink "ProofReader$Parser" 83 y_R_wholeExpression ∈ tb := tbm 534 (by decide +kernel) (by decide +kernel)
theorem ki_R_wholeExpression : Cond.instanceMethod y_R_wholeExpression ∈ tb := tbm 536 (by decide +kernel) (by decide +kernel)
theorem kk_R_wholeExpression : Cond.code y_R_wholeExpression b_R_wholeExpression 1 (Option.some Jvm.ClassFile.FieldType.boolean) ∈ tb := tbm 537 (by decide +kernel) (by decide +kernel)
theorem km_R_111 : Cond.methodLink "ProofReader$Parser" 111 y_R_expression ∈ tb := tbm 538 (by decide +kernel) (by decide +kernel)
theorem ki_R_expression : Cond.instanceMethod y_R_expression ∈ tb := tbm 540 (by decide +kernel) (by decide +kernel)
theorem kk_R_expression : Cond.code y_R_expression b_R_expression 2 (Option.some Jvm.ClassFile.FieldType.boolean) ∈ tb := tbm 541 (by decide +kernel) (by decide +kernel)
theorem km_R_127 : Cond.methodLink "ProofReader$Parser" 127 y_R_product ∈ tb := tbm 542 (by decide +kernel) (by decide +kernel)
theorem ki_R_product : Cond.instanceMethod y_R_product ∈ tb := tbm 544 (by decide +kernel) (by decide +kernel)
theorem kk_R_product : Cond.code y_R_product b_R_product 6 (Option.some Jvm.ClassFile.FieldType.boolean) ∈ tb := tbm 545 (by decide +kernel) (by decide +kernel)
theorem km_R_139 : Cond.methodLink "ProofReader$Parser" 139 y_R_opens ∈ tb := tbm 546 (by decide +kernel) (by decide +kernel)
theorem ki_R_opens : Cond.instanceMethod y_R_opens ∈ tb := tbm 548 (by decide +kernel) (by decide +kernel)
theorem kk_R_opens : Cond.code y_R_opens b_R_opens 1 (Option.some Jvm.ClassFile.FieldType.boolean) ∈ tb := tbm 549 (by decide +kernel) (by decide +kernel)
theorem km_R_142 : Cond.methodLink "ProofReader$Parser" 142 y_R_node ∈ tb := tbm 550 (by decide +kernel) (by decide +kernel)
theorem ki_R_node : Cond.instanceMethod y_R_node ∈ tb := tbm 552 (by decide +kernel) (by decide +kernel)
theorem kk_R_node : Cond.code y_R_node b_R_node 3 (Option.some Jvm.ClassFile.FieldType.boolean) ∈ tb := tbm 553 (by decide +kernel) (by decide +kernel)
theorem km_R_114 : Cond.methodLink "ProofReader$Parser" 114 y_R_counts ∈ tb := tbm 554 (by decide +kernel) (by decide +kernel)
theorem ki_R_counts : Cond.instanceMethod y_R_counts ∈ tb := tbm 556 (by decide +kernel) (by decide +kernel)
theorem kk_R_counts : Cond.code y_R_counts b_R_counts 1 (Option.some Jvm.ClassFile.FieldType.boolean) ∈ tb := tbm 557 (by decide +kernel) (by decide +kernel)
theorem km_R_117 : Cond.methodLink "ProofReader$Parser" 117 y_C_write ∈ tb := tbm 558 (by decide +kernel) (by decide +kernel)
theorem ki_C_write : Cond.instanceMethod y_C_write ∈ tb := tbm 559 (by decide +kernel) (by decide +kernel)
theorem kv_C_write : Cond.selects "ProofReader$Code" y_C_write y_C_write ∈ tb := tbm 560 (by decide +kernel) (by decide +kernel)
theorem kk_C_write : Cond.code y_C_write b_C_write 5 (Option.none : Option Jvm.ClassFile.FieldType) ∈ tb := tbm 561 (by decide +kernel) (by decide +kernel)
theorem km_R_145 : Cond.methodLink "ProofReader$Parser" 145 y_R_scope ∈ tb := tbm 562 (by decide +kernel) (by decide +kernel)
theorem ki_R_scope : Cond.instanceMethod y_R_scope ∈ tb := tbm 564 (by decide +kernel) (by decide +kernel)
theorem kk_R_scope : Cond.code y_R_scope b_R_scope 6 (Option.some Jvm.ClassFile.FieldType.boolean) ∈ tb := tbm 565 (by decide +kernel) (by decide +kernel)
theorem km_R_130 : Cond.methodLink "ProofReader$Parser" 130 y_R_function ∈ tb := tbm 566 (by decide +kernel) (by decide +kernel)
theorem ki_R_function : Cond.instanceMethod y_R_function ∈ tb := tbm 568 (by decide +kernel) (by decide +kernel)
theorem kk_R_function : Cond.code y_R_function b_R_function 6 (Option.some Jvm.ClassFile.FieldType.boolean) ∈ tb := tbm 569 (by decide +kernel) (by decide +kernel)
theorem km_R_133 : Cond.methodLink "ProofReader$Parser" 133 y_R_simple ∈ tb := tbm 570 (by decide +kernel) (by decide +kernel)
theorem ki_R_simple : Cond.instanceMethod y_R_simple ∈ tb := tbm 572 (by decide +kernel) (by decide +kernel)
theorem kk_R_simple : Cond.code y_R_simple b_R_simple 4 (Option.some Jvm.ClassFile.FieldType.boolean) ∈ tb := tbm 573 (by decide +kernel) (by decide +kernel)
theorem km_R_156 : Cond.methodLink "ProofReader$Parser" 156 y_R_atom ∈ tb := tbm 574 (by decide +kernel) (by decide +kernel)
theorem ki_R_atom : Cond.instanceMethod y_R_atom ∈ tb := tbm 576 (by decide +kernel) (by decide +kernel)
theorem kk_R_atom : Cond.code y_R_atom b_R_atom 2 (Option.some Jvm.ClassFile.FieldType.boolean) ∈ tb := tbm 577 (by decide +kernel) (by decide +kernel)
theorem km_R_165 : Cond.methodLink "ProofReader$Parser" 165 y_R_meaning ∈ tb := tbm 578 (by decide +kernel) (by decide +kernel)
theorem ki_R_meaning : Cond.instanceMethod y_R_meaning ∈ tb := tbm 580 (by decide +kernel) (by decide +kernel)
theorem kk_R_meaning : Cond.code y_R_meaning b_R_meaning 2 (Option.some Jvm.ClassFile.FieldType.int) ∈ tb := tbm 581 (by decide +kernel) (by decide +kernel)
theorem km_R_159 : Cond.methodLink "ProofReader$Parser" 159 y_R_atomBegins ∈ tb := tbm 582 (by decide +kernel) (by decide +kernel)
theorem ki_R_atomBegins : Cond.instanceMethod y_R_atomBegins ∈ tb := tbm 584 (by decide +kernel) (by decide +kernel)
theorem kk_R_atomBegins : Cond.code y_R_atomBegins b_R_atomBegins 1 (Option.some Jvm.ClassFile.FieldType.boolean) ∈ tb := tbm 585 (by decide +kernel) (by decide +kernel)
theorem km_R_136 : Cond.methodLink "ProofReader$Parser" 136 y_R_arrow ∈ tb := tbm 586 (by decide +kernel) (by decide +kernel)
theorem ki_R_arrow : Cond.instanceMethod y_R_arrow ∈ tb := tbm 588 (by decide +kernel) (by decide +kernel)
theorem kk_R_arrow : Cond.code y_R_arrow b_R_arrow 2 (Option.some Jvm.ClassFile.FieldType.boolean) ∈ tb := tbm 589 (by decide +kernel) (by decide +kernel)
theorem km_R_149 : Cond.methodLink "ProofReader$Parser" 149 y_C_makeRoom ∈ tb := tbm 590 (by decide +kernel) (by decide +kernel)
theorem ki_C_makeRoom : Cond.instanceMethod y_C_makeRoom ∈ tb := tbm 591 (by decide +kernel) (by decide +kernel)
theorem kv_C_makeRoom : Cond.selects "ProofReader$Code" y_C_makeRoom y_C_makeRoom ∈ tb := tbm 592 (by decide +kernel) (by decide +kernel)
theorem kk_C_makeRoom : Cond.code y_C_makeRoom b_C_makeRoom 3 (Option.none : Option Jvm.ClassFile.FieldType) ∈ tb := tbm 593 (by decide +kernel) (by decide +kernel)
theorem km_C_37 : Cond.methodLink "ProofReader$Code" 37 y_C_move ∈ tb := tbm 594 (by decide +kernel) (by decide +kernel)
theorem ki_C_move : Cond.instanceMethod y_C_move ∈ tb := tbm 595 (by decide +kernel) (by decide +kernel)
theorem kv_C_move : Cond.selects "ProofReader$Code" y_C_move y_C_move ∈ tb := tbm 596 (by decide +kernel) (by decide +kernel)
theorem kk_C_move : Cond.code y_C_move b_C_move 4 (Option.none : Option Jvm.ClassFile.FieldType) ∈ tb := tbm 597 (by decide +kernel) (by decide +kernel)
theorem km_C_31 : Cond.methodLink "ProofReader$Code" 31 ⟨"java/lang/System", "arraycopy", "(Ljava/lang/Object;ILjava/lang/Object;II)V"⟩ ∈ tb := tbm 598 (by decide +kernel) (by decide +kernel)
theorem ks_arraycopy : Cond.static ⟨"java/lang/System", "arraycopy", "(Ljava/lang/Object;ILjava/lang/Object;II)V"⟩ ∈ tb := tbm 599 (by decide +kernel) (by decide +kernel)
theorem km_X_109 : Cond.methodLink "ProofReader" 109 y_X_settle ∈ tb := tbm 601 (by decide +kernel) (by decide +kernel)
theorem ki_X_settle : Cond.instanceMethod y_X_settle ∈ tb := tbm 603 (by decide +kernel) (by decide +kernel)
theorem kk_X_settle : Cond.code y_X_settle b_X_settle 1 (Option.some Jvm.ClassFile.FieldType.boolean) ∈ tb := tbm 604 (by decide +kernel) (by decide +kernel)
theorem km_X_175 : Cond.methodLink "ProofReader" 175 y_H_question ∈ tb := tbm 605 (by decide +kernel) (by decide +kernel)
theorem ki_H_question : Cond.instanceMethod y_H_question ∈ tb := tbm 606 (by decide +kernel) (by decide +kernel)
theorem kv_H_question : Cond.selects "ProofReader$Checker" y_H_question y_H_question ∈ tb := tbm 607 (by decide +kernel) (by decide +kernel)
theorem kk_H_question : Cond.code y_H_question b_H_question 2 (Option.some Jvm.ClassFile.FieldType.boolean) ∈ tb := tbm 608 (by decide +kernel) (by decide +kernel)
theorem km_H_87 : Cond.methodLink "ProofReader$Checker" 87 y_H_isObjectHead ∈ tb := tbm 609 (by decide +kernel) (by decide +kernel)
theorem ki_H_isObjectHead : Cond.instanceMethod y_H_isObjectHead ∈ tb := tbm 611 (by decide +kernel) (by decide +kernel)
theorem kk_H_isObjectHead : Cond.code y_H_isObjectHead b_H_isObjectHead 2 (Option.some Jvm.ClassFile.FieldType.boolean) ∈ tb := tbm 612 (by decide +kernel) (by decide +kernel)
theorem km_H_72 : Cond.methodLink "ProofReader$Checker" 72 y_K_isFamily ∈ tb := tbm 613 (by decide +kernel) (by decide +kernel)
theorem ki_K_isFamily : Cond.instanceMethod y_K_isFamily ∈ tb := tbm 614 (by decide +kernel) (by decide +kernel)
theorem kv_K_isFamily : Cond.selects "ProofReader$Constants" y_K_isFamily y_K_isFamily ∈ tb := tbm 615 (by decide +kernel) (by decide +kernel)
theorem kk_K_isFamily : Cond.code y_K_isFamily b_K_isFamily 2 (Option.some Jvm.ClassFile.FieldType.boolean) ∈ tb := tbm 616 (by decide +kernel) (by decide +kernel)
theorem km_H_54 : Cond.methodLink "ProofReader$Checker" 54 y_H_wrong ∈ tb := tbm 617 (by decide +kernel) (by decide +kernel)
theorem ki_H_wrong : Cond.instanceMethod y_H_wrong ∈ tb := tbm 619 (by decide +kernel) (by decide +kernel)
theorem kk_H_wrong : Cond.code y_H_wrong b_H_wrong 3 (Option.some Jvm.ClassFile.FieldType.boolean) ∈ tb := tbm 620 (by decide +kernel) (by decide +kernel)
theorem km_H_45 : Cond.methodLink "ProofReader$Checker" 45 y_F_met ∈ tb := tbm 621 (by decide +kernel) (by decide +kernel)
theorem km_H_90 : Cond.methodLink "ProofReader$Checker" 90 y_H_headType ∈ tb := tbm 622 (by decide +kernel) (by decide +kernel)
theorem ki_H_headType : Cond.instanceMethod y_H_headType ∈ tb := tbm 624 (by decide +kernel) (by decide +kernel)
theorem kk_H_headType : Cond.code y_H_headType b_H_headType 3 (Option.some Jvm.ClassFile.FieldType.int) ∈ tb := tbm 625 (by decide +kernel) (by decide +kernel)
theorem km_H_80 : Cond.methodLink "ProofReader$Checker" 80 y_C_lift ∈ tb := tbm 626 (by decide +kernel) (by decide +kernel)
theorem ki_C_lift : Cond.instanceMethod y_C_lift ∈ tb := tbm 627 (by decide +kernel) (by decide +kernel)
theorem kv_C_lift : Cond.selects "ProofReader$Code" y_C_lift y_C_lift ∈ tb := tbm 628 (by decide +kernel) (by decide +kernel)
theorem kk_C_lift : Cond.code y_C_lift b_C_lift 8 (Option.none : Option Jvm.ClassFile.FieldType) ∈ tb := tbm 629 (by decide +kernel) (by decide +kernel)
theorem km_H_84 : Cond.methodLink "ProofReader$Checker" 84 y_H_fit ∈ tb := tbm 630 (by decide +kernel) (by decide +kernel)
theorem ki_H_fit : Cond.instanceMethod y_H_fit ∈ tb := tbm 632 (by decide +kernel) (by decide +kernel)
theorem kk_H_fit : Cond.code y_H_fit b_H_fit 5 (Option.some Jvm.ClassFile.FieldType.boolean) ∈ tb := tbm 633 (by decide +kernel) (by decide +kernel)
theorem km_H_97 : Cond.methodLink "ProofReader$Checker" 97 y_H_object ∈ tb := tbm 634 (by decide +kernel) (by decide +kernel)
theorem ki_H_object : Cond.instanceMethod y_H_object ∈ tb := tbm 636 (by decide +kernel) (by decide +kernel)
theorem kk_H_object : Cond.code y_H_object b_H_object 4 (Option.some Jvm.ClassFile.FieldType.boolean) ∈ tb := tbm 637 (by decide +kernel) (by decide +kernel)
theorem km_H_93 : Cond.methodLink "ProofReader$Checker" 93 y_H_application ∈ tb := tbm 638 (by decide +kernel) (by decide +kernel)
theorem ki_H_application : Cond.instanceMethod y_H_application ∈ tb := tbm 640 (by decide +kernel) (by decide +kernel)
theorem kk_H_application : Cond.code y_H_application b_H_application 4 (Option.some Jvm.ClassFile.FieldType.boolean) ∈ tb := tbm 641 (by decide +kernel) (by decide +kernel)
theorem km_H_100 : Cond.methodLink "ProofReader$Checker" 100 y_C_same ∈ tb := tbm 642 (by decide +kernel) (by decide +kernel)
theorem ki_C_same : Cond.instanceMethod y_C_same ∈ tb := tbm 643 (by decide +kernel) (by decide +kernel)
theorem kv_C_same : Cond.selects "ProofReader$Code" y_C_same y_C_same ∈ tb := tbm 644 (by decide +kernel) (by decide +kernel)
theorem kk_C_same : Cond.code y_C_same b_C_same 4 (Option.some Jvm.ClassFile.FieldType.boolean) ∈ tb := tbm 645 (by decide +kernel) (by decide +kernel)
theorem km_H_64 : Cond.methodLink "ProofReader$Checker" 64 y_C_second ∈ tb := tbm 646 (by decide +kernel) (by decide +kernel)
theorem ki_C_second : Cond.instanceMethod y_C_second ∈ tb := tbm 647 (by decide +kernel) (by decide +kernel)
theorem kv_C_second : Cond.selects "ProofReader$Code" y_C_second y_C_second ∈ tb := tbm 648 (by decide +kernel) (by decide +kernel)
theorem kk_C_second : Cond.code y_C_second b_C_second 2 (Option.some Jvm.ClassFile.FieldType.int) ∈ tb := tbm 649 (by decide +kernel) (by decide +kernel)
theorem km_H_109 : Cond.methodLink "ProofReader$Checker" 109 y_U_put ∈ tb := tbm 650 (by decide +kernel) (by decide +kernel)
theorem ki_U_put : Cond.instanceMethod y_U_put ∈ tb := tbm 651 (by decide +kernel) (by decide +kernel)
theorem kv_U_put : Cond.selects "ProofReader$Putter" y_U_put y_U_put ∈ tb := tbm 652 (by decide +kernel) (by decide +kernel)
theorem kk_U_put : Cond.code y_U_put b_U_put 4 (Option.some Jvm.ClassFile.FieldType.boolean) ∈ tb := tbm 653 (by decide +kernel) (by decide +kernel)
theorem km_U_55 : Cond.methodLink "ProofReader$Putter" 55 y_C_second ∈ tb := tbm 654 (by decide +kernel) (by decide +kernel)
theorem km_U_59 : Cond.methodLink "ProofReader$Putter" 59 y_U_push ∈ tb := tbm 655 (by decide +kernel) (by decide +kernel)
theorem ki_U_push : Cond.instanceMethod y_U_push ∈ tb := tbm 657 (by decide +kernel) (by decide +kernel)
theorem kk_U_push : Cond.code y_U_push b_U_push 3 (Option.none : Option Jvm.ClassFile.FieldType) ∈ tb := tbm 658 (by decide +kernel) (by decide +kernel)
theorem kq_U_63 : Cond.constant "ProofReader$Putter" 63 1000000 ∈ tb := tbm 659 (by decide +kernel) (by decide +kernel)
theorem km_U_64 : Cond.methodLink "ProofReader$Putter" 64 y_U_step ∈ tb := tbm 660 (by decide +kernel) (by decide +kernel)
theorem ki_U_step : Cond.instanceMethod y_U_step ∈ tb := tbm 662 (by decide +kernel) (by decide +kernel)
theorem kk_U_step : Cond.code y_U_step b_U_step 7 (Option.some Jvm.ClassFile.FieldType.boolean) ∈ tb := tbm 663 (by decide +kernel) (by decide +kernel)
theorem km_U_78 : Cond.methodLink "ProofReader$Putter" 78 y_U_shiftOf ∈ tb := tbm 664 (by decide +kernel) (by decide +kernel)
theorem ki_U_shiftOf : Cond.instanceMethod y_U_shiftOf ∈ tb := tbm 666 (by decide +kernel) (by decide +kernel)
theorem kk_U_shiftOf : Cond.code y_U_shiftOf b_U_shiftOf 3 (Option.some Jvm.ClassFile.FieldType.int) ∈ tb := tbm 667 (by decide +kernel) (by decide +kernel)
theorem km_U_84 : Cond.methodLink "ProofReader$Putter" 84 y_C_write ∈ tb := tbm 668 (by decide +kernel) (by decide +kernel)
theorem km_U_88 : Cond.methodLink "ProofReader$Putter" 88 y_C_argument ∈ tb := tbm 669 (by decide +kernel) (by decide +kernel)
theorem ki_C_argument : Cond.instanceMethod y_C_argument ∈ tb := tbm 670 (by decide +kernel) (by decide +kernel)
theorem kv_C_argument : Cond.selects "ProofReader$Code" y_C_argument y_C_argument ∈ tb := tbm 671 (by decide +kernel) (by decide +kernel)
theorem kk_C_argument : Cond.code y_C_argument b_C_argument 5 (Option.some Jvm.ClassFile.FieldType.int) ∈ tb := tbm 672 (by decide +kernel) (by decide +kernel)
theorem km_U_68 : Cond.methodLink "ProofReader$Putter" 68 y_C_measure ∈ tb := tbm 673 (by decide +kernel) (by decide +kernel)
theorem ki_C_measure : Cond.instanceMethod y_C_measure ∈ tb := tbm 674 (by decide +kernel) (by decide +kernel)
theorem kv_C_measure : Cond.selects "ProofReader$Code" y_C_measure y_C_measure ∈ tb := tbm 675 (by decide +kernel) (by decide +kernel)
theorem kk_C_measure : Cond.code y_C_measure b_C_measure 4 (Option.none : Option Jvm.ClassFile.FieldType) ∈ tb := tbm 676 (by decide +kernel) (by decide +kernel)
theorem km_C_27 : Cond.methodLink "ProofReader$Code" 27 y_C_argument ∈ tb := tbm 677 (by decide +kernel) (by decide +kernel)
theorem km_U_71 : Cond.methodLink "ProofReader$Putter" 71 y_C_move ∈ tb := tbm 678 (by decide +kernel) (by decide +kernel)
theorem km_X_177 : Cond.methodLink "ProofReader" 177 y_I_print ∈ tb := tbm 679 (by decide +kernel) (by decide +kernel)
theorem ki_I_print : Cond.instanceMethod y_I_print ∈ tb := tbm 680 (by decide +kernel) (by decide +kernel)
theorem kv_I_print : Cond.selects "ProofReader$Printer" y_I_print y_I_print ∈ tb := tbm 681 (by decide +kernel) (by decide +kernel)
theorem kk_I_print : Cond.code y_I_print b_I_print 5 (Option.some Jvm.ClassFile.FieldType.boolean) ∈ tb := tbm 682 (by decide +kernel) (by decide +kernel)
theorem km_I_55 : Cond.methodLink "ProofReader$Printer" 55 y_I_close ∈ tb := tbm 683 (by decide +kernel) (by decide +kernel)
theorem ki_I_close : Cond.instanceMethod y_I_close ∈ tb := tbm 685 (by decide +kernel) (by decide +kernel)
theorem kk_I_close : Cond.code y_I_close b_I_close 2 (Option.none : Option Jvm.ClassFile.FieldType) ∈ tb := tbm 686 (by decide +kernel) (by decide +kernel)
theorem km_I_65 : Cond.methodLink "ProofReader$Printer" 65 y_P_add ∈ tb := tbm 687 (by decide +kernel) (by decide +kernel)
theorem ki_P_add : Cond.instanceMethod y_P_add ∈ tb := tbm 688 (by decide +kernel) (by decide +kernel)
theorem kv_P_add : Cond.selects "ProofReader$Paper" y_P_add y_P_add ∈ tb := tbm 689 (by decide +kernel) (by decide +kernel)
theorem kk_P_add : Cond.code y_P_add b_P_add 2 (Option.none : Option Jvm.ClassFile.FieldType) ∈ tb := tbm 690 (by decide +kernel) (by decide +kernel)
theorem km_I_59 : Cond.methodLink "ProofReader$Printer" 59 y_I_markParts ∈ tb := tbm 691 (by decide +kernel) (by decide +kernel)
theorem ki_I_markParts : Cond.instanceMethod y_I_markParts ∈ tb := tbm 693 (by decide +kernel) (by decide +kernel)
theorem kk_I_markParts : Cond.code y_I_markParts b_I_markParts 4 (Option.none : Option Jvm.ClassFile.FieldType) ∈ tb := tbm 694 (by decide +kernel) (by decide +kernel)
theorem km_I_62 : Cond.methodLink "ProofReader$Printer" 62 y_I_node ∈ tb := tbm 695 (by decide +kernel) (by decide +kernel)
theorem ki_I_node : Cond.instanceMethod y_I_node ∈ tb := tbm 697 (by decide +kernel) (by decide +kernel)
theorem kk_I_node : Cond.code y_I_node b_I_node 2 (Option.none : Option Jvm.ClassFile.FieldType) ∈ tb := tbm 698 (by decide +kernel) (by decide +kernel)
theorem km_I_74 : Cond.methodLink "ProofReader$Printer" 74 y_I_closeLater ∈ tb := tbm 699 (by decide +kernel) (by decide +kernel)
theorem ki_I_closeLater : Cond.instanceMethod y_I_closeLater ∈ tb := tbm 701 (by decide +kernel) (by decide +kernel)
theorem kk_I_closeLater : Cond.code y_I_closeLater b_I_closeLater 3 (Option.none : Option Jvm.ClassFile.FieldType) ∈ tb := tbm 702 (by decide +kernel) (by decide +kernel)
theorem km_I_80 : Cond.methodLink "ProofReader$Printer" 80 y_I_word ∈ tb := tbm 704 (by decide +kernel) (by decide +kernel)
theorem ki_I_word : Cond.instanceMethod y_I_word ∈ tb := tbm 706 (by decide +kernel) (by decide +kernel)
theorem kk_I_word : Cond.code y_I_word b_I_word 3 (Option.none : Option Jvm.ClassFile.FieldType) ∈ tb := tbm 707 (by decide +kernel) (by decide +kernel)
theorem km_I_109 : Cond.methodLink "ProofReader$Printer" 109 ⟨"java/lang/String", "length", "()I"⟩ ∈ tb := tbm 708 (by decide +kernel) (by decide +kernel)
theorem km_I_114 : Cond.methodLink "ProofReader$Printer" 114 ⟨"java/lang/String", "charAt", "(I)C"⟩ ∈ tb := tbm 718 (by decide +kernel) (by decide +kernel)
theorem km_I_87 : Cond.methodLink "ProofReader$Printer" 87 y_I_variable ∈ tb := tbm 756 (by decide +kernel) (by decide +kernel)
theorem ki_I_variable : Cond.instanceMethod y_I_variable ∈ tb := tbm 758 (by decide +kernel) (by decide +kernel)
theorem kk_I_variable : Cond.code y_I_variable b_I_variable 2 (Option.none : Option Jvm.ClassFile.FieldType) ∈ tb := tbm 759 (by decide +kernel) (by decide +kernel)
theorem km_I_90 : Cond.methodLink "ProofReader$Printer" 90 y_C_second ∈ tb := tbm 760 (by decide +kernel) (by decide +kernel)
theorem km_I_94 : Cond.methodLink "ProofReader$Printer" 94 y_I_head ∈ tb := tbm 761 (by decide +kernel) (by decide +kernel)
theorem ki_I_head : Cond.instanceMethod y_I_head ∈ tb := tbm 763 (by decide +kernel) (by decide +kernel)
theorem kk_I_head : Cond.code y_I_head b_I_head 2 (Option.none : Option Jvm.ClassFile.FieldType) ∈ tb := tbm 764 (by decide +kernel) (by decide +kernel)
theorem km_I_102 : Cond.methodLink "ProofReader$Printer" 102 y_I_bytesOf ∈ tb := tbm 765 (by decide +kernel) (by decide +kernel)
theorem ki_I_bytesOf : Cond.instanceMethod y_I_bytesOf ∈ tb := tbm 767 (by decide +kernel) (by decide +kernel)
theorem kk_I_bytesOf : Cond.code y_I_bytesOf b_I_bytesOf 4 (Option.none : Option Jvm.ClassFile.FieldType) ∈ tb := tbm 768 (by decide +kernel) (by decide +kernel)
theorem km_X_183 : Cond.methodLink "ProofReader" 183 y_F_met ∈ tb := tbm 769 (by decide +kernel) (by decide +kernel)
theorem ki_H_type : Cond.instanceMethod y_H_type ∈ tb := tbm 772 (by decide +kernel) (by decide +kernel)
theorem kk_H_type : Cond.code y_H_type b_H_type 4 (Option.some Jvm.ClassFile.FieldType.boolean) ∈ tb := tbm 773 (by decide +kernel) (by decide +kernel)
theorem km_H_57 : Cond.methodLink "ProofReader$Checker" 57 y_H_type ∈ tb := tbm 774 (by decide +kernel) (by decide +kernel)
theorem km_H_68 : Cond.methodLink "ProofReader$Checker" 68 y_H_familyApplication ∈ tb := tbm 775 (by decide +kernel) (by decide +kernel)
theorem ki_H_familyApplication : Cond.instanceMethod y_H_familyApplication ∈ tb := tbm 777 (by decide +kernel) (by decide +kernel)
theorem kk_H_familyApplication : Cond.code y_H_familyApplication b_H_familyApplication 3 (Option.some Jvm.ClassFile.FieldType.boolean) ∈ tb := tbm 778 (by decide +kernel) (by decide +kernel)
theorem km_X_207 : Cond.methodLink "ProofReader" 207 y_K_tell ∈ tb := tbm 780 (by decide +kernel) (by decide +kernel)
theorem ki_K_tell : Cond.instanceMethod y_K_tell ∈ tb := tbm 781 (by decide +kernel) (by decide +kernel)
theorem kv_K_tell : Cond.selects "ProofReader$Constants" y_K_tell y_K_tell ∈ tb := tbm 782 (by decide +kernel) (by decide +kernel)
theorem kk_K_tell : Cond.code y_K_tell b_K_tell 6 (Option.none : Option Jvm.ClassFile.FieldType) ∈ tb := tbm 783 (by decide +kernel) (by decide +kernel)
theorem km_K_42 : Cond.methodLink "ProofReader$Constants" 42 y_K_isFull ∈ tb := tbm 784 (by decide +kernel) (by decide +kernel)
theorem km_K_49 : Cond.methodLink "ProofReader$Constants" 49 y_C_ending ∈ tb := tbm 785 (by decide +kernel) (by decide +kernel)
theorem ki_C_ending : Cond.instanceMethod y_C_ending ∈ tb := tbm 786 (by decide +kernel) (by decide +kernel)
theorem kv_C_ending : Cond.selects "ProofReader$Code" y_C_ending y_C_ending ∈ tb := tbm 787 (by decide +kernel) (by decide +kernel)
theorem kk_C_ending : Cond.code y_C_ending b_C_ending 4 (Option.some Jvm.ClassFile.FieldType.int) ∈ tb := tbm 788 (by decide +kernel) (by decide +kernel)
theorem km_C_41 : Cond.methodLink "ProofReader$Code" 41 y_C_second ∈ tb := tbm 789 (by decide +kernel) (by decide +kernel)
theorem km_X_112 : Cond.methodLink "ProofReader" 112 y_T_drop ∈ tb := tbm 790 (by decide +kernel) (by decide +kernel)
theorem ki_T_drop : Cond.instanceMethod y_T_drop ∈ tb := tbm 791 (by decide +kernel) (by decide +kernel)
theorem kv_T_drop : Cond.selects "ProofReader$Tokens" y_T_drop y_T_drop ∈ tb := tbm 792 (by decide +kernel) (by decide +kernel)
theorem kk_T_drop : Cond.code y_T_drop b_T_drop 1 (Option.none : Option Jvm.ClassFile.FieldType) ∈ tb := tbm 793 (by decide +kernel) (by decide +kernel)
theorem km_L_41 : Cond.methodLink "ProofReaderLaw" 41 y_X_fault ∈ tb := tbm 794 (by decide +kernel) (by decide +kernel)
theorem ki_X_fault : Cond.instanceMethod y_X_fault ∈ tb := tbm 795 (by decide +kernel) (by decide +kernel)
theorem kv_X_fault : Cond.selects "ProofReader" y_X_fault y_X_fault ∈ tb := tbm 796 (by decide +kernel) (by decide +kernel)
theorem kk_X_fault : Cond.code y_X_fault b_X_fault 1 (Option.some Jvm.ClassFile.FieldType.int) ∈ tb := tbm 797 (by decide +kernel) (by decide +kernel)
theorem km_L_45 : Cond.methodLink "ProofReaderLaw" 45 y_X_place ∈ tb := tbm 798 (by decide +kernel) (by decide +kernel)
theorem ki_X_place : Cond.instanceMethod y_X_place ∈ tb := tbm 799 (by decide +kernel) (by decide +kernel)
theorem kv_X_place : Cond.selects "ProofReader" y_X_place y_X_place ∈ tb := tbm 800 (by decide +kernel) (by decide +kernel)
theorem kk_X_place : Cond.code y_X_place b_X_place 1 (Option.some Jvm.ClassFile.FieldType.int) ∈ tb := tbm 801 (by decide +kernel) (by decide +kernel)
theorem km_L_49 : Cond.methodLink "ProofReaderLaw" 49 y_X_clear ∈ tb := tbm 802 (by decide +kernel) (by decide +kernel)
theorem ki_X_clear : Cond.instanceMethod y_X_clear ∈ tb := tbm 803 (by decide +kernel) (by decide +kernel)
theorem kv_X_clear : Cond.selects "ProofReader" y_X_clear y_X_clear ∈ tb := tbm 804 (by decide +kernel) (by decide +kernel)
theorem kk_X_clear : Cond.code y_X_clear b_X_clear 2 (Option.some Jvm.ClassFile.FieldType.int) ∈ tb := tbm 805 (by decide +kernel) (by decide +kernel)
theorem km_X_124 : Cond.methodLink "ProofReader" 124 y_K_forget ∈ tb := tbm 806 (by decide +kernel) (by decide +kernel)
theorem ki_K_forget : Cond.instanceMethod y_K_forget ∈ tb := tbm 807 (by decide +kernel) (by decide +kernel)
theorem kv_K_forget : Cond.selects "ProofReader$Constants" y_K_forget y_K_forget ∈ tb := tbm 808 (by decide +kernel) (by decide +kernel)
theorem kk_K_forget : Cond.code y_K_forget b_K_forget 1 (Option.none : Option Jvm.ClassFile.FieldType) ∈ tb := tbm 809 (by decide +kernel) (by decide +kernel)
theorem km_L_53 : Cond.methodLink "ProofReaderLaw" 53 y_X_constants ∈ tb := tbm 810 (by decide +kernel) (by decide +kernel)
theorem ki_X_constants : Cond.instanceMethod y_X_constants ∈ tb := tbm 811 (by decide +kernel) (by decide +kernel)
theorem kv_X_constants : Cond.selects "ProofReader" y_X_constants y_X_constants ∈ tb := tbm 812 (by decide +kernel) (by decide +kernel)
theorem kk_X_constants : Cond.code y_X_constants b_X_constants 1 (Option.some Jvm.ClassFile.FieldType.int) ∈ tb := tbm 813 (by decide +kernel) (by decide +kernel)
theorem km_L_61 : Cond.methodLink "ProofReaderLaw" 61 y_X_printed ∈ tb := tbm 814 (by decide +kernel) (by decide +kernel)
theorem ki_X_printed : Cond.instanceMethod y_X_printed ∈ tb := tbm 815 (by decide +kernel) (by decide +kernel)
theorem kv_X_printed : Cond.selects "ProofReader" y_X_printed y_X_printed ∈ tb := tbm 816 (by decide +kernel) (by decide +kernel)
theorem kk_X_printed : Cond.code y_X_printed b_X_printed 1 (Option.some Jvm.ClassFile.FieldType.int) ∈ tb := tbm 817 (by decide +kernel) (by decide +kernel)
theorem km_L_65 : Cond.methodLink "ProofReaderLaw" 65 y_X_paper ∈ tb := tbm 818 (by decide +kernel) (by decide +kernel)
theorem ki_X_paper : Cond.instanceMethod y_X_paper ∈ tb := tbm 819 (by decide +kernel) (by decide +kernel)
theorem kv_X_paper : Cond.selects "ProofReader" y_X_paper y_X_paper ∈ tb := tbm 820 (by decide +kernel) (by decide +kernel)
theorem kk_X_paper : Cond.code y_X_paper b_X_paper 5 (Option.some Jvm.ClassFile.FieldType.long) ∈ tb := tbm 821 (by decide +kernel) (by decide +kernel)
theorem km_X_158 : Cond.methodLink "ProofReader" 158 y_P_at ∈ tb := tbm 822 (by decide +kernel) (by decide +kernel)
theorem ki_P_at : Cond.instanceMethod y_P_at ∈ tb := tbm 823 (by decide +kernel) (by decide +kernel)
theorem kv_P_at : Cond.selects "ProofReader$Paper" y_P_at y_P_at ∈ tb := tbm 824 (by decide +kernel) (by decide +kernel)
theorem kk_P_at : Cond.code y_P_at b_P_at 3 (Option.some Jvm.ClassFile.FieldType.long) ∈ tb := tbm 825 (by decide +kernel) (by decide +kernel)
theorem km_L_70 : Cond.methodLink "ProofReaderLaw" 70 y_X_wipe ∈ tb := tbm 826 (by decide +kernel) (by decide +kernel)
theorem ki_X_wipe : Cond.instanceMethod y_X_wipe ∈ tb := tbm 827 (by decide +kernel) (by decide +kernel)
theorem kv_X_wipe : Cond.selects "ProofReader" y_X_wipe y_X_wipe ∈ tb := tbm 828 (by decide +kernel) (by decide +kernel)
theorem kk_X_wipe : Cond.code y_X_wipe b_X_wipe 2 (Option.some Jvm.ClassFile.FieldType.int) ∈ tb := tbm 829 (by decide +kernel) (by decide +kernel)
theorem km_L_27 : Cond.methodLink "ProofReaderLaw" 27 y_L_feed ∈ tb := tbm 830 (by decide +kernel) (by decide +kernel)
theorem ks_L_feed : Cond.static y_L_feed ∈ tb := tbm 831 (by decide +kernel) (by decide +kernel)
theorem kc_L_13 : Cond.classLink "ProofReaderLaw" 13 "java/lang/IllegalArgumentException" ∈ tb := tbm 833 (by decide +kernel) (by decide +kernel)
theorem km_L_7 : Cond.methodLink "ProofReaderLaw" 7 y_X_feed ∈ tb := tbm 834 (by decide +kernel) (by decide +kernel)
theorem ki_X_feed : Cond.instanceMethod y_X_feed ∈ tb := tbm 835 (by decide +kernel) (by decide +kernel)
theorem kv_X_feed : Cond.selects "ProofReader" y_X_feed y_X_feed ∈ tb := tbm 836 (by decide +kernel) (by decide +kernel)
theorem kk_X_feed : Cond.code y_X_feed b_X_feed 5 (Option.some Jvm.ClassFile.FieldType.int) ∈ tb := tbm 837 (by decide +kernel) (by decide +kernel)
theorem kc_X_79 : Cond.classLink "ProofReader" 79 "java/lang/IllegalArgumentException" ∈ tb := tbm 838 (by decide +kernel) (by decide +kernel)
theorem kn_IllegalArgumentException : Cond.instantiable "java/lang/IllegalArgumentException" 6 ∈ tb := tbm 839 (by decide +kernel) (by decide +kernel)
theorem kn_Throwable : Cond.instantiable "java/lang/Throwable" 6 ∈ tb := tbm 876 (by decide +kernel) (by decide +kernel)
theorem km_X_83 : Cond.methodLink "ProofReader" 83 ⟨"java/lang/IllegalArgumentException", "<init>", "(Ljava/lang/String;)V"⟩ ∈ tb := tbm 879 (by decide +kernel) (by decide +kernel)
theorem km_X_86 : Cond.methodLink "ProofReader" 86 y_T_append ∈ tb := tbm 904 (by decide +kernel) (by decide +kernel)
theorem ki_T_append : Cond.instanceMethod y_T_append ∈ tb := tbm 905 (by decide +kernel) (by decide +kernel)
theorem kv_T_append : Cond.selects "ProofReader$Tokens" y_T_append y_T_append ∈ tb := tbm 906 (by decide +kernel) (by decide +kernel)
theorem kk_T_append : Cond.code y_T_append b_T_append 2 (Option.none : Option Jvm.ClassFile.FieldType) ∈ tb := tbm 907 (by decide +kernel) (by decide +kernel)
theorem km_L_57 : Cond.methodLink "ProofReaderLaw" 57 y_L_constant ∈ tb := tbm 908 (by decide +kernel) (by decide +kernel)
theorem ks_L_constant : Cond.static y_L_constant ∈ tb := tbm 909 (by decide +kernel) (by decide +kernel)
theorem kc_L_19 : Cond.classLink "ProofReaderLaw" 19 "java/lang/IndexOutOfBoundsException" ∈ tb := tbm 911 (by decide +kernel) (by decide +kernel)
theorem km_L_15 : Cond.methodLink "ProofReaderLaw" 15 y_X_constant ∈ tb := tbm 912 (by decide +kernel) (by decide +kernel)
theorem ki_X_constant : Cond.instanceMethod y_X_constant ∈ tb := tbm 913 (by decide +kernel) (by decide +kernel)
theorem kv_X_constant : Cond.selects "ProofReader" y_X_constant y_X_constant ∈ tb := tbm 914 (by decide +kernel) (by decide +kernel)
theorem kk_X_constant : Cond.code y_X_constant b_X_constant 3 (Option.some Jvm.ClassFile.FieldType.int) ∈ tb := tbm 915 (by decide +kernel) (by decide +kernel)
theorem kc_X_128 : Cond.classLink "ProofReader" 128 "java/lang/IndexOutOfBoundsException" ∈ tb := tbm 917 (by decide +kernel) (by decide +kernel)
theorem kn_IndexOutOfBoundsException : Cond.instantiable "java/lang/IndexOutOfBoundsException" 6 ∈ tb := tbm 918 (by decide +kernel) (by decide +kernel)
theorem km_X_132 : Cond.methodLink "ProofReader" 132 ⟨"java/lang/IndexOutOfBoundsException", "<init>", "(Ljava/lang/String;)V"⟩ ∈ tb := tbm 927 (by decide +kernel) (by decide +kernel)
theorem km_X_133 : Cond.methodLink "ProofReader" 133 y_K_isFamily ∈ tb := tbm 933 (by decide +kernel) (by decide +kernel)
theorem km_X_141 : Cond.methodLink "ProofReader" 141 y_C_products ∈ tb := tbm 934 (by decide +kernel) (by decide +kernel)
theorem ki_C_products : Cond.instanceMethod y_C_products ∈ tb := tbm 935 (by decide +kernel) (by decide +kernel)
theorem kv_C_products : Cond.selects "ProofReader$Code" y_C_products y_C_products ∈ tb := tbm 936 (by decide +kernel) (by decide +kernel)
theorem kk_C_products : Cond.code y_C_products b_C_products 4 (Option.some Jvm.ClassFile.FieldType.int) ∈ tb := tbm 937 (by decide +kernel) (by decide +kernel)
theorem km_X_148 : Cond.methodLink "ProofReader" 148 y_C_order ∈ tb := tbm 938 (by decide +kernel) (by decide +kernel)
theorem ki_C_order : Cond.instanceMethod y_C_order ∈ tb := tbm 939 (by decide +kernel) (by decide +kernel)
theorem kv_C_order : Cond.selects "ProofReader$Code" y_C_order y_C_order ∈ tb := tbm 940 (by decide +kernel) (by decide +kernel)
theorem kk_C_order : Cond.code y_C_order b_C_order 5 (Option.some Jvm.ClassFile.FieldType.int) ∈ tb := tbm 941 (by decide +kernel) (by decide +kernel)
theorem km_C_45 : Cond.methodLink "ProofReader$Code" 45 ⟨"java/lang/Math", "max", "(II)I"⟩ ∈ tb := tbm 942 (by decide +kernel) (by decide +kernel)
theorem ks_max : Cond.static ⟨"java/lang/Math", "max", "(II)I"⟩ ∈ tb := tbm 943 (by decide +kernel) (by decide +kernel)
theorem kc_L_22 : Cond.classLink "ProofReaderLaw" 22 "ProofReaderModel" ∈ tb := tbm 945 (by decide +kernel) (by decide +kernel)
theorem kn_M : Cond.instantiable "ProofReaderModel" 61 ∈ tb := tbm 946 (by decide +kernel) (by decide +kernel)
end
section
theorem km_L_24 : Cond.methodLink "ProofReaderLaw" 24 y_M_init ∈ tb := tbm 947 (by decide +kernel) (by decide +kernel)
theorem ki_M_init : Cond.instanceMethod y_M_init ∈ tb := tbm 948 (by decide +kernel) (by decide +kernel)
theorem kk_M_init : Cond.code y_M_init b_M_init 1 (Option.none : Option Jvm.ClassFile.FieldType) ∈ tb := tbm 949 (by decide +kernel) (by decide +kernel)
theorem km_M_1 : Cond.methodLink "ProofReaderModel" 1 objectInit ∈ tb := tbm 950 (by decide +kernel) (by decide +kernel)
theorem kq_M_27 : Cond.constant "ProofReaderModel" 27 43680 ∈ tb := tbm 951 (by decide +kernel) (by decide +kernel)
theorem kq_M_73 : Cond.constant "ProofReaderModel" 73 140000 ∈ tb := tbm 952 (by decide +kernel) (by decide +kernel)
theorem kf_M_104 : Cond.fieldLink "ProofReaderModel" 104 "ProofReaderModel" "thrown" "I" ∈ tb := tbm 953 (by decide +kernel) (by decide +kernel)
theorem kf_M_7 : Cond.fieldLink "ProofReaderModel" 7 "ProofReaderModel" "text" "[I" ∈ tb := tbm 954 (by decide +kernel) (by decide +kernel)
theorem kf_M_117 : Cond.fieldLink "ProofReaderModel" 117 "ProofReaderModel" "length" "I" ∈ tb := tbm 955 (by decide +kernel) (by decide +kernel)
theorem kf_M_364 : Cond.fieldLink "ProofReaderModel" 364 "ProofReaderModel" "came" "I" ∈ tb := tbm 956 (by decide +kernel) (by decide +kernel)
theorem kf_M_138 : Cond.fieldLink "ProofReaderModel" 138 "ProofReaderModel" "fault" "I" ∈ tb := tbm 957 (by decide +kernel) (by decide +kernel)
theorem kf_M_13 : Cond.fieldLink "ProofReaderModel" 13 "ProofReaderModel" "place" "I" ∈ tb := tbm 958 (by decide +kernel) (by decide +kernel)
theorem kf_M_17 : Cond.fieldLink "ProofReaderModel" 17 "ProofReaderModel" "paper" "[I" ∈ tb := tbm 959 (by decide +kernel) (by decide +kernel)
theorem kf_M_339 : Cond.fieldLink "ProofReaderModel" 339 "ProofReaderModel" "papered" "I" ∈ tb := tbm 960 (by decide +kernel) (by decide +kernel)
theorem kf_M_162 : Cond.fieldLink "ProofReaderModel" 162 "ProofReaderModel" "constants" "I" ∈ tb := tbm 961 (by decide +kernel) (by decide +kernel)
theorem kf_M_20 : Cond.fieldLink "ProofReaderModel" 20 "ProofReaderModel" "firstHalf" "[J" ∈ tb := tbm 962 (by decide +kernel) (by decide +kernel)
theorem kf_M_24 : Cond.fieldLink "ProofReaderModel" 24 "ProofReaderModel" "secondHalf" "[J" ∈ tb := tbm 963 (by decide +kernel) (by decide +kernel)
theorem kf_M_28 : Cond.fieldLink "ProofReaderModel" 28 "ProofReaderModel" "stored" "[I" ∈ tb := tbm 964 (by decide +kernel) (by decide +kernel)
theorem kf_M_31 : Cond.fieldLink "ProofReaderModel" 31 "ProofReaderModel" "proved" "[I" ∈ tb := tbm 965 (by decide +kernel) (by decide +kernel)
theorem kf_M_114 : Cond.fieldLink "ProofReaderModel" 114 "ProofReaderModel" "at" "I" ∈ tb := tbm 966 (by decide +kernel) (by decide +kernel)
theorem kf_M_126 : Cond.fieldLink "ProofReaderModel" 126 "ProofReaderModel" "token" "I" ∈ tb := tbm 967 (by decide +kernel) (by decide +kernel)
theorem kf_M_129 : Cond.fieldLink "ProofReaderModel" 129 "ProofReaderModel" "tokenAt" "I" ∈ tb := tbm 968 (by decide +kernel) (by decide +kernel)
theorem kf_M_107 : Cond.fieldLink "ProofReaderModel" 107 "ProofReaderModel" "nameFirst" "J" ∈ tb := tbm 969 (by decide +kernel) (by decide +kernel)
theorem kf_M_111 : Cond.fieldLink "ProofReaderModel" 111 "ProofReaderModel" "nameSecond" "J" ∈ tb := tbm 970 (by decide +kernel) (by decide +kernel)
theorem kf_M_34 : Cond.fieldLink "ProofReaderModel" 34 "ProofReaderModel" "written" "[I" ∈ tb := tbm 971 (by decide +kernel) (by decide +kernel)
theorem kf_M_37 : Cond.fieldLink "ProofReaderModel" 37 "ProofReaderModel" "places" "[I" ∈ tb := tbm 972 (by decide +kernel) (by decide +kernel)
theorem kf_M_152 : Cond.fieldLink "ProofReaderModel" 152 "ProofReaderModel" "end" "I" ∈ tb := tbm 973 (by decide +kernel) (by decide +kernel)
theorem kf_M_352 : Cond.fieldLink "ProofReaderModel" 352 "ProofReaderModel" "second" "I" ∈ tb := tbm 974 (by decide +kernel) (by decide +kernel)
theorem kf_M_197 : Cond.fieldLink "ProofReaderModel" 197 "ProofReaderModel" "ids" "I" ∈ tb := tbm 975 (by decide +kernel) (by decide +kernel)
theorem kf_M_165 : Cond.fieldLink "ProofReaderModel" 165 "ProofReaderModel" "nodes" "I" ∈ tb := tbm 976 (by decide +kernel) (by decide +kernel)
theorem kf_M_168 : Cond.fieldLink "ProofReaderModel" 168 "ProofReaderModel" "opens" "I" ∈ tb := tbm 977 (by decide +kernel) (by decide +kernel)
theorem kf_M_190 : Cond.fieldLink "ProofReaderModel" 190 "ProofReaderModel" "levelOpens" "I" ∈ tb := tbm 978 (by decide +kernel) (by decide +kernel)
theorem kf_M_184 : Cond.fieldLink "ProofReaderModel" 184 "ProofReaderModel" "start" "I" ∈ tb := tbm 979 (by decide +kernel) (by decide +kernel)
theorem kf_M_187 : Cond.fieldLink "ProofReaderModel" 187 "ProofReaderModel" "app" "I" ∈ tb := tbm 980 (by decide +kernel) (by decide +kernel)
theorem kf_M_193 : Cond.fieldLink "ProofReaderModel" 193 "ProofReaderModel" "behind" "Z" ∈ tb := tbm 981 (by decide +kernel) (by decide +kernel)
theorem kf_M_40 : Cond.fieldLink "ProofReaderModel" 40 "ProofReaderModel" "levelKind" "[I" ∈ tb := tbm 982 (by decide +kernel) (by decide +kernel)
theorem kf_M_43 : Cond.fieldLink "ProofReaderModel" 43 "ProofReaderModel" "levelStart" "[I" ∈ tb := tbm 983 (by decide +kernel) (by decide +kernel)
theorem kf_M_46 : Cond.fieldLink "ProofReaderModel" 46 "ProofReaderModel" "levelApp" "[I" ∈ tb := tbm 984 (by decide +kernel) (by decide +kernel)
theorem kf_M_49 : Cond.fieldLink "ProofReaderModel" 49 "ProofReaderModel" "levelHad" "[I" ∈ tb := tbm 985 (by decide +kernel) (by decide +kernel)
theorem kf_M_52 : Cond.fieldLink "ProofReaderModel" 52 "ProofReaderModel" "levelScope" "[I" ∈ tb := tbm 986 (by decide +kernel) (by decide +kernel)
theorem kf_M_55 : Cond.fieldLink "ProofReaderModel" 55 "ProofReaderModel" "levelId" "[I" ∈ tb := tbm 987 (by decide +kernel) (by decide +kernel)
theorem kf_M_58 : Cond.fieldLink "ProofReaderModel" 58 "ProofReaderModel" "levelFirst" "[J" ∈ tb := tbm 988 (by decide +kernel) (by decide +kernel)
theorem kf_M_61 : Cond.fieldLink "ProofReaderModel" 61 "ProofReaderModel" "levelSecond" "[J" ∈ tb := tbm 989 (by decide +kernel) (by decide +kernel)
theorem kf_M_181 : Cond.fieldLink "ProofReaderModel" 181 "ProofReaderModel" "level" "I" ∈ tb := tbm 990 (by decide +kernel) (by decide +kernel)
theorem kf_M_64 : Cond.fieldLink "ProofReaderModel" 64 "ProofReaderModel" "scopeFirst" "[J" ∈ tb := tbm 991 (by decide +kernel) (by decide +kernel)
theorem kf_M_67 : Cond.fieldLink "ProofReaderModel" 67 "ProofReaderModel" "scopeSecond" "[J" ∈ tb := tbm 992 (by decide +kernel) (by decide +kernel)
theorem kf_M_70 : Cond.fieldLink "ProofReaderModel" 70 "ProofReaderModel" "scopeId" "[I" ∈ tb := tbm 993 (by decide +kernel) (by decide +kernel)
theorem kf_M_155 : Cond.fieldLink "ProofReaderModel" 155 "ProofReaderModel" "scope" "I" ∈ tb := tbm 994 (by decide +kernel) (by decide +kernel)
theorem kf_M_74 : Cond.fieldLink "ProofReaderModel" 74 "ProofReaderModel" "made" "[I" ∈ tb := tbm 995 (by decide +kernel) (by decide +kernel)
theorem kf_M_267 : Cond.fieldLink "ProofReaderModel" 267 "ProofReaderModel" "top" "I" ∈ tb := tbm 996 (by decide +kernel) (by decide +kernel)
theorem kf_M_77 : Cond.fieldLink "ProofReaderModel" 77 "ProofReaderModel" "typeOf" "[I" ∈ tb := tbm 997 (by decide +kernel) (by decide +kernel)
theorem kf_M_80 : Cond.fieldLink "ProofReaderModel" 80 "ProofReaderModel" "tasks" "[I" ∈ tb := tbm 998 (by decide +kernel) (by decide +kernel)
theorem kf_M_277 : Cond.fieldLink "ProofReaderModel" 277 "ProofReaderModel" "left" "I" ∈ tb := tbm 999 (by decide +kernel) (by decide +kernel)
theorem kf_M_83 : Cond.fieldLink "ProofReaderModel" 83 "ProofReaderModel" "todo" "[I" ∈ tb := tbm 1000 (by decide +kernel) (by decide +kernel)
theorem kf_M_238 : Cond.fieldLink "ProofReaderModel" 238 "ProofReaderModel" "waits" "I" ∈ tb := tbm 1001 (by decide +kernel) (by decide +kernel)
theorem kf_M_86 : Cond.fieldLink "ProofReaderModel" 86 "ProofReaderModel" "renamed" "[I" ∈ tb := tbm 1002 (by decide +kernel) (by decide +kernel)
theorem kf_M_89 : Cond.fieldLink "ProofReaderModel" 89 "ProofReaderModel" "bound" "[I" ∈ tb := tbm 1003 (by decide +kernel) (by decide +kernel)
theorem kf_M_244 : Cond.fieldLink "ProofReaderModel" 244 "ProofReaderModel" "fresh" "I" ∈ tb := tbm 1004 (by decide +kernel) (by decide +kernel)
theorem kf_M_92 : Cond.fieldLink "ProofReaderModel" 92 "ProofReaderModel" "changed" "I" ∈ tb := tbm 1005 (by decide +kernel) (by decide +kernel)
theorem kf_M_264 : Cond.fieldLink "ProofReaderModel" 264 "ProofReaderModel" "changedTo" "I" ∈ tb := tbm 1006 (by decide +kernel) (by decide +kernel)
theorem kf_M_241 : Cond.fieldLink "ProofReaderModel" 241 "ProofReaderModel" "out" "I" ∈ tb := tbm 1007 (by decide +kernel) (by decide +kernel)
theorem kf_M_261 : Cond.fieldLink "ProofReaderModel" 261 "ProofReaderModel" "counted" "I" ∈ tb := tbm 1008 (by decide +kernel) (by decide +kernel)
theorem kf_M_95 : Cond.fieldLink "ProofReaderModel" 95 "ProofReaderModel" "markA" "[I" ∈ tb := tbm 1009 (by decide +kernel) (by decide +kernel)
theorem kf_M_98 : Cond.fieldLink "ProofReaderModel" 98 "ProofReaderModel" "markB" "[I" ∈ tb := tbm 1010 (by decide +kernel) (by decide +kernel)
theorem kf_M_101 : Cond.fieldLink "ProofReaderModel" 101 "ProofReaderModel" "line" "[I" ∈ tb := tbm 1011 (by decide +kernel) (by decide +kernel)
theorem kf_M_318 : Cond.fieldLink "ProofReaderModel" 318 "ProofReaderModel" "printed" "I" ∈ tb := tbm 1012 (by decide +kernel) (by decide +kernel)
theorem kf_M_342 : Cond.fieldLink "ProofReaderModel" 342 "ProofReaderModel" "questionAt" "I" ∈ tb := tbm 1013 (by decide +kernel) (by decide +kernel)
theorem km_L_33 : Cond.methodLink "ProofReaderLaw" 33 y_M_thrown ∈ tb := tbm 1137 (by decide +kernel) (by decide +kernel)
theorem ki_M_thrown : Cond.instanceMethod y_M_thrown ∈ tb := tbm 1138 (by decide +kernel) (by decide +kernel)
theorem kv_M_thrown : Cond.selects "ProofReaderModel" y_M_thrown y_M_thrown ∈ tb := tbm 1139 (by decide +kernel) (by decide +kernel)
theorem kk_M_thrown : Cond.code y_M_thrown b_M_thrown 1 (Option.some Jvm.ClassFile.FieldType.int) ∈ tb := tbm 1140 (by decide +kernel) (by decide +kernel)
theorem km_L_40 : Cond.methodLink "ProofReaderLaw" 40 y_M_read ∈ tb := tbm 1141 (by decide +kernel) (by decide +kernel)
theorem ki_M_read : Cond.instanceMethod y_M_read ∈ tb := tbm 1142 (by decide +kernel) (by decide +kernel)
theorem kv_M_read : Cond.selects "ProofReaderModel" y_M_read y_M_read ∈ tb := tbm 1143 (by decide +kernel) (by decide +kernel)
theorem kk_M_read : Cond.code y_M_read b_M_read 4 (Option.some Jvm.ClassFile.FieldType.int) ∈ tb := tbm 1144 (by decide +kernel) (by decide +kernel)
theorem km_M_145 : Cond.methodLink "ProofReaderModel" 145 y_M_readToken ∈ tb := tbm 1145 (by decide +kernel) (by decide +kernel)
theorem ki_M_readToken : Cond.instanceMethod y_M_readToken ∈ tb := tbm 1147 (by decide +kernel) (by decide +kernel)
theorem kk_M_readToken : Cond.code y_M_readToken b_M_readToken 2 (Option.none : Option Jvm.ClassFile.FieldType) ∈ tb := tbm 1148 (by decide +kernel) (by decide +kernel)
theorem km_M_120 : Cond.methodLink "ProofReaderModel" 120 y_M_isNamed ∈ tb := tbm 1149 (by decide +kernel) (by decide +kernel)
theorem ks_M_isNamed : Cond.static y_M_isNamed ∈ tb := tbm 1150 (by decide +kernel) (by decide +kernel)
theorem kk_M_isNamed : Cond.code y_M_isNamed b_M_isNamed 1 (Option.some Jvm.ClassFile.FieldType.boolean) ∈ tb := tbm 1151 (by decide +kernel) (by decide +kernel)
theorem km_M_132 : Cond.methodLink "ProofReaderModel" 132 y_M_readName ∈ tb := tbm 1152 (by decide +kernel) (by decide +kernel)
theorem ki_M_readName : Cond.instanceMethod y_M_readName ∈ tb := tbm 1154 (by decide +kernel) (by decide +kernel)
theorem kk_M_readName : Cond.code y_M_readName b_M_readName 2 (Option.none : Option Jvm.ClassFile.FieldType) ∈ tb := tbm 1155 (by decide +kernel) (by decide +kernel)
theorem kq_M_124 : Cond.constantLong "ProofReaderModel" 124 1954115685 ∈ tb := tbm 1156 (by decide +kernel) (by decide +kernel)
theorem km_M_135 : Cond.methodLink "ProofReaderModel" 135 y_M_isSign ∈ tb := tbm 1157 (by decide +kernel) (by decide +kernel)
theorem ks_M_isSign : Cond.static y_M_isSign ∈ tb := tbm 1158 (by decide +kernel) (by decide +kernel)
theorem kk_M_isSign : Cond.code y_M_isSign b_M_isSign 1 (Option.some Jvm.ClassFile.FieldType.boolean) ∈ tb := tbm 1159 (by decide +kernel) (by decide +kernel)
theorem km_M_358 : Cond.methodLink "ProofReaderModel" 358 y_M_tell ∈ tb := tbm 1160 (by decide +kernel) (by decide +kernel)
theorem ki_M_tell : Cond.instanceMethod y_M_tell ∈ tb := tbm 1162 (by decide +kernel) (by decide +kernel)
theorem kk_M_tell : Cond.code y_M_tell b_M_tell 6 (Option.some Jvm.ClassFile.FieldType.boolean) ∈ tb := tbm 1163 (by decide +kernel) (by decide +kernel)
theorem km_M_158 : Cond.methodLink "ProofReaderModel" 158 y_M_constantOf ∈ tb := tbm 1164 (by decide +kernel) (by decide +kernel)
theorem ki_M_constantOf : Cond.instanceMethod y_M_constantOf ∈ tb := tbm 1166 (by decide +kernel) (by decide +kernel)
theorem kk_M_constantOf : Cond.code y_M_constantOf b_M_constantOf 2 (Option.some Jvm.ClassFile.FieldType.int) ∈ tb := tbm 1167 (by decide +kernel) (by decide +kernel)
theorem km_M_141 : Cond.methodLink "ProofReaderModel" 141 y_M_fails ∈ tb := tbm 1168 (by decide +kernel) (by decide +kernel)
theorem ki_M_fails : Cond.instanceMethod y_M_fails ∈ tb := tbm 1170 (by decide +kernel) (by decide +kernel)
theorem kk_M_fails : Cond.code y_M_fails b_M_fails 3 (Option.some Jvm.ClassFile.FieldType.boolean) ∈ tb := tbm 1171 (by decide +kernel) (by decide +kernel)
theorem km_M_200 : Cond.methodLink "ProofReaderModel" 200 y_M_takes ∈ tb := tbm 1172 (by decide +kernel) (by decide +kernel)
theorem ki_M_takes : Cond.instanceMethod y_M_takes ∈ tb := tbm 1174 (by decide +kernel) (by decide +kernel)
theorem kk_M_takes : Cond.code y_M_takes b_M_takes 2 (Option.some Jvm.ClassFile.FieldType.boolean) ∈ tb := tbm 1175 (by decide +kernel) (by decide +kernel)
theorem km_M_148 : Cond.methodLink "ProofReaderModel" 148 y_M_failsToken ∈ tb := tbm 1176 (by decide +kernel) (by decide +kernel)
theorem ki_M_failsToken : Cond.instanceMethod y_M_failsToken ∈ tb := tbm 1178 (by decide +kernel) (by decide +kernel)
theorem kk_M_failsToken : Cond.code y_M_failsToken b_M_failsToken 1 (Option.some Jvm.ClassFile.FieldType.boolean) ∈ tb := tbm 1179 (by decide +kernel) (by decide +kernel)
theorem km_M_345 : Cond.methodLink "ProofReaderModel" 345 y_M_readExpression ∈ tb := tbm 1180 (by decide +kernel) (by decide +kernel)
theorem ki_M_readExpression : Cond.instanceMethod y_M_readExpression ∈ tb := tbm 1182 (by decide +kernel) (by decide +kernel)
theorem kk_M_readExpression : Cond.code y_M_readExpression b_M_readExpression 2 (Option.some Jvm.ClassFile.FieldType.boolean) ∈ tb := tbm 1183 (by decide +kernel) (by decide +kernel)
theorem km_M_228 : Cond.methodLink "ProofReaderModel" 228 y_M_goesOn ∈ tb := tbm 1184 (by decide +kernel) (by decide +kernel)
theorem ki_M_goesOn : Cond.instanceMethod y_M_goesOn ∈ tb := tbm 1186 (by decide +kernel) (by decide +kernel)
theorem kk_M_goesOn : Cond.code y_M_goesOn b_M_goesOn 1 (Option.some Jvm.ClassFile.FieldType.boolean) ∈ tb := tbm 1187 (by decide +kernel) (by decide +kernel)
theorem km_M_219 : Cond.methodLink "ProofReaderModel" 219 y_M_argument ∈ tb := tbm 1188 (by decide +kernel) (by decide +kernel)
theorem ki_M_argument : Cond.instanceMethod y_M_argument ∈ tb := tbm 1190 (by decide +kernel) (by decide +kernel)
theorem kk_M_argument : Cond.code y_M_argument b_M_argument 2 (Option.some Jvm.ClassFile.FieldType.boolean) ∈ tb := tbm 1191 (by decide +kernel) (by decide +kernel)
theorem km_M_174 : Cond.methodLink "ProofReaderModel" 174 y_M_counts ∈ tb := tbm 1192 (by decide +kernel) (by decide +kernel)
theorem ki_M_counts : Cond.instanceMethod y_M_counts ∈ tb := tbm 1194 (by decide +kernel) (by decide +kernel)
theorem kk_M_counts : Cond.code y_M_counts b_M_counts 3 (Option.some Jvm.ClassFile.FieldType.boolean) ∈ tb := tbm 1195 (by decide +kernel) (by decide +kernel)
theorem km_M_203 : Cond.methodLink "ProofReaderModel" 203 y_M_enter ∈ tb := tbm 1196 (by decide +kernel) (by decide +kernel)
theorem ki_M_enter : Cond.instanceMethod y_M_enter ∈ tb := tbm 1198 (by decide +kernel) (by decide +kernel)
theorem kk_M_enter : Cond.code y_M_enter b_M_enter 2 (Option.none : Option Jvm.ClassFile.FieldType) ∈ tb := tbm 1199 (by decide +kernel) (by decide +kernel)
theorem km_M_210 : Cond.methodLink "ProofReaderModel" 210 y_M_readHead ∈ tb := tbm 1200 (by decide +kernel) (by decide +kernel)
theorem ki_M_readHead : Cond.instanceMethod y_M_readHead ∈ tb := tbm 1202 (by decide +kernel) (by decide +kernel)
theorem kk_M_readHead : Cond.code y_M_readHead b_M_readHead 2 (Option.some Jvm.ClassFile.FieldType.boolean) ∈ tb := tbm 1203 (by decide +kernel) (by decide +kernel)
theorem km_M_171 : Cond.methodLink "ProofReaderModel" 171 y_M_find ∈ tb := tbm 1204 (by decide +kernel) (by decide +kernel)
theorem ki_M_find : Cond.instanceMethod y_M_find ∈ tb := tbm 1206 (by decide +kernel) (by decide +kernel)
theorem kk_M_find : Cond.code y_M_find b_M_find 2 (Option.some Jvm.ClassFile.FieldType.int) ∈ tb := tbm 1207 (by decide +kernel) (by decide +kernel)
theorem km_M_177 : Cond.methodLink "ProofReaderModel" 177 y_M_put ∈ tb := tbm 1208 (by decide +kernel) (by decide +kernel)
theorem ki_M_put : Cond.instanceMethod y_M_put ∈ tb := tbm 1210 (by decide +kernel) (by decide +kernel)
theorem kk_M_put : Cond.code y_M_put b_M_put 2 (Option.none : Option Jvm.ClassFile.FieldType) ∈ tb := tbm 1211 (by decide +kernel) (by decide +kernel)
theorem km_M_222 : Cond.methodLink "ProofReaderModel" 222 y_M_arrow ∈ tb := tbm 1212 (by decide +kernel) (by decide +kernel)
theorem ki_M_arrow : Cond.instanceMethod y_M_arrow ∈ tb := tbm 1214 (by decide +kernel) (by decide +kernel)
theorem kk_M_arrow : Cond.code y_M_arrow b_M_arrow 2 (Option.some Jvm.ClassFile.FieldType.boolean) ∈ tb := tbm 1215 (by decide +kernel) (by decide +kernel)
theorem km_M_225 : Cond.methodLink "ProofReaderModel" 225 y_M_leave ∈ tb := tbm 1216 (by decide +kernel) (by decide +kernel)
theorem ki_M_leave : Cond.instanceMethod y_M_leave ∈ tb := tbm 1218 (by decide +kernel) (by decide +kernel)
theorem kk_M_leave : Cond.code y_M_leave b_M_leave 1 (Option.none : Option Jvm.ClassFile.FieldType) ∈ tb := tbm 1219 (by decide +kernel) (by decide +kernel)
theorem km_M_206 : Cond.methodLink "ProofReaderModel" 206 y_M_show ∈ tb := tbm 1220 (by decide +kernel) (by decide +kernel)
theorem ki_M_show : Cond.instanceMethod y_M_show ∈ tb := tbm 1222 (by decide +kernel) (by decide +kernel)
theorem kk_M_show : Cond.code y_M_show b_M_show 6 (Option.none : Option Jvm.ClassFile.FieldType) ∈ tb := tbm 1223 (by decide +kernel) (by decide +kernel)
theorem km_M_231 : Cond.methodLink "ProofReaderModel" 231 y_M_begins ∈ tb := tbm 1224 (by decide +kernel) (by decide +kernel)
theorem ki_M_begins : Cond.instanceMethod y_M_begins ∈ tb := tbm 1226 (by decide +kernel) (by decide +kernel)
theorem kk_M_begins : Cond.code y_M_begins b_M_begins 1 (Option.some Jvm.ClassFile.FieldType.boolean) ∈ tb := tbm 1227 (by decide +kernel) (by decide +kernel)
theorem km_M_213 : Cond.methodLink "ProofReaderModel" 213 y_M_beginProduct ∈ tb := tbm 1228 (by decide +kernel) (by decide +kernel)
theorem ki_M_beginProduct : Cond.instanceMethod y_M_beginProduct ∈ tb := tbm 1230 (by decide +kernel) (by decide +kernel)
theorem kk_M_beginProduct : Cond.code y_M_beginProduct b_M_beginProduct 6 (Option.some Jvm.ClassFile.FieldType.boolean) ∈ tb := tbm 1231 (by decide +kernel) (by decide +kernel)
theorem km_M_216 : Cond.methodLink "ProofReaderModel" 216 y_M_beginFunction ∈ tb := tbm 1232 (by decide +kernel) (by decide +kernel)
theorem ki_M_beginFunction : Cond.instanceMethod y_M_beginFunction ∈ tb := tbm 1234 (by decide +kernel) (by decide +kernel)
theorem kk_M_beginFunction : Cond.code y_M_beginFunction b_M_beginFunction 6 (Option.some Jvm.ClassFile.FieldType.boolean) ∈ tb := tbm 1235 (by decide +kernel) (by decide +kernel)
theorem km_M_280 : Cond.methodLink "ProofReaderModel" 280 y_M_then ∈ tb := tbm 1236 (by decide +kernel) (by decide +kernel)
theorem ki_M_then : Cond.instanceMethod y_M_then ∈ tb := tbm 1238 (by decide +kernel) (by decide +kernel)
theorem kk_M_then : Cond.code y_M_then b_M_then 9 (Option.none : Option Jvm.ClassFile.FieldType) ∈ tb := tbm 1239 (by decide +kernel) (by decide +kernel)
theorem km_M_349 : Cond.methodLink "ProofReaderModel" 349 y_M_doAll ∈ tb := tbm 1240 (by decide +kernel) (by decide +kernel)
theorem ki_M_doAll : Cond.instanceMethod y_M_doAll ∈ tb := tbm 1242 (by decide +kernel) (by decide +kernel)
theorem kk_M_doAll : Cond.code y_M_doAll b_M_doAll 1 (Option.some Jvm.ClassFile.FieldType.boolean) ∈ tb := tbm 1243 (by decide +kernel) (by decide +kernel)
theorem km_M_315 : Cond.methodLink "ProofReaderModel" 315 y_M_doTask ∈ tb := tbm 1244 (by decide +kernel) (by decide +kernel)
theorem ki_M_doTask : Cond.instanceMethod y_M_doTask ∈ tb := tbm 1246 (by decide +kernel) (by decide +kernel)
theorem kk_M_doTask : Cond.code y_M_doTask b_M_doTask 3 (Option.some Jvm.ClassFile.FieldType.boolean) ∈ tb := tbm 1247 (by decide +kernel) (by decide +kernel)
theorem km_M_303 : Cond.methodLink "ProofReaderModel" 303 y_M_checkSort ∈ tb := tbm 1248 (by decide +kernel) (by decide +kernel)
theorem ki_M_checkSort : Cond.instanceMethod y_M_checkSort ∈ tb := tbm 1250 (by decide +kernel) (by decide +kernel)
theorem kk_M_checkSort : Cond.code y_M_checkSort b_M_checkSort 4 (Option.some Jvm.ClassFile.FieldType.boolean) ∈ tb := tbm 1251 (by decide +kernel) (by decide +kernel)
theorem km_M_288 : Cond.methodLink "ProofReaderModel" 288 y_M_isFamily ∈ tb := tbm 1252 (by decide +kernel) (by decide +kernel)
theorem ki_M_isFamily : Cond.instanceMethod y_M_isFamily ∈ tb := tbm 1254 (by decide +kernel) (by decide +kernel)
theorem kk_M_isFamily : Cond.code y_M_isFamily b_M_isFamily 3 (Option.some Jvm.ClassFile.FieldType.boolean) ∈ tb := tbm 1255 (by decide +kernel) (by decide +kernel)
theorem km_M_254 : Cond.methodLink "ProofReaderModel" 254 y_M_skip ∈ tb := tbm 1256 (by decide +kernel) (by decide +kernel)
theorem ki_M_skip : Cond.instanceMethod y_M_skip ∈ tb := tbm 1258 (by decide +kernel) (by decide +kernel)
theorem kk_M_skip : Cond.code y_M_skip b_M_skip 5 (Option.some Jvm.ClassFile.FieldType.int) ∈ tb := tbm 1259 (by decide +kernel) (by decide +kernel)
theorem km_M_234 : Cond.methodLink "ProofReaderModel" 234 y_M_from ∈ tb := tbm 1260 (by decide +kernel) (by decide +kernel)
theorem ki_M_from : Cond.instanceMethod y_M_from ∈ tb := tbm 1262 (by decide +kernel) (by decide +kernel)
theorem kk_M_from : Cond.code y_M_from b_M_from 3 (Option.some Jvm.ClassFile.FieldType.int) ∈ tb := tbm 1263 (by decide +kernel) (by decide +kernel)
theorem km_M_291 : Cond.methodLink "ProofReaderModel" 291 y_M_startArguments ∈ tb := tbm 1264 (by decide +kernel) (by decide +kernel)
theorem ki_M_startArguments : Cond.instanceMethod y_M_startArguments ∈ tb := tbm 1266 (by decide +kernel) (by decide +kernel)
theorem kk_M_startArguments : Cond.code y_M_startArguments b_M_startArguments 6 (Option.none : Option Jvm.ClassFile.FieldType) ∈ tb := tbm 1267 (by decide +kernel) (by decide +kernel)
theorem km_M_284 : Cond.methodLink "ProofReaderModel" 284 y_M_copy ∈ tb := tbm 1268 (by decide +kernel) (by decide +kernel)
theorem ki_M_copy : Cond.instanceMethod y_M_copy ∈ tb := tbm 1270 (by decide +kernel) (by decide +kernel)
theorem kk_M_copy : Cond.code y_M_copy b_M_copy 8 (Option.some Jvm.ClassFile.FieldType.int) ∈ tb := tbm 1271 (by decide +kernel) (by decide +kernel)
theorem km_M_250 : Cond.methodLink "ProofReaderModel" 250 y_M_later ∈ tb := tbm 1272 (by decide +kernel) (by decide +kernel)
theorem ki_M_later : Cond.instanceMethod y_M_later ∈ tb := tbm 1274 (by decide +kernel) (by decide +kernel)
theorem kk_M_later : Cond.code y_M_later b_M_later 4 (Option.none : Option Jvm.ClassFile.FieldType) ∈ tb := tbm 1275 (by decide +kernel) (by decide +kernel)
theorem km_M_270 : Cond.methodLink "ProofReaderModel" 270 y_M_giveApplication ∈ tb := tbm 1276 (by decide +kernel) (by decide +kernel)
theorem ki_M_giveApplication : Cond.instanceMethod y_M_giveApplication ∈ tb := tbm 1278 (by decide +kernel) (by decide +kernel)
theorem kk_M_giveApplication : Cond.code y_M_giveApplication b_M_giveApplication 14 (Option.none : Option Jvm.ClassFile.FieldType) ∈ tb := tbm 1279 (by decide +kernel) (by decide +kernel)
theorem km_M_257 : Cond.methodLink "ProofReaderModel" 257 y_M_giveInPlace ∈ tb := tbm 1280 (by decide +kernel) (by decide +kernel)
theorem ki_M_giveInPlace : Cond.instanceMethod y_M_giveInPlace ∈ tb := tbm 1282 (by decide +kernel) (by decide +kernel)
theorem kk_M_giveInPlace : Cond.code y_M_giveInPlace b_M_giveInPlace 8 (Option.none : Option Jvm.ClassFile.FieldType) ∈ tb := tbm 1283 (by decide +kernel) (by decide +kernel)
theorem km_M_247 : Cond.methodLink "ProofReaderModel" 247 y_M_give ∈ tb := tbm 1284 (by decide +kernel) (by decide +kernel)
theorem ki_M_give : Cond.instanceMethod y_M_give ∈ tb := tbm 1286 (by decide +kernel) (by decide +kernel)
theorem kk_M_give : Cond.code y_M_give b_M_give 2 (Option.none : Option Jvm.ClassFile.FieldType) ∈ tb := tbm 1287 (by decide +kernel) (by decide +kernel)
theorem km_M_274 : Cond.methodLink "ProofReaderModel" 274 y_M_giveBinder ∈ tb := tbm 1288 (by decide +kernel) (by decide +kernel)
theorem ki_M_giveBinder : Cond.instanceMethod y_M_giveBinder ∈ tb := tbm 1290 (by decide +kernel) (by decide +kernel)
theorem kk_M_giveBinder : Cond.code y_M_giveBinder b_M_giveBinder 6 (Option.none : Option Jvm.ClassFile.FieldType) ∈ tb := tbm 1291 (by decide +kernel) (by decide +kernel)
theorem km_M_306 : Cond.methodLink "ProofReaderModel" 306 y_M_checkObject ∈ tb := tbm 1292 (by decide +kernel) (by decide +kernel)
theorem ki_M_checkObject : Cond.instanceMethod y_M_checkObject ∈ tb := tbm 1294 (by decide +kernel) (by decide +kernel)
theorem kk_M_checkObject : Cond.code y_M_checkObject b_M_checkObject 3 (Option.some Jvm.ClassFile.FieldType.boolean) ∈ tb := tbm 1295 (by decide +kernel) (by decide +kernel)
theorem km_M_294 : Cond.methodLink "ProofReaderModel" 294 y_M_checkFunction ∈ tb := tbm 1296 (by decide +kernel) (by decide +kernel)
theorem ki_M_checkFunction : Cond.instanceMethod y_M_checkFunction ∈ tb := tbm 1298 (by decide +kernel) (by decide +kernel)
theorem kk_M_checkFunction : Cond.code y_M_checkFunction b_M_checkFunction 6 (Option.none : Option Jvm.ClassFile.FieldType) ∈ tb := tbm 1299 (by decide +kernel) (by decide +kernel)
theorem km_M_309 : Cond.methodLink "ProofReaderModel" 309 y_M_checkArguments ∈ tb := tbm 1300 (by decide +kernel) (by decide +kernel)
theorem ki_M_checkArguments : Cond.instanceMethod y_M_checkArguments ∈ tb := tbm 1302 (by decide +kernel) (by decide +kernel)
theorem kk_M_checkArguments : Cond.code y_M_checkArguments b_M_checkArguments 8 (Option.some Jvm.ClassFile.FieldType.boolean) ∈ tb := tbm 1303 (by decide +kernel) (by decide +kernel)
theorem km_M_297 : Cond.methodLink "ProofReaderModel" 297 y_M_print ∈ tb := tbm 1304 (by decide +kernel) (by decide +kernel)
theorem ki_M_print : Cond.instanceMethod y_M_print ∈ tb := tbm 1306 (by decide +kernel) (by decide +kernel)
theorem kk_M_print : Cond.code y_M_print b_M_print 3 (Option.some Jvm.ClassFile.FieldType.boolean) ∈ tb := tbm 1307 (by decide +kernel) (by decide +kernel)
theorem km_M_336 : Cond.methodLink "ProofReaderModel" 336 y_M_sayPart ∈ tb := tbm 1308 (by decide +kernel) (by decide +kernel)
theorem ki_M_sayPart : Cond.instanceMethod y_M_sayPart ∈ tb := tbm 1310 (by decide +kernel) (by decide +kernel)
theorem kk_M_sayPart : Cond.code y_M_sayPart b_M_sayPart 3 (Option.none : Option Jvm.ClassFile.FieldType) ∈ tb := tbm 1311 (by decide +kernel) (by decide +kernel)
theorem km_M_321 : Cond.methodLink "ProofReaderModel" 321 y_M_say ∈ tb := tbm 1312 (by decide +kernel) (by decide +kernel)
theorem ki_M_say : Cond.instanceMethod y_M_say ∈ tb := tbm 1314 (by decide +kernel) (by decide +kernel)
theorem kk_M_say : Cond.code y_M_say b_M_say 2 (Option.none : Option Jvm.ClassFile.FieldType) ∈ tb := tbm 1315 (by decide +kernel) (by decide +kernel)
theorem km_M_326 : Cond.methodLink "ProofReaderModel" 326 y_M_sayNumber ∈ tb := tbm 1316 (by decide +kernel) (by decide +kernel)
theorem ki_M_sayNumber : Cond.instanceMethod y_M_sayNumber ∈ tb := tbm 1318 (by decide +kernel) (by decide +kernel)
theorem kk_M_sayNumber : Cond.code y_M_sayNumber b_M_sayNumber 3 (Option.none : Option Jvm.ClassFile.FieldType) ∈ tb := tbm 1319 (by decide +kernel) (by decide +kernel)
theorem km_M_333 : Cond.methodLink "ProofReaderModel" 333 y_M_sayApplication ∈ tb := tbm 1320 (by decide +kernel) (by decide +kernel)
theorem ki_M_sayApplication : Cond.instanceMethod y_M_sayApplication ∈ tb := tbm 1322 (by decide +kernel) (by decide +kernel)
theorem kk_M_sayApplication : Cond.code y_M_sayApplication b_M_sayApplication 7 (Option.none : Option Jvm.ClassFile.FieldType) ∈ tb := tbm 1323 (by decide +kernel) (by decide +kernel)
theorem km_M_329 : Cond.methodLink "ProofReaderModel" 329 y_M_sayName ∈ tb := tbm 1324 (by decide +kernel) (by decide +kernel)
theorem ki_M_sayName : Cond.instanceMethod y_M_sayName ∈ tb := tbm 1326 (by decide +kernel) (by decide +kernel)
theorem kk_M_sayName : Cond.code y_M_sayName b_M_sayName 7 (Option.none : Option Jvm.ClassFile.FieldType) ∈ tb := tbm 1327 (by decide +kernel) (by decide +kernel)
theorem kq_M_324 : Cond.constantLong "ProofReaderModel" 324 255 ∈ tb := tbm 1328 (by decide +kernel) (by decide +kernel)
theorem km_M_300 : Cond.methodLink "ProofReaderModel" 300 y_M_isSame ∈ tb := tbm 1329 (by decide +kernel) (by decide +kernel)
theorem ki_M_isSame : Cond.instanceMethod y_M_isSame ∈ tb := tbm 1331 (by decide +kernel) (by decide +kernel)
theorem kk_M_isSame : Cond.code y_M_isSame b_M_isSame 11 (Option.some Jvm.ClassFile.FieldType.boolean) ∈ tb := tbm 1332 (by decide +kernel) (by decide +kernel)
theorem km_M_312 : Cond.methodLink "ProofReaderModel" 312 y_M_goBehind ∈ tb := tbm 1333 (by decide +kernel) (by decide +kernel)
theorem ki_M_goBehind : Cond.instanceMethod y_M_goBehind ∈ tb := tbm 1335 (by decide +kernel) (by decide +kernel)
theorem kk_M_goBehind : Cond.code y_M_goBehind b_M_goBehind 6 (Option.some Jvm.ClassFile.FieldType.boolean) ∈ tb := tbm 1336 (by decide +kernel) (by decide +kernel)
theorem km_M_355 : Cond.methodLink "ProofReaderModel" 355 y_M_keep ∈ tb := tbm 1337 (by decide +kernel) (by decide +kernel)
theorem ki_M_keep : Cond.instanceMethod y_M_keep ∈ tb := tbm 1339 (by decide +kernel) (by decide +kernel)
theorem kk_M_keep : Cond.code y_M_keep b_M_keep 8 (Option.none : Option Jvm.ClassFile.FieldType) ∈ tb := tbm 1340 (by decide +kernel) (by decide +kernel)
theorem km_M_361 : Cond.methodLink "ProofReaderModel" 361 y_M_question ∈ tb := tbm 1341 (by decide +kernel) (by decide +kernel)
theorem ki_M_question : Cond.instanceMethod y_M_question ∈ tb := tbm 1343 (by decide +kernel) (by decide +kernel)
theorem kk_M_question : Cond.code y_M_question b_M_question 1 (Option.some Jvm.ClassFile.FieldType.boolean) ∈ tb := tbm 1344 (by decide +kernel) (by decide +kernel)
theorem km_L_32 : Cond.methodLink "ProofReaderLaw" 32 y_M_feed ∈ tb := tbm 1345 (by decide +kernel) (by decide +kernel)
theorem ki_M_feed : Cond.instanceMethod y_M_feed ∈ tb := tbm 1346 (by decide +kernel) (by decide +kernel)
theorem kv_M_feed : Cond.selects "ProofReaderModel" y_M_feed y_M_feed ∈ tb := tbm 1347 (by decide +kernel) (by decide +kernel)
theorem kk_M_feed : Cond.code y_M_feed b_M_feed 5 (Option.some Jvm.ClassFile.FieldType.int) ∈ tb := tbm 1348 (by decide +kernel) (by decide +kernel)
theorem km_L_44 : Cond.methodLink "ProofReaderLaw" 44 y_M_fault ∈ tb := tbm 1349 (by decide +kernel) (by decide +kernel)
theorem ki_M_fault : Cond.instanceMethod y_M_fault ∈ tb := tbm 1350 (by decide +kernel) (by decide +kernel)
theorem kv_M_fault : Cond.selects "ProofReaderModel" y_M_fault y_M_fault ∈ tb := tbm 1351 (by decide +kernel) (by decide +kernel)
theorem kk_M_fault : Cond.code y_M_fault b_M_fault 1 (Option.some Jvm.ClassFile.FieldType.int) ∈ tb := tbm 1352 (by decide +kernel) (by decide +kernel)
theorem km_L_48 : Cond.methodLink "ProofReaderLaw" 48 y_M_place ∈ tb := tbm 1353 (by decide +kernel) (by decide +kernel)
theorem ki_M_place : Cond.instanceMethod y_M_place ∈ tb := tbm 1354 (by decide +kernel) (by decide +kernel)
theorem kv_M_place : Cond.selects "ProofReaderModel" y_M_place y_M_place ∈ tb := tbm 1355 (by decide +kernel) (by decide +kernel)
theorem kk_M_place : Cond.code y_M_place b_M_place 1 (Option.some Jvm.ClassFile.FieldType.int) ∈ tb := tbm 1356 (by decide +kernel) (by decide +kernel)
theorem km_L_52 : Cond.methodLink "ProofReaderLaw" 52 y_M_clear ∈ tb := tbm 1357 (by decide +kernel) (by decide +kernel)
theorem ki_M_clear : Cond.instanceMethod y_M_clear ∈ tb := tbm 1358 (by decide +kernel) (by decide +kernel)
theorem kv_M_clear : Cond.selects "ProofReaderModel" y_M_clear y_M_clear ∈ tb := tbm 1359 (by decide +kernel) (by decide +kernel)
theorem kk_M_clear : Cond.code y_M_clear b_M_clear 2 (Option.some Jvm.ClassFile.FieldType.int) ∈ tb := tbm 1360 (by decide +kernel) (by decide +kernel)
theorem km_L_56 : Cond.methodLink "ProofReaderLaw" 56 y_M_constants ∈ tb := tbm 1361 (by decide +kernel) (by decide +kernel)
theorem ki_M_constants : Cond.instanceMethod y_M_constants ∈ tb := tbm 1362 (by decide +kernel) (by decide +kernel)
theorem kv_M_constants : Cond.selects "ProofReaderModel" y_M_constants y_M_constants ∈ tb := tbm 1363 (by decide +kernel) (by decide +kernel)
theorem kk_M_constants : Cond.code y_M_constants b_M_constants 1 (Option.some Jvm.ClassFile.FieldType.int) ∈ tb := tbm 1364 (by decide +kernel) (by decide +kernel)
theorem km_L_60 : Cond.methodLink "ProofReaderLaw" 60 y_M_constant ∈ tb := tbm 1365 (by decide +kernel) (by decide +kernel)
theorem ki_M_constant : Cond.instanceMethod y_M_constant ∈ tb := tbm 1366 (by decide +kernel) (by decide +kernel)
theorem kv_M_constant : Cond.selects "ProofReaderModel" y_M_constant y_M_constant ∈ tb := tbm 1367 (by decide +kernel) (by decide +kernel)
theorem kk_M_constant : Cond.code y_M_constant b_M_constant 4 (Option.some Jvm.ClassFile.FieldType.int) ∈ tb := tbm 1368 (by decide +kernel) (by decide +kernel)
theorem km_M_367 : Cond.methodLink "ProofReaderModel" 367 y_M_lastPart ∈ tb := tbm 1369 (by decide +kernel) (by decide +kernel)
theorem ki_M_lastPart : Cond.instanceMethod y_M_lastPart ∈ tb := tbm 1371 (by decide +kernel) (by decide +kernel)
theorem kk_M_lastPart : Cond.code y_M_lastPart b_M_lastPart 3 (Option.some Jvm.ClassFile.FieldType.int) ∈ tb := tbm 1372 (by decide +kernel) (by decide +kernel)
theorem km_M_371 : Cond.methodLink "ProofReaderModel" 371 y_M_products ∈ tb := tbm 1373 (by decide +kernel) (by decide +kernel)
theorem ki_M_products : Cond.instanceMethod y_M_products ∈ tb := tbm 1375 (by decide +kernel) (by decide +kernel)
theorem kk_M_products : Cond.code y_M_products b_M_products 4 (Option.some Jvm.ClassFile.FieldType.int) ∈ tb := tbm 1376 (by decide +kernel) (by decide +kernel)
theorem km_M_374 : Cond.methodLink "ProofReaderModel" 374 y_M_size ∈ tb := tbm 1377 (by decide +kernel) (by decide +kernel)
theorem ki_M_size : Cond.instanceMethod y_M_size ∈ tb := tbm 1379 (by decide +kernel) (by decide +kernel)
theorem kk_M_size : Cond.code y_M_size b_M_size 6 (Option.some Jvm.ClassFile.FieldType.int) ∈ tb := tbm 1380 (by decide +kernel) (by decide +kernel)
end
section
theorem km_M_377 : Cond.methodLink "ProofReaderModel" 377 y_M_order ∈ tb := tbm 1381 (by decide +kernel) (by decide +kernel)
theorem ki_M_order : Cond.instanceMethod y_M_order ∈ tb := tbm 1383 (by decide +kernel) (by decide +kernel)
theorem kk_M_order : Cond.code y_M_order b_M_order 5 (Option.some Jvm.ClassFile.FieldType.int) ∈ tb := tbm 1384 (by decide +kernel) (by decide +kernel)
theorem km_L_64 : Cond.methodLink "ProofReaderLaw" 64 y_M_printed ∈ tb := tbm 1385 (by decide +kernel) (by decide +kernel)
theorem ki_M_printed : Cond.instanceMethod y_M_printed ∈ tb := tbm 1386 (by decide +kernel) (by decide +kernel)
theorem kv_M_printed : Cond.selects "ProofReaderModel" y_M_printed y_M_printed ∈ tb := tbm 1387 (by decide +kernel) (by decide +kernel)
theorem kk_M_printed : Cond.code y_M_printed b_M_printed 1 (Option.some Jvm.ClassFile.FieldType.int) ∈ tb := tbm 1388 (by decide +kernel) (by decide +kernel)
theorem km_L_69 : Cond.methodLink "ProofReaderLaw" 69 y_M_paper ∈ tb := tbm 1389 (by decide +kernel) (by decide +kernel)
theorem ki_M_paper : Cond.instanceMethod y_M_paper ∈ tb := tbm 1390 (by decide +kernel) (by decide +kernel)
theorem kv_M_paper : Cond.selects "ProofReaderModel" y_M_paper y_M_paper ∈ tb := tbm 1391 (by decide +kernel) (by decide +kernel)
theorem kk_M_paper : Cond.code y_M_paper b_M_paper 7 (Option.some Jvm.ClassFile.FieldType.long) ∈ tb := tbm 1392 (by decide +kernel) (by decide +kernel)
theorem km_L_73 : Cond.methodLink "ProofReaderLaw" 73 y_M_wipe ∈ tb := tbm 1393 (by decide +kernel) (by decide +kernel)
theorem ki_M_wipe : Cond.instanceMethod y_M_wipe ∈ tb := tbm 1394 (by decide +kernel) (by decide +kernel)
theorem kv_M_wipe : Cond.selects "ProofReaderModel" y_M_wipe y_M_wipe ∈ tb := tbm 1395 (by decide +kernel) (by decide +kernel)
theorem kk_M_wipe : Cond.code y_M_wipe b_M_wipe 2 (Option.some Jvm.ClassFile.FieldType.int) ∈ tb := tbm 1396 (by decide +kernel) (by decide +kernel)
theorem kq_L_25 : Cond.constantLong "ProofReaderLaw" 25 4294967295 ∈ tb := tbm 1397 (by decide +kernel) (by decide +kernel)
theorem kv_T_at : Cond.selects "ProofReader$Tokens" y_T_at y_T_at ∈ tb := tbm 0 (by decide +kernel) (by decide +kernel)
theorem kv_T_takeName : Cond.selects "ProofReader$Tokens" y_T_takeName y_T_takeName ∈ tb := tbm 1 (by decide +kernel) (by decide +kernel)
theorem kv_T_takeArrow : Cond.selects "ProofReader$Tokens" y_T_takeArrow y_T_takeArrow ∈ tb := tbm 2 (by decide +kernel) (by decide +kernel)
theorem kv_R_nameAndColon : Cond.selects "ProofReader$Parser" y_R_nameAndColon y_R_nameAndColon ∈ tb := tbm 3 (by decide +kernel) (by decide +kernel)
theorem kv_R_isNow : Cond.selects "ProofReader$Parser" y_R_isNow y_R_isNow ∈ tb := tbm 4 (by decide +kernel) (by decide +kernel)
theorem kv_R_isNext : Cond.selects "ProofReader$Parser" y_R_isNext y_R_isNext ∈ tb := tbm 5 (by decide +kernel) (by decide +kernel)
theorem kv_R_wholeExpression : Cond.selects "ProofReader$Parser" y_R_wholeExpression y_R_wholeExpression ∈ tb := tbm 6 (by decide +kernel) (by decide +kernel)
theorem kv_R_expression : Cond.selects "ProofReader$Parser" y_R_expression y_R_expression ∈ tb := tbm 7 (by decide +kernel) (by decide +kernel)
theorem kv_R_product : Cond.selects "ProofReader$Parser" y_R_product y_R_product ∈ tb := tbm 8 (by decide +kernel) (by decide +kernel)
theorem kv_R_opens : Cond.selects "ProofReader$Parser" y_R_opens y_R_opens ∈ tb := tbm 9 (by decide +kernel) (by decide +kernel)
theorem kv_R_node : Cond.selects "ProofReader$Parser" y_R_node y_R_node ∈ tb := tbm 10 (by decide +kernel) (by decide +kernel)
theorem kv_R_counts : Cond.selects "ProofReader$Parser" y_R_counts y_R_counts ∈ tb := tbm 11 (by decide +kernel) (by decide +kernel)
theorem kv_R_scope : Cond.selects "ProofReader$Parser" y_R_scope y_R_scope ∈ tb := tbm 12 (by decide +kernel) (by decide +kernel)
theorem kv_R_function : Cond.selects "ProofReader$Parser" y_R_function y_R_function ∈ tb := tbm 13 (by decide +kernel) (by decide +kernel)
theorem kv_R_simple : Cond.selects "ProofReader$Parser" y_R_simple y_R_simple ∈ tb := tbm 14 (by decide +kernel) (by decide +kernel)
theorem kv_R_atom : Cond.selects "ProofReader$Parser" y_R_atom y_R_atom ∈ tb := tbm 15 (by decide +kernel) (by decide +kernel)
theorem kv_R_meaning : Cond.selects "ProofReader$Parser" y_R_meaning y_R_meaning ∈ tb := tbm 16 (by decide +kernel) (by decide +kernel)
theorem kv_R_atomBegins : Cond.selects "ProofReader$Parser" y_R_atomBegins y_R_atomBegins ∈ tb := tbm 17 (by decide +kernel) (by decide +kernel)
theorem kv_R_arrow : Cond.selects "ProofReader$Parser" y_R_arrow y_R_arrow ∈ tb := tbm 18 (by decide +kernel) (by decide +kernel)
theorem kv_X_settle : Cond.selects "ProofReader" y_X_settle y_X_settle ∈ tb := tbm 19 (by decide +kernel) (by decide +kernel)
theorem kv_H_isObjectHead : Cond.selects "ProofReader$Checker" y_H_isObjectHead y_H_isObjectHead ∈ tb := tbm 20 (by decide +kernel) (by decide +kernel)
theorem kv_H_wrong : Cond.selects "ProofReader$Checker" y_H_wrong y_H_wrong ∈ tb := tbm 21 (by decide +kernel) (by decide +kernel)
theorem kv_H_headType : Cond.selects "ProofReader$Checker" y_H_headType y_H_headType ∈ tb := tbm 22 (by decide +kernel) (by decide +kernel)
theorem kv_H_fit : Cond.selects "ProofReader$Checker" y_H_fit y_H_fit ∈ tb := tbm 23 (by decide +kernel) (by decide +kernel)
theorem kv_H_object : Cond.selects "ProofReader$Checker" y_H_object y_H_object ∈ tb := tbm 24 (by decide +kernel) (by decide +kernel)
theorem kv_H_application : Cond.selects "ProofReader$Checker" y_H_application y_H_application ∈ tb := tbm 25 (by decide +kernel) (by decide +kernel)
theorem kv_U_push : Cond.selects "ProofReader$Putter" y_U_push y_U_push ∈ tb := tbm 26 (by decide +kernel) (by decide +kernel)
theorem kv_U_step : Cond.selects "ProofReader$Putter" y_U_step y_U_step ∈ tb := tbm 27 (by decide +kernel) (by decide +kernel)
theorem kv_U_shiftOf : Cond.selects "ProofReader$Putter" y_U_shiftOf y_U_shiftOf ∈ tb := tbm 28 (by decide +kernel) (by decide +kernel)
theorem kv_I_close : Cond.selects "ProofReader$Printer" y_I_close y_I_close ∈ tb := tbm 29 (by decide +kernel) (by decide +kernel)
theorem kv_I_markParts : Cond.selects "ProofReader$Printer" y_I_markParts y_I_markParts ∈ tb := tbm 30 (by decide +kernel) (by decide +kernel)
theorem kv_I_node : Cond.selects "ProofReader$Printer" y_I_node y_I_node ∈ tb := tbm 31 (by decide +kernel) (by decide +kernel)
theorem kv_I_closeLater : Cond.selects "ProofReader$Printer" y_I_closeLater y_I_closeLater ∈ tb := tbm 32 (by decide +kernel) (by decide +kernel)
theorem kv_I_word : Cond.selects "ProofReader$Printer" y_I_word y_I_word ∈ tb := tbm 33 (by decide +kernel) (by decide +kernel)
theorem kv_I_variable : Cond.selects "ProofReader$Printer" y_I_variable y_I_variable ∈ tb := tbm 34 (by decide +kernel) (by decide +kernel)
theorem kv_I_head : Cond.selects "ProofReader$Printer" y_I_head y_I_head ∈ tb := tbm 35 (by decide +kernel) (by decide +kernel)
theorem kv_I_bytesOf : Cond.selects "ProofReader$Printer" y_I_bytesOf y_I_bytesOf ∈ tb := tbm 36 (by decide +kernel) (by decide +kernel)
theorem kv_H_type : Cond.selects "ProofReader$Checker" y_H_type y_H_type ∈ tb := tbm 37 (by decide +kernel) (by decide +kernel)
theorem kv_H_familyApplication : Cond.selects "ProofReader$Checker" y_H_familyApplication y_H_familyApplication ∈ tb := tbm 38 (by decide +kernel) (by decide +kernel)
theorem kv_M_readToken : Cond.selects "ProofReaderModel" y_M_readToken y_M_readToken ∈ tb := tbm 40 (by decide +kernel) (by decide +kernel)
theorem kv_M_readName : Cond.selects "ProofReaderModel" y_M_readName y_M_readName ∈ tb := tbm 41 (by decide +kernel) (by decide +kernel)
theorem kv_M_tell : Cond.selects "ProofReaderModel" y_M_tell y_M_tell ∈ tb := tbm 42 (by decide +kernel) (by decide +kernel)
theorem kv_M_constantOf : Cond.selects "ProofReaderModel" y_M_constantOf y_M_constantOf ∈ tb := tbm 43 (by decide +kernel) (by decide +kernel)
theorem kv_M_fails : Cond.selects "ProofReaderModel" y_M_fails y_M_fails ∈ tb := tbm 44 (by decide +kernel) (by decide +kernel)
theorem kv_M_takes : Cond.selects "ProofReaderModel" y_M_takes y_M_takes ∈ tb := tbm 45 (by decide +kernel) (by decide +kernel)
theorem kv_M_failsToken : Cond.selects "ProofReaderModel" y_M_failsToken y_M_failsToken ∈ tb := tbm 46 (by decide +kernel) (by decide +kernel)
theorem kv_M_readExpression : Cond.selects "ProofReaderModel" y_M_readExpression y_M_readExpression ∈ tb := tbm 47 (by decide +kernel) (by decide +kernel)
theorem kv_M_goesOn : Cond.selects "ProofReaderModel" y_M_goesOn y_M_goesOn ∈ tb := tbm 48 (by decide +kernel) (by decide +kernel)
theorem kv_M_argument : Cond.selects "ProofReaderModel" y_M_argument y_M_argument ∈ tb := tbm 49 (by decide +kernel) (by decide +kernel)
theorem kv_M_counts : Cond.selects "ProofReaderModel" y_M_counts y_M_counts ∈ tb := tbm 50 (by decide +kernel) (by decide +kernel)
theorem kv_M_enter : Cond.selects "ProofReaderModel" y_M_enter y_M_enter ∈ tb := tbm 51 (by decide +kernel) (by decide +kernel)
theorem kv_M_readHead : Cond.selects "ProofReaderModel" y_M_readHead y_M_readHead ∈ tb := tbm 52 (by decide +kernel) (by decide +kernel)
theorem kv_M_find : Cond.selects "ProofReaderModel" y_M_find y_M_find ∈ tb := tbm 53 (by decide +kernel) (by decide +kernel)
theorem kv_M_put : Cond.selects "ProofReaderModel" y_M_put y_M_put ∈ tb := tbm 54 (by decide +kernel) (by decide +kernel)
theorem kv_M_arrow : Cond.selects "ProofReaderModel" y_M_arrow y_M_arrow ∈ tb := tbm 55 (by decide +kernel) (by decide +kernel)
theorem kv_M_leave : Cond.selects "ProofReaderModel" y_M_leave y_M_leave ∈ tb := tbm 56 (by decide +kernel) (by decide +kernel)
theorem kv_M_show : Cond.selects "ProofReaderModel" y_M_show y_M_show ∈ tb := tbm 57 (by decide +kernel) (by decide +kernel)
theorem kv_M_begins : Cond.selects "ProofReaderModel" y_M_begins y_M_begins ∈ tb := tbm 58 (by decide +kernel) (by decide +kernel)
theorem kv_M_beginProduct : Cond.selects "ProofReaderModel" y_M_beginProduct y_M_beginProduct ∈ tb := tbm 59 (by decide +kernel) (by decide +kernel)
theorem kv_M_beginFunction : Cond.selects "ProofReaderModel" y_M_beginFunction y_M_beginFunction ∈ tb := tbm 60 (by decide +kernel) (by decide +kernel)
theorem kv_M_then : Cond.selects "ProofReaderModel" y_M_then y_M_then ∈ tb := tbm 61 (by decide +kernel) (by decide +kernel)
theorem kv_M_doAll : Cond.selects "ProofReaderModel" y_M_doAll y_M_doAll ∈ tb := tbm 62 (by decide +kernel) (by decide +kernel)
theorem kv_M_doTask : Cond.selects "ProofReaderModel" y_M_doTask y_M_doTask ∈ tb := tbm 63 (by decide +kernel) (by decide +kernel)
theorem kv_M_checkSort : Cond.selects "ProofReaderModel" y_M_checkSort y_M_checkSort ∈ tb := tbm 64 (by decide +kernel) (by decide +kernel)
theorem kv_M_isFamily : Cond.selects "ProofReaderModel" y_M_isFamily y_M_isFamily ∈ tb := tbm 65 (by decide +kernel) (by decide +kernel)
theorem kv_M_skip : Cond.selects "ProofReaderModel" y_M_skip y_M_skip ∈ tb := tbm 66 (by decide +kernel) (by decide +kernel)
theorem kv_M_from : Cond.selects "ProofReaderModel" y_M_from y_M_from ∈ tb := tbm 67 (by decide +kernel) (by decide +kernel)
theorem kv_M_startArguments : Cond.selects "ProofReaderModel" y_M_startArguments y_M_startArguments ∈ tb := tbm 68 (by decide +kernel) (by decide +kernel)
theorem kv_M_copy : Cond.selects "ProofReaderModel" y_M_copy y_M_copy ∈ tb := tbm 69 (by decide +kernel) (by decide +kernel)
theorem kv_M_later : Cond.selects "ProofReaderModel" y_M_later y_M_later ∈ tb := tbm 70 (by decide +kernel) (by decide +kernel)
theorem kv_M_giveApplication : Cond.selects "ProofReaderModel" y_M_giveApplication y_M_giveApplication ∈ tb := tbm 71 (by decide +kernel) (by decide +kernel)
theorem kv_M_giveInPlace : Cond.selects "ProofReaderModel" y_M_giveInPlace y_M_giveInPlace ∈ tb := tbm 72 (by decide +kernel) (by decide +kernel)
theorem kv_M_give : Cond.selects "ProofReaderModel" y_M_give y_M_give ∈ tb := tbm 73 (by decide +kernel) (by decide +kernel)
theorem kv_M_giveBinder : Cond.selects "ProofReaderModel" y_M_giveBinder y_M_giveBinder ∈ tb := tbm 74 (by decide +kernel) (by decide +kernel)
theorem kv_M_checkObject : Cond.selects "ProofReaderModel" y_M_checkObject y_M_checkObject ∈ tb := tbm 75 (by decide +kernel) (by decide +kernel)
theorem kv_M_checkFunction : Cond.selects "ProofReaderModel" y_M_checkFunction y_M_checkFunction ∈ tb := tbm 76 (by decide +kernel) (by decide +kernel)
theorem kv_M_checkArguments : Cond.selects "ProofReaderModel" y_M_checkArguments y_M_checkArguments ∈ tb := tbm 77 (by decide +kernel) (by decide +kernel)
theorem kv_M_print : Cond.selects "ProofReaderModel" y_M_print y_M_print ∈ tb := tbm 78 (by decide +kernel) (by decide +kernel)
theorem kv_M_sayPart : Cond.selects "ProofReaderModel" y_M_sayPart y_M_sayPart ∈ tb := tbm 79 (by decide +kernel) (by decide +kernel)
theorem kv_M_say : Cond.selects "ProofReaderModel" y_M_say y_M_say ∈ tb := tbm 80 (by decide +kernel) (by decide +kernel)
theorem kv_M_sayNumber : Cond.selects "ProofReaderModel" y_M_sayNumber y_M_sayNumber ∈ tb := tbm 81 (by decide +kernel) (by decide +kernel)
theorem kv_M_sayApplication : Cond.selects "ProofReaderModel" y_M_sayApplication y_M_sayApplication ∈ tb := tbm 82 (by decide +kernel) (by decide +kernel)
theorem kv_M_sayName : Cond.selects "ProofReaderModel" y_M_sayName y_M_sayName ∈ tb := tbm 83 (by decide +kernel) (by decide +kernel)
theorem kv_M_isSame : Cond.selects "ProofReaderModel" y_M_isSame y_M_isSame ∈ tb := tbm 84 (by decide +kernel) (by decide +kernel)
theorem kv_M_goBehind : Cond.selects "ProofReaderModel" y_M_goBehind y_M_goBehind ∈ tb := tbm 85 (by decide +kernel) (by decide +kernel)
theorem kv_M_keep : Cond.selects "ProofReaderModel" y_M_keep y_M_keep ∈ tb := tbm 86 (by decide +kernel) (by decide +kernel)
theorem kv_M_question : Cond.selects "ProofReaderModel" y_M_question y_M_question ∈ tb := tbm 87 (by decide +kernel) (by decide +kernel)
theorem kv_M_lastPart : Cond.selects "ProofReaderModel" y_M_lastPart y_M_lastPart ∈ tb := tbm 88 (by decide +kernel) (by decide +kernel)
theorem kv_M_products : Cond.selects "ProofReaderModel" y_M_products y_M_products ∈ tb := tbm 89 (by decide +kernel) (by decide +kernel)
theorem kv_M_size : Cond.selects "ProofReaderModel" y_M_size y_M_size ∈ tb := tbm 90 (by decide +kernel) (by decide +kernel)
theorem kv_M_order : Cond.selects "ProofReaderModel" y_M_order y_M_order ∈ tb := tbm 91 (by decide +kernel) (by decide +kernel)
end
section
/-! contracts over worlds: a method's words are its own code and the common words tb; its world is a list of cells; its end is a list of cells with an answer -/
abbrev mw (y : MethodName) (cc : ByteArray) (n : Nat) (ret : Option FieldType) : List Cond := .code y cc n ret :: tb
theorem good_tb : GoodIn tb tb := fun _ h => ⟨h, good_of_word (List.mem_filter.mp h).2⟩
theorem good_mw {y : MethodName} {cc : ByteArray} {n : Nat} {ret : Option FieldType} (h : Cond.code y cc n ret ∈ tb) : GoodIn tb (mw y cc n ret) := fun w hw => (List.mem_cons.mp hw).elim (fun e => e ▸ good_tb _ h) (good_tb w)
abbrev Tys : Type := List (ClassId × FieldType)
/-- the five private members of nest mates that the outer class calls -/
def nst (U : State) : Prop := va_Nw (.methodLinkNest "ProofReader" 9 y_F_init "ProofReader") U ∧ va_Nw (.methodLinkNest "ProofReader" 18 y_C_init "ProofReader") U ∧ va_Nw (.methodLinkNest "ProofReader" 25 y_P_init "ProofReader") U ∧ va_Nw (.methodLinkNest "ProofReader" 189 y_H_type "ProofReader") U ∧ va_Nw (.methodLinkNest "ProofReader" 196 y_H_object "ProofReader") U
theorem nst.warm {s U : State} (hW : s.WarmedH U.vm) (h : nst s) : nst U := ⟨va_Nw.warmM hW h.1, va_Nw.warmM hW h.2.1, va_Nw.warmM hW h.2.2.1, va_Nw.warmM hW h.2.2.2.1, va_Nw.warmM hW h.2.2.2.2⟩
theorem nst.same {s U : State} (e : s.vm = U.vm) (h : nst s) : nst U := ⟨va_Nw.same rfl e h.1, va_Nw.same rfl e h.2.1, va_Nw.same rfl e h.2.2.1, va_Nw.same rfl e h.2.2.2.1, va_Nw.same rfl e h.2.2.2.2⟩
def vK (D : va_G) (tys : Tys) (U : State) : Prop := va_K D cls tys U ∧ nst U
theorem vK.warm {D : va_G} {tys : Tys} {s U : State} (hW : s.WarmedH U.vm) (h : vK D tys s) : vK D tys U := ⟨va_K.moved hW.alike h.1, h.2.warm hW⟩
/-- the world in the middle of a method -/
def Wd (D : va_G) (tys : Tys) (A : Nat → Prop) (s : State) (H0 H : Heap) (locs : List Loc) (ws : va_W) : Prop := vK D tys s ∧ va_P D cls ws H ∧ va_D A ws ∧ va_S A H0 H locs
/-- what a world is at a method's start -/
abbrev PcW (D : va_G) (tys : Tys) (sz : Nat) (ws : va_W) (U : State) : Prop := U.heap.size = sz ∧ va_P D cls ws U.heap ∧ vK D tys U ∧ va_D (fun _ => True) ws
abbrev BW (D : va_G) (tys : Tys) (A : Nat → Prop) (u : va_W) (t : State) : Prop := va_P D cls u t.heap ∧ vK D tys t ∧ va_D A u
def Ci (l : Launch) (D : va_G) (tys : Tys) (y : MethodName) (cc : ByteArray) (n : Nat) (ret : Option FieldType) (rm : Room) (av : List Value) (ws : va_W) (post : Int32 → va_W → Prop) : Prop :=
  ∀ sz, Met l y (mw y cc n ret) rm (va_Pc av (PcW D tys sz ws)) (va_Qi (S := va_W) post (BW D tys (va_A ws sz)) (va_A ws sz)) rm.cells rm.slots (va_A ws sz)
def Cl (l : Launch) (D : va_G) (tys : Tys) (y : MethodName) (cc : ByteArray) (n : Nat) (ret : Option FieldType) (rm : Room) (av : List Value) (ws : va_W) (post : Int64 → va_W → Prop) : Prop :=
  ∀ sz, Met l y (mw y cc n ret) rm (va_Pc av (PcW D tys sz ws)) (va_Ql (S := va_W) post (BW D tys (va_A ws sz)) (va_A ws sz)) rm.cells rm.slots (va_A ws sz)
def Cv (l : Launch) (D : va_G) (tys : Tys) (y : MethodName) (cc : ByteArray) (n : Nat) (rm : Room) (av : List Value) (ws : va_W) (post : va_W → Prop) : Prop :=
  ∀ sz, Met l y (mw y cc n none) rm (va_Pc av (PcW D tys sz ws)) (va_Qv (S := va_W) post (BW D tys (va_A ws sz)) (va_A ws sz)) rm.cells rm.slots (va_A ws sz)
theorem Wd.B {D : va_G} {tys : Tys} {A : Nat → Prop} {s t : State} {H0 H : Heap} {locs : List Loc} {u : va_W} (h : Wd D tys A s H0 H locs u) (ht : t.heap = H) (hW : s.WarmedH t.vm) : BW D tys A u t := ⟨by rw [ht]; exact h.2.1, h.1.warm hW, h.2.2.1⟩
section KM
variable {l : Launch} {D : va_G} {tys : Tys} {y : MethodName} {cc : ByteArray} {n : Nat} {rm : Room} {av : List Value} {ws : va_W} {own : String}
theorem met_i {ret : FieldType} {post : Int32 → va_W → Prop} (hy : plainName y.cls = true) (ho : y.cls = own) (hn : (lg_sl av).length ≤ n)
    (body : ∀ (p : Program) (e : Env) (s : State) (m : MethodId) (args : Array Value) (below : List Frame) (meth : Method) (c : Code) (A : Nat → Prop) (Q : State → Prop), CallFix p m c cc n s args tb own → (∀ q, s.heap.size ≤ q → A q) →
      (∀ (pc : Nat) (H : Heap) (locs : List Loc) (ls : Array Slot) (v : Int32) (u : va_W), decode cc pc = .ok (.ireturn, 1) → narrow ret (.int v) = .int v → post v u → Wd D tys A s s.heap H locs u → W p l e rm s m args below meth c H locs rm.cells rm.slots Q (F0 m pc ls [.int v])) →
      ∀ ls, lv_has ls n (lv_args 0 av) → Wd D tys A s s.heap s.heap [] ws → W p l e rm s m args below meth c s.heap [] 0 0 Q (F0 m 0 ls [])) : Ci l D tys y cc n (some ret) rm av ws post := by
  intro sz
  refine Met.ofW (cc := cc) (maxL := n) (ret := some ret) hy rfl ?_
  intro p e s m args below meth c s₁ B hml hv
  obtain ⟨rfl, hsz, hP, hK, hD0⟩ := hv
  have hts := atoms_spec (ws := mw y cc n (some ret)) B.pre
  have hown : s.vm.findClass own = some m.cls := by rw [← ho]; exact findClass_of_methodNamed B.named
  have hlocks := B.notSynchronized
  subst hsz
  rw [lg_entry_eq]
  refine body p e s m _ below meth c (va_A ws s.heap.size) _ ⟨B.exec, B.bytes, hml, hown, fun w h => hts w (List.mem_cons_of_mem _ h)⟩ (fun q h => Or.inr h) ?_ _ (lv_entry av hn) ⟨hK, hP, hD0.self, va_S.rf⟩
  intro pc H locs ls v u hdg hnr hp hW
  exact W.zret B.exec B.bytes B.returns hnr (fun t ht hw => ⟨⟨v, u, rfl, hp, hW.B ht hw⟩, hW.2.2.2.F ht⟩) hW.2.2.2.2.2 hdg
theorem met_l {post : Int64 → va_W → Prop} (hy : plainName y.cls = true) (ho : y.cls = own) (hn : (lg_sl av).length ≤ n)
    (body : ∀ (p : Program) (e : Env) (s : State) (m : MethodId) (args : Array Value) (below : List Frame) (meth : Method) (c : Code) (A : Nat → Prop) (Q : State → Prop), CallFix p m c cc n s args tb own → (∀ q, s.heap.size ≤ q → A q) →
      (∀ (pc : Nat) (H : Heap) (locs : List Loc) (ls : Array Slot) (v : Int64) (u : va_W), decode cc pc = .ok (.lreturn, 1) → post v u → Wd D tys A s s.heap H locs u → W p l e rm s m args below meth c H locs rm.cells rm.slots Q (F0 m pc ls [.long v])) →
      ∀ ls, lv_has ls n (lv_args 0 av) → Wd D tys A s s.heap s.heap [] ws → W p l e rm s m args below meth c s.heap [] 0 0 Q (F0 m 0 ls [])) : Cl l D tys y cc n (some .long) rm av ws post := by
  intro sz
  refine Met.ofW (cc := cc) (maxL := n) (ret := some .long) hy rfl ?_
  intro p e s m args below meth c s₁ B hml hv
  obtain ⟨rfl, hsz, hP, hK, hD0⟩ := hv
  have hts := atoms_spec (ws := mw y cc n (some .long)) B.pre
  have hown : s.vm.findClass own = some m.cls := by rw [← ho]; exact findClass_of_methodNamed B.named
  have hlocks := B.notSynchronized
  subst hsz
  rw [lg_entry_eq]
  refine body p e s m _ below meth c (va_A ws s.heap.size) _ ⟨B.exec, B.bytes, hml, hown, fun w h => hts w (List.mem_cons_of_mem _ h)⟩ (fun q h => Or.inr h) ?_ _ (lv_entry av hn) ⟨hK, hP, hD0.self, va_S.rf⟩
  intro pc H locs ls v u hdg hp hW
  exact W.lret B.exec B.bytes B.returns (fun t ht hw => ⟨⟨v, u, rfl, hp, hW.B ht hw⟩, hW.2.2.2.F ht⟩) hW.2.2.2.2.2 hdg
theorem met_v {post : va_W → Prop} (hy : plainName y.cls = true) (ho : y.cls = own) (hn : (lg_sl av).length ≤ n)
    (body : ∀ (p : Program) (e : Env) (s : State) (m : MethodId) (args : Array Value) (below : List Frame) (meth : Method) (c : Code) (A : Nat → Prop) (Q : State → Prop), CallFix p m c cc n s args tb own → meth.name = y.name → (∀ q, s.heap.size ≤ q → A q) →
      (∀ (pc : Nat) (H : Heap) (locs : List Loc) (ls : Array Slot) (u : va_W), decode cc pc = .ok (.return_, 1) → post u → Wd D tys A s s.heap H locs u → W p l e rm s m args below meth c H locs rm.cells rm.slots Q (F0 m pc ls [])) →
      ∀ ls, lv_has ls n (lv_args 0 av) → Wd D tys A s s.heap s.heap [] ws → W p l e rm s m args below meth c s.heap [] 0 0 Q (F0 m 0 ls [])) : Cv l D tys y cc n rm av ws post := by
  intro sz
  refine Met.ofW (cc := cc) (maxL := n) (ret := none) hy rfl ?_
  intro p e s m args below meth c s₁ B hml hv
  obtain ⟨rfl, hsz, hP, hK, hD0⟩ := hv
  have hts := atoms_spec (ws := mw y cc n none) B.pre
  have hown : s.vm.findClass own = some m.cls := by rw [← ho]; exact findClass_of_methodNamed B.named
  have hlocks := B.notSynchronized
  subst hsz
  rw [lg_entry_eq]
  refine body p e s m _ below meth c (va_A ws s.heap.size) _ ⟨B.exec, B.bytes, hml, hown, fun w h => hts w (List.mem_cons_of_mem _ h)⟩ (name_of_methodNamed B.named B.method).1 (fun q h => Or.inr h) ?_ _ (lv_entry av hn) ⟨hK, hP, hD0.self, va_S.rf⟩
  intro pc H locs ls u hdg hp hW
  exact W.vret B.exec B.bytes B.returns (fun t ht hw => ⟨⟨u, rfl, hp, hW.B ht hw⟩, hW.2.2.2.F ht⟩) hW.2.2.2.2.2 hdg
end KM
section KR
variable {p : Program} {l : Launch} {e : Env} {R : Room} {s : State} {m : MethodId} {args : Array Value} {below : List Frame} {meth : Method} {c : Code} {H : Heap} {locs : List Loc} {cells slots : Nat} {Q : State → Prop}
variable {cc : ByteArray} {nL pc : Nat} {ls : Array Slot} {rest : List Value} {D : va_G} {A : Nat → Prop} {a : Nat} {tys : Tys} {ws : va_W} {H0 : Heap} {own : String}
theorem g_get {C : String} {T : u_T} {N ci index : Nat} (hin : ∀ w ∈ u_ws C T N, w ∈ tb) (S : CallFix p m c cc nL s args tb own) (hW : Wd D tys A s H0 H locs ws) (q0 : Nat) {fs : List Value} (he : ws[q0]? = some (a, .inr (ci, fs))) (hc : cls[ci]? = some (C, T, N)) (k : Nat) (hk : k < N) (hlink : Cond.fieldLink own index (T k).1 (T k).2.1 (T k).2.2.1 ∈ tb) {v : Value} (hv : fs[k]? = some v) (hdg : decode cc pc = .ok (.getfield index, 3))
    (kk : W p l e R s m args below meth c H locs cells slots Q (F0 m (pc + 3) ls (v :: rest))) : W p l e R s m args below meth c H locs cells slots Q (F0 m pc ls (.ref a :: rest)) :=
  va_get S.1 S.2.1 S.2.2.2.2 hin S.2.2.2.1 hW.1.1 hW.2.1 q0 he hc k hk (S.2.2.2.2 _ hlink) (fun _ h => h) hv hdg kk
theorem g_put {C : String} {T : u_T} {N ci index : Nat} (hin : ∀ w ∈ u_ws C T N, w ∈ tb) (ty0 : Nat → FieldType) (hty : ∀ k, k < N → parseFieldDescriptor (T k).2.2.1 = some (ty0 k)) (hnm : ∀ a, a < N → ∀ b, b < N → a ≠ b → (T a).2.1 ≠ (T b).2.1) (S : CallFix p m c cc nL s args tb own) (hW : Wd D tys A s H0 H locs ws) (q0 : Nat) {fs : List Value} (he : ws[q0]? = some (a, .inr (ci, fs))) (hc : cls[ci]? = some (C, T, N)) (k : Nat) (hk : k < N) (hlink : Cond.fieldLink own index (T k).1 (T k).2.1 (T k).2.2.1 ∈ tb) (hfin : (T k).2.2.2 = false) {v : Value} (hn : narrow (ty0 k) v = v) (hfit : fits (ty0 k) v = true) (hl : k < fs.length) {ws2 : va_W} (h2 : ws.set q0 (a, .inr (ci, fs.set k v)) = ws2)
    (hdg : decode cc pc = .ok (.putfield index, 3)) (kk : ∀ (H1 : Heap) (locs1 : List Loc), Wd D tys A s H0 H1 locs1 ws2 → W p l e R s m args below meth c H1 locs1 cells slots Q (F0 m (pc + 3) ls rest)) : W p l e R s m args below meth c H locs cells slots Q (F0 m pc ls (v :: .ref a :: rest)) := by
  subst h2
  exact va_put S.1 S.2.1 S.2.2.2.2 hin ty0 hty hnm S.2.2.2.1 hW.1.1 hW.2.1 hW.2.2.1 hW.2.2.2 q0 he hc k hk (S.2.2.2.2 _ hlink) (fun _ h => h) hfin (hty k hk) hn hfit hl hdg (fun H1 locs1 h1 h2 h3 => kk H1 locs1 ⟨hW.1, h1, h2, h3⟩)
theorem g_putF {C : String} {T : u_T} {N ci index : Nat} (hin : ∀ w ∈ u_ws C T N, w ∈ tb) (ty0 : Nat → FieldType) (hty : ∀ k, k < N → parseFieldDescriptor (T k).2.2.1 = some (ty0 k)) (hnm : ∀ a, a < N → ∀ b, b < N → a ≠ b → (T a).2.1 ≠ (T b).2.1) (S : CallFix p m c cc nL s args tb own) (hW : Wd D tys A s H0 H locs ws) (q0 : Nat) {fs : List Value} (he : ws[q0]? = some (a, .inr (ci, fs))) (hc : cls[ci]? = some (C, T, N)) (k : Nat) (hk : k < N) (hlink : Cond.fieldLink own index (T k).1 (T k).2.1 (T k).2.2.1 ∈ tb) (hfin : (T k).2.2.2 = true) (hin2 : meth.name = "<init>") (hdecl : (T k).1 = own) {v : Value} (hn : narrow (ty0 k) v = v) (hfit : fits (ty0 k) v = true) (hl : k < fs.length) {ws2 : va_W} (h2 : ws.set q0 (a, .inr (ci, fs.set k v)) = ws2)
    (hdg : decode cc pc = .ok (.putfield index, 3)) (kk : ∀ (H1 : Heap) (locs1 : List Loc), Wd D tys A s H0 H1 locs1 ws2 → W p l e R s m args below meth c H1 locs1 cells slots Q (F0 m (pc + 3) ls rest)) : W p l e R s m args below meth c H locs cells slots Q (F0 m pc ls (v :: .ref a :: rest)) := by
  subst h2
  exact va_putF S.1 S.2.1 S.2.2.2.2 hin ty0 hty hnm S.2.2.2.1 hW.1.1 hW.2.1 hW.2.2.1 hW.2.2.2 q0 he hc k hk (S.2.2.2.2 _ hlink) (fun _ h => h) hfin hin2 hdecl (hty k hk) hn hfit hl hdg (fun H1 locs1 h1 h2 h3 => kk H1 locs1 ⟨hW.1, h1, h2, h3⟩)
theorem g_iald (S : CallFix p m c cc nL s args tb own) (hW : Wd D tys A s H0 H locs ws) (q0 t0 : Nat) {cA : ClassId} {n : Nat} {f : Nat → Int32} (ha : ws[q0]? = some (a, .inl (cA, n, .inl f))) (ht : tys[t0]? = some (cA, .int)) {i : Int32} (hin : vp_in i n) (hdg : decode cc pc = .ok (.iaload, 1))
    (kk : W p l e R s m args below meth c H locs cells slots Q (F0 m (pc + 1) ls (.int (f i.toNatClampNeg) :: rest))) : W p l e R s m args below meth c H locs cells slots Q (F0 m pc ls (.int i :: .ref a :: rest)) := va_iald S.1 S.2.1 hW.1.1 hW.2.1 q0 t0 ha ht hin hdg kk
theorem g_bald (S : CallFix p m c cc nL s args tb own) (hW : Wd D tys A s H0 H locs ws) (q0 t0 : Nat) {cA : ClassId} {n : Nat} {f : Nat → Int32} (ha : ws[q0]? = some (a, .inl (cA, n, .inl f))) (ht : tys[t0]? = some (cA, .byte)) {i : Int32} (hin : vp_in i n) (hdg : decode cc pc = .ok (.baload, 1))
    (kk : W p l e R s m args below meth c H locs cells slots Q (F0 m (pc + 1) ls (.int (f i.toNatClampNeg) :: rest))) : W p l e R s m args below meth c H locs cells slots Q (F0 m pc ls (.int i :: .ref a :: rest)) := va_bald S.1 S.2.1 hW.1.1 hW.2.1 q0 t0 ha ht hin hdg kk
theorem g_zald (S : CallFix p m c cc nL s args tb own) (hW : Wd D tys A s H0 H locs ws) (q0 t0 : Nat) {cA : ClassId} {n : Nat} {f : Nat → Int32} (ha : ws[q0]? = some (a, .inl (cA, n, .inl f))) (ht : tys[t0]? = some (cA, .boolean)) {i : Int32} (hin : vp_in i n) (hdg : decode cc pc = .ok (.baload, 1))
    (kk : W p l e R s m args below meth c H locs cells slots Q (F0 m (pc + 1) ls (.int (f i.toNatClampNeg) :: rest))) : W p l e R s m args below meth c H locs cells slots Q (F0 m pc ls (.int i :: .ref a :: rest)) := va_zald S.1 S.2.1 hW.1.1 hW.2.1 q0 t0 ha ht hin hdg kk
theorem g_lald (S : CallFix p m c cc nL s args tb own) (hW : Wd D tys A s H0 H locs ws) (q0 t0 : Nat) {cA : ClassId} {n : Nat} {f : Nat → Int64} (ha : ws[q0]? = some (a, .inl (cA, n, .inr (.inl f)))) (ht : tys[t0]? = some (cA, .long)) {i : Int32} (hin : vp_in i n) (hdg : decode cc pc = .ok (.laload, 1))
    (kk : W p l e R s m args below meth c H locs cells slots Q (F0 m (pc + 1) ls (.long (f i.toNatClampNeg) :: rest))) : W p l e R s m args below meth c H locs cells slots Q (F0 m pc ls (.int i :: .ref a :: rest)) := va_lald S.1 S.2.1 hW.1.1 hW.2.1 q0 t0 ha ht hin hdg kk
theorem g_iast (S : CallFix p m c cc nL s args tb own) (hW : Wd D tys A s H0 H locs ws) (q0 t0 : Nat) {cA : ClassId} {n : Nat} {f : Nat → Int32} (ha : ws[q0]? = some (a, .inl (cA, n, .inl f))) (ht : tys[t0]? = some (cA, .int)) {i x : Int32} (hin : vp_in i n) {ws2 : va_W} (h2 : ws.set q0 (a, .inl (cA, n, .inl (upd f i.toNatClampNeg x))) = ws2) (hdg : decode cc pc = .ok (.iastore, 1))
    (kk : ∀ (H1 : Heap) (locs1 : List Loc), Wd D tys A s H0 H1 locs1 ws2 → W p l e R s m args below meth c H1 locs1 cells slots Q (F0 m (pc + 1) ls rest)) : W p l e R s m args below meth c H locs cells slots Q (F0 m pc ls (.int x :: .int i :: .ref a :: rest)) := by
  subst h2
  exact va_iast S.1 S.2.1 hW.1.1 hW.2.1 hW.2.2.1 hW.2.2.2 q0 t0 ha ht hin hdg (fun H1 locs1 h1 h2 h3 => kk H1 locs1 ⟨hW.1, h1, h2, h3⟩)
theorem g_bast (S : CallFix p m c cc nL s args tb own) (hW : Wd D tys A s H0 H locs ws) (q0 t0 : Nat) {cA : ClassId} {n : Nat} {f : Nat → Int32} (ha : ws[q0]? = some (a, .inl (cA, n, .inl f))) (ht : tys[t0]? = some (cA, .byte)) {i x : Int32} (hin : vp_in i n) {ws2 : va_W} (h2 : ws.set q0 (a, .inl (cA, n, .inl (upd f i.toNatClampNeg (vp_nar .byte x)))) = ws2) (hdg : decode cc pc = .ok (.bastore, 1))
    (kk : ∀ (H1 : Heap) (locs1 : List Loc), Wd D tys A s H0 H1 locs1 ws2 → W p l e R s m args below meth c H1 locs1 cells slots Q (F0 m (pc + 1) ls rest)) : W p l e R s m args below meth c H locs cells slots Q (F0 m pc ls (.int x :: .int i :: .ref a :: rest)) := by
  subst h2
  exact va_bast S.1 S.2.1 hW.1.1 hW.2.1 hW.2.2.1 hW.2.2.2 q0 t0 ha ht hin hdg (fun H1 locs1 h1 h2 h3 => kk H1 locs1 ⟨hW.1, h1, h2, h3⟩)
theorem g_zast (S : CallFix p m c cc nL s args tb own) (hW : Wd D tys A s H0 H locs ws) (q0 t0 : Nat) {cA : ClassId} {n : Nat} {f : Nat → Int32} (ha : ws[q0]? = some (a, .inl (cA, n, .inl f))) (ht : tys[t0]? = some (cA, .boolean)) {i x : Int32} (hin : vp_in i n) {ws2 : va_W} (h2 : ws.set q0 (a, .inl (cA, n, .inl (upd f i.toNatClampNeg (vp_nar .boolean x)))) = ws2) (hdg : decode cc pc = .ok (.bastore, 1))
    (kk : ∀ (H1 : Heap) (locs1 : List Loc), Wd D tys A s H0 H1 locs1 ws2 → W p l e R s m args below meth c H1 locs1 cells slots Q (F0 m (pc + 1) ls rest)) : W p l e R s m args below meth c H locs cells slots Q (F0 m pc ls (.int x :: .int i :: .ref a :: rest)) := by
  subst h2
  exact va_zast S.1 S.2.1 hW.1.1 hW.2.1 hW.2.2.1 hW.2.2.2 q0 t0 ha ht hin hdg (fun H1 locs1 h1 h2 h3 => kk H1 locs1 ⟨hW.1, h1, h2, h3⟩)
theorem g_last (S : CallFix p m c cc nL s args tb own) (hW : Wd D tys A s H0 H locs ws) (q0 t0 : Nat) {cA : ClassId} {n : Nat} {f : Nat → Int64} (ha : ws[q0]? = some (a, .inl (cA, n, .inr (.inl f)))) (ht : tys[t0]? = some (cA, .long)) {i : Int32} {x : Int64} (hin : vp_in i n) {ws2 : va_W} (h2 : ws.set q0 (a, .inl (cA, n, .inr (.inl (vp_updL f i.toNatClampNeg x)))) = ws2) (hdg : decode cc pc = .ok (.lastore, 1))
    (kk : ∀ (H1 : Heap) (locs1 : List Loc), Wd D tys A s H0 H1 locs1 ws2 → W p l e R s m args below meth c H1 locs1 cells slots Q (F0 m (pc + 1) ls rest)) : W p l e R s m args below meth c H locs cells slots Q (F0 m pc ls (.long x :: .int i :: .ref a :: rest)) := by
  subst h2
  exact va_last S.1 S.2.1 hW.1.1 hW.2.1 hW.2.2.1 hW.2.2.2 q0 t0 ha ht hin hdg (fun H1 locs1 h1 h2 h3 => kk H1 locs1 ⟨hW.1, h1, h2, h3⟩)
theorem va_RA_num {U : State} {c1 c2 : ClassId} {ty : FieldType} (h : ∀ C, ty ≠ .object C) (h1 : va_RA U c1 ty) (h2 : va_RA U c2 ty) : c1 = c2 := by
  cases ty with
  | object C => exact absurd rfl (h C)
  | _ => exact Option.some.inj (Eq.trans (Eq.symm h1) h2)
theorem g_newa (S : CallFix p m c cc nL s args tb own) (hW : Wd D tys A s H0 H locs ws) (hA : ∀ q, H0.size ≤ q → A q) {atype : ArrayType} (harr : Cond.arrayClass (newarray.typeOf atype) ∈ tb) (t0 : Nat) {cT : ClassId} (ht : tys[t0]? = some (cT, newarray.typeOf atype))
    {n : Int32} {N' : Nat} {a0 : vp_A} (ha : ∀ cA : ClassId, vp_cell cA a0 = arrV cA N' (fun _ => defaultValue (newarray.typeOf atype))) (hn : ¬ n < 0) (hN : n.toNatClampNeg = N') (hbytes : N' * componentBytes (newarray.typeOf atype) ≤ 536870912) (hcells : cells + 1 ≤ R.cells) (hslots : slots + N' ≤ R.slots) (hdg : decode cc pc = .ok (.newarray atype, 2))
    (kk : ∀ (q : Nat) (H1 : Heap), Wd D tys A s H0 H1 locs (ws ++ [(q, .inl (cT, a0))]) → W p l e R s m args below meth c H1 locs (cells + 1) (slots + N') Q (F0 m (pc + 2) ls (.ref q :: rest))) : W p l e R s m args below meth c H locs cells slots Q (F0 m pc ls (.int n :: rest)) := by
  refine va_newa S.1 S.2.1 (S.2.2.2.2 _ harr) rfl hW.1.1 hW.2.1 hW.2.2.1 hW.2.2.2 hA ha hn hN hbytes hcells hslots hdg (fun q cA H1 hK hP hD hS => ?_)
  have e : cA = cT := va_RA_num (fun C => by cases atype <;> simp [newarray.typeOf]) (hK.2 tys.length (cA, newarray.typeOf atype) (by simp)).2 (hW.1.1.2 t0 _ ht).2
  subst e
  exact kk q H1 ⟨hW.1, hP, hD, hS⟩
theorem g_new {C : String} {T : u_T} {N ci index : Nat} (hin : ∀ w ∈ u_ws C T N, w ∈ tb) (ty0 : Nat → FieldType) (hty : ∀ k, k < N → parseFieldDescriptor (T k).2.2.1 = some (ty0 k)) (S : CallFix p m c cc nL s args tb own) (hW : Wd D tys A s H0 H locs ws) (hA : ∀ q, H0.size ≤ q → A q) (hcl : Cond.classLink own index C ∈ tb) (hinst : Cond.instantiable C N ∈ tb) (hini : Cond.initialized C ∈ tb)
    (hc : cls[ci]? = some (C, T, N)) {fs : List Value} (hfs : ∀ j, j < N → defaultValue (ty0 j) = vp_V fs j) (hcells : cells + 1 ≤ R.cells) (hslots : slots + N ≤ R.slots) (hdg : decode cc pc = .ok (.new index, 3))
    (kk : ∀ (q : Nat) (H1 : Heap), Wd D tys A s H0 H1 locs (ws ++ [(q, .inr (ci, fs))]) → W p l e R s m args below meth c H1 locs (cells + 1) (slots + N) Q (F0 m (pc + 3) ls (.ref q :: rest))) : W p l e R s m args below meth c H locs cells slots Q (F0 m pc ls rest) :=
  va_new S.1 S.2.1 S.2.2.2.2 hin ty0 hty S.2.2.2.1 (S.2.2.2.2 _ hcl) (S.2.2.2.2 _ hinst) (S.2.2.2.2 _ hini) hW.1.1 hW.2.1 hW.2.2.1 hW.2.2.2 hA hc hfs hcells hslots hdg (fun q H1 hP hD hS => kk q H1 ⟨hW.1, hP, hD, hS⟩)
theorem g_objInit (S : CallFix p m c cc nL s args tb own) {idx : Nat} (hlink : Cond.methodLink own idx objectInit ∈ tb) (hsz : ls.size = nL) (hdg : decode cc pc = .ok (.invokespecial idx, 3)) (hframes : 1 ≤ R.frames) (hlocals : (rest.map fun v => v.category).sum + 12 ≤ R.locals)
    (kk : W p l e R s m args below meth c H locs cells slots Q (F0 m (pc + 3) ls rest)) : W p l e R s m args below meth c H locs cells slots Q (F0 m pc ls (.ref a :: rest)) :=
  W.objInit S.1 S.2.1 S.2.2.2.1 (S.2.2.2.2 _ hlink) (S.2.2.2.2 _ ki_objectInit) (S.2.2.2.2 _ kk_objectInit) rfl (hsz.trans S.2.2.1.symm) rfl hdg hframes (by show 2 * 0 + _ + 12 ≤ _; omega) kk
end KR
end
section
/-! calls by contract: the callee's cells are cut out of the caller's, what it leaves is put beside the rest -/
theorem sub_at {ws w : va_W} {is : List Nat} (hs : is.map (fun i => ws[i]?) = w.map some) (k : Nat) (q : Nat × va_E) (hq : w[k]? = some q) : ∃ i, is[k]? = some i ∧ ws[i]? = some q := by
  have h1 : (is.map (fun i => ws[i]?))[k]? = some (some q) := by rw [hs, List.getElem?_map, hq]; rfl
  rw [List.getElem?_map] at h1
  cases hi : is[k]? with
  | none => rw [hi] at h1; cases h1
  | some i => rw [hi] at h1; exact ⟨i, rfl, Option.some.inj h1⟩
theorem sub_P {D : va_G} {ws w : va_W} {H : Heap} {is : List Nat} (hP : va_P D cls ws H) (hs : is.map (fun i => ws[i]?) = w.map some) : va_P D cls w H := fun k q hq => by
  obtain ⟨i, -, hi⟩ := sub_at hs k q hq
  exact hP i q hi
/-- another order, or a part, of a world -/
theorem Wd.sub {D : va_G} {tys : Tys} {A : Nat → Prop} {s : State} {H0 H : Heap} {locs : List Loc} {ws ws' : va_W} (h : Wd D tys A s H0 H locs ws) (is : List Nat) (hn : va_nd is = true) (hs : is.map (fun i => ws[i]?) = ws'.map some) : Wd D tys A s H0 H locs ws' := ⟨h.1, sub_P h.2.1 hs, h.2.2.1.sub is hn hs, h.2.2.2⟩
theorem PcW_blind {D : va_G} {tys : Tys} {sz : Nat} {ws : va_W} {av : List Value} : FrameBlind (va_Pc av (PcW D tys sz ws)) := fun a U g mk q => by
  obtain ⟨q0, q1, qP, qK, qD⟩ := q
  exact ⟨q0, q1, qP, ⟨va_K.moved (u := U) (U := U.calling g mk a) (Vm.Alike.refl U.vm) qK.1, qK.2.same rfl⟩, qD⟩
section KC
variable {p : Program} {l : Launch} {e : Env} {R : Room} {s : State} {m : MethodId} {args : Array Value} {below : List Frame} {meth : Method} {c : Code} {H : Heap} {locs : List Loc} {cells slots : Nat} {Q : State → Prop}
variable {cc : ByteArray} {nL pc : Nat} {ls : Array Slot} {rest st : List Value} {D : va_G} {A : Nat → Prop} {tys : Tys} {ws : va_W} {H0 : Heap} {own : String}
variable {y : MethodName} {yc : ByteArray} {yn np index : Nat} {yr : Room} {b : Nat} {As : List Value} {wc wr : va_W} {C : String} {T : u_T} {N ci : Nat} {fs : List Value}
/-- the facts of a call of an instance method that are the same whatever it answers -/
theorem callV_run {ret : Option FieldType} {Qc : Nat → Array Value → State → Outcome → State → Prop} (S : CallFix p m c cc nL s args tb own) (hW : Wd D tys A s H0 H locs ws)
    (hM : Met l y (mw y yc yn ret) yr (va_Pc (.ref b :: As) (PcW D tys H.size wc)) (Qc H.size) yr.cells yr.slots (va_A wc H.size))
    (k1 : Cond.methodLink own index y ∈ tb) (k2 : Cond.instanceMethod y ∈ tb) (k3 : Cond.selects C y y ∈ tb) (k4 : Cond.initialized C ∈ tb) (k5 : Cond.code y yc yn ret ∈ tb)
    (hd : y.cls = C ∧ y.cls ≠ "java/lang/invoke/MethodHandle" ∧ y.cls ≠ "java/lang/invoke/VarHandle" ∧ (parseMethodDescriptor y.desc).map (fun d => d.parameters.length) = some np)
    (hR : yr.frames + 1 ≤ R.frames ∧ 8 + (yn + 11) + yr.locals ≤ R.locals) (hf : cells + yr.cells ≤ R.cells ∧ slots + yr.slots ≤ R.slots)
    (hc : cls[ci]? = some (C, T, N)) (q0 : Nat) (he : wc[q0]? = some (b, .inr (ci, fs))) (isC : List Nat) (hC : isC.map (fun i => ws[i]?) = wc.map some) (hnC : va_nd isC = true)
    (hlen : As.length = np) (hls : ls.size = nL) (hst : st = As.reverse ++ .ref b :: rest) (hroom : (rest.map fun v => v.category).sum ≤ 8) (hdg : decode cc pc = .ok (.invokevirtual index, 3)) :
    va_Run p l e R s m args below meth c H locs cells slots yr.cells yr.slots (F0 m pc ls st) rest (Qc H.size (Value.ref b :: As).toArray) (va_A wc H.size) := by
  have hPc := sub_P hW.2.1 hC
  have hDc := hW.2.2.1.sub isC hnC hC
  have g : GoodIn tb (wsV own index C y (mw y yc yn ret)) := fun w hw => by
    rcases List.mem_append.mp hw with h | h
    · simp only [List.mem_cons, List.not_mem_nil, or_false] at h
      rcases h with rfl | rfl | rfl | rfl
      · exact good_tb _ k1
      · exact good_tb _ k2
      · exact good_tb _ k3
      · exact good_tb _ k4
    · exact good_mw k5 w h
  refine va_runV (As := As) (rest := rest) S hM (cwV np S.2.2.2.2 g rfl rfl rfl hd hR) ⟨PcW_blind, va_recv hW.1.1 hPc hc he, fun U hU hw => ⟨rfl, by rw [hU], by rw [hU]; exact hPc, hW.1.warm hw, hDc.weaken (fun _ _ _ _ => trivial)⟩⟩ rfl hlen hls hst (lv_room hroom) hdg hf
theorem callV_i {ret : Option FieldType} {post : Int32 → va_W → Prop} (hM : Ci l D tys y yc yn ret yr (.ref b :: As) wc post)
    (k1 : Cond.methodLink own index y ∈ tb) (k2 : Cond.instanceMethod y ∈ tb) (k3 : Cond.selects C y y ∈ tb) (k4 : Cond.initialized C ∈ tb) (k5 : Cond.code y yc yn ret ∈ tb)
    (hd : y.cls = C ∧ y.cls ≠ "java/lang/invoke/MethodHandle" ∧ y.cls ≠ "java/lang/invoke/VarHandle" ∧ (parseMethodDescriptor y.desc).map (fun d => d.parameters.length) = some np)
    (S : CallFix p m c cc nL s args tb own) (hW : Wd D tys A s H0 H locs ws) (hA : ∀ q, H0.size ≤ q → A q)
    (hR : yr.frames + 1 ≤ R.frames ∧ 8 + (yn + 11) + yr.locals ≤ R.locals) (hf : cells + yr.cells ≤ R.cells ∧ slots + yr.slots ≤ R.slots)
    (hc : cls[ci]? = some (C, T, N)) (q0 : Nat) (he : wc[q0]? = some (b, .inr (ci, fs))) (isC isR : List Nat) (hC : isC.map (fun i => ws[i]?) = wc.map some) (hnC : va_nd isC = true) (hR2 : isR.map (fun i => ws[i]?) = wr.map some) (hnR : va_nd isR = true) (hdis : ∀ i ∈ isR, i ∉ isC)
    (hlen : As.length = np) (hls : ls.size = nL) (hst : st = As.reverse ++ .ref b :: rest) (hroom : (rest.map fun v => v.category).sum ≤ 8) (hdg : decode cc pc = .ok (.invokevirtual index, 3))
    (kk : ∀ (r : Int32) (u : va_W) (H1 : Heap) (locs1 : List Loc), post r u → Wd D tys A s H0 H1 locs1 (wr ++ u) → W p l e R s m args below meth c H1 locs1 (cells + yr.cells) (slots + yr.slots) Q (F0 m (pc + 3) ls (.int r :: rest))) :
    W p l e R s m args below meth c H locs cells slots Q (F0 m pc ls st) := by
  have hF := va_free (wc := wc) hW.2.2.1 hW.2.2.2 hA isC hC
  refine va_calli (callV_run (Qc := fun sz => va_Qi (S := va_W) post (BW D tys (va_A wc sz)) (va_A wc sz)) S hW (hM H.size) k1 k2 k3 k4 k5 hd hR hf hc q0 he isC hC hnC hlen hls hst hroom hdg) hW.2.2.2 (fun q _ h => hF q h) hF (fun r u t H1 locs1 ht hvm hp hB hz hk hS => ?_)
  obtain ⟨hP1, hK1, hD1⟩ := hB
  rw [ht] at hP1
  obtain ⟨hP, hD⟩ := va_join hW.2.1 hW.2.2.1 isC isR hC hR2 hnR hdis hk hF hP1 hD1
  exact kk r u H1 locs1 hp ⟨hW.1, hP, hD, hS⟩
/-- a private method of a nest mate that answers an int -/
theorem callVN_i {ret : Option FieldType} {post : Int32 → va_W → Prop} (hM : Ci l D tys y yc yn ret yr (.ref b :: As) wc post)
    (k1 : nst s → va_Nw (.methodLinkNest own index y own) s) (k2 : Cond.instanceMethod y ∈ tb) (k3 : Cond.selects C y y ∈ tb) (k4 : Cond.initialized y.cls ∈ tb) (k5 : Cond.code y yc yn ret ∈ tb)
    (hd : y.cls = C ∧ y.cls ≠ "java/lang/invoke/MethodHandle" ∧ y.cls ≠ "java/lang/invoke/VarHandle" ∧ (parseMethodDescriptor y.desc).map (fun d => d.parameters.length) = some np)
    (S : CallFix p m c cc nL s args tb own) (hW : Wd D tys A s H0 H locs ws) (hA : ∀ q, H0.size ≤ q → A q)
    (hR : yr.frames + 1 ≤ R.frames ∧ 8 + (yn + 11) + yr.locals ≤ R.locals) (hf : cells + yr.cells ≤ R.cells ∧ slots + yr.slots ≤ R.slots)
    (hc : cls[ci]? = some (C, T, N)) (q0 : Nat) (he : wc[q0]? = some (b, .inr (ci, fs))) (isC isR : List Nat) (hC : isC.map (fun i => ws[i]?) = wc.map some) (hnC : va_nd isC = true) (hR2 : isR.map (fun i => ws[i]?) = wr.map some) (hnR : va_nd isR = true) (hdis : ∀ i ∈ isR, i ∉ isC)
    (hlen : As.length = np) (hls : ls.size = nL) (hst : st = As.reverse ++ .ref b :: rest) (hroom : (rest.map fun v => v.category).sum ≤ 8) (hdg : decode cc pc = .ok (.invokevirtual index, 3))
    (kk : ∀ (r : Int32) (u : va_W) (H1 : Heap) (locs1 : List Loc), post r u → Wd D tys A s H0 H1 locs1 (wr ++ u) → W p l e R s m args below meth c H1 locs1 (cells + yr.cells) (slots + yr.slots) Q (F0 m (pc + 3) ls (.int r :: rest))) :
    W p l e R s m args below meth c H locs cells slots Q (F0 m pc ls st) := by
  have hF := va_free (wc := wc) hW.2.2.1 hW.2.2.2 hA isC hC
  refine va_calli (va_runVN (As := As) (rest := rest) S (hM H.size) ⟨va_cnB np S.2.2.2.2 (good_mw k5) rfl rfl rfl (k1 hW.1.2) (S.2.2.2.2 _ k4) hd.2 hR, S.2.2.2.2 _ k2, S.2.2.2.2 _ k3⟩ ⟨PcW_blind, va_recv hW.1.1 (sub_P hW.2.1 hC) hc he, fun U hU hw => ⟨rfl, by rw [hU], by rw [hU]; exact sub_P hW.2.1 hC, hW.1.warm hw, (hW.2.2.1.sub isC hnC hC).weaken (fun _ _ _ _ => trivial)⟩⟩ rfl hlen hls hst (lv_room hroom) hdg hf) hW.2.2.2 (fun q _ h => hF q h) hF (fun r u t H1 locs1 ht hvm hp hB hz hk hS => ?_)
  obtain ⟨hP1, hK1, hD1⟩ := hB
  rw [ht] at hP1
  obtain ⟨hP, hD⟩ := va_join hW.2.1 hW.2.2.1 isC isR hC hR2 hnR hdis hk hF hP1 hD1
  exact kk r u H1 locs1 hp ⟨hW.1, hP, hD, hS⟩
theorem callV_l {ret : Option FieldType} {post : Int64 → va_W → Prop} (hM : Cl l D tys y yc yn ret yr (.ref b :: As) wc post)
    (k1 : Cond.methodLink own index y ∈ tb) (k2 : Cond.instanceMethod y ∈ tb) (k3 : Cond.selects C y y ∈ tb) (k4 : Cond.initialized C ∈ tb) (k5 : Cond.code y yc yn ret ∈ tb)
    (hd : y.cls = C ∧ y.cls ≠ "java/lang/invoke/MethodHandle" ∧ y.cls ≠ "java/lang/invoke/VarHandle" ∧ (parseMethodDescriptor y.desc).map (fun d => d.parameters.length) = some np)
    (S : CallFix p m c cc nL s args tb own) (hW : Wd D tys A s H0 H locs ws) (hA : ∀ q, H0.size ≤ q → A q)
    (hR : yr.frames + 1 ≤ R.frames ∧ 8 + (yn + 11) + yr.locals ≤ R.locals) (hf : cells + yr.cells ≤ R.cells ∧ slots + yr.slots ≤ R.slots)
    (hc : cls[ci]? = some (C, T, N)) (q0 : Nat) (he : wc[q0]? = some (b, .inr (ci, fs))) (isC isR : List Nat) (hC : isC.map (fun i => ws[i]?) = wc.map some) (hnC : va_nd isC = true) (hR2 : isR.map (fun i => ws[i]?) = wr.map some) (hnR : va_nd isR = true) (hdis : ∀ i ∈ isR, i ∉ isC)
    (hlen : As.length = np) (hls : ls.size = nL) (hst : st = As.reverse ++ .ref b :: rest) (hroom : (rest.map fun v => v.category).sum ≤ 8) (hdg : decode cc pc = .ok (.invokevirtual index, 3))
    (kk : ∀ (r : Int64) (u : va_W) (H1 : Heap) (locs1 : List Loc), post r u → Wd D tys A s H0 H1 locs1 (wr ++ u) → W p l e R s m args below meth c H1 locs1 (cells + yr.cells) (slots + yr.slots) Q (F0 m (pc + 3) ls (.long r :: rest))) :
    W p l e R s m args below meth c H locs cells slots Q (F0 m pc ls st) := by
  have hF := va_free (wc := wc) hW.2.2.1 hW.2.2.2 hA isC hC
  refine va_calll (callV_run (Qc := fun sz => va_Ql (S := va_W) post (BW D tys (va_A wc sz)) (va_A wc sz)) S hW (hM H.size) k1 k2 k3 k4 k5 hd hR hf hc q0 he isC hC hnC hlen hls hst hroom hdg) hW.2.2.2 (fun q _ h => hF q h) hF (fun r u t H1 locs1 ht hvm hp hB hz hk hS => ?_)
  obtain ⟨hP1, hK1, hD1⟩ := hB
  rw [ht] at hP1
  obtain ⟨hP, hD⟩ := va_join hW.2.1 hW.2.2.1 isC isR hC hR2 hnR hdis hk hF hP1 hD1
  exact kk r u H1 locs1 hp ⟨hW.1, hP, hD, hS⟩
theorem callV_v {post : va_W → Prop} (hM : Cv l D tys y yc yn yr (.ref b :: As) wc post)
    (k1 : Cond.methodLink own index y ∈ tb) (k2 : Cond.instanceMethod y ∈ tb) (k3 : Cond.selects C y y ∈ tb) (k4 : Cond.initialized C ∈ tb) (k5 : Cond.code y yc yn none ∈ tb)
    (hd : y.cls = C ∧ y.cls ≠ "java/lang/invoke/MethodHandle" ∧ y.cls ≠ "java/lang/invoke/VarHandle" ∧ (parseMethodDescriptor y.desc).map (fun d => d.parameters.length) = some np)
    (S : CallFix p m c cc nL s args tb own) (hW : Wd D tys A s H0 H locs ws) (hA : ∀ q, H0.size ≤ q → A q)
    (hR : yr.frames + 1 ≤ R.frames ∧ 8 + (yn + 11) + yr.locals ≤ R.locals) (hf : cells + yr.cells ≤ R.cells ∧ slots + yr.slots ≤ R.slots)
    (hc : cls[ci]? = some (C, T, N)) (q0 : Nat) (he : wc[q0]? = some (b, .inr (ci, fs))) (isC isR : List Nat) (hC : isC.map (fun i => ws[i]?) = wc.map some) (hnC : va_nd isC = true) (hR2 : isR.map (fun i => ws[i]?) = wr.map some) (hnR : va_nd isR = true) (hdis : ∀ i ∈ isR, i ∉ isC)
    (hlen : As.length = np) (hls : ls.size = nL) (hst : st = As.reverse ++ .ref b :: rest) (hroom : (rest.map fun v => v.category).sum ≤ 8) (hdg : decode cc pc = .ok (.invokevirtual index, 3))
    (kk : ∀ (u : va_W) (H1 : Heap) (locs1 : List Loc), post u → Wd D tys A s H0 H1 locs1 (wr ++ u) → W p l e R s m args below meth c H1 locs1 (cells + yr.cells) (slots + yr.slots) Q (F0 m (pc + 3) ls rest)) :
    W p l e R s m args below meth c H locs cells slots Q (F0 m pc ls st) := by
  have hF := va_free (wc := wc) hW.2.2.1 hW.2.2.2 hA isC hC
  refine va_callv (callV_run (Qc := fun sz => va_Qv (S := va_W) post (BW D tys (va_A wc sz)) (va_A wc sz)) S hW (hM H.size) k1 k2 k3 k4 k5 hd hR hf hc q0 he isC hC hnC hlen hls hst hroom hdg) hW.2.2.2 (fun q _ h => hF q h) hF (fun u t H1 locs1 ht hvm hp hB hz hk hS => ?_)
  obtain ⟨hP1, hK1, hD1⟩ := hB
  rw [ht] at hP1
  obtain ⟨hP, hD⟩ := va_join hW.2.1 hW.2.2.1 isC isR hC hR2 hnR hdis hk hF hP1 hD1
  exact kk u H1 locs1 hp ⟨hW.1, hP, hD, hS⟩
/-- a constructor's call -/
theorem callI_v {post : va_W → Prop} (hM : Cv l D tys y yc yn yr (.ref b :: As) wc post)
    (k1 : Cond.methodLink own index y ∈ tb) (k2 : Cond.instanceMethod y ∈ tb) (k4 : Cond.initialized y.cls ∈ tb) (k5 : Cond.code y yc yn none ∈ tb)
    (hd : y.cls ≠ "java/lang/invoke/MethodHandle" ∧ y.cls ≠ "java/lang/invoke/VarHandle" ∧ (parseMethodDescriptor y.desc).map (fun d => d.parameters.length) = some np) (hy1 : y.name = "<init>")
    (S : CallFix p m c cc nL s args tb own) (hW : Wd D tys A s H0 H locs ws) (hA : ∀ q, H0.size ≤ q → A q)
    (hR : yr.frames + 1 ≤ R.frames ∧ 8 + (yn + 11) + yr.locals ≤ R.locals) (hf : cells + yr.cells ≤ R.cells ∧ slots + yr.slots ≤ R.slots)
    (isC isR : List Nat) (hC : isC.map (fun i => ws[i]?) = wc.map some) (hnC : va_nd isC = true) (hR2 : isR.map (fun i => ws[i]?) = wr.map some) (hnR : va_nd isR = true) (hdis : ∀ i ∈ isR, i ∉ isC)
    (hlen : As.length = np) (hls : ls.size = nL) (hst : st = As.reverse ++ .ref b :: rest) (hroom : (rest.map fun v => v.category).sum ≤ 8) (hdg : decode cc pc = .ok (.invokespecial index, 3))
    (kk : ∀ (u : va_W) (H1 : Heap) (locs1 : List Loc), post u → Wd D tys A s H0 H1 locs1 (wr ++ u) → W p l e R s m args below meth c H1 locs1 (cells + yr.cells) (slots + yr.slots) Q (F0 m (pc + 3) ls rest)) :
    W p l e R s m args below meth c H locs cells slots Q (F0 m pc ls st) := by
  have hF := va_free (wc := wc) hW.2.2.1 hW.2.2.2 hA isC hC
  have hPc := sub_P hW.2.1 hC
  have hDc := hW.2.2.1.sub isC hnC hC
  refine va_callv (va_runI (As := As) (rest := rest) S (hM H.size) (cwI np S.2.2.2.2 (good_mw k5) rfl rfl rfl (S.2.2.2.2 _ k4) (S.2.2.2.2 _ k1) (S.2.2.2.2 _ k2) hy1 hd hR) ⟨PcW_blind, fun U hU hw => ⟨rfl, by rw [hU], by rw [hU]; exact hPc, hW.1.warm hw, hDc.weaken (fun _ _ _ _ => trivial)⟩⟩ rfl hlen hls hst (lv_room hroom) hdg hf) hW.2.2.2 (fun q _ h => hF q h) hF (fun u t H1 locs1 ht hvm hp hB hz hk hS => ?_)
  obtain ⟨hP1, hK1, hD1⟩ := hB
  rw [ht] at hP1
  obtain ⟨hP, hD⟩ := va_join hW.2.1 hW.2.2.1 isC isR hC hR2 hnR hdis hk hF hP1 hD1
  exact kk u H1 locs1 hp ⟨hW.1, hP, hD, hS⟩
/-- a private constructor of a nest mate -/
theorem callIN_v {post : va_W → Prop} (hM : Cv l D tys y yc yn yr (.ref b :: As) wc post)
    (k1 : nst s → va_Nw (.methodLinkNest own index y own) s) (k2 : Cond.instanceMethod y ∈ tb) (k4 : Cond.initialized y.cls ∈ tb) (k5 : Cond.code y yc yn none ∈ tb)
    (hd : y.cls ≠ "java/lang/invoke/MethodHandle" ∧ y.cls ≠ "java/lang/invoke/VarHandle" ∧ (parseMethodDescriptor y.desc).map (fun d => d.parameters.length) = some np) (hy1 : y.name = "<init>")
    (S : CallFix p m c cc nL s args tb own) (hW : Wd D tys A s H0 H locs ws) (hA : ∀ q, H0.size ≤ q → A q)
    (hR : yr.frames + 1 ≤ R.frames ∧ 8 + (yn + 11) + yr.locals ≤ R.locals) (hf : cells + yr.cells ≤ R.cells ∧ slots + yr.slots ≤ R.slots)
    (isC isR : List Nat) (hC : isC.map (fun i => ws[i]?) = wc.map some) (hnC : va_nd isC = true) (hR2 : isR.map (fun i => ws[i]?) = wr.map some) (hnR : va_nd isR = true) (hdis : ∀ i ∈ isR, i ∉ isC)
    (hlen : As.length = np) (hls : ls.size = nL) (hst : st = As.reverse ++ .ref b :: rest) (hroom : (rest.map fun v => v.category).sum ≤ 8) (hdg : decode cc pc = .ok (.invokespecial index, 3))
    (kk : ∀ (u : va_W) (H1 : Heap) (locs1 : List Loc), post u → Wd D tys A s H0 H1 locs1 (wr ++ u) → W p l e R s m args below meth c H1 locs1 (cells + yr.cells) (slots + yr.slots) Q (F0 m (pc + 3) ls rest)) :
    W p l e R s m args below meth c H locs cells slots Q (F0 m pc ls st) := by
  have hF := va_free (wc := wc) hW.2.2.1 hW.2.2.2 hA isC hC
  have hPc := sub_P hW.2.1 hC
  have hDc := hW.2.2.1.sub isC hnC hC
  refine va_callv (va_runIN (As := As) (rest := rest) S (hM H.size) ⟨va_cnB np S.2.2.2.2 (good_mw k5) rfl rfl rfl (k1 hW.1.2) (S.2.2.2.2 _ k4) hd hR, hy1, S.2.2.2.2 _ k2⟩ ⟨PcW_blind, fun U hU hw => ⟨rfl, by rw [hU], by rw [hU]; exact hPc, hW.1.warm hw, hDc.weaken (fun _ _ _ _ => trivial)⟩⟩ rfl hlen hls hst (lv_room hroom) hdg hf) hW.2.2.2 (fun q _ h => hF q h) hF (fun u t H1 locs1 ht hvm hp hB hz hk hS => ?_)
  obtain ⟨hP1, hK1, hD1⟩ := hB
  rw [ht] at hP1
  obtain ⟨hP, hD⟩ := va_join hW.2.1 hW.2.2.1 isC isR hC hR2 hnR hdis hk hF hP1 hD1
  exact kk u H1 locs1 hp ⟨hW.1, hP, hD, hS⟩
/-- a static method's call that answers an int -/
theorem callS_i {ret : Option FieldType} {post : Int32 → va_W → Prop} (hM : Ci l D tys y yc yn ret yr As wc post)
    (k1 : Cond.methodLink own index y ∈ tb) (k2 : Cond.static y ∈ tb) (k4 : Cond.initialized own ∈ tb) (k5 : Cond.code y yc yn ret ∈ tb)
    (hd : y.cls = own ∧ y.cls ≠ "java/lang/invoke/MethodHandle" ∧ y.cls ≠ "java/lang/invoke/VarHandle" ∧ (parseMethodDescriptor y.desc).map (fun d => d.parameters.length) = some np)
    (S : CallFix p m c cc nL s args tb own) (hW : Wd D tys A s H0 H locs ws) (hA : ∀ q, H0.size ≤ q → A q)
    (hR : yr.frames + 1 ≤ R.frames ∧ 8 + (yn + 11) + yr.locals ≤ R.locals) (hf : cells + yr.cells ≤ R.cells ∧ slots + yr.slots ≤ R.slots)
    (isC isR : List Nat) (hC : isC.map (fun i => ws[i]?) = wc.map some) (hnC : va_nd isC = true) (hR2 : isR.map (fun i => ws[i]?) = wr.map some) (hnR : va_nd isR = true) (hdis : ∀ i ∈ isR, i ∉ isC)
    (hlen : As.length = np) (hls : ls.size = nL) (hst : st = As.reverse ++ rest) (hroom : (rest.map fun v => v.category).sum ≤ 8) (hdg : decode cc pc = .ok (.invokestatic index, 3))
    (kk : ∀ (r : Int32) (u : va_W) (H1 : Heap) (locs1 : List Loc), post r u → Wd D tys A s H0 H1 locs1 (wr ++ u) → W p l e R s m args below meth c H1 locs1 (cells + yr.cells) (slots + yr.slots) Q (F0 m (pc + 3) ls (.int r :: rest))) :
    W p l e R s m args below meth c H locs cells slots Q (F0 m pc ls st) := by
  have hF := va_free (wc := wc) hW.2.2.1 hW.2.2.2 hA isC hC
  have hPc := sub_P hW.2.1 hC
  have hDc := hW.2.2.1.sub isC hnC hC
  have g : GoodIn tb (wsS own index y (mw y yc yn ret)) := fun w hw => by
    rcases List.mem_append.mp hw with h | h
    · simp only [List.mem_cons, List.not_mem_nil, or_false] at h
      rcases h with rfl | rfl | rfl
      · exact good_tb _ k1
      · exact good_tb _ k2
      · exact good_tb _ k4
    · exact good_mw k5 w h
  refine va_calli (va_runS (As := As) (rest := rest) S (hM H.size) (cwS np S.2.2.2.2 g rfl rfl rfl hd hR) ⟨PcW_blind, fun U hU hw => ⟨rfl, by rw [hU], by rw [hU]; exact hPc, hW.1.warm hw, hDc.weaken (fun _ _ _ _ => trivial)⟩⟩ rfl hlen hls hst (lv_room hroom) hdg hf) hW.2.2.2 (fun q _ h => hF q h) hF (fun r u t H1 locs1 ht hvm hp hB hz hk hS => ?_)
  obtain ⟨hP1, hK1, hD1⟩ := hB
  rw [ht] at hP1
  obtain ⟨hP, hD⟩ := va_join hW.2.1 hW.2.2.1 isC isR hC hR2 hnR hdis hk hF hP1 hD1
  exact kk r u H1 locs1 hp ⟨hW.1, hP, hD, hS⟩
end KC
end
section
/-! rows over natural numbers: ints that are nI of a number -/
abbrev tyl (cI cJ cB cZ : ClassId) : Tys := [(cI, .int), (cJ, .long), (cB, .byte), (cZ, .boolean)]
section KN
variable {p : Program} {l : Launch} {e : Env} {R : Room} {s : State} {m : MethodId} {args : Array Value} {below : List Frame} {meth : Method} {c : Code} {H : Heap} {locs : List Loc} {cells slots : Nat} {Q : State → Prop}
variable {cc : ByteArray} {nL pc : Nat} {ls : Array Slot} {rest : List Value} {D : va_G} {A : Nat → Prop} {a : Nat} {tys : Tys} {ws : va_W} {H0 : Heap} {own : String} {off : Int} {tgt : Nat}
theorem top_eq {x y : Int32} (h : x = y) (k : W p l e R s m args below meth c H locs cells slots Q (F0 m pc ls (.int y :: rest))) : W p l e R s m args below meth c H locs cells slots Q (F0 m pc ls (.int x :: rest)) := by rw [h]; exact k
theorem topl_eq {x y : Int64} (h : x = y) (k : W p l e R s m args below meth c H locs cells slots Q (F0 m pc ls (.long y :: rest))) : W p l e R s m args below meth c H locs cells slots Q (F0 m pc ls (.long x :: rest)) := by rw [h]; exact k
theorem n_iadd {x y : Nat} (S : CallFix p m c cc nL s args tb own) (hdg : decode cc pc = .ok (.iadd, 1)) (k : W p l e R s m args below meth c H locs cells slots Q (F0 m (pc + 1) ls (.int (nI (x + y)) :: rest))) : W p l e R s m args below meth c H locs cells slots Q (F0 m pc ls (.int (nI y) :: .int (nI x) :: rest)) := lv_iadd S.1 S.2.1 hdg (by rw [nI_add]; exact k)
theorem n_imul {x y : Nat} (S : CallFix p m c cc nL s args tb own) (hdg : decode cc pc = .ok (.imul, 1)) (k : W p l e R s m args below meth c H locs cells slots Q (F0 m (pc + 1) ls (.int (nI (x * y)) :: rest))) : W p l e R s m args below meth c H locs cells slots Q (F0 m pc ls (.int (nI y) :: .int (nI x) :: rest)) := lv_imul S.1 S.2.1 hdg (by rw [pk_mul]; exact k)
theorem n_isub {x y : Nat} (S : CallFix p m c cc nL s args tb own) (h : y ≤ x) (hdg : decode cc pc = .ok (.isub, 1)) (k : W p l e R s m args below meth c H locs cells slots Q (F0 m (pc + 1) ls (.int (nI (x - y)) :: rest))) : W p l e R s m args below meth c H locs cells slots Q (F0 m pc ls (.int (nI y) :: .int (nI x) :: rest)) := lv_isub S.1 S.2.1 hdg (by rw [pk_sub h]; exact k)
theorem n_clamp {i : Nat} {n : Nat} (h : i < n) (hn : n < 2 ^ 31) : (nI i).toNatClampNeg = i := nI_clamp (by omega)
theorem n_iald (S : CallFix p m c cc nL s args tb own) (hW : Wd D tys A s H0 H locs ws) (q0 t0 : Nat) {cA : ClassId} {n : Nat} {f : Nat → Int32} (ha : ws[q0]? = some (a, .inl (cA, n, .inl f))) (ht : tys[t0]? = some (cA, .int)) {i : Nat} (hn : n < 2 ^ 31) (hin : i < n) (hdg : decode cc pc = .ok (.iaload, 1))
    (kk : W p l e R s m args below meth c H locs cells slots Q (F0 m (pc + 1) ls (.int (f i) :: rest))) : W p l e R s m args below meth c H locs cells slots Q (F0 m pc ls (.int (nI i) :: .ref a :: rest)) := g_iald S hW q0 t0 ha ht (vp_in_nI hin hn) hdg (by rw [n_clamp hin hn]; exact kk)
theorem n_bald (S : CallFix p m c cc nL s args tb own) (hW : Wd D tys A s H0 H locs ws) (q0 t0 : Nat) {cA : ClassId} {n : Nat} {f : Nat → Int32} (ha : ws[q0]? = some (a, .inl (cA, n, .inl f))) (ht : tys[t0]? = some (cA, .byte)) {i : Nat} (hn : n < 2 ^ 31) (hin : i < n) (hdg : decode cc pc = .ok (.baload, 1))
    (kk : W p l e R s m args below meth c H locs cells slots Q (F0 m (pc + 1) ls (.int (f i) :: rest))) : W p l e R s m args below meth c H locs cells slots Q (F0 m pc ls (.int (nI i) :: .ref a :: rest)) := g_bald S hW q0 t0 ha ht (vp_in_nI hin hn) hdg (by rw [n_clamp hin hn]; exact kk)
theorem n_zald (S : CallFix p m c cc nL s args tb own) (hW : Wd D tys A s H0 H locs ws) (q0 t0 : Nat) {cA : ClassId} {n : Nat} {f : Nat → Int32} (ha : ws[q0]? = some (a, .inl (cA, n, .inl f))) (ht : tys[t0]? = some (cA, .boolean)) {i : Nat} (hn : n < 2 ^ 31) (hin : i < n) (hdg : decode cc pc = .ok (.baload, 1))
    (kk : W p l e R s m args below meth c H locs cells slots Q (F0 m (pc + 1) ls (.int (f i) :: rest))) : W p l e R s m args below meth c H locs cells slots Q (F0 m pc ls (.int (nI i) :: .ref a :: rest)) := g_zald S hW q0 t0 ha ht (vp_in_nI hin hn) hdg (by rw [n_clamp hin hn]; exact kk)
theorem n_lald (S : CallFix p m c cc nL s args tb own) (hW : Wd D tys A s H0 H locs ws) (q0 t0 : Nat) {cA : ClassId} {n : Nat} {f : Nat → Int64} (ha : ws[q0]? = some (a, .inl (cA, n, .inr (.inl f)))) (ht : tys[t0]? = some (cA, .long)) {i : Nat} (hn : n < 2 ^ 31) (hin : i < n) (hdg : decode cc pc = .ok (.laload, 1))
    (kk : W p l e R s m args below meth c H locs cells slots Q (F0 m (pc + 1) ls (.long (f i) :: rest))) : W p l e R s m args below meth c H locs cells slots Q (F0 m pc ls (.int (nI i) :: .ref a :: rest)) := g_lald S hW q0 t0 ha ht (vp_in_nI hin hn) hdg (by rw [n_clamp hin hn]; exact kk)
theorem n_iast (S : CallFix p m c cc nL s args tb own) (hW : Wd D tys A s H0 H locs ws) (q0 t0 : Nat) {cA : ClassId} {n : Nat} {f : Nat → Int32} (ha : ws[q0]? = some (a, .inl (cA, n, .inl f))) (ht : tys[t0]? = some (cA, .int)) {i : Nat} {x : Int32} (hn : n < 2 ^ 31) (hin : i < n) {ws2 : va_W} (h2 : ws.set q0 (a, .inl (cA, n, .inl (upd f i x))) = ws2) (hdg : decode cc pc = .ok (.iastore, 1))
    (kk : ∀ (H1 : Heap) (locs1 : List Loc), Wd D tys A s H0 H1 locs1 ws2 → W p l e R s m args below meth c H1 locs1 cells slots Q (F0 m (pc + 1) ls rest)) : W p l e R s m args below meth c H locs cells slots Q (F0 m pc ls (.int x :: .int (nI i) :: .ref a :: rest)) := g_iast S hW q0 t0 ha ht (vp_in_nI hin hn) (by rw [n_clamp hin hn]; exact h2) hdg kk
theorem n_bast (S : CallFix p m c cc nL s args tb own) (hW : Wd D tys A s H0 H locs ws) (q0 t0 : Nat) {cA : ClassId} {n : Nat} {f : Nat → Int32} (ha : ws[q0]? = some (a, .inl (cA, n, .inl f))) (ht : tys[t0]? = some (cA, .byte)) {i : Nat} {x : Int32} (hn : n < 2 ^ 31) (hin : i < n) {ws2 : va_W} (h2 : ws.set q0 (a, .inl (cA, n, .inl (upd f i x.toInt8.toInt32))) = ws2) (hdg : decode cc pc = .ok (.bastore, 1))
    (kk : ∀ (H1 : Heap) (locs1 : List Loc), Wd D tys A s H0 H1 locs1 ws2 → W p l e R s m args below meth c H1 locs1 cells slots Q (F0 m (pc + 1) ls rest)) : W p l e R s m args below meth c H locs cells slots Q (F0 m pc ls (.int x :: .int (nI i) :: .ref a :: rest)) := g_bast S hW q0 t0 ha ht (vp_in_nI hin hn) (by rw [n_clamp hin hn, vp_nar_byte]; exact h2) hdg kk
theorem n_zast (S : CallFix p m c cc nL s args tb own) (hW : Wd D tys A s H0 H locs ws) (q0 t0 : Nat) {cA : ClassId} {n : Nat} {f : Nat → Int32} (ha : ws[q0]? = some (a, .inl (cA, n, .inl f))) (ht : tys[t0]? = some (cA, .boolean)) {i : Nat} {x : Int32} (hx : vp_nar .boolean x = x) (hn : n < 2 ^ 31) (hin : i < n) {ws2 : va_W} (h2 : ws.set q0 (a, .inl (cA, n, .inl (upd f i x))) = ws2) (hdg : decode cc pc = .ok (.bastore, 1))
    (kk : ∀ (H1 : Heap) (locs1 : List Loc), Wd D tys A s H0 H1 locs1 ws2 → W p l e R s m args below meth c H1 locs1 cells slots Q (F0 m (pc + 1) ls rest)) : W p l e R s m args below meth c H locs cells slots Q (F0 m pc ls (.int x :: .int (nI i) :: .ref a :: rest)) := g_zast S hW q0 t0 ha ht (vp_in_nI hin hn) (by rw [n_clamp hin hn, hx]; exact h2) hdg kk
theorem n_last (S : CallFix p m c cc nL s args tb own) (hW : Wd D tys A s H0 H locs ws) (q0 t0 : Nat) {cA : ClassId} {n : Nat} {f : Nat → Int64} (ha : ws[q0]? = some (a, .inl (cA, n, .inr (.inl f)))) (ht : tys[t0]? = some (cA, .long)) {i : Nat} {x : Int64} (hn : n < 2 ^ 31) (hin : i < n) {ws2 : va_W} (h2 : ws.set q0 (a, .inl (cA, n, .inr (.inl (vp_updL f i x)))) = ws2) (hdg : decode cc pc = .ok (.lastore, 1))
    (kk : ∀ (H1 : Heap) (locs1 : List Loc), Wd D tys A s H0 H1 locs1 ws2 → W p l e R s m args below meth c H1 locs1 cells slots Q (F0 m (pc + 1) ls rest)) : W p l e R s m args below meth c H locs cells slots Q (F0 m pc ls (.long x :: .int (nI i) :: .ref a :: rest)) := g_last S hW q0 t0 ha ht (vp_in_nI hin hn) (by rw [n_clamp hin hn]; exact h2) hdg kk
theorem n_icmp_eq {x y : Nat} (S : CallFix p m c cc nL s args tb own) (hx : x < 2 ^ 31) (hy : y < 2 ^ 31) (hdg : decode cc pc = .ok (.if_icmp .eq off, 3)) (ht : (pc : Int) + off = (tgt : Int)) (kt : x = y → W p l e R s m args below meth c H locs cells slots Q (F0 m tgt ls rest)) (kf : ¬ x = y → W p l e R s m args below meth c H locs cells slots Q (F0 m (pc + 3) ls rest)) : W p l e R s m args below meth c H locs cells slots Q (F0 m pc ls (.int (nI y) :: .int (nI x) :: rest)) := lv_icmp_eq S.1 S.2.1 hdg ht (fun h => kt ((nI_eq hx hy).mp h)) (fun h => kf (fun g => h ((nI_eq hx hy).mpr g)))
theorem n_icmp_ne {x y : Nat} (S : CallFix p m c cc nL s args tb own) (hx : x < 2 ^ 31) (hy : y < 2 ^ 31) (hdg : decode cc pc = .ok (.if_icmp .ne off, 3)) (ht : (pc : Int) + off = (tgt : Int)) (kt : ¬ x = y → W p l e R s m args below meth c H locs cells slots Q (F0 m tgt ls rest)) (kf : x = y → W p l e R s m args below meth c H locs cells slots Q (F0 m (pc + 3) ls rest)) : W p l e R s m args below meth c H locs cells slots Q (F0 m pc ls (.int (nI y) :: .int (nI x) :: rest)) := lv_icmp_ne S.1 S.2.1 hdg ht (fun h => kt (fun g => h ((nI_eq hx hy).mpr g))) (fun h => kf ((nI_eq hx hy).mp h))
theorem n_icmp_lt {x y : Nat} (S : CallFix p m c cc nL s args tb own) (hx : x < 2 ^ 31) (hy : y < 2 ^ 31) (hdg : decode cc pc = .ok (.if_icmp .lt off, 3)) (ht : (pc : Int) + off = (tgt : Int)) (kt : x < y → W p l e R s m args below meth c H locs cells slots Q (F0 m tgt ls rest)) (kf : y ≤ x → W p l e R s m args below meth c H locs cells slots Q (F0 m (pc + 3) ls rest)) : W p l e R s m args below meth c H locs cells slots Q (F0 m pc ls (.int (nI y) :: .int (nI x) :: rest)) := lv_icmp_lt S.1 S.2.1 hdg ht (fun h => kt ((nI_ltI hx hy).mp h)) (fun h => kf (Nat.not_lt.mp (fun g => h ((nI_ltI hx hy).mpr g))))
theorem n_icmp_ge {x y : Nat} (S : CallFix p m c cc nL s args tb own) (hx : x < 2 ^ 31) (hy : y < 2 ^ 31) (hdg : decode cc pc = .ok (.if_icmp .ge off, 3)) (ht : (pc : Int) + off = (tgt : Int)) (kt : y ≤ x → W p l e R s m args below meth c H locs cells slots Q (F0 m tgt ls rest)) (kf : x < y → W p l e R s m args below meth c H locs cells slots Q (F0 m (pc + 3) ls rest)) : W p l e R s m args below meth c H locs cells slots Q (F0 m pc ls (.int (nI y) :: .int (nI x) :: rest)) := lv_icmp_ge S.1 S.2.1 hdg ht (fun h => kt ((nI_leI hy hx).mp h)) (fun h => kf (Nat.not_le.mp (fun g => h ((nI_leI hy hx).mpr g))))
theorem n_icmp_gt {x y : Nat} (S : CallFix p m c cc nL s args tb own) (hx : x < 2 ^ 31) (hy : y < 2 ^ 31) (hdg : decode cc pc = .ok (.if_icmp .gt off, 3)) (ht : (pc : Int) + off = (tgt : Int)) (kt : y < x → W p l e R s m args below meth c H locs cells slots Q (F0 m tgt ls rest)) (kf : x ≤ y → W p l e R s m args below meth c H locs cells slots Q (F0 m (pc + 3) ls rest)) : W p l e R s m args below meth c H locs cells slots Q (F0 m pc ls (.int (nI y) :: .int (nI x) :: rest)) := lv_icmp_gt S.1 S.2.1 hdg ht (fun h => kt ((nI_ltI hy hx).mp h)) (fun h => kf (Nat.not_lt.mp (fun g => h ((nI_ltI hy hx).mpr g))))
theorem n_icmp_le {x y : Nat} (S : CallFix p m c cc nL s args tb own) (hx : x < 2 ^ 31) (hy : y < 2 ^ 31) (hdg : decode cc pc = .ok (.if_icmp .le off, 3)) (ht : (pc : Int) + off = (tgt : Int)) (kt : x ≤ y → W p l e R s m args below meth c H locs cells slots Q (F0 m tgt ls rest)) (kf : y < x → W p l e R s m args below meth c H locs cells slots Q (F0 m (pc + 3) ls rest)) : W p l e R s m args below meth c H locs cells slots Q (F0 m pc ls (.int (nI y) :: .int (nI x) :: rest)) := lv_icmp_le S.1 S.2.1 hdg ht (fun h => kt ((nI_leI hx hy).mp h)) (fun h => kf (Nat.not_le.mp (fun g => h ((nI_leI hx hy).mpr g))))
theorem n_if_eq {x : Nat} (S : CallFix p m c cc nL s args tb own) (hx : x < 2 ^ 31) (hdg : decode cc pc = .ok (.ifCond .eq off, 3)) (ht : (pc : Int) + off = (tgt : Int)) (kt : x = 0 → W p l e R s m args below meth c H locs cells slots Q (F0 m tgt ls rest)) (kf : ¬ x = 0 → W p l e R s m args below meth c H locs cells slots Q (F0 m (pc + 3) ls rest)) : W p l e R s m args below meth c H locs cells slots Q (F0 m pc ls (.int (nI x) :: rest)) := lv_if_eq S.1 S.2.1 hdg ht (fun h => kt ((nI_eq hx (by decide : 0 < 2 ^ 31)).mp (h.trans nI_0.symm))) (fun h => kf (fun g => h (by rw [g]; exact nI_0)))
theorem n_if_ne {x : Nat} (S : CallFix p m c cc nL s args tb own) (hx : x < 2 ^ 31) (hdg : decode cc pc = .ok (.ifCond .ne off, 3)) (ht : (pc : Int) + off = (tgt : Int)) (kt : ¬ x = 0 → W p l e R s m args below meth c H locs cells slots Q (F0 m tgt ls rest)) (kf : x = 0 → W p l e R s m args below meth c H locs cells slots Q (F0 m (pc + 3) ls rest)) : W p l e R s m args below meth c H locs cells slots Q (F0 m pc ls (.int (nI x) :: rest)) := lv_if_ne S.1 S.2.1 hdg ht (fun h => kt (fun g => h (by rw [g]; exact nI_0))) (fun h => kf ((nI_eq hx (by decide : 0 < 2 ^ 31)).mp (h.trans nI_0.symm)))
theorem n_if_lt {x : Nat} (S : CallFix p m c cc nL s args tb own) (hx : x < 2 ^ 31) (hdg : decode cc pc = .ok (.ifCond .lt off, 3)) (ht : (pc : Int) + off = (tgt : Int)) (kf : W p l e R s m args below meth c H locs cells slots Q (F0 m (pc + 3) ls rest)) : W p l e R s m args below meth c H locs cells slots Q (F0 m pc ls (.int (nI x) :: rest)) := lv_if_lt S.1 S.2.1 hdg ht (fun h => absurd h (nI_pos hx)) (fun _ => kf)
theorem n_if_ge {x : Nat} (S : CallFix p m c cc nL s args tb own) (hx : x < 2 ^ 31) (hdg : decode cc pc = .ok (.ifCond .ge off, 3)) (ht : (pc : Int) + off = (tgt : Int)) (kt : W p l e R s m args below meth c H locs cells slots Q (F0 m tgt ls rest)) : W p l e R s m args below meth c H locs cells slots Q (F0 m pc ls (.int (nI x) :: rest)) := lv_if_ge S.1 S.2.1 hdg ht (fun _ => kt) (fun h => absurd (nI_pos' hx) h)
theorem n_if_le {x : Nat} (S : CallFix p m c cc nL s args tb own) (hx : x < 2 ^ 31) (hdg : decode cc pc = .ok (.ifCond .le off, 3)) (ht : (pc : Int) + off = (tgt : Int)) (kt : x = 0 → W p l e R s m args below meth c H locs cells slots Q (F0 m tgt ls rest)) (kf : 0 < x → W p l e R s m args below meth c H locs cells slots Q (F0 m (pc + 3) ls rest)) : W p l e R s m args below meth c H locs cells slots Q (F0 m pc ls (.int (nI x) :: rest)) := lv_if_le S.1 S.2.1 hdg ht (fun h => kt (by rcases Nat.eq_zero_or_pos x with q | q; exact q; exact absurd h (nI_nle q hx))) (fun h => kf (by rcases Nat.eq_zero_or_pos x with q | q; exact absurd (by rw [q, nI_0]; decide) h; exact q))
theorem n_if_gt {x : Nat} (S : CallFix p m c cc nL s args tb own) (hx : x < 2 ^ 31) (hdg : decode cc pc = .ok (.ifCond .gt off, 3)) (ht : (pc : Int) + off = (tgt : Int)) (kt : 0 < x → W p l e R s m args below meth c H locs cells slots Q (F0 m tgt ls rest)) (kf : x = 0 → W p l e R s m args below meth c H locs cells slots Q (F0 m (pc + 3) ls rest)) : W p l e R s m args below meth c H locs cells slots Q (F0 m pc ls (.int (nI x) :: rest)) := lv_if_gt S.1 S.2.1 hdg ht (fun h => kt (by rcases Nat.eq_zero_or_pos x with q | q; exact absurd (by rw [q, nI_0] at h; exact h) (by decide); exact q)) (fun h => kf (by rcases Nat.eq_zero_or_pos x with q | q; exact q; exact absurd (by rw [← nI_0]; exact nI_lt q hx) h))
end KN
end
section
/-! ===== lN n to 2^64: shifts, and, or, masks, one bit ===== -/
theorem wb_tb (n : Nat) : (lN n).toBitVec = BitVec.ofNat 64 n := rfl
theorem wb_inj {a b : Int64} (h : a.toBitVec = b.toBitVec) : a = b := Int64.toBitVec_inj.mp h
theorem wb_tn {n : Nat} (h : n < 2 ^ 64) : (lN n).toBitVec.toNat = n := by rw [wb_tb, BitVec.toNat_ofNat, Nat.mod_eq_of_lt h]
theorem wb_of (x : Int64) : ∃ n, n < 2 ^ 64 ∧ x = lN n := ⟨x.toBitVec.toNat, x.toBitVec.isLt, wb_inj (by rw [wb_tb]; simp)⟩
theorem wb_of32 (x : Int32) : ∃ n, n < 2 ^ 32 ∧ x = nI n := ⟨x.toBitVec.toNat, x.toBitVec.isLt, Int32.toBitVec_inj.mp (by show _ = BitVec.ofNat 32 _; simp)⟩
theorem wb_c : ∀ k, k < 64 → ((nI k).toInt64 &&& 63) = lN k := by decide +kernel
theorem wb_cu : ∀ k, k < 64 → ((nI k).toInt64.toUInt64 &&& Int64.toUInt64 63) = UInt64.ofNat k := by decide +kernel
theorem wb_sm : ∀ k, k < 64 → (BitVec.ofNat 64 k).smod 64 = BitVec.ofNat 64 k := by decide +kernel
theorem wb_pw {a b : Nat} (h : a ≤ b) : 2 ^ b = 2 ^ a * 2 ^ (b - a) := by rw [← Nat.pow_add]; congr 1; omega
theorem wb_lt2 {a b : Nat} (h : a < b) : 2 ^ a < 2 ^ b := Nat.pow_lt_pow_right (by decide) h
theorem wb_mod (n : Nat) : lN n = lN (n % 2 ^ 64) := wb_inj (by rw [wb_tb, wb_tb]; apply BitVec.eq_of_toNat_eq; rw [BitVec.toNat_ofNat, BitVec.toNat_ofNat, Nat.mod_mod])
theorem wb_shr {n k : Nat} (hn : n < 2 ^ 64) (hk : k < 64) : ((lN n).toUInt64 >>> ((nI k).toInt64.toUInt64 &&& Int64.toUInt64 63)).toInt64 = lN (n / 2 ^ k) := by
  rw [wb_cu k hk]
  apply wb_inj
  apply BitVec.eq_of_toNat_eq
  show ((lN n).toUInt64 >>> UInt64.ofNat k).toNat = (BitVec.ofNat 64 _).toNat
  have h1 : (UInt64.ofNat k).toNat = k := by
    show (BitVec.ofNat 64 k).toNat = k
    rw [BitVec.toNat_ofNat, Nat.mod_eq_of_lt (by omega)]
  have h2 : (lN n).toUInt64.toNat = n := wb_tn hn
  rw [UInt64.toNat_shiftRight, h1, h2, Nat.mod_eq_of_lt hk, Nat.shiftRight_eq_div_pow, BitVec.toNat_ofNat, Nat.mod_eq_of_lt (Nat.lt_of_le_of_lt (Nat.div_le_self _ _) hn)]
theorem wb_shl (n : Nat) {k : Nat} (hk : k < 64) : lN n <<< ((nI k).toInt64 &&& 63) = lN (n * 2 ^ k) := by
  rw [wb_c k hk]
  apply wb_inj
  rw [Int64.toBitVec_shiftLeft, wb_tb, wb_tb, wb_tb, wb_sm k hk]
  apply BitVec.eq_of_toNat_eq
  rw [BitVec.shiftLeft_eq', BitVec.toNat_shiftLeft, BitVec.toNat_ofNat, BitVec.toNat_ofNat, BitVec.toNat_ofNat, Nat.mod_eq_of_lt (show k < 2 ^ 64 by omega), Nat.shiftLeft_eq, Nat.mul_mod, Nat.mod_mod, ← Nat.mul_mod]
theorem wb_and {a b : Nat} (ha : a < 2 ^ 64) (hb : b < 2 ^ 64) : lN a &&& lN b = lN (a &&& b) := by
  apply wb_inj
  rw [Int64.toBitVec_and, wb_tb, wb_tb, wb_tb]
  apply BitVec.eq_of_toNat_eq
  rw [BitVec.toNat_and, BitVec.toNat_ofNat, BitVec.toNat_ofNat, BitVec.toNat_ofNat, Nat.mod_eq_of_lt ha, Nat.mod_eq_of_lt hb, Nat.mod_eq_of_lt (Nat.and_lt_two_pow _ hb)]
theorem wb_or {a b : Nat} (ha : a < 2 ^ 64) (hb : b < 2 ^ 64) : lN a ||| lN b = lN (a ||| b) := by
  apply wb_inj
  rw [Int64.toBitVec_or, wb_tb, wb_tb, wb_tb]
  apply BitVec.eq_of_toNat_eq
  rw [BitVec.toNat_or, BitVec.toNat_ofNat, BitVec.toNat_ofNat, BitVec.toNat_ofNat, Nat.mod_eq_of_lt ha, Nat.mod_eq_of_lt hb, Nat.mod_eq_of_lt (Nat.or_lt_two_pow ha hb)]
theorem wb_mask {n k : Nat} (hn : n < 2 ^ 64) (hk : k < 64) : lN n &&& lN (2 ^ k - 1) = lN (n % 2 ^ k) := by
  rw [wb_and hn (by have := wb_lt2 hk; omega), Nat.and_two_pow_sub_one_eq_mod]
theorem wb_a1 {n : Nat} (hn : n < 2 ^ 64) : lN n &&& 1 = lN (n % 2) := wb_mask (k := 1) hn (by decide)
theorem wb_bit {n k : Nat} (hn : n < 2 ^ 64) (hk : k < 64) : ((lN n).toUInt64 >>> ((nI k).toInt64.toUInt64 &&& Int64.toUInt64 63)).toInt64 &&& 1 = lN (n / 2 ^ k % 2) := by
  rw [wb_shr hn hk, wb_a1 (Nat.lt_of_le_of_lt (Nat.div_le_self _ _) hn)]
/-! ===== lN: masks, 'or' of parts that don't overlap is a sum ===== -/
theorem u_tn {n : Nat} (h : n < 2 ^ 64) : (UInt64.ofNat n).toNat = n := Nat.mod_eq_of_lt h
theorem g_and {a b c : Nat} (ha : a < 2 ^ 64) (hb : b < 2 ^ 64) (hc : a &&& b = c) : lN a &&& lN b = lN c := by
  subst hc
  have h : UInt64.ofNat a &&& UInt64.ofNat b = UInt64.ofNat (a &&& b) := UInt64.toNat_inj.mp (by rw [UInt64.toNat_and, u_tn ha, u_tn hb, u_tn (Nat.and_lt_two_pow a hb)])
  have h2 := congrArg UInt64.toInt64 h
  exact h2
theorem g_and1 {a : Nat} (ha : a < 2 ^ 64) : lN a &&& 1 = lN (a % 2) := g_and (b := 1) ha (by decide) (Nat.and_two_pow_sub_one_eq_mod a 1)
theorem g_mask {a s p : Nat} (hp : 2 ^ s = p) (hs : s < 64) (ha : a < 2 ^ 64) : lN a &&& lN (p - 1) = lN (a % p) := by
  subst hp
  have := Nat.pow_lt_pow_right (show 1 < 2 by decide) hs
  exact g_and ha (by omega) (Nat.and_two_pow_sub_one_eq_mod a s)
theorem g_or {k p a b : Nat} (hp : 2 ^ k = p) (ha : a < p) (h : b * p + a < 2 ^ 64) : lN (b * p) ||| lN a = lN (b * p + a) := by
  subst hp
  have h1 : b * 2 ^ k ||| a = b * 2 ^ k + a := by rw [← Nat.shiftLeft_eq, Nat.shiftLeft_add_eq_or_of_lt ha]
  have h3 : UInt64.ofNat (b * 2 ^ k) ||| UInt64.ofNat a = UInt64.ofNat (b * 2 ^ k + a) := UInt64.toNat_inj.mp (by rw [UInt64.toNat_or, u_tn (by omega), u_tn (by omega), u_tn h, h1])
  have h2 := congrArg UInt64.toInt64 h3
  exact h2
theorem g_or' {k p a b : Nat} (hp : 2 ^ k = p) (ha : a < p) (h : a + b * p < 2 ^ 64) : lN a ||| lN (b * p) = lN (a + b * p) := by
  rw [Int64.or_comm, g_or hp ha (by omega), Nat.add_comm]
theorem g_ushr {a k p : Nat} {y : UInt64} (hy : y = UInt64.ofNat k) (hk : k < 64) (hp : 2 ^ k = p) (ha : a < 2 ^ 64) : ((lN a).toUInt64 >>> y).toInt64 = lN (a / p) := by
  subst hy hp
  have h : UInt64.ofNat a >>> UInt64.ofNat k = UInt64.ofNat (a / 2 ^ k) := UInt64.toNat_inj.mp (by rw [UInt64.toNat_shiftRight, u_tn ha, u_tn (by omega), u_tn (Nat.lt_of_le_of_lt (Nat.div_le_self _ _) ha), Nat.mod_eq_of_lt hk, Nat.shiftRight_eq_div_pow])
  have h2 := congrArg UInt64.toInt64 h
  exact h2
theorem g_shl {a k p : Nat} {y : Int64} (hy : y.toBitVec.smod 64 = BitVec.ofNat 64 k) (hk : k < 64) (hp : 2 ^ k = p) (ha : a < 2 ^ 64) : lN a <<< y = lN (a * p) := by
  subst hp
  apply Int64.toBitVec_inj.mp
  rw [Int64.toBitVec_shiftLeft, hy]
  apply BitVec.eq_of_toNat_eq
  have hb : (lN a).toBitVec.toNat = a := Nat.mod_eq_of_lt ha
  have hk' : (BitVec.ofNat 64 k).toNat = k := Nat.mod_eq_of_lt (by omega)
  have h : ((lN a).toBitVec <<< BitVec.ofNat 64 k).toNat = (a * 2 ^ k) % 2 ^ 64 := by simp only [BitVec.shiftLeft_eq', BitVec.toNat_shiftLeft, hb, hk', Nat.shiftLeft_eq]
  exact h
end
section
/-! the text: its bytes, tokens and names -/
/-- bytes as a byte array holds them -/
def sby (b : Nat → Nat) : Nat → Int32 := fun j => (nI (b j)).toInt8.toInt32
def updN (f : Nat → Nat) (k x : Nat) : Nat → Nat := fun j => if j = k then x else f j
theorem updN_same {f : Nat → Nat} {k x : Nat} : updN f k x k = x := by simp [updN]
theorem updN_ne {f : Nat → Nat} {k x j : Nat} (h : j ≠ k) : updN f k x j = f j := by simp [updN, h]
theorem i8_idem (x : Int32) : x.toInt8.toInt32.toInt8.toInt32 = x.toInt8.toInt32 := by simp
theorem sby_upd (b : Nat → Nat) (k v : Nat) : upd (sby b) k ((nI v).toInt8.toInt32).toInt8.toInt32 = sby (updN b k v) := by
  funext j
  by_cases h : j = k
  · subst h; simp [upd, sby, updN]
  · simp [upd, sby, updN, h]
theorem sby_and {b : Nat → Nat} (hb : ∀ j, b j < 256) (i : Nat) : sby b i &&& nI 255 = nI (b i) := sc_k8 (b i) (hb i)
theorem nI_upd (f : Nat → Nat) (k v : Nat) : upd (fun j => nI (f j)) k (nI v) = fun j => nI (updN f k v j) := by
  funext j
  by_cases h : j = k
  · subst h; simp [upd, updN]
  · simp [upd, updN, h]
def isNm (b : Nat) : Prop := 97 ≤ b ∧ b ≤ 122 ∨ 65 ≤ b ∧ b ≤ 90 ∨ 48 ≤ b ∧ b ≤ 57 ∨ b = 95 ∨ b = 39
def isSg (b : Nat) : Prop := b = 40 ∨ b = 41 ∨ b = 46 ∨ b = 58 ∨ b = 61 ∨ b = 63 ∨ b = 91 ∨ b = 93 ∨ b = 123 ∨ b = 125
/-- q is where the blanks from p on end -/
def Skp (b : Nat → Nat) (len p q : Nat) : Prop := p ≤ q ∧ q ≤ len ∧ (∀ j, p ≤ j → j < q → b j ≤ 32) ∧ (q < len → 32 < b q)
/-- q is where the letters from p on end -/
def NmE (b : Nat → Nat) (len p q : Nat) : Prop := p ≤ q ∧ q ≤ len ∧ (∀ j, p ≤ j → j < q → isNm (b j)) ∧ (q < len → ¬ isNm (b q))
theorem Skp.uniq {b : Nat → Nat} {len p q q' : Nat} (h : Skp b len p q) (h' : Skp b len p q') : q = q' := by
  obtain ⟨a1, a2, a3, a4⟩ := h
  obtain ⟨c1, c2, c3, c4⟩ := h'
  rcases Nat.lt_trichotomy q q' with h | h | h
  · have := c3 q a1 h; have := a4 (by omega); omega
  · exact h
  · have := a3 q' c1 h; have := c4 (by omega); omega
theorem NmE.uniq {b : Nat → Nat} {len p q q' : Nat} (h : NmE b len p q) (h' : NmE b len p q') : q = q' := by
  obtain ⟨a1, a2, a3, a4⟩ := h
  obtain ⟨c1, c2, c3, c4⟩ := h'
  rcases Nat.lt_trichotomy q q' with h | h | h
  · exact absurd (c3 q a1 h) (a4 (by omega))
  · exact h
  · exact absurd (a3 q' c1 h) (c4 (by omega))
/-- n bytes from st on, the first one the lowest -/
def leN (b : Nat → Nat) (st : Nat) : Nat → Nat
  | 0 => 0
  | n + 1 => leN b st n + b (st + n) * 256 ^ n
theorem leN_lt {b : Nat → Nat} (hb : ∀ j, b j < 256) (st n : Nat) : leN b st n < 256 ^ n := by
  induction n with
  | zero => simp [leN]
  | succ n ih =>
    have h := hb (st + n)
    show leN b st n + b (st + n) * 256 ^ n < 256 ^ (n + 1)
    rw [Nat.pow_succ]
    have : b (st + n) * 256 ^ n ≤ 255 * 256 ^ n := Nat.mul_le_mul_right _ (by omega)
    omega
theorem p256 (n : Nat) : 256 ^ n = 2 ^ (8 * n) := by rw [Nat.pow_mul]
theorem le_or {b : Nat → Nat} (hb : ∀ j, b j < 256) (st : Nat) {n : Nat} (hn : n < 8) : lN (leN b st n) ||| ((nI (b (st + n))).toInt64 <<< ((nI (8 * n)).toInt64 &&& 63)) = lN (leN b st (n + 1)) := by
  have h := hb (st + n)
  rw [nI_l (by omega), wb_shl _ (by omega), ← p256]
  have h1 := leN_lt hb st n
  have h2 := leN_lt hb st (n + 1)
  have h3 : 256 ^ (n + 1) ≤ 256 ^ 8 := Nat.pow_le_pow_right (by decide) (by omega)
  exact g_or' (k := 8 * n) (p256 n).symm h1 (Nat.lt_of_lt_of_le h2 (by simpa using h3))
end
section
theorem inc_eq (E k : Nat) (n : Int) (h : Int32.ofInt n = nI k) : nI E + Int32.ofInt n = nI (E + k) := by rw [h, nI_add]
theorem dec_eq {E : Nat} (h : 0 < E) : nI E + Int32.ofInt (-1) = nI (E - 1) := sb_m1 h
theorem d_F_met_0 : decode b_F_met 0 = .ok (.aload_n 0, 1) := by decide +kernel
theorem d_F_met_1 : decode b_F_met 1 = .ok (.iload_n 1, 1) := by decide +kernel
theorem d_F_met_2 : decode b_F_met 2 = .ok (.putfield 9, 3) := by decide +kernel
theorem d_F_met_5 : decode b_F_met 5 = .ok (.aload_n 0, 1) := by decide +kernel
theorem d_F_met_6 : decode b_F_met 6 = .ok (.iload_n 2, 1) := by decide +kernel
theorem d_F_met_7 : decode b_F_met 7 = .ok (.putfield 15, 3) := by decide +kernel
theorem d_F_met_10 : decode b_F_met 10 = .ok (.iconst 0, 1) := by decide +kernel
theorem d_F_met_11 : decode b_F_met 11 = .ok (.ireturn, 1) := by decide +kernel
set_option maxHeartbeats 4000000 in
set_option maxRecDepth 100000 in
/-- Fault.met: the fault and its place are kept; the answer is false -/
theorem c_F_met (l : Launch) (D : va_G) (cI cJ cB cZ : ClassId) (aF : Nat) (fn fw k t : Int32) : Ci l D (tyl cI cJ cB cZ) y_F_met b_F_met 3 (some .boolean) ({ frames := 0, cells := 0, slots := 0, locals := 0 } : Room) [.ref aF, .int k, .int t] [(aF, .inr (0, [.int fn, .int fw]))] (fun r u => r = (nI 0) ∧ u = [(aF, .inr (0, [.int k, .int t]))]) := by
  refine met_i (own := "ProofReader$Fault") (by decide) rfl (Nat.le_of_ble_eq_true rfl) ?_
  intro p e s m args below meth c A Q S hA ret ls hl hW
  have hl : lv_has ls 3 [(0, .ref aF), (1, .int k), (2, .int t)] := hl
  have hW : Wd D (tyl cI cJ cB cZ) A s s.heap s.heap [] [(aF, .inr (0, [.int fn, .int fw]))] := hW
  refine lv_aload_n S.1 S.2.1 d_F_met_0 rfl (lv_at hl 0 rfl) ?_
  refine lv_iload_n S.1 S.2.1 d_F_met_1 rfl (lv_at hl 1 rfl) ?_
  refine g_put (ws2 := [(aF, .inr (0, [.int k, .int fw]))]) i_F ft_F ft_F_ok n_F S hW 0 rfl rfl 0 (by decide) kf_F_9 rfl rfl rfl (Nat.le_of_ble_eq_true rfl) rfl d_F_met_2 (fun H locs hW => ?_)
  refine lv_aload_n S.1 S.2.1 d_F_met_5 rfl (lv_at hl 0 rfl) ?_
  refine lv_iload_n S.1 S.2.1 d_F_met_6 rfl (lv_at hl 2 rfl) ?_
  refine g_put (ws2 := [(aF, .inr (0, [.int k, .int t]))]) i_F ft_F ft_F_ok n_F S hW 0 rfl rfl 1 (by decide) kf_F_15 rfl rfl rfl (Nat.le_of_ble_eq_true rfl) rfl d_F_met_7 (fun H locs hW => ?_)
  refine lv_iconst (v := (nI 0)) S.1 S.2.1 d_F_met_10 (by decide) ?_
  exact ret _ _ _ _ _ _ d_F_met_11 rfl ⟨rfl, rfl⟩ hW
theorem d_F_forget_0 : decode b_F_forget 0 = .ok (.aload_n 0, 1) := by decide +kernel
theorem d_F_forget_1 : decode b_F_forget 1 = .ok (.iconst 0, 1) := by decide +kernel
theorem d_F_forget_2 : decode b_F_forget 2 = .ok (.putfield 9, 3) := by decide +kernel
theorem d_F_forget_5 : decode b_F_forget 5 = .ok (.aload_n 0, 1) := by decide +kernel
theorem d_F_forget_6 : decode b_F_forget 6 = .ok (.iconst (-1), 1) := by decide +kernel
theorem d_F_forget_7 : decode b_F_forget 7 = .ok (.putfield 15, 3) := by decide +kernel
theorem d_F_forget_10 : decode b_F_forget 10 = .ok (.return_, 1) := by decide +kernel
set_option maxHeartbeats 4000000 in
set_option maxRecDepth 100000 in
theorem c_F_forget (l : Launch) (D : va_G) (cI cJ cB cZ : ClassId) (aF : Nat) (fn fw : Int32) : Cv l D (tyl cI cJ cB cZ) y_F_forget b_F_forget 1 ({ frames := 0, cells := 0, slots := 0, locals := 0 } : Room) [.ref aF] [(aF, .inr (0, [.int fn, .int fw]))] (fun u => u = [(aF, .inr (0, [.int (nI 0), .int (-1)]))]) := by
  refine met_v (own := "ProofReader$Fault") (by decide) rfl (Nat.le_of_ble_eq_true rfl) ?_
  intro p e s m args below meth c A Q S hin hA ret ls hl hW
  have hl : lv_has ls 1 [(0, .ref aF)] := hl
  have hW : Wd D (tyl cI cJ cB cZ) A s s.heap s.heap [] [(aF, .inr (0, [.int fn, .int fw]))] := hW
  refine lv_aload_n S.1 S.2.1 d_F_forget_0 rfl (lv_at hl 0 rfl) ?_
  refine lv_iconst (v := (nI 0)) S.1 S.2.1 d_F_forget_1 (by decide) ?_
  refine g_put (ws2 := [(aF, .inr (0, [.int (nI 0), .int fw]))]) i_F ft_F ft_F_ok n_F S hW 0 rfl rfl 0 (by decide) kf_F_9 rfl rfl rfl (Nat.le_of_ble_eq_true rfl) rfl d_F_forget_2 (fun H locs hW => ?_)
  refine lv_aload_n S.1 S.2.1 d_F_forget_5 rfl (lv_at hl 0 rfl) ?_
  refine lv_iconst (v := (-1)) S.1 S.2.1 d_F_forget_6 (by decide) ?_
  refine g_put (ws2 := [(aF, .inr (0, [.int (nI 0), .int (-1)]))]) i_F ft_F ft_F_ok n_F S hW 0 rfl rfl 1 (by decide) kf_F_15 rfl rfl rfl (Nat.le_of_ble_eq_true rfl) rfl d_F_forget_7 (fun H locs hW => ?_)
  exact ret _ _ _ _ _ d_F_forget_10 rfl hW
theorem d_T_drop_0 : decode b_T_drop 0 = .ok (.aload_n 0, 1) := by decide +kernel
theorem d_T_drop_1 : decode b_T_drop 1 = .ok (.iconst 0, 1) := by decide +kernel
theorem d_T_drop_2 : decode b_T_drop 2 = .ok (.putfield 19, 3) := by decide +kernel
theorem d_T_drop_5 : decode b_T_drop 5 = .ok (.return_, 1) := by decide +kernel
set_option maxHeartbeats 4000000 in
set_option maxRecDepth 100000 in
theorem c_T_drop (l : Launch) (D : va_G) (cI cJ cB cZ : ClassId) (aT aF aTb : Nat) (nx ln kd st : Int32) (fr bk : Int64) : Cv l D (tyl cI cJ cB cZ) y_T_drop b_T_drop 1 ({ frames := 0, cells := 0, slots := 0, locals := 0 } : Room) [.ref aT] [(aT, .inr (3, [.ref aF, .ref aTb, .int nx, .int ln, .int kd, .int st, .long fr, .long bk]))] (fun u => u = [(aT, .inr (3, [.ref aF, .ref aTb, .int nx, .int (nI 0), .int kd, .int st, .long fr, .long bk]))]) := by
  refine met_v (own := "ProofReader$Tokens") (by decide) rfl (Nat.le_of_ble_eq_true rfl) ?_
  intro p e s m args below meth c A Q S hin hA ret ls hl hW
  have hl : lv_has ls 1 [(0, .ref aT)] := hl
  have hW : Wd D (tyl cI cJ cB cZ) A s s.heap s.heap [] [(aT, .inr (3, [.ref aF, .ref aTb, .int nx, .int ln, .int kd, .int st, .long fr, .long bk]))] := hW
  refine lv_aload_n S.1 S.2.1 d_T_drop_0 rfl (lv_at hl 0 rfl) ?_
  refine lv_iconst (v := (nI 0)) S.1 S.2.1 d_T_drop_1 (by decide) ?_
  refine g_put (ws2 := [(aT, .inr (3, [.ref aF, .ref aTb, .int nx, .int (nI 0), .int kd, .int st, .long fr, .long bk]))]) i_T ft_T ft_T_ok n_T S hW 0 rfl rfl 3 (by decide) kf_T_19 rfl rfl rfl (Nat.le_of_ble_eq_true rfl) rfl d_T_drop_2 (fun H locs hW => ?_)
  exact ret _ _ _ _ _ d_T_drop_5 rfl hW
theorem d_T_restart_0 : decode b_T_restart 0 = .ok (.aload_n 0, 1) := by decide +kernel
theorem d_T_restart_1 : decode b_T_restart 1 = .ok (.iconst 0, 1) := by decide +kernel
theorem d_T_restart_2 : decode b_T_restart 2 = .ok (.putfield 15, 3) := by decide +kernel
theorem d_T_restart_5 : decode b_T_restart 5 = .ok (.return_, 1) := by decide +kernel
set_option maxHeartbeats 4000000 in
set_option maxRecDepth 100000 in
theorem c_T_restart (l : Launch) (D : va_G) (cI cJ cB cZ : ClassId) (aT aF aTb : Nat) (nx ln kd st : Int32) (fr bk : Int64) : Cv l D (tyl cI cJ cB cZ) y_T_restart b_T_restart 1 ({ frames := 0, cells := 0, slots := 0, locals := 0 } : Room) [.ref aT] [(aT, .inr (3, [.ref aF, .ref aTb, .int nx, .int ln, .int kd, .int st, .long fr, .long bk]))] (fun u => u = [(aT, .inr (3, [.ref aF, .ref aTb, .int (nI 0), .int ln, .int kd, .int st, .long fr, .long bk]))]) := by
  refine met_v (own := "ProofReader$Tokens") (by decide) rfl (Nat.le_of_ble_eq_true rfl) ?_
  intro p e s m args below meth c A Q S hin hA ret ls hl hW
  have hl : lv_has ls 1 [(0, .ref aT)] := hl
  have hW : Wd D (tyl cI cJ cB cZ) A s s.heap s.heap [] [(aT, .inr (3, [.ref aF, .ref aTb, .int nx, .int ln, .int kd, .int st, .long fr, .long bk]))] := hW
  refine lv_aload_n S.1 S.2.1 d_T_restart_0 rfl (lv_at hl 0 rfl) ?_
  refine lv_iconst (v := (nI 0)) S.1 S.2.1 d_T_restart_1 (by decide) ?_
  refine g_put (ws2 := [(aT, .inr (3, [.ref aF, .ref aTb, .int (nI 0), .int ln, .int kd, .int st, .long fr, .long bk]))]) i_T ft_T ft_T_ok n_T S hW 0 rfl rfl 2 (by decide) kf_T_15 rfl rfl rfl (Nat.le_of_ble_eq_true rfl) rfl d_T_restart_2 (fun H locs hW => ?_)
  exact ret _ _ _ _ _ d_T_restart_5 rfl hW
end
section
theorem dv_F : ∀ j, j < 2 → defaultValue (ft_F j) = vp_V [.int 0, .int 0] j := by decide +kernel
theorem dv_C : ∀ j, j < 5 → defaultValue (ft_C j) = vp_V [.null, .null, .null, .null, .null] j := by decide +kernel
theorem dv_P : ∀ j, j < 3 → defaultValue (ft_P j) = vp_V [.null, .int 0, .int 0] j := by decide +kernel
theorem dv_T : ∀ j, j < 8 → defaultValue (ft_T j) = vp_V [.null, .null, .int 0, .int 0, .int 0, .int 0, .long 0, .long 0] j := by decide +kernel
theorem dv_K : ∀ j, j < 8 → defaultValue (ft_K j) = vp_V [.null, .null, .null, .null, .null, .null, .int 0, .int 0] j := by decide +kernel
theorem dv_R : ∀ j, j < 17 → defaultValue (ft_R j) = vp_V [.null, .null, .null, .null, .null, .null, .int 0, .int 0, .int 0, .int 0, .int 0, .int 0, .int 0, .long 0, .long 0, .int 0, .int 0] j := by decide +kernel
theorem dv_U : ∀ j, j < 11 → defaultValue (ft_U j) = vp_V [.null, .null, .null, .null, .null, .null, .int 0, .int 0, .int 0, .int 0, .int 0] j := by decide +kernel
theorem dv_H : ∀ j, j < 6 → defaultValue (ft_H j) = vp_V [.null, .null, .null, .null, .null, .int 0] j := by decide +kernel
theorem dv_I : ∀ j, j < 8 → defaultValue (ft_I j) = vp_V [.null, .null, .null, .null, .null, .null, .int 0, .int 0] j := by decide +kernel
theorem dv_X : ∀ j, j < 9 → defaultValue (ft_X j) = vp_V [.null, .null, .null, .null, .null, .null, .null, .null, .int 0] j := by decide +kernel
theorem dv_M : ∀ j, j < 61 → defaultValue (ft_M j) = vp_V [.int 0, .null, .int 0, .int 0, .int 0, .int 0, .null, .int 0, .int 0, .null, .null, .null, .null, .int 0, .int 0, .int 0, .long 0, .long 0, .null, .null, .int 0, .int 0, .int 0, .int 0, .int 0, .int 0, .int 0, .int 0, .int 0, .null, .null, .null, .null, .null, .null, .null, .null, .int 0, .null, .null, .null, .int 0, .null, .int 0, .null, .null, .int 0, .null, .int 0, .null, .null, .int 0, .int 0, .int 0, .int 0, .int 0, .null, .null, .null, .int 0, .int 0] j := by decide +kernel
theorem d_F_init_0 : decode b_F_init 0 = .ok (.aload_n 0, 1) := by decide +kernel
theorem d_F_init_1 : decode b_F_init 1 = .ok (.invokespecial 3, 3) := by decide +kernel
theorem d_F_init_4 : decode b_F_init 4 = .ok (.aload_n 0, 1) := by decide +kernel
theorem d_F_init_5 : decode b_F_init 5 = .ok (.iconst 0, 1) := by decide +kernel
theorem d_F_init_6 : decode b_F_init 6 = .ok (.putfield 9, 3) := by decide +kernel
theorem d_F_init_9 : decode b_F_init 9 = .ok (.aload_n 0, 1) := by decide +kernel
theorem d_F_init_10 : decode b_F_init 10 = .ok (.iconst (-1), 1) := by decide +kernel
theorem d_F_init_11 : decode b_F_init 11 = .ok (.putfield 15, 3) := by decide +kernel
theorem d_F_init_14 : decode b_F_init 14 = .ok (.return_, 1) := by decide +kernel
set_option maxHeartbeats 4000000 in
set_option maxRecDepth 100000 in
theorem c_F_init (l : Launch) (D : va_G) (cI cJ cB cZ : ClassId) (aF : Nat) : Cv l D (tyl cI cJ cB cZ) y_F_init b_F_init 1 ({ frames := 1, cells := 0, slots := 0, locals := 20 } : Room) [.ref aF] [(aF, .inr (0, [.int 0, .int 0]))] (fun u => u = [(aF, .inr (0, [.int (nI 0), .int (-1)]))]) := by
  refine met_v (own := "ProofReader$Fault") (by decide) rfl (Nat.le_of_ble_eq_true rfl) ?_
  intro p e s m args below meth c A Q S hin hA ret ls hl hW
  have hl : lv_has ls 1 [(0, .ref aF)] := hl
  have hW : Wd D (tyl cI cJ cB cZ) A s s.heap s.heap [] [(aF, .inr (0, [.int 0, .int 0]))] := hW
  have hin : meth.name = "<init>" := hin
  refine lv_aload_n S.1 S.2.1 d_F_init_0 rfl (lv_at hl 0 rfl) ?_
  refine g_objInit S km_F_3 hl.1 d_F_init_1 (by decide) (Nat.le_of_ble_eq_true rfl) ?_
  refine lv_aload_n S.1 S.2.1 d_F_init_4 rfl (lv_at hl 0 rfl) ?_
  refine lv_iconst (v := (nI 0)) S.1 S.2.1 d_F_init_5 (by decide) ?_
  refine g_put (ws2 := [(aF, .inr (0, [.int (nI 0), .int 0]))]) i_F ft_F ft_F_ok n_F S hW 0 rfl rfl 0 (by decide) kf_F_9 rfl rfl rfl (Nat.le_of_ble_eq_true rfl) rfl d_F_init_6 (fun H locs hW => ?_)
  refine lv_aload_n S.1 S.2.1 d_F_init_9 rfl (lv_at hl 0 rfl) ?_
  refine lv_iconst (v := (-1)) S.1 S.2.1 d_F_init_10 (by decide) ?_
  refine g_put (ws2 := [(aF, .inr (0, [.int (nI 0), .int (-1)]))]) i_F ft_F ft_F_ok n_F S hW 0 rfl rfl 1 (by decide) kf_F_15 rfl rfl rfl (Nat.le_of_ble_eq_true rfl) rfl d_F_init_11 (fun H locs hW => ?_)
  exact ret _ _ _ _ _ d_F_init_14 rfl hW
theorem d_C_init_0 : decode b_C_init 0 = .ok (.aload_n 0, 1) := by decide +kernel
theorem d_C_init_1 : decode b_C_init 1 = .ok (.invokespecial 3, 3) := by decide +kernel
theorem d_C_init_4 : decode b_C_init 4 = .ok (.aload_n 0, 1) := by decide +kernel
theorem d_C_init_5 : decode b_C_init 5 = .ok (.sipush 21092, 3) := by decide +kernel
theorem d_C_init_8 : decode b_C_init 8 = .ok (.newarray .int, 2) := by decide +kernel
theorem d_C_init_10 : decode b_C_init 10 = .ok (.putfield 11, 3) := by decide +kernel
theorem d_C_init_13 : decode b_C_init 13 = .ok (.aload_n 0, 1) := by decide +kernel
theorem d_C_init_14 : decode b_C_init 14 = .ok (.sipush 21092, 3) := by decide +kernel
theorem d_C_init_17 : decode b_C_init 17 = .ok (.newarray .int, 2) := by decide +kernel
theorem d_C_init_19 : decode b_C_init 19 = .ok (.putfield 15, 3) := by decide +kernel
theorem d_C_init_22 : decode b_C_init 22 = .ok (.aload_n 0, 1) := by decide +kernel
theorem d_C_init_23 : decode b_C_init 23 = .ok (.sipush 21092, 3) := by decide +kernel
theorem d_C_init_26 : decode b_C_init 26 = .ok (.newarray .int, 2) := by decide +kernel
theorem d_C_init_28 : decode b_C_init 28 = .ok (.putfield 18, 3) := by decide +kernel
theorem d_C_init_31 : decode b_C_init 31 = .ok (.aload_n 0, 1) := by decide +kernel
theorem d_C_init_32 : decode b_C_init 32 = .ok (.sipush 21092, 3) := by decide +kernel
theorem d_C_init_35 : decode b_C_init 35 = .ok (.newarray .int, 2) := by decide +kernel
theorem d_C_init_37 : decode b_C_init 37 = .ok (.putfield 21, 3) := by decide +kernel
theorem d_C_init_40 : decode b_C_init 40 = .ok (.aload_n 0, 1) := by decide +kernel
theorem d_C_init_41 : decode b_C_init 41 = .ok (.sipush 21092, 3) := by decide +kernel
theorem d_C_init_44 : decode b_C_init 44 = .ok (.newarray .int, 2) := by decide +kernel
theorem d_C_init_46 : decode b_C_init 46 = .ok (.putfield 24, 3) := by decide +kernel
theorem d_C_init_49 : decode b_C_init 49 = .ok (.return_, 1) := by decide +kernel
set_option maxHeartbeats 4000000 in
set_option maxRecDepth 100000 in
theorem c_C_init (l : Launch) (D : va_G) (cI cJ cB cZ : ClassId) (aC : Nat) : Cv l D (tyl cI cJ cB cZ) y_C_init b_C_init 1 ({ frames := 1, cells := 5, slots := 105460, locals := 20 } : Room) [.ref aC] [(aC, .inr (1, [.null, .null, .null, .null, .null]))] (fun u => ∃ (c0 : Nat) (c1 : Nat) (c2 : Nat) (c3 : Nat) (c4 : Nat), u = [(aC, .inr (1, [.ref c0, .ref c1, .ref c2, .ref c3, .ref c4])), (c0, .inl (cI, 21092, .inl (fun _ => 0))), (c1, .inl (cI, 21092, .inl (fun _ => 0))), (c2, .inl (cI, 21092, .inl (fun _ => 0))), (c3, .inl (cI, 21092, .inl (fun _ => 0))), (c4, .inl (cI, 21092, .inl (fun _ => 0)))]) := by
  refine met_v (own := "ProofReader$Code") (by decide) rfl (Nat.le_of_ble_eq_true rfl) ?_
  intro p e s m args below meth c A Q S hin hA ret ls hl hW
  have hl : lv_has ls 1 [(0, .ref aC)] := hl
  have hW : Wd D (tyl cI cJ cB cZ) A s s.heap s.heap [] [(aC, .inr (1, [.null, .null, .null, .null, .null]))] := hW
  have hin : meth.name = "<init>" := hin
  refine lv_aload_n S.1 S.2.1 d_C_init_0 rfl (lv_at hl 0 rfl) ?_
  refine g_objInit S km_C_3 hl.1 d_C_init_1 (by decide) (Nat.le_of_ble_eq_true rfl) ?_
  refine lv_aload_n S.1 S.2.1 d_C_init_4 rfl (lv_at hl 0 rfl) ?_
  refine lv_sipush (v := (nI 21092)) S.1 S.2.1 d_C_init_5 (by decide) ?_
  refine g_newa (atype := .int) (a0 := (21092, .inl (fun _ => 0))) S hW hA ka_int 0 rfl (fun _ => rfl) (nI_pos (by decide)) (nI_clamp (by decide)) (Nat.le_of_ble_eq_true rfl) (Nat.le_of_ble_eq_true rfl) (Nat.le_of_ble_eq_true rfl) d_C_init_8 (fun q_1 H hW => ?_)
  have hW : Wd D (tyl cI cJ cB cZ) A s s.heap H _ [(aC, .inr (1, [.null, .null, .null, .null, .null])), (q_1, .inl (cI, 21092, .inl (fun _ => 0)))] := hW
  refine g_putF (ws2 := [(aC, .inr (1, [.ref q_1, .null, .null, .null, .null])), (q_1, .inl (cI, 21092, .inl (fun _ => 0)))]) i_C ft_C ft_C_ok n_C S hW 0 rfl rfl 0 (by decide) kf_C_11 rfl hin rfl rfl rfl (Nat.le_of_ble_eq_true rfl) rfl d_C_init_10 (fun H locs hW => ?_)
  refine lv_aload_n S.1 S.2.1 d_C_init_13 rfl (lv_at hl 0 rfl) ?_
  refine lv_sipush (v := (nI 21092)) S.1 S.2.1 d_C_init_14 (by decide) ?_
  refine g_newa (atype := .int) (a0 := (21092, .inl (fun _ => 0))) S hW hA ka_int 0 rfl (fun _ => rfl) (nI_pos (by decide)) (nI_clamp (by decide)) (Nat.le_of_ble_eq_true rfl) (Nat.le_of_ble_eq_true rfl) (Nat.le_of_ble_eq_true rfl) d_C_init_17 (fun q_2 H hW => ?_)
  have hW : Wd D (tyl cI cJ cB cZ) A s s.heap H _ [(aC, .inr (1, [.ref q_1, .null, .null, .null, .null])), (q_1, .inl (cI, 21092, .inl (fun _ => 0))), (q_2, .inl (cI, 21092, .inl (fun _ => 0)))] := hW
  refine g_putF (ws2 := [(aC, .inr (1, [.ref q_1, .ref q_2, .null, .null, .null])), (q_1, .inl (cI, 21092, .inl (fun _ => 0))), (q_2, .inl (cI, 21092, .inl (fun _ => 0)))]) i_C ft_C ft_C_ok n_C S hW 0 rfl rfl 1 (by decide) kf_C_15 rfl hin rfl rfl rfl (Nat.le_of_ble_eq_true rfl) rfl d_C_init_19 (fun H locs hW => ?_)
  refine lv_aload_n S.1 S.2.1 d_C_init_22 rfl (lv_at hl 0 rfl) ?_
  refine lv_sipush (v := (nI 21092)) S.1 S.2.1 d_C_init_23 (by decide) ?_
  refine g_newa (atype := .int) (a0 := (21092, .inl (fun _ => 0))) S hW hA ka_int 0 rfl (fun _ => rfl) (nI_pos (by decide)) (nI_clamp (by decide)) (Nat.le_of_ble_eq_true rfl) (Nat.le_of_ble_eq_true rfl) (Nat.le_of_ble_eq_true rfl) d_C_init_26 (fun q_3 H hW => ?_)
  have hW : Wd D (tyl cI cJ cB cZ) A s s.heap H _ [(aC, .inr (1, [.ref q_1, .ref q_2, .null, .null, .null])), (q_1, .inl (cI, 21092, .inl (fun _ => 0))), (q_2, .inl (cI, 21092, .inl (fun _ => 0))), (q_3, .inl (cI, 21092, .inl (fun _ => 0)))] := hW
  refine g_putF (ws2 := [(aC, .inr (1, [.ref q_1, .ref q_2, .ref q_3, .null, .null])), (q_1, .inl (cI, 21092, .inl (fun _ => 0))), (q_2, .inl (cI, 21092, .inl (fun _ => 0))), (q_3, .inl (cI, 21092, .inl (fun _ => 0)))]) i_C ft_C ft_C_ok n_C S hW 0 rfl rfl 2 (by decide) kf_C_18 rfl hin rfl rfl rfl (Nat.le_of_ble_eq_true rfl) rfl d_C_init_28 (fun H locs hW => ?_)
  refine lv_aload_n S.1 S.2.1 d_C_init_31 rfl (lv_at hl 0 rfl) ?_
  refine lv_sipush (v := (nI 21092)) S.1 S.2.1 d_C_init_32 (by decide) ?_
  refine g_newa (atype := .int) (a0 := (21092, .inl (fun _ => 0))) S hW hA ka_int 0 rfl (fun _ => rfl) (nI_pos (by decide)) (nI_clamp (by decide)) (Nat.le_of_ble_eq_true rfl) (Nat.le_of_ble_eq_true rfl) (Nat.le_of_ble_eq_true rfl) d_C_init_35 (fun q_4 H hW => ?_)
  have hW : Wd D (tyl cI cJ cB cZ) A s s.heap H _ [(aC, .inr (1, [.ref q_1, .ref q_2, .ref q_3, .null, .null])), (q_1, .inl (cI, 21092, .inl (fun _ => 0))), (q_2, .inl (cI, 21092, .inl (fun _ => 0))), (q_3, .inl (cI, 21092, .inl (fun _ => 0))), (q_4, .inl (cI, 21092, .inl (fun _ => 0)))] := hW
  refine g_putF (ws2 := [(aC, .inr (1, [.ref q_1, .ref q_2, .ref q_3, .ref q_4, .null])), (q_1, .inl (cI, 21092, .inl (fun _ => 0))), (q_2, .inl (cI, 21092, .inl (fun _ => 0))), (q_3, .inl (cI, 21092, .inl (fun _ => 0))), (q_4, .inl (cI, 21092, .inl (fun _ => 0)))]) i_C ft_C ft_C_ok n_C S hW 0 rfl rfl 3 (by decide) kf_C_21 rfl hin rfl rfl rfl (Nat.le_of_ble_eq_true rfl) rfl d_C_init_37 (fun H locs hW => ?_)
  refine lv_aload_n S.1 S.2.1 d_C_init_40 rfl (lv_at hl 0 rfl) ?_
  refine lv_sipush (v := (nI 21092)) S.1 S.2.1 d_C_init_41 (by decide) ?_
  refine g_newa (atype := .int) (a0 := (21092, .inl (fun _ => 0))) S hW hA ka_int 0 rfl (fun _ => rfl) (nI_pos (by decide)) (nI_clamp (by decide)) (Nat.le_of_ble_eq_true rfl) (Nat.le_of_ble_eq_true rfl) (Nat.le_of_ble_eq_true rfl) d_C_init_44 (fun q_5 H hW => ?_)
  have hW : Wd D (tyl cI cJ cB cZ) A s s.heap H _ [(aC, .inr (1, [.ref q_1, .ref q_2, .ref q_3, .ref q_4, .null])), (q_1, .inl (cI, 21092, .inl (fun _ => 0))), (q_2, .inl (cI, 21092, .inl (fun _ => 0))), (q_3, .inl (cI, 21092, .inl (fun _ => 0))), (q_4, .inl (cI, 21092, .inl (fun _ => 0))), (q_5, .inl (cI, 21092, .inl (fun _ => 0)))] := hW
  refine g_putF (ws2 := [(aC, .inr (1, [.ref q_1, .ref q_2, .ref q_3, .ref q_4, .ref q_5])), (q_1, .inl (cI, 21092, .inl (fun _ => 0))), (q_2, .inl (cI, 21092, .inl (fun _ => 0))), (q_3, .inl (cI, 21092, .inl (fun _ => 0))), (q_4, .inl (cI, 21092, .inl (fun _ => 0))), (q_5, .inl (cI, 21092, .inl (fun _ => 0)))]) i_C ft_C ft_C_ok n_C S hW 0 rfl rfl 4 (by decide) kf_C_24 rfl hin rfl rfl rfl (Nat.le_of_ble_eq_true rfl) rfl d_C_init_46 (fun H locs hW => ?_)
  exact ret _ _ _ _ _ d_C_init_49 ⟨_, _, _, _, _, rfl⟩ hW
theorem d_P_init_0 : decode b_P_init 0 = .ok (.aload_n 0, 1) := by decide +kernel
theorem d_P_init_1 : decode b_P_init 1 = .ok (.invokespecial 3, 3) := by decide +kernel
theorem d_P_init_4 : decode b_P_init 4 = .ok (.aload_n 0, 1) := by decide +kernel
theorem d_P_init_5 : decode b_P_init 5 = .ok (.sipush 4096, 3) := by decide +kernel
theorem d_P_init_8 : decode b_P_init 8 = .ok (.newarray .byte, 2) := by decide +kernel
theorem d_P_init_10 : decode b_P_init 10 = .ok (.putfield 9, 3) := by decide +kernel
theorem d_P_init_13 : decode b_P_init 13 = .ok (.aload_n 0, 1) := by decide +kernel
theorem d_P_init_14 : decode b_P_init 14 = .ok (.iconst 0, 1) := by decide +kernel
theorem d_P_init_15 : decode b_P_init 15 = .ok (.putfield 15, 3) := by decide +kernel
theorem d_P_init_18 : decode b_P_init 18 = .ok (.aload_n 0, 1) := by decide +kernel
theorem d_P_init_19 : decode b_P_init 19 = .ok (.iconst 0, 1) := by decide +kernel
theorem d_P_init_20 : decode b_P_init 20 = .ok (.putfield 19, 3) := by decide +kernel
theorem d_P_init_23 : decode b_P_init 23 = .ok (.return_, 1) := by decide +kernel
set_option maxHeartbeats 4000000 in
set_option maxRecDepth 100000 in
theorem c_P_init (l : Launch) (D : va_G) (cI cJ cB cZ : ClassId) (aP : Nat) : Cv l D (tyl cI cJ cB cZ) y_P_init b_P_init 1 ({ frames := 1, cells := 1, slots := 4096, locals := 20 } : Room) [.ref aP] [(aP, .inr (2, [.null, .int 0, .int 0]))] (fun u => ∃ (p0 : Nat), u = [(aP, .inr (2, [.ref p0, .int (nI 0), .int (nI 0)])), (p0, .inl (cB, 4096, .inl (fun _ => 0)))]) := by
  refine met_v (own := "ProofReader$Paper") (by decide) rfl (Nat.le_of_ble_eq_true rfl) ?_
  intro p e s m args below meth c A Q S hin hA ret ls hl hW
  have hl : lv_has ls 1 [(0, .ref aP)] := hl
  have hW : Wd D (tyl cI cJ cB cZ) A s s.heap s.heap [] [(aP, .inr (2, [.null, .int 0, .int 0]))] := hW
  have hin : meth.name = "<init>" := hin
  refine lv_aload_n S.1 S.2.1 d_P_init_0 rfl (lv_at hl 0 rfl) ?_
  refine g_objInit S km_P_3 hl.1 d_P_init_1 (by decide) (Nat.le_of_ble_eq_true rfl) ?_
  refine lv_aload_n S.1 S.2.1 d_P_init_4 rfl (lv_at hl 0 rfl) ?_
  refine lv_sipush (v := (nI 4096)) S.1 S.2.1 d_P_init_5 (by decide) ?_
  refine g_newa (atype := .byte) (a0 := (4096, .inl (fun _ => 0))) S hW hA ka_byte 2 rfl (fun _ => rfl) (nI_pos (by decide)) (nI_clamp (by decide)) (Nat.le_of_ble_eq_true rfl) (Nat.le_of_ble_eq_true rfl) (Nat.le_of_ble_eq_true rfl) d_P_init_8 (fun q_1 H hW => ?_)
  have hW : Wd D (tyl cI cJ cB cZ) A s s.heap H _ [(aP, .inr (2, [.null, .int 0, .int 0])), (q_1, .inl (cB, 4096, .inl (fun _ => 0)))] := hW
  refine g_putF (ws2 := [(aP, .inr (2, [.ref q_1, .int 0, .int 0])), (q_1, .inl (cB, 4096, .inl (fun _ => 0)))]) i_P ft_P ft_P_ok n_P S hW 0 rfl rfl 0 (by decide) kf_P_9 rfl hin rfl rfl rfl (Nat.le_of_ble_eq_true rfl) rfl d_P_init_10 (fun H locs hW => ?_)
  refine lv_aload_n S.1 S.2.1 d_P_init_13 rfl (lv_at hl 0 rfl) ?_
  refine lv_iconst (v := (nI 0)) S.1 S.2.1 d_P_init_14 (by decide) ?_
  refine g_put (ws2 := [(aP, .inr (2, [.ref q_1, .int (nI 0), .int 0])), (q_1, .inl (cB, 4096, .inl (fun _ => 0)))]) i_P ft_P ft_P_ok n_P S hW 0 rfl rfl 1 (by decide) kf_P_15 rfl rfl rfl (Nat.le_of_ble_eq_true rfl) rfl d_P_init_15 (fun H locs hW => ?_)
  refine lv_aload_n S.1 S.2.1 d_P_init_18 rfl (lv_at hl 0 rfl) ?_
  refine lv_iconst (v := (nI 0)) S.1 S.2.1 d_P_init_19 (by decide) ?_
  refine g_put (ws2 := [(aP, .inr (2, [.ref q_1, .int (nI 0), .int (nI 0)])), (q_1, .inl (cB, 4096, .inl (fun _ => 0)))]) i_P ft_P ft_P_ok n_P S hW 0 rfl rfl 2 (by decide) kf_P_19 rfl rfl rfl (Nat.le_of_ble_eq_true rfl) rfl d_P_init_20 (fun H locs hW => ?_)
  exact ret _ _ _ _ _ d_P_init_23 ⟨_, rfl⟩ hW
theorem d_T_init_0 : decode b_T_init 0 = .ok (.aload_n 0, 1) := by decide +kernel
theorem d_T_init_1 : decode b_T_init 1 = .ok (.invokespecial 3, 3) := by decide +kernel
theorem d_T_init_4 : decode b_T_init 4 = .ok (.aload_n 0, 1) := by decide +kernel
theorem d_T_init_5 : decode b_T_init 5 = .ok (.sipush 8192, 3) := by decide +kernel
theorem d_T_init_8 : decode b_T_init 8 = .ok (.newarray .byte, 2) := by decide +kernel
theorem d_T_init_10 : decode b_T_init 10 = .ok (.putfield 9, 3) := by decide +kernel
theorem d_T_init_13 : decode b_T_init 13 = .ok (.aload_n 0, 1) := by decide +kernel
theorem d_T_init_14 : decode b_T_init 14 = .ok (.iconst 0, 1) := by decide +kernel
theorem d_T_init_15 : decode b_T_init 15 = .ok (.putfield 15, 3) := by decide +kernel
theorem d_T_init_18 : decode b_T_init 18 = .ok (.aload_n 0, 1) := by decide +kernel
theorem d_T_init_19 : decode b_T_init 19 = .ok (.iconst 0, 1) := by decide +kernel
theorem d_T_init_20 : decode b_T_init 20 = .ok (.putfield 19, 3) := by decide +kernel
theorem d_T_init_23 : decode b_T_init 23 = .ok (.aload_n 0, 1) := by decide +kernel
theorem d_T_init_24 : decode b_T_init 24 = .ok (.iconst 0, 1) := by decide +kernel
theorem d_T_init_25 : decode b_T_init 25 = .ok (.putfield 22, 3) := by decide +kernel
theorem d_T_init_28 : decode b_T_init 28 = .ok (.aload_n 0, 1) := by decide +kernel
theorem d_T_init_29 : decode b_T_init 29 = .ok (.iconst 0, 1) := by decide +kernel
theorem d_T_init_30 : decode b_T_init 30 = .ok (.putfield 25, 3) := by decide +kernel
theorem d_T_init_33 : decode b_T_init 33 = .ok (.aload_n 0, 1) := by decide +kernel
theorem d_T_init_34 : decode b_T_init 34 = .ok (.lconst 0, 1) := by decide +kernel
theorem d_T_init_35 : decode b_T_init 35 = .ok (.putfield 28, 3) := by decide +kernel
theorem d_T_init_38 : decode b_T_init 38 = .ok (.aload_n 0, 1) := by decide +kernel
theorem d_T_init_39 : decode b_T_init 39 = .ok (.lconst 0, 1) := by decide +kernel
theorem d_T_init_40 : decode b_T_init 40 = .ok (.putfield 32, 3) := by decide +kernel
theorem d_T_init_43 : decode b_T_init 43 = .ok (.aload_n 0, 1) := by decide +kernel
theorem d_T_init_44 : decode b_T_init 44 = .ok (.aload_n 1, 1) := by decide +kernel
theorem d_T_init_45 : decode b_T_init 45 = .ok (.putfield 35, 3) := by decide +kernel
theorem d_T_init_48 : decode b_T_init 48 = .ok (.return_, 1) := by decide +kernel
set_option maxHeartbeats 4000000 in
set_option maxRecDepth 100000 in
theorem c_T_init (l : Launch) (D : va_G) (cI cJ cB cZ : ClassId) (aT aF : Nat) : Cv l D (tyl cI cJ cB cZ) y_T_init b_T_init 2 ({ frames := 1, cells := 1, slots := 8192, locals := 20 } : Room) [.ref aT, .ref aF] [(aT, .inr (3, [.null, .null, .int 0, .int 0, .int 0, .int 0, .long 0, .long 0]))] (fun u => ∃ (t0 : Nat), u = [(aT, .inr (3, [.ref aF, .ref t0, .int (nI 0), .int (nI 0), .int (nI 0), .int (nI 0), .long 0, .long 0])), (t0, .inl (cB, 8192, .inl (fun _ => 0)))]) := by
  refine met_v (own := "ProofReader$Tokens") (by decide) rfl (Nat.le_of_ble_eq_true rfl) ?_
  intro p e s m args below meth c A Q S hin hA ret ls hl hW
  have hl : lv_has ls 2 [(0, .ref aT), (1, .ref aF)] := hl
  have hW : Wd D (tyl cI cJ cB cZ) A s s.heap s.heap [] [(aT, .inr (3, [.null, .null, .int 0, .int 0, .int 0, .int 0, .long 0, .long 0]))] := hW
  have hin : meth.name = "<init>" := hin
  refine lv_aload_n S.1 S.2.1 d_T_init_0 rfl (lv_at hl 0 rfl) ?_
  refine g_objInit S km_T_3 hl.1 d_T_init_1 (by decide) (Nat.le_of_ble_eq_true rfl) ?_
  refine lv_aload_n S.1 S.2.1 d_T_init_4 rfl (lv_at hl 0 rfl) ?_
  refine lv_sipush (v := (nI 8192)) S.1 S.2.1 d_T_init_5 (by decide) ?_
  refine g_newa (atype := .byte) (a0 := (8192, .inl (fun _ => 0))) S hW hA ka_byte 2 rfl (fun _ => rfl) (nI_pos (by decide)) (nI_clamp (by decide)) (Nat.le_of_ble_eq_true rfl) (Nat.le_of_ble_eq_true rfl) (Nat.le_of_ble_eq_true rfl) d_T_init_8 (fun q_1 H hW => ?_)
  have hW : Wd D (tyl cI cJ cB cZ) A s s.heap H _ [(aT, .inr (3, [.null, .null, .int 0, .int 0, .int 0, .int 0, .long 0, .long 0])), (q_1, .inl (cB, 8192, .inl (fun _ => 0)))] := hW
  refine g_putF (ws2 := [(aT, .inr (3, [.null, .ref q_1, .int 0, .int 0, .int 0, .int 0, .long 0, .long 0])), (q_1, .inl (cB, 8192, .inl (fun _ => 0)))]) i_T ft_T ft_T_ok n_T S hW 0 rfl rfl 1 (by decide) kf_T_9 rfl hin rfl rfl rfl (Nat.le_of_ble_eq_true rfl) rfl d_T_init_10 (fun H locs hW => ?_)
  refine lv_aload_n S.1 S.2.1 d_T_init_13 rfl (lv_at hl 0 rfl) ?_
  refine lv_iconst (v := (nI 0)) S.1 S.2.1 d_T_init_14 (by decide) ?_
  refine g_put (ws2 := [(aT, .inr (3, [.null, .ref q_1, .int (nI 0), .int 0, .int 0, .int 0, .long 0, .long 0])), (q_1, .inl (cB, 8192, .inl (fun _ => 0)))]) i_T ft_T ft_T_ok n_T S hW 0 rfl rfl 2 (by decide) kf_T_15 rfl rfl rfl (Nat.le_of_ble_eq_true rfl) rfl d_T_init_15 (fun H locs hW => ?_)
  refine lv_aload_n S.1 S.2.1 d_T_init_18 rfl (lv_at hl 0 rfl) ?_
  refine lv_iconst (v := (nI 0)) S.1 S.2.1 d_T_init_19 (by decide) ?_
  refine g_put (ws2 := [(aT, .inr (3, [.null, .ref q_1, .int (nI 0), .int (nI 0), .int 0, .int 0, .long 0, .long 0])), (q_1, .inl (cB, 8192, .inl (fun _ => 0)))]) i_T ft_T ft_T_ok n_T S hW 0 rfl rfl 3 (by decide) kf_T_19 rfl rfl rfl (Nat.le_of_ble_eq_true rfl) rfl d_T_init_20 (fun H locs hW => ?_)
  refine lv_aload_n S.1 S.2.1 d_T_init_23 rfl (lv_at hl 0 rfl) ?_
  refine lv_iconst (v := (nI 0)) S.1 S.2.1 d_T_init_24 (by decide) ?_
  refine g_put (ws2 := [(aT, .inr (3, [.null, .ref q_1, .int (nI 0), .int (nI 0), .int (nI 0), .int 0, .long 0, .long 0])), (q_1, .inl (cB, 8192, .inl (fun _ => 0)))]) i_T ft_T ft_T_ok n_T S hW 0 rfl rfl 4 (by decide) kf_T_22 rfl rfl rfl (Nat.le_of_ble_eq_true rfl) rfl d_T_init_25 (fun H locs hW => ?_)
  refine lv_aload_n S.1 S.2.1 d_T_init_28 rfl (lv_at hl 0 rfl) ?_
  refine lv_iconst (v := (nI 0)) S.1 S.2.1 d_T_init_29 (by decide) ?_
  refine g_put (ws2 := [(aT, .inr (3, [.null, .ref q_1, .int (nI 0), .int (nI 0), .int (nI 0), .int (nI 0), .long 0, .long 0])), (q_1, .inl (cB, 8192, .inl (fun _ => 0)))]) i_T ft_T ft_T_ok n_T S hW 0 rfl rfl 5 (by decide) kf_T_25 rfl rfl rfl (Nat.le_of_ble_eq_true rfl) rfl d_T_init_30 (fun H locs hW => ?_)
  refine lv_aload_n S.1 S.2.1 d_T_init_33 rfl (lv_at hl 0 rfl) ?_
  refine lv_lconst (v := 0) S.1 S.2.1 d_T_init_34 rfl ?_
  refine g_put (ws2 := [(aT, .inr (3, [.null, .ref q_1, .int (nI 0), .int (nI 0), .int (nI 0), .int (nI 0), .long 0, .long 0])), (q_1, .inl (cB, 8192, .inl (fun _ => 0)))]) i_T ft_T ft_T_ok n_T S hW 0 rfl rfl 6 (by decide) kf_T_28 rfl rfl rfl (Nat.le_of_ble_eq_true rfl) rfl d_T_init_35 (fun H locs hW => ?_)
  refine lv_aload_n S.1 S.2.1 d_T_init_38 rfl (lv_at hl 0 rfl) ?_
  refine lv_lconst (v := 0) S.1 S.2.1 d_T_init_39 rfl ?_
  refine g_put (ws2 := [(aT, .inr (3, [.null, .ref q_1, .int (nI 0), .int (nI 0), .int (nI 0), .int (nI 0), .long 0, .long 0])), (q_1, .inl (cB, 8192, .inl (fun _ => 0)))]) i_T ft_T ft_T_ok n_T S hW 0 rfl rfl 7 (by decide) kf_T_32 rfl rfl rfl (Nat.le_of_ble_eq_true rfl) rfl d_T_init_40 (fun H locs hW => ?_)
  refine lv_aload_n S.1 S.2.1 d_T_init_43 rfl (lv_at hl 0 rfl) ?_
  refine lv_aload_n S.1 S.2.1 d_T_init_44 rfl (lv_at hl 1 rfl) ?_
  refine g_putF (ws2 := [(aT, .inr (3, [.ref aF, .ref q_1, .int (nI 0), .int (nI 0), .int (nI 0), .int (nI 0), .long 0, .long 0])), (q_1, .inl (cB, 8192, .inl (fun _ => 0)))]) i_T ft_T ft_T_ok n_T S hW 0 rfl rfl 0 (by decide) kf_T_35 rfl hin rfl rfl rfl (Nat.le_of_ble_eq_true rfl) rfl d_T_init_45 (fun H locs hW => ?_)
  exact ret _ _ _ _ _ d_T_init_48 ⟨_, rfl⟩ hW
theorem d_K_init_0 : decode b_K_init 0 = .ok (.aload_n 0, 1) := by decide +kernel
theorem d_K_init_1 : decode b_K_init 1 = .ok (.invokespecial 3, 3) := by decide +kernel
theorem d_K_init_4 : decode b_K_init 4 = .ok (.aload_n 0, 1) := by decide +kernel
theorem d_K_init_5 : decode b_K_init 5 = .ok (.bipush 48, 2) := by decide +kernel
theorem d_K_init_7 : decode b_K_init 7 = .ok (.newarray .long, 2) := by decide +kernel
theorem d_K_init_9 : decode b_K_init 9 = .ok (.putfield 9, 3) := by decide +kernel
theorem d_K_init_12 : decode b_K_init 12 = .ok (.aload_n 0, 1) := by decide +kernel
theorem d_K_init_13 : decode b_K_init 13 = .ok (.bipush 48, 2) := by decide +kernel
theorem d_K_init_15 : decode b_K_init 15 = .ok (.newarray .long, 2) := by decide +kernel
theorem d_K_init_17 : decode b_K_init 17 = .ok (.putfield 15, 3) := by decide +kernel
theorem d_K_init_20 : decode b_K_init 20 = .ok (.aload_n 0, 1) := by decide +kernel
theorem d_K_init_21 : decode b_K_init 21 = .ok (.bipush 48, 2) := by decide +kernel
theorem d_K_init_23 : decode b_K_init 23 = .ok (.newarray .int, 2) := by decide +kernel
theorem d_K_init_25 : decode b_K_init 25 = .ok (.putfield 18, 3) := by decide +kernel
theorem d_K_init_28 : decode b_K_init 28 = .ok (.aload_n 0, 1) := by decide +kernel
theorem d_K_init_29 : decode b_K_init 29 = .ok (.bipush 48, 2) := by decide +kernel
theorem d_K_init_31 : decode b_K_init 31 = .ok (.newarray .int, 2) := by decide +kernel
theorem d_K_init_33 : decode b_K_init 33 = .ok (.putfield 22, 3) := by decide +kernel
theorem d_K_init_36 : decode b_K_init 36 = .ok (.aload_n 0, 1) := by decide +kernel
theorem d_K_init_37 : decode b_K_init 37 = .ok (.bipush 48, 2) := by decide +kernel
theorem d_K_init_39 : decode b_K_init 39 = .ok (.newarray .boolean, 2) := by decide +kernel
theorem d_K_init_41 : decode b_K_init 41 = .ok (.putfield 25, 3) := by decide +kernel
theorem d_K_init_44 : decode b_K_init 44 = .ok (.aload_n 0, 1) := by decide +kernel
theorem d_K_init_45 : decode b_K_init 45 = .ok (.iconst 0, 1) := by decide +kernel
theorem d_K_init_46 : decode b_K_init 46 = .ok (.putfield 29, 3) := by decide +kernel
theorem d_K_init_49 : decode b_K_init 49 = .ok (.aload_n 0, 1) := by decide +kernel
theorem d_K_init_50 : decode b_K_init 50 = .ok (.iconst 0, 1) := by decide +kernel
theorem d_K_init_51 : decode b_K_init 51 = .ok (.putfield 33, 3) := by decide +kernel
theorem d_K_init_54 : decode b_K_init 54 = .ok (.aload_n 0, 1) := by decide +kernel
theorem d_K_init_55 : decode b_K_init 55 = .ok (.aload_n 1, 1) := by decide +kernel
theorem d_K_init_56 : decode b_K_init 56 = .ok (.putfield 36, 3) := by decide +kernel
theorem d_K_init_59 : decode b_K_init 59 = .ok (.return_, 1) := by decide +kernel
set_option maxHeartbeats 4000000 in
set_option maxRecDepth 100000 in
theorem c_K_init (l : Launch) (D : va_G) (cI cJ cB cZ : ClassId) (aK aC : Nat) : Cv l D (tyl cI cJ cB cZ) y_K_init b_K_init 2 ({ frames := 1, cells := 5, slots := 240, locals := 20 } : Room) [.ref aK, .ref aC] [(aK, .inr (4, [.null, .null, .null, .null, .null, .null, .int 0, .int 0]))] (fun u => ∃ (k0 : Nat) (k1 : Nat) (k2 : Nat) (k3 : Nat) (k4 : Nat), u = [(aK, .inr (4, [.ref aC, .ref k0, .ref k1, .ref k2, .ref k3, .ref k4, .int (nI 0), .int (nI 0)])), (k0, .inl (cJ, 48, .inr (.inl (fun _ => 0)))), (k1, .inl (cJ, 48, .inr (.inl (fun _ => 0)))), (k2, .inl (cI, 48, .inl (fun _ => 0))), (k3, .inl (cI, 48, .inl (fun _ => 0))), (k4, .inl (cZ, 48, .inl (fun _ => 0)))]) := by
  refine met_v (own := "ProofReader$Constants") (by decide) rfl (Nat.le_of_ble_eq_true rfl) ?_
  intro p e s m args below meth c A Q S hin hA ret ls hl hW
  have hl : lv_has ls 2 [(0, .ref aK), (1, .ref aC)] := hl
  have hW : Wd D (tyl cI cJ cB cZ) A s s.heap s.heap [] [(aK, .inr (4, [.null, .null, .null, .null, .null, .null, .int 0, .int 0]))] := hW
  have hin : meth.name = "<init>" := hin
  refine lv_aload_n S.1 S.2.1 d_K_init_0 rfl (lv_at hl 0 rfl) ?_
  refine g_objInit S km_K_3 hl.1 d_K_init_1 (by decide) (Nat.le_of_ble_eq_true rfl) ?_
  refine lv_aload_n S.1 S.2.1 d_K_init_4 rfl (lv_at hl 0 rfl) ?_
  refine lv_bipush (v := (nI 48)) S.1 S.2.1 d_K_init_5 (by decide) ?_
  refine g_newa (atype := .long) (a0 := (48, .inr (.inl (fun _ => 0)))) S hW hA ka_long 1 rfl (fun _ => rfl) (nI_pos (by decide)) (nI_clamp (by decide)) (Nat.le_of_ble_eq_true rfl) (Nat.le_of_ble_eq_true rfl) (Nat.le_of_ble_eq_true rfl) d_K_init_7 (fun q_1 H hW => ?_)
  have hW : Wd D (tyl cI cJ cB cZ) A s s.heap H _ [(aK, .inr (4, [.null, .null, .null, .null, .null, .null, .int 0, .int 0])), (q_1, .inl (cJ, 48, .inr (.inl (fun _ => 0))))] := hW
  refine g_putF (ws2 := [(aK, .inr (4, [.null, .ref q_1, .null, .null, .null, .null, .int 0, .int 0])), (q_1, .inl (cJ, 48, .inr (.inl (fun _ => 0))))]) i_K ft_K ft_K_ok n_K S hW 0 rfl rfl 1 (by decide) kf_K_9 rfl hin rfl rfl rfl (Nat.le_of_ble_eq_true rfl) rfl d_K_init_9 (fun H locs hW => ?_)
  refine lv_aload_n S.1 S.2.1 d_K_init_12 rfl (lv_at hl 0 rfl) ?_
  refine lv_bipush (v := (nI 48)) S.1 S.2.1 d_K_init_13 (by decide) ?_
  refine g_newa (atype := .long) (a0 := (48, .inr (.inl (fun _ => 0)))) S hW hA ka_long 1 rfl (fun _ => rfl) (nI_pos (by decide)) (nI_clamp (by decide)) (Nat.le_of_ble_eq_true rfl) (Nat.le_of_ble_eq_true rfl) (Nat.le_of_ble_eq_true rfl) d_K_init_15 (fun q_2 H hW => ?_)
  have hW : Wd D (tyl cI cJ cB cZ) A s s.heap H _ [(aK, .inr (4, [.null, .ref q_1, .null, .null, .null, .null, .int 0, .int 0])), (q_1, .inl (cJ, 48, .inr (.inl (fun _ => 0)))), (q_2, .inl (cJ, 48, .inr (.inl (fun _ => 0))))] := hW
  refine g_putF (ws2 := [(aK, .inr (4, [.null, .ref q_1, .ref q_2, .null, .null, .null, .int 0, .int 0])), (q_1, .inl (cJ, 48, .inr (.inl (fun _ => 0)))), (q_2, .inl (cJ, 48, .inr (.inl (fun _ => 0))))]) i_K ft_K ft_K_ok n_K S hW 0 rfl rfl 2 (by decide) kf_K_15 rfl hin rfl rfl rfl (Nat.le_of_ble_eq_true rfl) rfl d_K_init_17 (fun H locs hW => ?_)
  refine lv_aload_n S.1 S.2.1 d_K_init_20 rfl (lv_at hl 0 rfl) ?_
  refine lv_bipush (v := (nI 48)) S.1 S.2.1 d_K_init_21 (by decide) ?_
  refine g_newa (atype := .int) (a0 := (48, .inl (fun _ => 0))) S hW hA ka_int 0 rfl (fun _ => rfl) (nI_pos (by decide)) (nI_clamp (by decide)) (Nat.le_of_ble_eq_true rfl) (Nat.le_of_ble_eq_true rfl) (Nat.le_of_ble_eq_true rfl) d_K_init_23 (fun q_3 H hW => ?_)
  have hW : Wd D (tyl cI cJ cB cZ) A s s.heap H _ [(aK, .inr (4, [.null, .ref q_1, .ref q_2, .null, .null, .null, .int 0, .int 0])), (q_1, .inl (cJ, 48, .inr (.inl (fun _ => 0)))), (q_2, .inl (cJ, 48, .inr (.inl (fun _ => 0)))), (q_3, .inl (cI, 48, .inl (fun _ => 0)))] := hW
  refine g_putF (ws2 := [(aK, .inr (4, [.null, .ref q_1, .ref q_2, .ref q_3, .null, .null, .int 0, .int 0])), (q_1, .inl (cJ, 48, .inr (.inl (fun _ => 0)))), (q_2, .inl (cJ, 48, .inr (.inl (fun _ => 0)))), (q_3, .inl (cI, 48, .inl (fun _ => 0)))]) i_K ft_K ft_K_ok n_K S hW 0 rfl rfl 3 (by decide) kf_K_18 rfl hin rfl rfl rfl (Nat.le_of_ble_eq_true rfl) rfl d_K_init_25 (fun H locs hW => ?_)
  refine lv_aload_n S.1 S.2.1 d_K_init_28 rfl (lv_at hl 0 rfl) ?_
  refine lv_bipush (v := (nI 48)) S.1 S.2.1 d_K_init_29 (by decide) ?_
  refine g_newa (atype := .int) (a0 := (48, .inl (fun _ => 0))) S hW hA ka_int 0 rfl (fun _ => rfl) (nI_pos (by decide)) (nI_clamp (by decide)) (Nat.le_of_ble_eq_true rfl) (Nat.le_of_ble_eq_true rfl) (Nat.le_of_ble_eq_true rfl) d_K_init_31 (fun q_4 H hW => ?_)
  have hW : Wd D (tyl cI cJ cB cZ) A s s.heap H _ [(aK, .inr (4, [.null, .ref q_1, .ref q_2, .ref q_3, .null, .null, .int 0, .int 0])), (q_1, .inl (cJ, 48, .inr (.inl (fun _ => 0)))), (q_2, .inl (cJ, 48, .inr (.inl (fun _ => 0)))), (q_3, .inl (cI, 48, .inl (fun _ => 0))), (q_4, .inl (cI, 48, .inl (fun _ => 0)))] := hW
  refine g_putF (ws2 := [(aK, .inr (4, [.null, .ref q_1, .ref q_2, .ref q_3, .ref q_4, .null, .int 0, .int 0])), (q_1, .inl (cJ, 48, .inr (.inl (fun _ => 0)))), (q_2, .inl (cJ, 48, .inr (.inl (fun _ => 0)))), (q_3, .inl (cI, 48, .inl (fun _ => 0))), (q_4, .inl (cI, 48, .inl (fun _ => 0)))]) i_K ft_K ft_K_ok n_K S hW 0 rfl rfl 4 (by decide) kf_K_22 rfl hin rfl rfl rfl (Nat.le_of_ble_eq_true rfl) rfl d_K_init_33 (fun H locs hW => ?_)
  refine lv_aload_n S.1 S.2.1 d_K_init_36 rfl (lv_at hl 0 rfl) ?_
  refine lv_bipush (v := (nI 48)) S.1 S.2.1 d_K_init_37 (by decide) ?_
  refine g_newa (atype := .boolean) (a0 := (48, .inl (fun _ => 0))) S hW hA ka_boolean 3 rfl (fun _ => rfl) (nI_pos (by decide)) (nI_clamp (by decide)) (Nat.le_of_ble_eq_true rfl) (Nat.le_of_ble_eq_true rfl) (Nat.le_of_ble_eq_true rfl) d_K_init_39 (fun q_5 H hW => ?_)
  have hW : Wd D (tyl cI cJ cB cZ) A s s.heap H _ [(aK, .inr (4, [.null, .ref q_1, .ref q_2, .ref q_3, .ref q_4, .null, .int 0, .int 0])), (q_1, .inl (cJ, 48, .inr (.inl (fun _ => 0)))), (q_2, .inl (cJ, 48, .inr (.inl (fun _ => 0)))), (q_3, .inl (cI, 48, .inl (fun _ => 0))), (q_4, .inl (cI, 48, .inl (fun _ => 0))), (q_5, .inl (cZ, 48, .inl (fun _ => 0)))] := hW
  refine g_putF (ws2 := [(aK, .inr (4, [.null, .ref q_1, .ref q_2, .ref q_3, .ref q_4, .ref q_5, .int 0, .int 0])), (q_1, .inl (cJ, 48, .inr (.inl (fun _ => 0)))), (q_2, .inl (cJ, 48, .inr (.inl (fun _ => 0)))), (q_3, .inl (cI, 48, .inl (fun _ => 0))), (q_4, .inl (cI, 48, .inl (fun _ => 0))), (q_5, .inl (cZ, 48, .inl (fun _ => 0)))]) i_K ft_K ft_K_ok n_K S hW 0 rfl rfl 5 (by decide) kf_K_25 rfl hin rfl rfl rfl (Nat.le_of_ble_eq_true rfl) rfl d_K_init_41 (fun H locs hW => ?_)
  refine lv_aload_n S.1 S.2.1 d_K_init_44 rfl (lv_at hl 0 rfl) ?_
  refine lv_iconst (v := (nI 0)) S.1 S.2.1 d_K_init_45 (by decide) ?_
  refine g_put (ws2 := [(aK, .inr (4, [.null, .ref q_1, .ref q_2, .ref q_3, .ref q_4, .ref q_5, .int (nI 0), .int 0])), (q_1, .inl (cJ, 48, .inr (.inl (fun _ => 0)))), (q_2, .inl (cJ, 48, .inr (.inl (fun _ => 0)))), (q_3, .inl (cI, 48, .inl (fun _ => 0))), (q_4, .inl (cI, 48, .inl (fun _ => 0))), (q_5, .inl (cZ, 48, .inl (fun _ => 0)))]) i_K ft_K ft_K_ok n_K S hW 0 rfl rfl 6 (by decide) kf_K_29 rfl rfl rfl (Nat.le_of_ble_eq_true rfl) rfl d_K_init_46 (fun H locs hW => ?_)
  refine lv_aload_n S.1 S.2.1 d_K_init_49 rfl (lv_at hl 0 rfl) ?_
  refine lv_iconst (v := (nI 0)) S.1 S.2.1 d_K_init_50 (by decide) ?_
  refine g_put (ws2 := [(aK, .inr (4, [.null, .ref q_1, .ref q_2, .ref q_3, .ref q_4, .ref q_5, .int (nI 0), .int (nI 0)])), (q_1, .inl (cJ, 48, .inr (.inl (fun _ => 0)))), (q_2, .inl (cJ, 48, .inr (.inl (fun _ => 0)))), (q_3, .inl (cI, 48, .inl (fun _ => 0))), (q_4, .inl (cI, 48, .inl (fun _ => 0))), (q_5, .inl (cZ, 48, .inl (fun _ => 0)))]) i_K ft_K ft_K_ok n_K S hW 0 rfl rfl 7 (by decide) kf_K_33 rfl rfl rfl (Nat.le_of_ble_eq_true rfl) rfl d_K_init_51 (fun H locs hW => ?_)
  refine lv_aload_n S.1 S.2.1 d_K_init_54 rfl (lv_at hl 0 rfl) ?_
  refine lv_aload_n S.1 S.2.1 d_K_init_55 rfl (lv_at hl 1 rfl) ?_
  refine g_putF (ws2 := [(aK, .inr (4, [.ref aC, .ref q_1, .ref q_2, .ref q_3, .ref q_4, .ref q_5, .int (nI 0), .int (nI 0)])), (q_1, .inl (cJ, 48, .inr (.inl (fun _ => 0)))), (q_2, .inl (cJ, 48, .inr (.inl (fun _ => 0)))), (q_3, .inl (cI, 48, .inl (fun _ => 0))), (q_4, .inl (cI, 48, .inl (fun _ => 0))), (q_5, .inl (cZ, 48, .inl (fun _ => 0)))]) i_K ft_K ft_K_ok n_K S hW 0 rfl rfl 0 (by decide) kf_K_36 rfl hin rfl rfl rfl (Nat.le_of_ble_eq_true rfl) rfl d_K_init_56 (fun H locs hW => ?_)
  exact ret _ _ _ _ _ d_K_init_59 ⟨_, _, _, _, _, rfl⟩ hW
theorem d_R_init_0 : decode b_R_init 0 = .ok (.aload_n 0, 1) := by decide +kernel
theorem d_R_init_1 : decode b_R_init 1 = .ok (.invokespecial 3, 3) := by decide +kernel
theorem d_R_init_4 : decode b_R_init 4 = .ok (.aload_n 0, 1) := by decide +kernel
theorem d_R_init_5 : decode b_R_init 5 = .ok (.bipush 40, 2) := by decide +kernel
theorem d_R_init_7 : decode b_R_init 7 = .ok (.newarray .long, 2) := by decide +kernel
theorem d_R_init_9 : decode b_R_init 9 = .ok (.putfield 9, 3) := by decide +kernel
theorem d_R_init_12 : decode b_R_init 12 = .ok (.aload_n 0, 1) := by decide +kernel
theorem d_R_init_13 : decode b_R_init 13 = .ok (.bipush 40, 2) := by decide +kernel
theorem d_R_init_15 : decode b_R_init 15 = .ok (.newarray .long, 2) := by decide +kernel
theorem d_R_init_17 : decode b_R_init 17 = .ok (.putfield 15, 3) := by decide +kernel
theorem d_R_init_20 : decode b_R_init 20 = .ok (.aload_n 0, 1) := by decide +kernel
theorem d_R_init_21 : decode b_R_init 21 = .ok (.iconst 0, 1) := by decide +kernel
theorem d_R_init_22 : decode b_R_init 22 = .ok (.putfield 18, 3) := by decide +kernel
theorem d_R_init_25 : decode b_R_init 25 = .ok (.aload_n 0, 1) := by decide +kernel
theorem d_R_init_26 : decode b_R_init 26 = .ok (.iconst 0, 1) := by decide +kernel
theorem d_R_init_27 : decode b_R_init 27 = .ok (.putfield 22, 3) := by decide +kernel
theorem d_R_init_30 : decode b_R_init 30 = .ok (.aload_n 0, 1) := by decide +kernel
theorem d_R_init_31 : decode b_R_init 31 = .ok (.iconst 0, 1) := by decide +kernel
theorem d_R_init_32 : decode b_R_init 32 = .ok (.putfield 25, 3) := by decide +kernel
theorem d_R_init_35 : decode b_R_init 35 = .ok (.aload_n 0, 1) := by decide +kernel
theorem d_R_init_36 : decode b_R_init 36 = .ok (.iconst 0, 1) := by decide +kernel
theorem d_R_init_37 : decode b_R_init 37 = .ok (.putfield 28, 3) := by decide +kernel
theorem d_R_init_40 : decode b_R_init 40 = .ok (.aload_n 0, 1) := by decide +kernel
theorem d_R_init_41 : decode b_R_init 41 = .ok (.iconst 0, 1) := by decide +kernel
theorem d_R_init_42 : decode b_R_init 42 = .ok (.putfield 31, 3) := by decide +kernel
theorem d_R_init_45 : decode b_R_init 45 = .ok (.aload_n 0, 1) := by decide +kernel
theorem d_R_init_46 : decode b_R_init 46 = .ok (.iconst 0, 1) := by decide +kernel
theorem d_R_init_47 : decode b_R_init 47 = .ok (.putfield 34, 3) := by decide +kernel
theorem d_R_init_50 : decode b_R_init 50 = .ok (.aload_n 0, 1) := by decide +kernel
theorem d_R_init_51 : decode b_R_init 51 = .ok (.iconst 0, 1) := by decide +kernel
theorem d_R_init_52 : decode b_R_init 52 = .ok (.putfield 38, 3) := by decide +kernel
theorem d_R_init_55 : decode b_R_init 55 = .ok (.aload_n 0, 1) := by decide +kernel
theorem d_R_init_56 : decode b_R_init 56 = .ok (.lconst 0, 1) := by decide +kernel
theorem d_R_init_57 : decode b_R_init 57 = .ok (.putfield 41, 3) := by decide +kernel
theorem d_R_init_60 : decode b_R_init 60 = .ok (.aload_n 0, 1) := by decide +kernel
theorem d_R_init_61 : decode b_R_init 61 = .ok (.lconst 0, 1) := by decide +kernel
theorem d_R_init_62 : decode b_R_init 62 = .ok (.putfield 45, 3) := by decide +kernel
theorem d_R_init_65 : decode b_R_init 65 = .ok (.aload_n 0, 1) := by decide +kernel
theorem d_R_init_66 : decode b_R_init 66 = .ok (.iconst 0, 1) := by decide +kernel
theorem d_R_init_67 : decode b_R_init 67 = .ok (.putfield 48, 3) := by decide +kernel
theorem d_R_init_70 : decode b_R_init 70 = .ok (.aload_n 0, 1) := by decide +kernel
theorem d_R_init_71 : decode b_R_init 71 = .ok (.iconst 0, 1) := by decide +kernel
theorem d_R_init_72 : decode b_R_init 72 = .ok (.putfield 51, 3) := by decide +kernel
theorem d_R_init_75 : decode b_R_init 75 = .ok (.aload_n 0, 1) := by decide +kernel
theorem d_R_init_76 : decode b_R_init 76 = .ok (.aload_n 1, 1) := by decide +kernel
theorem d_R_init_77 : decode b_R_init 77 = .ok (.putfield 54, 3) := by decide +kernel
theorem d_R_init_80 : decode b_R_init 80 = .ok (.aload_n 0, 1) := by decide +kernel
theorem d_R_init_81 : decode b_R_init 81 = .ok (.aload_n 2, 1) := by decide +kernel
theorem d_R_init_82 : decode b_R_init 82 = .ok (.putfield 58, 3) := by decide +kernel
theorem d_R_init_85 : decode b_R_init 85 = .ok (.aload_n 0, 1) := by decide +kernel
theorem d_R_init_86 : decode b_R_init 86 = .ok (.aload_n 3, 1) := by decide +kernel
theorem d_R_init_87 : decode b_R_init 87 = .ok (.putfield 62, 3) := by decide +kernel
theorem d_R_init_90 : decode b_R_init 90 = .ok (.aload_n 0, 1) := by decide +kernel
theorem d_R_init_91 : decode b_R_init 91 = .ok (.aload 4, 2) := by decide +kernel
theorem d_R_init_93 : decode b_R_init 93 = .ok (.putfield 66, 3) := by decide +kernel
theorem d_R_init_96 : decode b_R_init 96 = .ok (.return_, 1) := by decide +kernel
set_option maxHeartbeats 4000000 in
set_option maxRecDepth 100000 in
theorem c_R_init (l : Launch) (D : va_G) (cI cJ cB cZ : ClassId) (aR aT aC aK aF : Nat) : Cv l D (tyl cI cJ cB cZ) y_R_init b_R_init 5 ({ frames := 1, cells := 2, slots := 80, locals := 20 } : Room) [.ref aR, .ref aT, .ref aC, .ref aK, .ref aF] [(aR, .inr (5, [.null, .null, .null, .null, .null, .null, .int 0, .int 0, .int 0, .int 0, .int 0, .int 0, .int 0, .long 0, .long 0, .int 0, .int 0]))] (fun u => ∃ (r0 : Nat) (r1 : Nat), u = [(aR, .inr (5, [.ref aT, .ref aC, .ref aK, .ref aF, .ref r0, .ref r1, .int (nI 0), .int (nI 0), .int (nI 0), .int (nI 0), .int (nI 0), .int (nI 0), .int (nI 0), .long 0, .long 0, .int (nI 0), .int (nI 0)])), (r0, .inl (cJ, 40, .inr (.inl (fun _ => 0)))), (r1, .inl (cJ, 40, .inr (.inl (fun _ => 0))))]) := by
  refine met_v (own := "ProofReader$Parser") (by decide) rfl (Nat.le_of_ble_eq_true rfl) ?_
  intro p e s m args below meth c A Q S hin hA ret ls hl hW
  have hl : lv_has ls 5 [(0, .ref aR), (1, .ref aT), (2, .ref aC), (3, .ref aK), (4, .ref aF)] := hl
  have hW : Wd D (tyl cI cJ cB cZ) A s s.heap s.heap [] [(aR, .inr (5, [.null, .null, .null, .null, .null, .null, .int 0, .int 0, .int 0, .int 0, .int 0, .int 0, .int 0, .long 0, .long 0, .int 0, .int 0]))] := hW
  have hin : meth.name = "<init>" := hin
  refine lv_aload_n S.1 S.2.1 d_R_init_0 rfl (lv_at hl 0 rfl) ?_
  refine g_objInit S km_R_3 hl.1 d_R_init_1 (by decide) (Nat.le_of_ble_eq_true rfl) ?_
  refine lv_aload_n S.1 S.2.1 d_R_init_4 rfl (lv_at hl 0 rfl) ?_
  refine lv_bipush (v := (nI 40)) S.1 S.2.1 d_R_init_5 (by decide) ?_
  refine g_newa (atype := .long) (a0 := (40, .inr (.inl (fun _ => 0)))) S hW hA ka_long 1 rfl (fun _ => rfl) (nI_pos (by decide)) (nI_clamp (by decide)) (Nat.le_of_ble_eq_true rfl) (Nat.le_of_ble_eq_true rfl) (Nat.le_of_ble_eq_true rfl) d_R_init_7 (fun q_1 H hW => ?_)
  have hW : Wd D (tyl cI cJ cB cZ) A s s.heap H _ [(aR, .inr (5, [.null, .null, .null, .null, .null, .null, .int 0, .int 0, .int 0, .int 0, .int 0, .int 0, .int 0, .long 0, .long 0, .int 0, .int 0])), (q_1, .inl (cJ, 40, .inr (.inl (fun _ => 0))))] := hW
  refine g_putF (ws2 := [(aR, .inr (5, [.null, .null, .null, .null, .ref q_1, .null, .int 0, .int 0, .int 0, .int 0, .int 0, .int 0, .int 0, .long 0, .long 0, .int 0, .int 0])), (q_1, .inl (cJ, 40, .inr (.inl (fun _ => 0))))]) i_R ft_R ft_R_ok n_R S hW 0 rfl rfl 4 (by decide) kf_R_9 rfl hin rfl rfl rfl (Nat.le_of_ble_eq_true rfl) rfl d_R_init_9 (fun H locs hW => ?_)
  refine lv_aload_n S.1 S.2.1 d_R_init_12 rfl (lv_at hl 0 rfl) ?_
  refine lv_bipush (v := (nI 40)) S.1 S.2.1 d_R_init_13 (by decide) ?_
  refine g_newa (atype := .long) (a0 := (40, .inr (.inl (fun _ => 0)))) S hW hA ka_long 1 rfl (fun _ => rfl) (nI_pos (by decide)) (nI_clamp (by decide)) (Nat.le_of_ble_eq_true rfl) (Nat.le_of_ble_eq_true rfl) (Nat.le_of_ble_eq_true rfl) d_R_init_15 (fun q_2 H hW => ?_)
  have hW : Wd D (tyl cI cJ cB cZ) A s s.heap H _ [(aR, .inr (5, [.null, .null, .null, .null, .ref q_1, .null, .int 0, .int 0, .int 0, .int 0, .int 0, .int 0, .int 0, .long 0, .long 0, .int 0, .int 0])), (q_1, .inl (cJ, 40, .inr (.inl (fun _ => 0)))), (q_2, .inl (cJ, 40, .inr (.inl (fun _ => 0))))] := hW
  refine g_putF (ws2 := [(aR, .inr (5, [.null, .null, .null, .null, .ref q_1, .ref q_2, .int 0, .int 0, .int 0, .int 0, .int 0, .int 0, .int 0, .long 0, .long 0, .int 0, .int 0])), (q_1, .inl (cJ, 40, .inr (.inl (fun _ => 0)))), (q_2, .inl (cJ, 40, .inr (.inl (fun _ => 0))))]) i_R ft_R ft_R_ok n_R S hW 0 rfl rfl 5 (by decide) kf_R_15 rfl hin rfl rfl rfl (Nat.le_of_ble_eq_true rfl) rfl d_R_init_17 (fun H locs hW => ?_)
  refine lv_aload_n S.1 S.2.1 d_R_init_20 rfl (lv_at hl 0 rfl) ?_
  refine lv_iconst (v := (nI 0)) S.1 S.2.1 d_R_init_21 (by decide) ?_
  refine g_put (ws2 := [(aR, .inr (5, [.null, .null, .null, .null, .ref q_1, .ref q_2, .int (nI 0), .int 0, .int 0, .int 0, .int 0, .int 0, .int 0, .long 0, .long 0, .int 0, .int 0])), (q_1, .inl (cJ, 40, .inr (.inl (fun _ => 0)))), (q_2, .inl (cJ, 40, .inr (.inl (fun _ => 0))))]) i_R ft_R ft_R_ok n_R S hW 0 rfl rfl 6 (by decide) kf_R_18 rfl rfl rfl (Nat.le_of_ble_eq_true rfl) rfl d_R_init_22 (fun H locs hW => ?_)
  refine lv_aload_n S.1 S.2.1 d_R_init_25 rfl (lv_at hl 0 rfl) ?_
  refine lv_iconst (v := (nI 0)) S.1 S.2.1 d_R_init_26 (by decide) ?_
  refine g_put (ws2 := [(aR, .inr (5, [.null, .null, .null, .null, .ref q_1, .ref q_2, .int (nI 0), .int (nI 0), .int 0, .int 0, .int 0, .int 0, .int 0, .long 0, .long 0, .int 0, .int 0])), (q_1, .inl (cJ, 40, .inr (.inl (fun _ => 0)))), (q_2, .inl (cJ, 40, .inr (.inl (fun _ => 0))))]) i_R ft_R ft_R_ok n_R S hW 0 rfl rfl 7 (by decide) kf_R_22 rfl rfl rfl (Nat.le_of_ble_eq_true rfl) rfl d_R_init_27 (fun H locs hW => ?_)
  refine lv_aload_n S.1 S.2.1 d_R_init_30 rfl (lv_at hl 0 rfl) ?_
  refine lv_iconst (v := (nI 0)) S.1 S.2.1 d_R_init_31 (by decide) ?_
  refine g_put (ws2 := [(aR, .inr (5, [.null, .null, .null, .null, .ref q_1, .ref q_2, .int (nI 0), .int (nI 0), .int (nI 0), .int 0, .int 0, .int 0, .int 0, .long 0, .long 0, .int 0, .int 0])), (q_1, .inl (cJ, 40, .inr (.inl (fun _ => 0)))), (q_2, .inl (cJ, 40, .inr (.inl (fun _ => 0))))]) i_R ft_R ft_R_ok n_R S hW 0 rfl rfl 8 (by decide) kf_R_25 rfl rfl rfl (Nat.le_of_ble_eq_true rfl) rfl d_R_init_32 (fun H locs hW => ?_)
  refine lv_aload_n S.1 S.2.1 d_R_init_35 rfl (lv_at hl 0 rfl) ?_
  refine lv_iconst (v := (nI 0)) S.1 S.2.1 d_R_init_36 (by decide) ?_
  refine g_put (ws2 := [(aR, .inr (5, [.null, .null, .null, .null, .ref q_1, .ref q_2, .int (nI 0), .int (nI 0), .int (nI 0), .int (nI 0), .int 0, .int 0, .int 0, .long 0, .long 0, .int 0, .int 0])), (q_1, .inl (cJ, 40, .inr (.inl (fun _ => 0)))), (q_2, .inl (cJ, 40, .inr (.inl (fun _ => 0))))]) i_R ft_R ft_R_ok n_R S hW 0 rfl rfl 9 (by decide) kf_R_28 rfl rfl rfl (Nat.le_of_ble_eq_true rfl) rfl d_R_init_37 (fun H locs hW => ?_)
  refine lv_aload_n S.1 S.2.1 d_R_init_40 rfl (lv_at hl 0 rfl) ?_
  refine lv_iconst (v := (nI 0)) S.1 S.2.1 d_R_init_41 (by decide) ?_
  refine g_put (ws2 := [(aR, .inr (5, [.null, .null, .null, .null, .ref q_1, .ref q_2, .int (nI 0), .int (nI 0), .int (nI 0), .int (nI 0), .int (nI 0), .int 0, .int 0, .long 0, .long 0, .int 0, .int 0])), (q_1, .inl (cJ, 40, .inr (.inl (fun _ => 0)))), (q_2, .inl (cJ, 40, .inr (.inl (fun _ => 0))))]) i_R ft_R ft_R_ok n_R S hW 0 rfl rfl 10 (by decide) kf_R_31 rfl rfl rfl (Nat.le_of_ble_eq_true rfl) rfl d_R_init_42 (fun H locs hW => ?_)
  refine lv_aload_n S.1 S.2.1 d_R_init_45 rfl (lv_at hl 0 rfl) ?_
  refine lv_iconst (v := (nI 0)) S.1 S.2.1 d_R_init_46 (by decide) ?_
  refine g_put (ws2 := [(aR, .inr (5, [.null, .null, .null, .null, .ref q_1, .ref q_2, .int (nI 0), .int (nI 0), .int (nI 0), .int (nI 0), .int (nI 0), .int (nI 0), .int 0, .long 0, .long 0, .int 0, .int 0])), (q_1, .inl (cJ, 40, .inr (.inl (fun _ => 0)))), (q_2, .inl (cJ, 40, .inr (.inl (fun _ => 0))))]) i_R ft_R ft_R_ok n_R S hW 0 rfl rfl 11 (by decide) kf_R_34 rfl rfl rfl (Nat.le_of_ble_eq_true rfl) rfl d_R_init_47 (fun H locs hW => ?_)
  refine lv_aload_n S.1 S.2.1 d_R_init_50 rfl (lv_at hl 0 rfl) ?_
  refine lv_iconst (v := (nI 0)) S.1 S.2.1 d_R_init_51 (by decide) ?_
  refine g_put (ws2 := [(aR, .inr (5, [.null, .null, .null, .null, .ref q_1, .ref q_2, .int (nI 0), .int (nI 0), .int (nI 0), .int (nI 0), .int (nI 0), .int (nI 0), .int (nI 0), .long 0, .long 0, .int 0, .int 0])), (q_1, .inl (cJ, 40, .inr (.inl (fun _ => 0)))), (q_2, .inl (cJ, 40, .inr (.inl (fun _ => 0))))]) i_R ft_R ft_R_ok n_R S hW 0 rfl rfl 12 (by decide) kf_R_38 rfl rfl rfl (Nat.le_of_ble_eq_true rfl) rfl d_R_init_52 (fun H locs hW => ?_)
  refine lv_aload_n S.1 S.2.1 d_R_init_55 rfl (lv_at hl 0 rfl) ?_
  refine lv_lconst (v := 0) S.1 S.2.1 d_R_init_56 rfl ?_
  refine g_put (ws2 := [(aR, .inr (5, [.null, .null, .null, .null, .ref q_1, .ref q_2, .int (nI 0), .int (nI 0), .int (nI 0), .int (nI 0), .int (nI 0), .int (nI 0), .int (nI 0), .long 0, .long 0, .int 0, .int 0])), (q_1, .inl (cJ, 40, .inr (.inl (fun _ => 0)))), (q_2, .inl (cJ, 40, .inr (.inl (fun _ => 0))))]) i_R ft_R ft_R_ok n_R S hW 0 rfl rfl 13 (by decide) kf_R_41 rfl rfl rfl (Nat.le_of_ble_eq_true rfl) rfl d_R_init_57 (fun H locs hW => ?_)
  refine lv_aload_n S.1 S.2.1 d_R_init_60 rfl (lv_at hl 0 rfl) ?_
  refine lv_lconst (v := 0) S.1 S.2.1 d_R_init_61 rfl ?_
  refine g_put (ws2 := [(aR, .inr (5, [.null, .null, .null, .null, .ref q_1, .ref q_2, .int (nI 0), .int (nI 0), .int (nI 0), .int (nI 0), .int (nI 0), .int (nI 0), .int (nI 0), .long 0, .long 0, .int 0, .int 0])), (q_1, .inl (cJ, 40, .inr (.inl (fun _ => 0)))), (q_2, .inl (cJ, 40, .inr (.inl (fun _ => 0))))]) i_R ft_R ft_R_ok n_R S hW 0 rfl rfl 14 (by decide) kf_R_45 rfl rfl rfl (Nat.le_of_ble_eq_true rfl) rfl d_R_init_62 (fun H locs hW => ?_)
  refine lv_aload_n S.1 S.2.1 d_R_init_65 rfl (lv_at hl 0 rfl) ?_
  refine lv_iconst (v := (nI 0)) S.1 S.2.1 d_R_init_66 (by decide) ?_
  refine g_put (ws2 := [(aR, .inr (5, [.null, .null, .null, .null, .ref q_1, .ref q_2, .int (nI 0), .int (nI 0), .int (nI 0), .int (nI 0), .int (nI 0), .int (nI 0), .int (nI 0), .long 0, .long 0, .int (nI 0), .int 0])), (q_1, .inl (cJ, 40, .inr (.inl (fun _ => 0)))), (q_2, .inl (cJ, 40, .inr (.inl (fun _ => 0))))]) i_R ft_R ft_R_ok n_R S hW 0 rfl rfl 15 (by decide) kf_R_48 rfl rfl rfl (Nat.le_of_ble_eq_true rfl) rfl d_R_init_67 (fun H locs hW => ?_)
  refine lv_aload_n S.1 S.2.1 d_R_init_70 rfl (lv_at hl 0 rfl) ?_
  refine lv_iconst (v := (nI 0)) S.1 S.2.1 d_R_init_71 (by decide) ?_
  refine g_put (ws2 := [(aR, .inr (5, [.null, .null, .null, .null, .ref q_1, .ref q_2, .int (nI 0), .int (nI 0), .int (nI 0), .int (nI 0), .int (nI 0), .int (nI 0), .int (nI 0), .long 0, .long 0, .int (nI 0), .int (nI 0)])), (q_1, .inl (cJ, 40, .inr (.inl (fun _ => 0)))), (q_2, .inl (cJ, 40, .inr (.inl (fun _ => 0))))]) i_R ft_R ft_R_ok n_R S hW 0 rfl rfl 16 (by decide) kf_R_51 rfl rfl rfl (Nat.le_of_ble_eq_true rfl) rfl d_R_init_72 (fun H locs hW => ?_)
  refine lv_aload_n S.1 S.2.1 d_R_init_75 rfl (lv_at hl 0 rfl) ?_
  refine lv_aload_n S.1 S.2.1 d_R_init_76 rfl (lv_at hl 1 rfl) ?_
  refine g_putF (ws2 := [(aR, .inr (5, [.ref aT, .null, .null, .null, .ref q_1, .ref q_2, .int (nI 0), .int (nI 0), .int (nI 0), .int (nI 0), .int (nI 0), .int (nI 0), .int (nI 0), .long 0, .long 0, .int (nI 0), .int (nI 0)])), (q_1, .inl (cJ, 40, .inr (.inl (fun _ => 0)))), (q_2, .inl (cJ, 40, .inr (.inl (fun _ => 0))))]) i_R ft_R ft_R_ok n_R S hW 0 rfl rfl 0 (by decide) kf_R_54 rfl hin rfl rfl rfl (Nat.le_of_ble_eq_true rfl) rfl d_R_init_77 (fun H locs hW => ?_)
  refine lv_aload_n S.1 S.2.1 d_R_init_80 rfl (lv_at hl 0 rfl) ?_
  refine lv_aload_n S.1 S.2.1 d_R_init_81 rfl (lv_at hl 2 rfl) ?_
  refine g_putF (ws2 := [(aR, .inr (5, [.ref aT, .ref aC, .null, .null, .ref q_1, .ref q_2, .int (nI 0), .int (nI 0), .int (nI 0), .int (nI 0), .int (nI 0), .int (nI 0), .int (nI 0), .long 0, .long 0, .int (nI 0), .int (nI 0)])), (q_1, .inl (cJ, 40, .inr (.inl (fun _ => 0)))), (q_2, .inl (cJ, 40, .inr (.inl (fun _ => 0))))]) i_R ft_R ft_R_ok n_R S hW 0 rfl rfl 1 (by decide) kf_R_58 rfl hin rfl rfl rfl (Nat.le_of_ble_eq_true rfl) rfl d_R_init_82 (fun H locs hW => ?_)
  refine lv_aload_n S.1 S.2.1 d_R_init_85 rfl (lv_at hl 0 rfl) ?_
  refine lv_aload_n S.1 S.2.1 d_R_init_86 rfl (lv_at hl 3 rfl) ?_
  refine g_putF (ws2 := [(aR, .inr (5, [.ref aT, .ref aC, .ref aK, .null, .ref q_1, .ref q_2, .int (nI 0), .int (nI 0), .int (nI 0), .int (nI 0), .int (nI 0), .int (nI 0), .int (nI 0), .long 0, .long 0, .int (nI 0), .int (nI 0)])), (q_1, .inl (cJ, 40, .inr (.inl (fun _ => 0)))), (q_2, .inl (cJ, 40, .inr (.inl (fun _ => 0))))]) i_R ft_R ft_R_ok n_R S hW 0 rfl rfl 2 (by decide) kf_R_62 rfl hin rfl rfl rfl (Nat.le_of_ble_eq_true rfl) rfl d_R_init_87 (fun H locs hW => ?_)
  refine lv_aload_n S.1 S.2.1 d_R_init_90 rfl (lv_at hl 0 rfl) ?_
  refine lv_aload S.1 S.2.1 d_R_init_91 (lv_at hl 4 rfl) ?_
  refine g_putF (ws2 := [(aR, .inr (5, [.ref aT, .ref aC, .ref aK, .ref aF, .ref q_1, .ref q_2, .int (nI 0), .int (nI 0), .int (nI 0), .int (nI 0), .int (nI 0), .int (nI 0), .int (nI 0), .long 0, .long 0, .int (nI 0), .int (nI 0)])), (q_1, .inl (cJ, 40, .inr (.inl (fun _ => 0)))), (q_2, .inl (cJ, 40, .inr (.inl (fun _ => 0))))]) i_R ft_R ft_R_ok n_R S hW 0 rfl rfl 3 (by decide) kf_R_66 rfl hin rfl rfl rfl (Nat.le_of_ble_eq_true rfl) rfl d_R_init_93 (fun H locs hW => ?_)
  exact ret _ _ _ _ _ d_R_init_96 ⟨_, _, rfl⟩ hW
theorem d_U_init_0 : decode b_U_init 0 = .ok (.aload_n 0, 1) := by decide +kernel
theorem d_U_init_1 : decode b_U_init 1 = .ok (.invokespecial 3, 3) := by decide +kernel
theorem d_U_init_4 : decode b_U_init 4 = .ok (.aload_n 0, 1) := by decide +kernel
theorem d_U_init_5 : decode b_U_init 5 = .ok (.sipush 602, 3) := by decide +kernel
theorem d_U_init_8 : decode b_U_init 8 = .ok (.newarray .int, 2) := by decide +kernel
theorem d_U_init_10 : decode b_U_init 10 = .ok (.putfield 11, 3) := by decide +kernel
theorem d_U_init_13 : decode b_U_init 13 = .ok (.aload_n 0, 1) := by decide +kernel
theorem d_U_init_14 : decode b_U_init 14 = .ok (.sipush 602, 3) := by decide +kernel
theorem d_U_init_17 : decode b_U_init 17 = .ok (.newarray .int, 2) := by decide +kernel
theorem d_U_init_19 : decode b_U_init 19 = .ok (.putfield 15, 3) := by decide +kernel
theorem d_U_init_22 : decode b_U_init 22 = .ok (.aload_n 0, 1) := by decide +kernel
theorem d_U_init_23 : decode b_U_init 23 = .ok (.sipush 602, 3) := by decide +kernel
theorem d_U_init_26 : decode b_U_init 26 = .ok (.newarray .int, 2) := by decide +kernel
theorem d_U_init_28 : decode b_U_init 28 = .ok (.putfield 18, 3) := by decide +kernel
theorem d_U_init_31 : decode b_U_init 31 = .ok (.aload_n 0, 1) := by decide +kernel
theorem d_U_init_32 : decode b_U_init 32 = .ok (.sipush 602, 3) := by decide +kernel
theorem d_U_init_35 : decode b_U_init 35 = .ok (.newarray .int, 2) := by decide +kernel
theorem d_U_init_37 : decode b_U_init 37 = .ok (.putfield 21, 3) := by decide +kernel
theorem d_U_init_40 : decode b_U_init 40 = .ok (.aload_n 0, 1) := by decide +kernel
theorem d_U_init_41 : decode b_U_init 41 = .ok (.sipush 602, 3) := by decide +kernel
theorem d_U_init_44 : decode b_U_init 44 = .ok (.newarray .int, 2) := by decide +kernel
theorem d_U_init_46 : decode b_U_init 46 = .ok (.putfield 24, 3) := by decide +kernel
theorem d_U_init_49 : decode b_U_init 49 = .ok (.aload_n 0, 1) := by decide +kernel
theorem d_U_init_50 : decode b_U_init 50 = .ok (.iconst (-1), 1) := by decide +kernel
theorem d_U_init_51 : decode b_U_init 51 = .ok (.putfield 27, 3) := by decide +kernel
theorem d_U_init_54 : decode b_U_init 54 = .ok (.aload_n 0, 1) := by decide +kernel
theorem d_U_init_55 : decode b_U_init 55 = .ok (.iconst 0, 1) := by decide +kernel
theorem d_U_init_56 : decode b_U_init 56 = .ok (.putfield 31, 3) := by decide +kernel
theorem d_U_init_59 : decode b_U_init 59 = .ok (.aload_n 0, 1) := by decide +kernel
theorem d_U_init_60 : decode b_U_init 60 = .ok (.iconst 0, 1) := by decide +kernel
theorem d_U_init_61 : decode b_U_init 61 = .ok (.putfield 34, 3) := by decide +kernel
theorem d_U_init_64 : decode b_U_init 64 = .ok (.aload_n 0, 1) := by decide +kernel
theorem d_U_init_65 : decode b_U_init 65 = .ok (.iconst 0, 1) := by decide +kernel
theorem d_U_init_66 : decode b_U_init 66 = .ok (.putfield 37, 3) := by decide +kernel
theorem d_U_init_69 : decode b_U_init 69 = .ok (.aload_n 0, 1) := by decide +kernel
theorem d_U_init_70 : decode b_U_init 70 = .ok (.iconst 0, 1) := by decide +kernel
theorem d_U_init_71 : decode b_U_init 71 = .ok (.putfield 40, 3) := by decide +kernel
theorem d_U_init_74 : decode b_U_init 74 = .ok (.aload_n 0, 1) := by decide +kernel
theorem d_U_init_75 : decode b_U_init 75 = .ok (.aload_n 1, 1) := by decide +kernel
theorem d_U_init_76 : decode b_U_init 76 = .ok (.putfield 43, 3) := by decide +kernel
theorem d_U_init_79 : decode b_U_init 79 = .ok (.return_, 1) := by decide +kernel
set_option maxHeartbeats 4000000 in
set_option maxRecDepth 100000 in
theorem c_U_init (l : Launch) (D : va_G) (cI cJ cB cZ : ClassId) (aU aC : Nat) : Cv l D (tyl cI cJ cB cZ) y_U_init b_U_init 2 ({ frames := 1, cells := 5, slots := 3010, locals := 20 } : Room) [.ref aU, .ref aC] [(aU, .inr (6, [.null, .null, .null, .null, .null, .null, .int 0, .int 0, .int 0, .int 0, .int 0]))] (fun u => ∃ (u0 : Nat) (u1 : Nat) (u2 : Nat) (u3 : Nat) (u4 : Nat), u = [(aU, .inr (6, [.ref aC, .ref u0, .ref u1, .ref u2, .ref u3, .ref u4, .int (-1), .int (nI 0), .int (nI 0), .int (nI 0), .int (nI 0)])), (u0, .inl (cI, 602, .inl (fun _ => 0))), (u1, .inl (cI, 602, .inl (fun _ => 0))), (u2, .inl (cI, 602, .inl (fun _ => 0))), (u3, .inl (cI, 602, .inl (fun _ => 0))), (u4, .inl (cI, 602, .inl (fun _ => 0)))]) := by
  refine met_v (own := "ProofReader$Putter") (by decide) rfl (Nat.le_of_ble_eq_true rfl) ?_
  intro p e s m args below meth c A Q S hin hA ret ls hl hW
  have hl : lv_has ls 2 [(0, .ref aU), (1, .ref aC)] := hl
  have hW : Wd D (tyl cI cJ cB cZ) A s s.heap s.heap [] [(aU, .inr (6, [.null, .null, .null, .null, .null, .null, .int 0, .int 0, .int 0, .int 0, .int 0]))] := hW
  have hin : meth.name = "<init>" := hin
  refine lv_aload_n S.1 S.2.1 d_U_init_0 rfl (lv_at hl 0 rfl) ?_
  refine g_objInit S km_U_3 hl.1 d_U_init_1 (by decide) (Nat.le_of_ble_eq_true rfl) ?_
  refine lv_aload_n S.1 S.2.1 d_U_init_4 rfl (lv_at hl 0 rfl) ?_
  refine lv_sipush (v := (nI 602)) S.1 S.2.1 d_U_init_5 (by decide) ?_
  refine g_newa (atype := .int) (a0 := (602, .inl (fun _ => 0))) S hW hA ka_int 0 rfl (fun _ => rfl) (nI_pos (by decide)) (nI_clamp (by decide)) (Nat.le_of_ble_eq_true rfl) (Nat.le_of_ble_eq_true rfl) (Nat.le_of_ble_eq_true rfl) d_U_init_8 (fun q_1 H hW => ?_)
  have hW : Wd D (tyl cI cJ cB cZ) A s s.heap H _ [(aU, .inr (6, [.null, .null, .null, .null, .null, .null, .int 0, .int 0, .int 0, .int 0, .int 0])), (q_1, .inl (cI, 602, .inl (fun _ => 0)))] := hW
  refine g_putF (ws2 := [(aU, .inr (6, [.null, .ref q_1, .null, .null, .null, .null, .int 0, .int 0, .int 0, .int 0, .int 0])), (q_1, .inl (cI, 602, .inl (fun _ => 0)))]) i_U ft_U ft_U_ok n_U S hW 0 rfl rfl 1 (by decide) kf_U_11 rfl hin rfl rfl rfl (Nat.le_of_ble_eq_true rfl) rfl d_U_init_10 (fun H locs hW => ?_)
  refine lv_aload_n S.1 S.2.1 d_U_init_13 rfl (lv_at hl 0 rfl) ?_
  refine lv_sipush (v := (nI 602)) S.1 S.2.1 d_U_init_14 (by decide) ?_
  refine g_newa (atype := .int) (a0 := (602, .inl (fun _ => 0))) S hW hA ka_int 0 rfl (fun _ => rfl) (nI_pos (by decide)) (nI_clamp (by decide)) (Nat.le_of_ble_eq_true rfl) (Nat.le_of_ble_eq_true rfl) (Nat.le_of_ble_eq_true rfl) d_U_init_17 (fun q_2 H hW => ?_)
  have hW : Wd D (tyl cI cJ cB cZ) A s s.heap H _ [(aU, .inr (6, [.null, .ref q_1, .null, .null, .null, .null, .int 0, .int 0, .int 0, .int 0, .int 0])), (q_1, .inl (cI, 602, .inl (fun _ => 0))), (q_2, .inl (cI, 602, .inl (fun _ => 0)))] := hW
  refine g_putF (ws2 := [(aU, .inr (6, [.null, .ref q_1, .ref q_2, .null, .null, .null, .int 0, .int 0, .int 0, .int 0, .int 0])), (q_1, .inl (cI, 602, .inl (fun _ => 0))), (q_2, .inl (cI, 602, .inl (fun _ => 0)))]) i_U ft_U ft_U_ok n_U S hW 0 rfl rfl 2 (by decide) kf_U_15 rfl hin rfl rfl rfl (Nat.le_of_ble_eq_true rfl) rfl d_U_init_19 (fun H locs hW => ?_)
  refine lv_aload_n S.1 S.2.1 d_U_init_22 rfl (lv_at hl 0 rfl) ?_
  refine lv_sipush (v := (nI 602)) S.1 S.2.1 d_U_init_23 (by decide) ?_
  refine g_newa (atype := .int) (a0 := (602, .inl (fun _ => 0))) S hW hA ka_int 0 rfl (fun _ => rfl) (nI_pos (by decide)) (nI_clamp (by decide)) (Nat.le_of_ble_eq_true rfl) (Nat.le_of_ble_eq_true rfl) (Nat.le_of_ble_eq_true rfl) d_U_init_26 (fun q_3 H hW => ?_)
  have hW : Wd D (tyl cI cJ cB cZ) A s s.heap H _ [(aU, .inr (6, [.null, .ref q_1, .ref q_2, .null, .null, .null, .int 0, .int 0, .int 0, .int 0, .int 0])), (q_1, .inl (cI, 602, .inl (fun _ => 0))), (q_2, .inl (cI, 602, .inl (fun _ => 0))), (q_3, .inl (cI, 602, .inl (fun _ => 0)))] := hW
  refine g_putF (ws2 := [(aU, .inr (6, [.null, .ref q_1, .ref q_2, .ref q_3, .null, .null, .int 0, .int 0, .int 0, .int 0, .int 0])), (q_1, .inl (cI, 602, .inl (fun _ => 0))), (q_2, .inl (cI, 602, .inl (fun _ => 0))), (q_3, .inl (cI, 602, .inl (fun _ => 0)))]) i_U ft_U ft_U_ok n_U S hW 0 rfl rfl 3 (by decide) kf_U_18 rfl hin rfl rfl rfl (Nat.le_of_ble_eq_true rfl) rfl d_U_init_28 (fun H locs hW => ?_)
  refine lv_aload_n S.1 S.2.1 d_U_init_31 rfl (lv_at hl 0 rfl) ?_
  refine lv_sipush (v := (nI 602)) S.1 S.2.1 d_U_init_32 (by decide) ?_
  refine g_newa (atype := .int) (a0 := (602, .inl (fun _ => 0))) S hW hA ka_int 0 rfl (fun _ => rfl) (nI_pos (by decide)) (nI_clamp (by decide)) (Nat.le_of_ble_eq_true rfl) (Nat.le_of_ble_eq_true rfl) (Nat.le_of_ble_eq_true rfl) d_U_init_35 (fun q_4 H hW => ?_)
  have hW : Wd D (tyl cI cJ cB cZ) A s s.heap H _ [(aU, .inr (6, [.null, .ref q_1, .ref q_2, .ref q_3, .null, .null, .int 0, .int 0, .int 0, .int 0, .int 0])), (q_1, .inl (cI, 602, .inl (fun _ => 0))), (q_2, .inl (cI, 602, .inl (fun _ => 0))), (q_3, .inl (cI, 602, .inl (fun _ => 0))), (q_4, .inl (cI, 602, .inl (fun _ => 0)))] := hW
  refine g_putF (ws2 := [(aU, .inr (6, [.null, .ref q_1, .ref q_2, .ref q_3, .ref q_4, .null, .int 0, .int 0, .int 0, .int 0, .int 0])), (q_1, .inl (cI, 602, .inl (fun _ => 0))), (q_2, .inl (cI, 602, .inl (fun _ => 0))), (q_3, .inl (cI, 602, .inl (fun _ => 0))), (q_4, .inl (cI, 602, .inl (fun _ => 0)))]) i_U ft_U ft_U_ok n_U S hW 0 rfl rfl 4 (by decide) kf_U_21 rfl hin rfl rfl rfl (Nat.le_of_ble_eq_true rfl) rfl d_U_init_37 (fun H locs hW => ?_)
  refine lv_aload_n S.1 S.2.1 d_U_init_40 rfl (lv_at hl 0 rfl) ?_
  refine lv_sipush (v := (nI 602)) S.1 S.2.1 d_U_init_41 (by decide) ?_
  refine g_newa (atype := .int) (a0 := (602, .inl (fun _ => 0))) S hW hA ka_int 0 rfl (fun _ => rfl) (nI_pos (by decide)) (nI_clamp (by decide)) (Nat.le_of_ble_eq_true rfl) (Nat.le_of_ble_eq_true rfl) (Nat.le_of_ble_eq_true rfl) d_U_init_44 (fun q_5 H hW => ?_)
  have hW : Wd D (tyl cI cJ cB cZ) A s s.heap H _ [(aU, .inr (6, [.null, .ref q_1, .ref q_2, .ref q_3, .ref q_4, .null, .int 0, .int 0, .int 0, .int 0, .int 0])), (q_1, .inl (cI, 602, .inl (fun _ => 0))), (q_2, .inl (cI, 602, .inl (fun _ => 0))), (q_3, .inl (cI, 602, .inl (fun _ => 0))), (q_4, .inl (cI, 602, .inl (fun _ => 0))), (q_5, .inl (cI, 602, .inl (fun _ => 0)))] := hW
  refine g_putF (ws2 := [(aU, .inr (6, [.null, .ref q_1, .ref q_2, .ref q_3, .ref q_4, .ref q_5, .int 0, .int 0, .int 0, .int 0, .int 0])), (q_1, .inl (cI, 602, .inl (fun _ => 0))), (q_2, .inl (cI, 602, .inl (fun _ => 0))), (q_3, .inl (cI, 602, .inl (fun _ => 0))), (q_4, .inl (cI, 602, .inl (fun _ => 0))), (q_5, .inl (cI, 602, .inl (fun _ => 0)))]) i_U ft_U ft_U_ok n_U S hW 0 rfl rfl 5 (by decide) kf_U_24 rfl hin rfl rfl rfl (Nat.le_of_ble_eq_true rfl) rfl d_U_init_46 (fun H locs hW => ?_)
  refine lv_aload_n S.1 S.2.1 d_U_init_49 rfl (lv_at hl 0 rfl) ?_
  refine lv_iconst (v := (-1)) S.1 S.2.1 d_U_init_50 (by decide) ?_
  refine g_put (ws2 := [(aU, .inr (6, [.null, .ref q_1, .ref q_2, .ref q_3, .ref q_4, .ref q_5, .int (-1), .int 0, .int 0, .int 0, .int 0])), (q_1, .inl (cI, 602, .inl (fun _ => 0))), (q_2, .inl (cI, 602, .inl (fun _ => 0))), (q_3, .inl (cI, 602, .inl (fun _ => 0))), (q_4, .inl (cI, 602, .inl (fun _ => 0))), (q_5, .inl (cI, 602, .inl (fun _ => 0)))]) i_U ft_U ft_U_ok n_U S hW 0 rfl rfl 6 (by decide) kf_U_27 rfl rfl rfl (Nat.le_of_ble_eq_true rfl) rfl d_U_init_51 (fun H locs hW => ?_)
  refine lv_aload_n S.1 S.2.1 d_U_init_54 rfl (lv_at hl 0 rfl) ?_
  refine lv_iconst (v := (nI 0)) S.1 S.2.1 d_U_init_55 (by decide) ?_
  refine g_put (ws2 := [(aU, .inr (6, [.null, .ref q_1, .ref q_2, .ref q_3, .ref q_4, .ref q_5, .int (-1), .int (nI 0), .int 0, .int 0, .int 0])), (q_1, .inl (cI, 602, .inl (fun _ => 0))), (q_2, .inl (cI, 602, .inl (fun _ => 0))), (q_3, .inl (cI, 602, .inl (fun _ => 0))), (q_4, .inl (cI, 602, .inl (fun _ => 0))), (q_5, .inl (cI, 602, .inl (fun _ => 0)))]) i_U ft_U ft_U_ok n_U S hW 0 rfl rfl 7 (by decide) kf_U_31 rfl rfl rfl (Nat.le_of_ble_eq_true rfl) rfl d_U_init_56 (fun H locs hW => ?_)
  refine lv_aload_n S.1 S.2.1 d_U_init_59 rfl (lv_at hl 0 rfl) ?_
  refine lv_iconst (v := (nI 0)) S.1 S.2.1 d_U_init_60 (by decide) ?_
  refine g_put (ws2 := [(aU, .inr (6, [.null, .ref q_1, .ref q_2, .ref q_3, .ref q_4, .ref q_5, .int (-1), .int (nI 0), .int (nI 0), .int 0, .int 0])), (q_1, .inl (cI, 602, .inl (fun _ => 0))), (q_2, .inl (cI, 602, .inl (fun _ => 0))), (q_3, .inl (cI, 602, .inl (fun _ => 0))), (q_4, .inl (cI, 602, .inl (fun _ => 0))), (q_5, .inl (cI, 602, .inl (fun _ => 0)))]) i_U ft_U ft_U_ok n_U S hW 0 rfl rfl 8 (by decide) kf_U_34 rfl rfl rfl (Nat.le_of_ble_eq_true rfl) rfl d_U_init_61 (fun H locs hW => ?_)
  refine lv_aload_n S.1 S.2.1 d_U_init_64 rfl (lv_at hl 0 rfl) ?_
  refine lv_iconst (v := (nI 0)) S.1 S.2.1 d_U_init_65 (by decide) ?_
  refine g_put (ws2 := [(aU, .inr (6, [.null, .ref q_1, .ref q_2, .ref q_3, .ref q_4, .ref q_5, .int (-1), .int (nI 0), .int (nI 0), .int (nI 0), .int 0])), (q_1, .inl (cI, 602, .inl (fun _ => 0))), (q_2, .inl (cI, 602, .inl (fun _ => 0))), (q_3, .inl (cI, 602, .inl (fun _ => 0))), (q_4, .inl (cI, 602, .inl (fun _ => 0))), (q_5, .inl (cI, 602, .inl (fun _ => 0)))]) i_U ft_U ft_U_ok n_U S hW 0 rfl rfl 9 (by decide) kf_U_37 rfl rfl rfl (Nat.le_of_ble_eq_true rfl) rfl d_U_init_66 (fun H locs hW => ?_)
  refine lv_aload_n S.1 S.2.1 d_U_init_69 rfl (lv_at hl 0 rfl) ?_
  refine lv_iconst (v := (nI 0)) S.1 S.2.1 d_U_init_70 (by decide) ?_
  refine g_put (ws2 := [(aU, .inr (6, [.null, .ref q_1, .ref q_2, .ref q_3, .ref q_4, .ref q_5, .int (-1), .int (nI 0), .int (nI 0), .int (nI 0), .int (nI 0)])), (q_1, .inl (cI, 602, .inl (fun _ => 0))), (q_2, .inl (cI, 602, .inl (fun _ => 0))), (q_3, .inl (cI, 602, .inl (fun _ => 0))), (q_4, .inl (cI, 602, .inl (fun _ => 0))), (q_5, .inl (cI, 602, .inl (fun _ => 0)))]) i_U ft_U ft_U_ok n_U S hW 0 rfl rfl 10 (by decide) kf_U_40 rfl rfl rfl (Nat.le_of_ble_eq_true rfl) rfl d_U_init_71 (fun H locs hW => ?_)
  refine lv_aload_n S.1 S.2.1 d_U_init_74 rfl (lv_at hl 0 rfl) ?_
  refine lv_aload_n S.1 S.2.1 d_U_init_75 rfl (lv_at hl 1 rfl) ?_
  refine g_putF (ws2 := [(aU, .inr (6, [.ref aC, .ref q_1, .ref q_2, .ref q_3, .ref q_4, .ref q_5, .int (-1), .int (nI 0), .int (nI 0), .int (nI 0), .int (nI 0)])), (q_1, .inl (cI, 602, .inl (fun _ => 0))), (q_2, .inl (cI, 602, .inl (fun _ => 0))), (q_3, .inl (cI, 602, .inl (fun _ => 0))), (q_4, .inl (cI, 602, .inl (fun _ => 0))), (q_5, .inl (cI, 602, .inl (fun _ => 0)))]) i_U ft_U ft_U_ok n_U S hW 0 rfl rfl 0 (by decide) kf_U_43 rfl hin rfl rfl rfl (Nat.le_of_ble_eq_true rfl) rfl d_U_init_76 (fun H locs hW => ?_)
  exact ret _ _ _ _ _ d_U_init_79 ⟨_, _, _, _, _, rfl⟩ hW
theorem d_I_init_0 : decode b_I_init 0 = .ok (.aload_n 0, 1) := by decide +kernel
theorem d_I_init_1 : decode b_I_init 1 = .ok (.invokespecial 3, 3) := by decide +kernel
theorem d_I_init_4 : decode b_I_init 4 = .ok (.aload_n 0, 1) := by decide +kernel
theorem d_I_init_5 : decode b_I_init 5 = .ok (.sipush 300, 3) := by decide +kernel
theorem d_I_init_8 : decode b_I_init 8 = .ok (.newarray .boolean, 2) := by decide +kernel
theorem d_I_init_10 : decode b_I_init 10 = .ok (.putfield 9, 3) := by decide +kernel
theorem d_I_init_13 : decode b_I_init 13 = .ok (.aload_n 0, 1) := by decide +kernel
theorem d_I_init_14 : decode b_I_init 14 = .ok (.sipush 600, 3) := by decide +kernel
theorem d_I_init_17 : decode b_I_init 17 = .ok (.newarray .int, 2) := by decide +kernel
theorem d_I_init_19 : decode b_I_init 19 = .ok (.putfield 15, 3) := by decide +kernel
theorem d_I_init_22 : decode b_I_init 22 = .ok (.aload_n 0, 1) := by decide +kernel
theorem d_I_init_23 : decode b_I_init 23 = .ok (.sipush 600, 3) := by decide +kernel
theorem d_I_init_26 : decode b_I_init 26 = .ok (.newarray .int, 2) := by decide +kernel
theorem d_I_init_28 : decode b_I_init 28 = .ok (.putfield 19, 3) := by decide +kernel
theorem d_I_init_31 : decode b_I_init 31 = .ok (.aload_n 0, 1) := by decide +kernel
theorem d_I_init_32 : decode b_I_init 32 = .ok (.iconst 0, 1) := by decide +kernel
theorem d_I_init_33 : decode b_I_init 33 = .ok (.putfield 22, 3) := by decide +kernel
theorem d_I_init_36 : decode b_I_init 36 = .ok (.aload_n 0, 1) := by decide +kernel
theorem d_I_init_37 : decode b_I_init 37 = .ok (.iconst 0, 1) := by decide +kernel
theorem d_I_init_38 : decode b_I_init 38 = .ok (.putfield 26, 3) := by decide +kernel
theorem d_I_init_41 : decode b_I_init 41 = .ok (.aload_n 0, 1) := by decide +kernel
theorem d_I_init_42 : decode b_I_init 42 = .ok (.aload_n 1, 1) := by decide +kernel
theorem d_I_init_43 : decode b_I_init 43 = .ok (.putfield 29, 3) := by decide +kernel
theorem d_I_init_46 : decode b_I_init 46 = .ok (.aload_n 0, 1) := by decide +kernel
theorem d_I_init_47 : decode b_I_init 47 = .ok (.aload_n 2, 1) := by decide +kernel
theorem d_I_init_48 : decode b_I_init 48 = .ok (.putfield 33, 3) := by decide +kernel
theorem d_I_init_51 : decode b_I_init 51 = .ok (.aload_n 0, 1) := by decide +kernel
theorem d_I_init_52 : decode b_I_init 52 = .ok (.aload_n 3, 1) := by decide +kernel
theorem d_I_init_53 : decode b_I_init 53 = .ok (.putfield 37, 3) := by decide +kernel
theorem d_I_init_56 : decode b_I_init 56 = .ok (.return_, 1) := by decide +kernel
set_option maxHeartbeats 4000000 in
set_option maxRecDepth 100000 in
theorem c_I_init (l : Launch) (D : va_G) (cI cJ cB cZ : ClassId) (aI aC aK aP : Nat) : Cv l D (tyl cI cJ cB cZ) y_I_init b_I_init 4 ({ frames := 1, cells := 3, slots := 1500, locals := 20 } : Room) [.ref aI, .ref aC, .ref aK, .ref aP] [(aI, .inr (8, [.null, .null, .null, .null, .null, .null, .int 0, .int 0]))] (fun u => ∃ (i0 : Nat) (i1 : Nat) (i2 : Nat), u = [(aI, .inr (8, [.ref aC, .ref aK, .ref aP, .ref i0, .ref i1, .ref i2, .int (nI 0), .int (nI 0)])), (i0, .inl (cZ, 300, .inl (fun _ => 0))), (i1, .inl (cI, 600, .inl (fun _ => 0))), (i2, .inl (cI, 600, .inl (fun _ => 0)))]) := by
  refine met_v (own := "ProofReader$Printer") (by decide) rfl (Nat.le_of_ble_eq_true rfl) ?_
  intro p e s m args below meth c A Q S hin hA ret ls hl hW
  have hl : lv_has ls 4 [(0, .ref aI), (1, .ref aC), (2, .ref aK), (3, .ref aP)] := hl
  have hW : Wd D (tyl cI cJ cB cZ) A s s.heap s.heap [] [(aI, .inr (8, [.null, .null, .null, .null, .null, .null, .int 0, .int 0]))] := hW
  have hin : meth.name = "<init>" := hin
  refine lv_aload_n S.1 S.2.1 d_I_init_0 rfl (lv_at hl 0 rfl) ?_
  refine g_objInit S km_I_3 hl.1 d_I_init_1 (by decide) (Nat.le_of_ble_eq_true rfl) ?_
  refine lv_aload_n S.1 S.2.1 d_I_init_4 rfl (lv_at hl 0 rfl) ?_
  refine lv_sipush (v := (nI 300)) S.1 S.2.1 d_I_init_5 (by decide) ?_
  refine g_newa (atype := .boolean) (a0 := (300, .inl (fun _ => 0))) S hW hA ka_boolean 3 rfl (fun _ => rfl) (nI_pos (by decide)) (nI_clamp (by decide)) (Nat.le_of_ble_eq_true rfl) (Nat.le_of_ble_eq_true rfl) (Nat.le_of_ble_eq_true rfl) d_I_init_8 (fun q_1 H hW => ?_)
  have hW : Wd D (tyl cI cJ cB cZ) A s s.heap H _ [(aI, .inr (8, [.null, .null, .null, .null, .null, .null, .int 0, .int 0])), (q_1, .inl (cZ, 300, .inl (fun _ => 0)))] := hW
  refine g_putF (ws2 := [(aI, .inr (8, [.null, .null, .null, .ref q_1, .null, .null, .int 0, .int 0])), (q_1, .inl (cZ, 300, .inl (fun _ => 0)))]) i_I ft_I ft_I_ok n_I S hW 0 rfl rfl 3 (by decide) kf_I_9 rfl hin rfl rfl rfl (Nat.le_of_ble_eq_true rfl) rfl d_I_init_10 (fun H locs hW => ?_)
  refine lv_aload_n S.1 S.2.1 d_I_init_13 rfl (lv_at hl 0 rfl) ?_
  refine lv_sipush (v := (nI 600)) S.1 S.2.1 d_I_init_14 (by decide) ?_
  refine g_newa (atype := .int) (a0 := (600, .inl (fun _ => 0))) S hW hA ka_int 0 rfl (fun _ => rfl) (nI_pos (by decide)) (nI_clamp (by decide)) (Nat.le_of_ble_eq_true rfl) (Nat.le_of_ble_eq_true rfl) (Nat.le_of_ble_eq_true rfl) d_I_init_17 (fun q_2 H hW => ?_)
  have hW : Wd D (tyl cI cJ cB cZ) A s s.heap H _ [(aI, .inr (8, [.null, .null, .null, .ref q_1, .null, .null, .int 0, .int 0])), (q_1, .inl (cZ, 300, .inl (fun _ => 0))), (q_2, .inl (cI, 600, .inl (fun _ => 0)))] := hW
  refine g_putF (ws2 := [(aI, .inr (8, [.null, .null, .null, .ref q_1, .ref q_2, .null, .int 0, .int 0])), (q_1, .inl (cZ, 300, .inl (fun _ => 0))), (q_2, .inl (cI, 600, .inl (fun _ => 0)))]) i_I ft_I ft_I_ok n_I S hW 0 rfl rfl 4 (by decide) kf_I_15 rfl hin rfl rfl rfl (Nat.le_of_ble_eq_true rfl) rfl d_I_init_19 (fun H locs hW => ?_)
  refine lv_aload_n S.1 S.2.1 d_I_init_22 rfl (lv_at hl 0 rfl) ?_
  refine lv_sipush (v := (nI 600)) S.1 S.2.1 d_I_init_23 (by decide) ?_
  refine g_newa (atype := .int) (a0 := (600, .inl (fun _ => 0))) S hW hA ka_int 0 rfl (fun _ => rfl) (nI_pos (by decide)) (nI_clamp (by decide)) (Nat.le_of_ble_eq_true rfl) (Nat.le_of_ble_eq_true rfl) (Nat.le_of_ble_eq_true rfl) d_I_init_26 (fun q_3 H hW => ?_)
  have hW : Wd D (tyl cI cJ cB cZ) A s s.heap H _ [(aI, .inr (8, [.null, .null, .null, .ref q_1, .ref q_2, .null, .int 0, .int 0])), (q_1, .inl (cZ, 300, .inl (fun _ => 0))), (q_2, .inl (cI, 600, .inl (fun _ => 0))), (q_3, .inl (cI, 600, .inl (fun _ => 0)))] := hW
  refine g_putF (ws2 := [(aI, .inr (8, [.null, .null, .null, .ref q_1, .ref q_2, .ref q_3, .int 0, .int 0])), (q_1, .inl (cZ, 300, .inl (fun _ => 0))), (q_2, .inl (cI, 600, .inl (fun _ => 0))), (q_3, .inl (cI, 600, .inl (fun _ => 0)))]) i_I ft_I ft_I_ok n_I S hW 0 rfl rfl 5 (by decide) kf_I_19 rfl hin rfl rfl rfl (Nat.le_of_ble_eq_true rfl) rfl d_I_init_28 (fun H locs hW => ?_)
  refine lv_aload_n S.1 S.2.1 d_I_init_31 rfl (lv_at hl 0 rfl) ?_
  refine lv_iconst (v := (nI 0)) S.1 S.2.1 d_I_init_32 (by decide) ?_
  refine g_put (ws2 := [(aI, .inr (8, [.null, .null, .null, .ref q_1, .ref q_2, .ref q_3, .int (nI 0), .int 0])), (q_1, .inl (cZ, 300, .inl (fun _ => 0))), (q_2, .inl (cI, 600, .inl (fun _ => 0))), (q_3, .inl (cI, 600, .inl (fun _ => 0)))]) i_I ft_I ft_I_ok n_I S hW 0 rfl rfl 6 (by decide) kf_I_22 rfl rfl rfl (Nat.le_of_ble_eq_true rfl) rfl d_I_init_33 (fun H locs hW => ?_)
  refine lv_aload_n S.1 S.2.1 d_I_init_36 rfl (lv_at hl 0 rfl) ?_
  refine lv_iconst (v := (nI 0)) S.1 S.2.1 d_I_init_37 (by decide) ?_
  refine g_put (ws2 := [(aI, .inr (8, [.null, .null, .null, .ref q_1, .ref q_2, .ref q_3, .int (nI 0), .int (nI 0)])), (q_1, .inl (cZ, 300, .inl (fun _ => 0))), (q_2, .inl (cI, 600, .inl (fun _ => 0))), (q_3, .inl (cI, 600, .inl (fun _ => 0)))]) i_I ft_I ft_I_ok n_I S hW 0 rfl rfl 7 (by decide) kf_I_26 rfl rfl rfl (Nat.le_of_ble_eq_true rfl) rfl d_I_init_38 (fun H locs hW => ?_)
  refine lv_aload_n S.1 S.2.1 d_I_init_41 rfl (lv_at hl 0 rfl) ?_
  refine lv_aload_n S.1 S.2.1 d_I_init_42 rfl (lv_at hl 1 rfl) ?_
  refine g_putF (ws2 := [(aI, .inr (8, [.ref aC, .null, .null, .ref q_1, .ref q_2, .ref q_3, .int (nI 0), .int (nI 0)])), (q_1, .inl (cZ, 300, .inl (fun _ => 0))), (q_2, .inl (cI, 600, .inl (fun _ => 0))), (q_3, .inl (cI, 600, .inl (fun _ => 0)))]) i_I ft_I ft_I_ok n_I S hW 0 rfl rfl 0 (by decide) kf_I_29 rfl hin rfl rfl rfl (Nat.le_of_ble_eq_true rfl) rfl d_I_init_43 (fun H locs hW => ?_)
  refine lv_aload_n S.1 S.2.1 d_I_init_46 rfl (lv_at hl 0 rfl) ?_
  refine lv_aload_n S.1 S.2.1 d_I_init_47 rfl (lv_at hl 2 rfl) ?_
  refine g_putF (ws2 := [(aI, .inr (8, [.ref aC, .ref aK, .null, .ref q_1, .ref q_2, .ref q_3, .int (nI 0), .int (nI 0)])), (q_1, .inl (cZ, 300, .inl (fun _ => 0))), (q_2, .inl (cI, 600, .inl (fun _ => 0))), (q_3, .inl (cI, 600, .inl (fun _ => 0)))]) i_I ft_I ft_I_ok n_I S hW 0 rfl rfl 1 (by decide) kf_I_33 rfl hin rfl rfl rfl (Nat.le_of_ble_eq_true rfl) rfl d_I_init_48 (fun H locs hW => ?_)
  refine lv_aload_n S.1 S.2.1 d_I_init_51 rfl (lv_at hl 0 rfl) ?_
  refine lv_aload_n S.1 S.2.1 d_I_init_52 rfl (lv_at hl 3 rfl) ?_
  refine g_putF (ws2 := [(aI, .inr (8, [.ref aC, .ref aK, .ref aP, .ref q_1, .ref q_2, .ref q_3, .int (nI 0), .int (nI 0)])), (q_1, .inl (cZ, 300, .inl (fun _ => 0))), (q_2, .inl (cI, 600, .inl (fun _ => 0))), (q_3, .inl (cI, 600, .inl (fun _ => 0)))]) i_I ft_I ft_I_ok n_I S hW 0 rfl rfl 2 (by decide) kf_I_37 rfl hin rfl rfl rfl (Nat.le_of_ble_eq_true rfl) rfl d_I_init_53 (fun H locs hW => ?_)
  exact ret _ _ _ _ _ d_I_init_56 ⟨_, _, _, rfl⟩ hW
end
section
theorem d_H_init_0 : decode b_H_init 0 = .ok (.aload_n 0, 1) := by decide +kernel
theorem d_H_init_1 : decode b_H_init 1 = .ok (.invokespecial 3, 3) := by decide +kernel
theorem d_H_init_4 : decode b_H_init 4 = .ok (.aload_n 0, 1) := by decide +kernel
theorem d_H_init_5 : decode b_H_init 5 = .ok (.bipush 40, 2) := by decide +kernel
theorem d_H_init_7 : decode b_H_init 7 = .ok (.newarray .int, 2) := by decide +kernel
theorem d_H_init_9 : decode b_H_init 9 = .ok (.putfield 9, 3) := by decide +kernel
theorem d_H_init_12 : decode b_H_init 12 = .ok (.aload_n 0, 1) := by decide +kernel
theorem d_H_init_13 : decode b_H_init 13 = .ok (.iconst 0, 1) := by decide +kernel
theorem d_H_init_14 : decode b_H_init 14 = .ok (.putfield 15, 3) := by decide +kernel
theorem d_H_init_17 : decode b_H_init 17 = .ok (.aload_n 0, 1) := by decide +kernel
theorem d_H_init_18 : decode b_H_init 18 = .ok (.aload_n 1, 1) := by decide +kernel
theorem d_H_init_19 : decode b_H_init 19 = .ok (.putfield 19, 3) := by decide +kernel
theorem d_H_init_22 : decode b_H_init 22 = .ok (.aload_n 0, 1) := by decide +kernel
theorem d_H_init_23 : decode b_H_init 23 = .ok (.aload_n 2, 1) := by decide +kernel
theorem d_H_init_24 : decode b_H_init 24 = .ok (.putfield 23, 3) := by decide +kernel
theorem d_H_init_27 : decode b_H_init 27 = .ok (.aload_n 0, 1) := by decide +kernel
theorem d_H_init_28 : decode b_H_init 28 = .ok (.aload_n 3, 1) := by decide +kernel
theorem d_H_init_29 : decode b_H_init 29 = .ok (.putfield 27, 3) := by decide +kernel
theorem d_H_init_32 : decode b_H_init 32 = .ok (.aload_n 0, 1) := by decide +kernel
theorem d_H_init_33 : decode b_H_init 33 = .ok (.new 31, 3) := by decide +kernel
theorem d_H_init_36 : decode b_H_init 36 = .ok (.dup, 1) := by decide +kernel
theorem d_H_init_37 : decode b_H_init 37 = .ok (.aload_n 1, 1) := by decide +kernel
theorem d_H_init_38 : decode b_H_init 38 = .ok (.invokespecial 33, 3) := by decide +kernel
theorem d_H_init_41 : decode b_H_init 41 = .ok (.putfield 36, 3) := by decide +kernel
theorem d_H_init_44 : decode b_H_init 44 = .ok (.return_, 1) := by decide +kernel
set_option maxHeartbeats 4000000 in
set_option maxRecDepth 100000 in
theorem c_H_init (l : Launch) (D : va_G) (cI cJ cB cZ : ClassId) (aH aC aK aF : Nat) : Cv l D (tyl cI cJ cB cZ) y_H_init b_H_init 4 ({ frames := 2, cells := 7, slots := 3061, locals := 41 } : Room) [.ref aH, .ref aC, .ref aK, .ref aF] [(aH, .inr (7, [.null, .null, .null, .null, .null, .int 0]))] (fun u => ∃ (h0 : Nat) (aU : Nat) (u0 : Nat) (u1 : Nat) (u2 : Nat) (u3 : Nat) (u4 : Nat), u = [(aH, .inr (7, [.ref aC, .ref aK, .ref aF, .ref aU, .ref h0, .int (nI 0)])), (h0, .inl (cI, 40, .inl (fun _ => 0))), (aU, .inr (6, [.ref aC, .ref u0, .ref u1, .ref u2, .ref u3, .ref u4, .int (-1), .int (nI 0), .int (nI 0), .int (nI 0), .int (nI 0)])), (u0, .inl (cI, 602, .inl (fun _ => 0))), (u1, .inl (cI, 602, .inl (fun _ => 0))), (u2, .inl (cI, 602, .inl (fun _ => 0))), (u3, .inl (cI, 602, .inl (fun _ => 0))), (u4, .inl (cI, 602, .inl (fun _ => 0)))]) := by
  refine met_v (own := "ProofReader$Checker") (by decide) rfl (Nat.le_of_ble_eq_true rfl) ?_
  intro p e s m args below meth c A Q S hin hA ret ls hl hW
  have hl : lv_has ls 4 [(0, .ref aH), (1, .ref aC), (2, .ref aK), (3, .ref aF)] := hl
  have hW : Wd D (tyl cI cJ cB cZ) A s s.heap s.heap [] [(aH, .inr (7, [.null, .null, .null, .null, .null, .int 0]))] := hW
  have hin : meth.name = "<init>" := hin
  refine lv_aload_n S.1 S.2.1 d_H_init_0 rfl (lv_at hl 0 rfl) ?_
  refine g_objInit S km_H_3 hl.1 d_H_init_1 (by decide) (Nat.le_of_ble_eq_true rfl) ?_
  refine lv_aload_n S.1 S.2.1 d_H_init_4 rfl (lv_at hl 0 rfl) ?_
  refine lv_bipush (v := (nI 40)) S.1 S.2.1 d_H_init_5 (by decide) ?_
  refine g_newa (atype := .int) (a0 := (40, .inl (fun _ => 0))) S hW hA ka_int 0 rfl (fun _ => rfl) (nI_pos (by decide)) (nI_clamp (by decide)) (Nat.le_of_ble_eq_true rfl) (Nat.le_of_ble_eq_true rfl) (Nat.le_of_ble_eq_true rfl) d_H_init_7 (fun q_1 H hW => ?_)
  have hW : Wd D (tyl cI cJ cB cZ) A s s.heap H _ [(aH, .inr (7, [.null, .null, .null, .null, .null, .int 0])), (q_1, .inl (cI, 40, .inl (fun _ => 0)))] := hW
  refine g_putF (ws2 := [(aH, .inr (7, [.null, .null, .null, .null, .ref q_1, .int 0])), (q_1, .inl (cI, 40, .inl (fun _ => 0)))]) i_H ft_H ft_H_ok n_H S hW 0 rfl rfl 4 (by decide) kf_H_9 rfl hin rfl rfl rfl (Nat.le_of_ble_eq_true rfl) rfl d_H_init_9 (fun H locs hW => ?_)
  refine lv_aload_n S.1 S.2.1 d_H_init_12 rfl (lv_at hl 0 rfl) ?_
  refine lv_iconst (v := (nI 0)) S.1 S.2.1 d_H_init_13 (by decide) ?_
  refine g_put (ws2 := [(aH, .inr (7, [.null, .null, .null, .null, .ref q_1, .int (nI 0)])), (q_1, .inl (cI, 40, .inl (fun _ => 0)))]) i_H ft_H ft_H_ok n_H S hW 0 rfl rfl 5 (by decide) kf_H_15 rfl rfl rfl (Nat.le_of_ble_eq_true rfl) rfl d_H_init_14 (fun H locs hW => ?_)
  refine lv_aload_n S.1 S.2.1 d_H_init_17 rfl (lv_at hl 0 rfl) ?_
  refine lv_aload_n S.1 S.2.1 d_H_init_18 rfl (lv_at hl 1 rfl) ?_
  refine g_putF (ws2 := [(aH, .inr (7, [.ref aC, .null, .null, .null, .ref q_1, .int (nI 0)])), (q_1, .inl (cI, 40, .inl (fun _ => 0)))]) i_H ft_H ft_H_ok n_H S hW 0 rfl rfl 0 (by decide) kf_H_19 rfl hin rfl rfl rfl (Nat.le_of_ble_eq_true rfl) rfl d_H_init_19 (fun H locs hW => ?_)
  refine lv_aload_n S.1 S.2.1 d_H_init_22 rfl (lv_at hl 0 rfl) ?_
  refine lv_aload_n S.1 S.2.1 d_H_init_23 rfl (lv_at hl 2 rfl) ?_
  refine g_putF (ws2 := [(aH, .inr (7, [.ref aC, .ref aK, .null, .null, .ref q_1, .int (nI 0)])), (q_1, .inl (cI, 40, .inl (fun _ => 0)))]) i_H ft_H ft_H_ok n_H S hW 0 rfl rfl 1 (by decide) kf_H_23 rfl hin rfl rfl rfl (Nat.le_of_ble_eq_true rfl) rfl d_H_init_24 (fun H locs hW => ?_)
  refine lv_aload_n S.1 S.2.1 d_H_init_27 rfl (lv_at hl 0 rfl) ?_
  refine lv_aload_n S.1 S.2.1 d_H_init_28 rfl (lv_at hl 3 rfl) ?_
  refine g_putF (ws2 := [(aH, .inr (7, [.ref aC, .ref aK, .ref aF, .null, .ref q_1, .int (nI 0)])), (q_1, .inl (cI, 40, .inl (fun _ => 0)))]) i_H ft_H ft_H_ok n_H S hW 0 rfl rfl 2 (by decide) kf_H_27 rfl hin rfl rfl rfl (Nat.le_of_ble_eq_true rfl) rfl d_H_init_29 (fun H locs hW => ?_)
  refine lv_aload_n S.1 S.2.1 d_H_init_32 rfl (lv_at hl 0 rfl) ?_
  refine g_new (ci := 6) (fs := [.null, .null, .null, .null, .null, .null, .int 0, .int 0, .int 0, .int 0, .int 0]) i_U ft_U ft_U_ok S hW hA kc_H_31 kn_U kz_U rfl (dv_U) (Nat.le_of_ble_eq_true rfl) (Nat.le_of_ble_eq_true rfl) d_H_init_33 (fun q_2 H hW => ?_)
  have hW : Wd D (tyl cI cJ cB cZ) A s s.heap H _ [(aH, .inr (7, [.ref aC, .ref aK, .ref aF, .null, .ref q_1, .int (nI 0)])), (q_1, .inl (cI, 40, .inl (fun _ => 0))), (q_2, .inr (6, [.null, .null, .null, .null, .null, .null, .int 0, .int 0, .int 0, .int 0, .int 0]))] := hW
  refine lv_dup S.1 S.2.1 d_H_init_36 rfl ?_
  refine lv_aload_n S.1 S.2.1 d_H_init_37 rfl (lv_at hl 1 rfl) ?_
  refine callI_v (wr := [(aH, .inr (7, [.ref aC, .ref aK, .ref aF, .null, .ref q_1, .int (nI 0)])), (q_1, .inl (cI, 40, .inl (fun _ => 0)))]) (wc := [(q_2, .inr (6, [.null, .null, .null, .null, .null, .null, .int 0, .int 0, .int 0, .int 0, .int 0]))]) (np := 1) (As := [.ref aC]) (rest := [.ref q_2, .ref aH]) (c_U_init l D cI cJ cB cZ q_2 aC ) km_H_33 ki_U_init kz_U kk_U_init (by decide +kernel) rfl S hW hA ⟨Nat.le_of_ble_eq_true rfl, Nat.le_of_ble_eq_true rfl⟩ ⟨Nat.le_of_ble_eq_true rfl, Nat.le_of_ble_eq_true rfl⟩ [2] [0, 1] rfl (by decide) rfl (by decide) (by decide) rfl hl.1 rfl (Nat.le_of_ble_eq_true rfl) d_H_init_38 (fun u H locs hp hW => ?_)
  obtain ⟨u0_3, u1_4, u2_5, u3_6, u4_7, rfl⟩ := hp
  have hW : Wd D (tyl cI cJ cB cZ) A s s.heap H locs [(aH, .inr (7, [.ref aC, .ref aK, .ref aF, .null, .ref q_1, .int (nI 0)])), (q_1, .inl (cI, 40, .inl (fun _ => 0))), (q_2, .inr (6, [.ref aC, .ref u0_3, .ref u1_4, .ref u2_5, .ref u3_6, .ref u4_7, .int (-1), .int (nI 0), .int (nI 0), .int (nI 0), .int (nI 0)])), (u0_3, .inl (cI, 602, .inl (fun _ => 0))), (u1_4, .inl (cI, 602, .inl (fun _ => 0))), (u2_5, .inl (cI, 602, .inl (fun _ => 0))), (u3_6, .inl (cI, 602, .inl (fun _ => 0))), (u4_7, .inl (cI, 602, .inl (fun _ => 0)))] := hW
  refine g_putF (ws2 := [(aH, .inr (7, [.ref aC, .ref aK, .ref aF, .ref q_2, .ref q_1, .int (nI 0)])), (q_1, .inl (cI, 40, .inl (fun _ => 0))), (q_2, .inr (6, [.ref aC, .ref u0_3, .ref u1_4, .ref u2_5, .ref u3_6, .ref u4_7, .int (-1), .int (nI 0), .int (nI 0), .int (nI 0), .int (nI 0)])), (u0_3, .inl (cI, 602, .inl (fun _ => 0))), (u1_4, .inl (cI, 602, .inl (fun _ => 0))), (u2_5, .inl (cI, 602, .inl (fun _ => 0))), (u3_6, .inl (cI, 602, .inl (fun _ => 0))), (u4_7, .inl (cI, 602, .inl (fun _ => 0)))]) i_H ft_H ft_H_ok n_H S hW 0 rfl rfl 3 (by decide) kf_H_36 rfl hin rfl rfl rfl (Nat.le_of_ble_eq_true rfl) rfl d_H_init_41 (fun H locs hW => ?_)
  exact ret _ _ _ _ _ d_H_init_44 ⟨_, _, _, _, _, _, _, rfl⟩ hW
theorem d_X_init_0 : decode b_X_init 0 = .ok (.aload_n 0, 1) := by decide +kernel
theorem d_X_init_1 : decode b_X_init 1 = .ok (.invokespecial 1, 3) := by decide +kernel
theorem d_X_init_4 : decode b_X_init 4 = .ok (.aload_n 0, 1) := by decide +kernel
theorem d_X_init_5 : decode b_X_init 5 = .ok (.new 7, 3) := by decide +kernel
theorem d_X_init_8 : decode b_X_init 8 = .ok (.dup, 1) := by decide +kernel
theorem d_X_init_9 : decode b_X_init 9 = .ok (.invokespecial 9, 3) := by decide +kernel
theorem d_X_init_12 : decode b_X_init 12 = .ok (.putfield 10, 3) := by decide +kernel
theorem d_X_init_15 : decode b_X_init 15 = .ok (.aload_n 0, 1) := by decide +kernel
theorem d_X_init_16 : decode b_X_init 16 = .ok (.new 16, 3) := by decide +kernel
theorem d_X_init_19 : decode b_X_init 19 = .ok (.dup, 1) := by decide +kernel
theorem d_X_init_20 : decode b_X_init 20 = .ok (.invokespecial 18, 3) := by decide +kernel
theorem d_X_init_23 : decode b_X_init 23 = .ok (.putfield 19, 3) := by decide +kernel
theorem d_X_init_26 : decode b_X_init 26 = .ok (.aload_n 0, 1) := by decide +kernel
theorem d_X_init_27 : decode b_X_init 27 = .ok (.new 23, 3) := by decide +kernel
theorem d_X_init_30 : decode b_X_init 30 = .ok (.dup, 1) := by decide +kernel
theorem d_X_init_31 : decode b_X_init 31 = .ok (.invokespecial 25, 3) := by decide +kernel
theorem d_X_init_34 : decode b_X_init 34 = .ok (.putfield 26, 3) := by decide +kernel
theorem d_X_init_37 : decode b_X_init 37 = .ok (.aload_n 0, 1) := by decide +kernel
theorem d_X_init_38 : decode b_X_init 38 = .ok (.new 30, 3) := by decide +kernel
theorem d_X_init_41 : decode b_X_init 41 = .ok (.dup, 1) := by decide +kernel
theorem d_X_init_42 : decode b_X_init 42 = .ok (.aload_n 0, 1) := by decide +kernel
theorem d_X_init_43 : decode b_X_init 43 = .ok (.getfield 10, 3) := by decide +kernel
theorem d_X_init_46 : decode b_X_init 46 = .ok (.invokespecial 32, 3) := by decide +kernel
theorem d_X_init_49 : decode b_X_init 49 = .ok (.putfield 35, 3) := by decide +kernel
theorem d_X_init_52 : decode b_X_init 52 = .ok (.aload_n 0, 1) := by decide +kernel
theorem d_X_init_53 : decode b_X_init 53 = .ok (.new 39, 3) := by decide +kernel
theorem d_X_init_56 : decode b_X_init 56 = .ok (.dup, 1) := by decide +kernel
theorem d_X_init_57 : decode b_X_init 57 = .ok (.aload_n 0, 1) := by decide +kernel
theorem d_X_init_58 : decode b_X_init 58 = .ok (.getfield 19, 3) := by decide +kernel
theorem d_X_init_61 : decode b_X_init 61 = .ok (.invokespecial 41, 3) := by decide +kernel
theorem d_X_init_64 : decode b_X_init 64 = .ok (.putfield 44, 3) := by decide +kernel
theorem d_X_init_67 : decode b_X_init 67 = .ok (.aload_n 0, 1) := by decide +kernel
theorem d_X_init_68 : decode b_X_init 68 = .ok (.new 48, 3) := by decide +kernel
theorem d_X_init_71 : decode b_X_init 71 = .ok (.dup, 1) := by decide +kernel
theorem d_X_init_72 : decode b_X_init 72 = .ok (.aload_n 0, 1) := by decide +kernel
theorem d_X_init_73 : decode b_X_init 73 = .ok (.getfield 35, 3) := by decide +kernel
theorem d_X_init_76 : decode b_X_init 76 = .ok (.aload_n 0, 1) := by decide +kernel
theorem d_X_init_77 : decode b_X_init 77 = .ok (.getfield 19, 3) := by decide +kernel
theorem d_X_init_80 : decode b_X_init 80 = .ok (.aload_n 0, 1) := by decide +kernel
theorem d_X_init_81 : decode b_X_init 81 = .ok (.getfield 44, 3) := by decide +kernel
theorem d_X_init_84 : decode b_X_init 84 = .ok (.aload_n 0, 1) := by decide +kernel
theorem d_X_init_85 : decode b_X_init 85 = .ok (.getfield 10, 3) := by decide +kernel
theorem d_X_init_88 : decode b_X_init 88 = .ok (.invokespecial 50, 3) := by decide +kernel
theorem d_X_init_91 : decode b_X_init 91 = .ok (.putfield 53, 3) := by decide +kernel
theorem d_X_init_94 : decode b_X_init 94 = .ok (.aload_n 0, 1) := by decide +kernel
theorem d_X_init_95 : decode b_X_init 95 = .ok (.new 57, 3) := by decide +kernel
theorem d_X_init_98 : decode b_X_init 98 = .ok (.dup, 1) := by decide +kernel
theorem d_X_init_99 : decode b_X_init 99 = .ok (.aload_n 0, 1) := by decide +kernel
theorem d_X_init_100 : decode b_X_init 100 = .ok (.getfield 19, 3) := by decide +kernel
theorem d_X_init_103 : decode b_X_init 103 = .ok (.aload_n 0, 1) := by decide +kernel
theorem d_X_init_104 : decode b_X_init 104 = .ok (.getfield 44, 3) := by decide +kernel
theorem d_X_init_107 : decode b_X_init 107 = .ok (.aload_n 0, 1) := by decide +kernel
theorem d_X_init_108 : decode b_X_init 108 = .ok (.getfield 10, 3) := by decide +kernel
theorem d_X_init_111 : decode b_X_init 111 = .ok (.invokespecial 59, 3) := by decide +kernel
theorem d_X_init_114 : decode b_X_init 114 = .ok (.putfield 62, 3) := by decide +kernel
theorem d_X_init_117 : decode b_X_init 117 = .ok (.aload_n 0, 1) := by decide +kernel
theorem d_X_init_118 : decode b_X_init 118 = .ok (.new 66, 3) := by decide +kernel
theorem d_X_init_121 : decode b_X_init 121 = .ok (.dup, 1) := by decide +kernel
theorem d_X_init_122 : decode b_X_init 122 = .ok (.aload_n 0, 1) := by decide +kernel
theorem d_X_init_123 : decode b_X_init 123 = .ok (.getfield 19, 3) := by decide +kernel
theorem d_X_init_126 : decode b_X_init 126 = .ok (.aload_n 0, 1) := by decide +kernel
theorem d_X_init_127 : decode b_X_init 127 = .ok (.getfield 44, 3) := by decide +kernel
theorem d_X_init_130 : decode b_X_init 130 = .ok (.aload_n 0, 1) := by decide +kernel
theorem d_X_init_131 : decode b_X_init 131 = .ok (.getfield 26, 3) := by decide +kernel
theorem d_X_init_134 : decode b_X_init 134 = .ok (.invokespecial 68, 3) := by decide +kernel
theorem d_X_init_137 : decode b_X_init 137 = .ok (.putfield 71, 3) := by decide +kernel
theorem d_X_init_140 : decode b_X_init 140 = .ok (.aload_n 0, 1) := by decide +kernel
theorem d_X_init_141 : decode b_X_init 141 = .ok (.iconst 0, 1) := by decide +kernel
theorem d_X_init_142 : decode b_X_init 142 = .ok (.putfield 75, 3) := by decide +kernel
theorem d_X_init_145 : decode b_X_init 145 = .ok (.return_, 1) := by decide +kernel
set_option maxHeartbeats 4000000 in
set_option maxRecDepth 100000 in
theorem c_X_init (l : Launch) (D : va_G) (cI cJ cB cZ : ClassId) (aX : Nat) : Cv l D (tyl cI cJ cB cZ) y_X_init b_X_init 1 ({ frames := 3, cells := 32, slots := 122686, locals := 64 } : Room) [.ref aX] [(aX, .inr (9, [.null, .null, .null, .null, .null, .null, .null, .null, .int 0]))] (fun u => ∃ (aF : Nat) (aC : Nat) (c0 : Nat) (c1 : Nat) (c2 : Nat) (c3 : Nat) (c4 : Nat) (aP : Nat) (p0 : Nat) (aT : Nat) (t0 : Nat) (aK : Nat) (k0 : Nat) (k1 : Nat) (k2 : Nat) (k3 : Nat) (k4 : Nat) (aR : Nat) (r0 : Nat) (r1 : Nat) (aH : Nat) (h0 : Nat) (aU : Nat) (u0 : Nat) (u1 : Nat) (u2 : Nat) (u3 : Nat) (u4 : Nat) (aI : Nat) (i0 : Nat) (i1 : Nat) (i2 : Nat), u = [(aX, .inr (9, [.ref aF, .ref aC, .ref aP, .ref aT, .ref aK, .ref aR, .ref aH, .ref aI, .int (nI 0)])), (aF, .inr (0, [.int (nI 0), .int (-1)])), (aC, .inr (1, [.ref c0, .ref c1, .ref c2, .ref c3, .ref c4])), (c0, .inl (cI, 21092, .inl (fun _ => 0))), (c1, .inl (cI, 21092, .inl (fun _ => 0))), (c2, .inl (cI, 21092, .inl (fun _ => 0))), (c3, .inl (cI, 21092, .inl (fun _ => 0))), (c4, .inl (cI, 21092, .inl (fun _ => 0))), (aP, .inr (2, [.ref p0, .int (nI 0), .int (nI 0)])), (p0, .inl (cB, 4096, .inl (fun _ => 0))), (aT, .inr (3, [.ref aF, .ref t0, .int (nI 0), .int (nI 0), .int (nI 0), .int (nI 0), .long 0, .long 0])), (t0, .inl (cB, 8192, .inl (fun _ => 0))), (aK, .inr (4, [.ref aC, .ref k0, .ref k1, .ref k2, .ref k3, .ref k4, .int (nI 0), .int (nI 0)])), (k0, .inl (cJ, 48, .inr (.inl (fun _ => 0)))), (k1, .inl (cJ, 48, .inr (.inl (fun _ => 0)))), (k2, .inl (cI, 48, .inl (fun _ => 0))), (k3, .inl (cI, 48, .inl (fun _ => 0))), (k4, .inl (cZ, 48, .inl (fun _ => 0))), (aR, .inr (5, [.ref aT, .ref aC, .ref aK, .ref aF, .ref r0, .ref r1, .int (nI 0), .int (nI 0), .int (nI 0), .int (nI 0), .int (nI 0), .int (nI 0), .int (nI 0), .long 0, .long 0, .int (nI 0), .int (nI 0)])), (r0, .inl (cJ, 40, .inr (.inl (fun _ => 0)))), (r1, .inl (cJ, 40, .inr (.inl (fun _ => 0)))), (aH, .inr (7, [.ref aC, .ref aK, .ref aF, .ref aU, .ref h0, .int (nI 0)])), (h0, .inl (cI, 40, .inl (fun _ => 0))), (aU, .inr (6, [.ref aC, .ref u0, .ref u1, .ref u2, .ref u3, .ref u4, .int (-1), .int (nI 0), .int (nI 0), .int (nI 0), .int (nI 0)])), (u0, .inl (cI, 602, .inl (fun _ => 0))), (u1, .inl (cI, 602, .inl (fun _ => 0))), (u2, .inl (cI, 602, .inl (fun _ => 0))), (u3, .inl (cI, 602, .inl (fun _ => 0))), (u4, .inl (cI, 602, .inl (fun _ => 0))), (aI, .inr (8, [.ref aC, .ref aK, .ref aP, .ref i0, .ref i1, .ref i2, .int (nI 0), .int (nI 0)])), (i0, .inl (cZ, 300, .inl (fun _ => 0))), (i1, .inl (cI, 600, .inl (fun _ => 0))), (i2, .inl (cI, 600, .inl (fun _ => 0)))]) := by
  refine met_v (own := "ProofReader") (by decide) rfl (Nat.le_of_ble_eq_true rfl) ?_
  intro p e s m args below meth c A Q S hin hA ret ls hl hW
  have hl : lv_has ls 1 [(0, .ref aX)] := hl
  have hW : Wd D (tyl cI cJ cB cZ) A s s.heap s.heap [] [(aX, .inr (9, [.null, .null, .null, .null, .null, .null, .null, .null, .int 0]))] := hW
  have hin : meth.name = "<init>" := hin
  refine lv_aload_n S.1 S.2.1 d_X_init_0 rfl (lv_at hl 0 rfl) ?_
  refine g_objInit S km_X_1 hl.1 d_X_init_1 (by decide) (Nat.le_of_ble_eq_true rfl) ?_
  refine lv_aload_n S.1 S.2.1 d_X_init_4 rfl (lv_at hl 0 rfl) ?_
  refine g_new (ci := 0) (fs := [.int 0, .int 0]) i_F ft_F ft_F_ok S hW hA kc_X_7 kn_F kz_F rfl (dv_F) (Nat.le_of_ble_eq_true rfl) (Nat.le_of_ble_eq_true rfl) d_X_init_5 (fun q_1 H hW => ?_)
  have hW : Wd D (tyl cI cJ cB cZ) A s s.heap H _ [(aX, .inr (9, [.null, .null, .null, .null, .null, .null, .null, .null, .int 0])), (q_1, .inr (0, [.int 0, .int 0]))] := hW
  refine lv_dup S.1 S.2.1 d_X_init_8 rfl ?_
  refine callIN_v (wr := [(aX, .inr (9, [.null, .null, .null, .null, .null, .null, .null, .null, .int 0]))]) (wc := [(q_1, .inr (0, [.int 0, .int 0]))]) (np := 0) (As := []) (rest := [.ref q_1, .ref aX]) (c_F_init l D cI cJ cB cZ q_1 ) (fun h => h.1) ki_F_init kz_F kk_F_init (by decide +kernel) rfl S hW hA ⟨Nat.le_of_ble_eq_true rfl, Nat.le_of_ble_eq_true rfl⟩ ⟨Nat.le_of_ble_eq_true rfl, Nat.le_of_ble_eq_true rfl⟩ [1] [0] rfl (by decide) rfl (by decide) (by decide) rfl hl.1 rfl (Nat.le_of_ble_eq_true rfl) d_X_init_9 (fun u H locs hp hW => ?_)
  obtain rfl := hp
  have hW : Wd D (tyl cI cJ cB cZ) A s s.heap H locs [(aX, .inr (9, [.null, .null, .null, .null, .null, .null, .null, .null, .int 0])), (q_1, .inr (0, [.int (nI 0), .int (-1)]))] := hW
  refine g_putF (ws2 := [(aX, .inr (9, [.ref q_1, .null, .null, .null, .null, .null, .null, .null, .int 0])), (q_1, .inr (0, [.int (nI 0), .int (-1)]))]) i_X ft_X ft_X_ok n_X S hW 0 rfl rfl 0 (by decide) kf_X_10 rfl hin rfl rfl rfl (Nat.le_of_ble_eq_true rfl) rfl d_X_init_12 (fun H locs hW => ?_)
  refine lv_aload_n S.1 S.2.1 d_X_init_15 rfl (lv_at hl 0 rfl) ?_
  refine g_new (ci := 1) (fs := [.null, .null, .null, .null, .null]) i_C ft_C ft_C_ok S hW hA kc_X_16 kn_C kz_C rfl (dv_C) (Nat.le_of_ble_eq_true rfl) (Nat.le_of_ble_eq_true rfl) d_X_init_16 (fun q_2 H hW => ?_)
  have hW : Wd D (tyl cI cJ cB cZ) A s s.heap H _ [(aX, .inr (9, [.ref q_1, .null, .null, .null, .null, .null, .null, .null, .int 0])), (q_1, .inr (0, [.int (nI 0), .int (-1)])), (q_2, .inr (1, [.null, .null, .null, .null, .null]))] := hW
  refine lv_dup S.1 S.2.1 d_X_init_19 rfl ?_
  refine callIN_v (wr := [(aX, .inr (9, [.ref q_1, .null, .null, .null, .null, .null, .null, .null, .int 0])), (q_1, .inr (0, [.int (nI 0), .int (-1)]))]) (wc := [(q_2, .inr (1, [.null, .null, .null, .null, .null]))]) (np := 0) (As := []) (rest := [.ref q_2, .ref aX]) (c_C_init l D cI cJ cB cZ q_2 ) (fun h => h.2.1) ki_C_init kz_C kk_C_init (by decide +kernel) rfl S hW hA ⟨Nat.le_of_ble_eq_true rfl, Nat.le_of_ble_eq_true rfl⟩ ⟨Nat.le_of_ble_eq_true rfl, Nat.le_of_ble_eq_true rfl⟩ [2] [0, 1] rfl (by decide) rfl (by decide) (by decide) rfl hl.1 rfl (Nat.le_of_ble_eq_true rfl) d_X_init_20 (fun u H locs hp hW => ?_)
  obtain ⟨c0_3, c1_4, c2_5, c3_6, c4_7, rfl⟩ := hp
  have hW : Wd D (tyl cI cJ cB cZ) A s s.heap H locs [(aX, .inr (9, [.ref q_1, .null, .null, .null, .null, .null, .null, .null, .int 0])), (q_1, .inr (0, [.int (nI 0), .int (-1)])), (q_2, .inr (1, [.ref c0_3, .ref c1_4, .ref c2_5, .ref c3_6, .ref c4_7])), (c0_3, .inl (cI, 21092, .inl (fun _ => 0))), (c1_4, .inl (cI, 21092, .inl (fun _ => 0))), (c2_5, .inl (cI, 21092, .inl (fun _ => 0))), (c3_6, .inl (cI, 21092, .inl (fun _ => 0))), (c4_7, .inl (cI, 21092, .inl (fun _ => 0)))] := hW
  refine g_putF (ws2 := [(aX, .inr (9, [.ref q_1, .ref q_2, .null, .null, .null, .null, .null, .null, .int 0])), (q_1, .inr (0, [.int (nI 0), .int (-1)])), (q_2, .inr (1, [.ref c0_3, .ref c1_4, .ref c2_5, .ref c3_6, .ref c4_7])), (c0_3, .inl (cI, 21092, .inl (fun _ => 0))), (c1_4, .inl (cI, 21092, .inl (fun _ => 0))), (c2_5, .inl (cI, 21092, .inl (fun _ => 0))), (c3_6, .inl (cI, 21092, .inl (fun _ => 0))), (c4_7, .inl (cI, 21092, .inl (fun _ => 0)))]) i_X ft_X ft_X_ok n_X S hW 0 rfl rfl 1 (by decide) kf_X_19 rfl hin rfl rfl rfl (Nat.le_of_ble_eq_true rfl) rfl d_X_init_23 (fun H locs hW => ?_)
  refine lv_aload_n S.1 S.2.1 d_X_init_26 rfl (lv_at hl 0 rfl) ?_
  refine g_new (ci := 2) (fs := [.null, .int 0, .int 0]) i_P ft_P ft_P_ok S hW hA kc_X_23 kn_P kz_P rfl (dv_P) (Nat.le_of_ble_eq_true rfl) (Nat.le_of_ble_eq_true rfl) d_X_init_27 (fun q_8 H hW => ?_)
  have hW : Wd D (tyl cI cJ cB cZ) A s s.heap H _ [(aX, .inr (9, [.ref q_1, .ref q_2, .null, .null, .null, .null, .null, .null, .int 0])), (q_1, .inr (0, [.int (nI 0), .int (-1)])), (q_2, .inr (1, [.ref c0_3, .ref c1_4, .ref c2_5, .ref c3_6, .ref c4_7])), (c0_3, .inl (cI, 21092, .inl (fun _ => 0))), (c1_4, .inl (cI, 21092, .inl (fun _ => 0))), (c2_5, .inl (cI, 21092, .inl (fun _ => 0))), (c3_6, .inl (cI, 21092, .inl (fun _ => 0))), (c4_7, .inl (cI, 21092, .inl (fun _ => 0))), (q_8, .inr (2, [.null, .int 0, .int 0]))] := hW
  refine lv_dup S.1 S.2.1 d_X_init_30 rfl ?_
  refine callIN_v (wr := [(aX, .inr (9, [.ref q_1, .ref q_2, .null, .null, .null, .null, .null, .null, .int 0])), (q_1, .inr (0, [.int (nI 0), .int (-1)])), (q_2, .inr (1, [.ref c0_3, .ref c1_4, .ref c2_5, .ref c3_6, .ref c4_7])), (c0_3, .inl (cI, 21092, .inl (fun _ => 0))), (c1_4, .inl (cI, 21092, .inl (fun _ => 0))), (c2_5, .inl (cI, 21092, .inl (fun _ => 0))), (c3_6, .inl (cI, 21092, .inl (fun _ => 0))), (c4_7, .inl (cI, 21092, .inl (fun _ => 0)))]) (wc := [(q_8, .inr (2, [.null, .int 0, .int 0]))]) (np := 0) (As := []) (rest := [.ref q_8, .ref aX]) (c_P_init l D cI cJ cB cZ q_8 ) (fun h => h.2.2.1) ki_P_init kz_P kk_P_init (by decide +kernel) rfl S hW hA ⟨Nat.le_of_ble_eq_true rfl, Nat.le_of_ble_eq_true rfl⟩ ⟨Nat.le_of_ble_eq_true rfl, Nat.le_of_ble_eq_true rfl⟩ [8] [0, 1, 2, 3, 4, 5, 6, 7] rfl (by decide) rfl (by decide) (by decide) rfl hl.1 rfl (Nat.le_of_ble_eq_true rfl) d_X_init_31 (fun u H locs hp hW => ?_)
  obtain ⟨p0_9, rfl⟩ := hp
  have hW : Wd D (tyl cI cJ cB cZ) A s s.heap H locs [(aX, .inr (9, [.ref q_1, .ref q_2, .null, .null, .null, .null, .null, .null, .int 0])), (q_1, .inr (0, [.int (nI 0), .int (-1)])), (q_2, .inr (1, [.ref c0_3, .ref c1_4, .ref c2_5, .ref c3_6, .ref c4_7])), (c0_3, .inl (cI, 21092, .inl (fun _ => 0))), (c1_4, .inl (cI, 21092, .inl (fun _ => 0))), (c2_5, .inl (cI, 21092, .inl (fun _ => 0))), (c3_6, .inl (cI, 21092, .inl (fun _ => 0))), (c4_7, .inl (cI, 21092, .inl (fun _ => 0))), (q_8, .inr (2, [.ref p0_9, .int (nI 0), .int (nI 0)])), (p0_9, .inl (cB, 4096, .inl (fun _ => 0)))] := hW
  refine g_putF (ws2 := [(aX, .inr (9, [.ref q_1, .ref q_2, .ref q_8, .null, .null, .null, .null, .null, .int 0])), (q_1, .inr (0, [.int (nI 0), .int (-1)])), (q_2, .inr (1, [.ref c0_3, .ref c1_4, .ref c2_5, .ref c3_6, .ref c4_7])), (c0_3, .inl (cI, 21092, .inl (fun _ => 0))), (c1_4, .inl (cI, 21092, .inl (fun _ => 0))), (c2_5, .inl (cI, 21092, .inl (fun _ => 0))), (c3_6, .inl (cI, 21092, .inl (fun _ => 0))), (c4_7, .inl (cI, 21092, .inl (fun _ => 0))), (q_8, .inr (2, [.ref p0_9, .int (nI 0), .int (nI 0)])), (p0_9, .inl (cB, 4096, .inl (fun _ => 0)))]) i_X ft_X ft_X_ok n_X S hW 0 rfl rfl 2 (by decide) kf_X_26 rfl hin rfl rfl rfl (Nat.le_of_ble_eq_true rfl) rfl d_X_init_34 (fun H locs hW => ?_)
  refine lv_aload_n S.1 S.2.1 d_X_init_37 rfl (lv_at hl 0 rfl) ?_
  refine g_new (ci := 3) (fs := [.null, .null, .int 0, .int 0, .int 0, .int 0, .long 0, .long 0]) i_T ft_T ft_T_ok S hW hA kc_X_30 kn_T kz_T rfl (dv_T) (Nat.le_of_ble_eq_true rfl) (Nat.le_of_ble_eq_true rfl) d_X_init_38 (fun q_10 H hW => ?_)
  have hW : Wd D (tyl cI cJ cB cZ) A s s.heap H _ [(aX, .inr (9, [.ref q_1, .ref q_2, .ref q_8, .null, .null, .null, .null, .null, .int 0])), (q_1, .inr (0, [.int (nI 0), .int (-1)])), (q_2, .inr (1, [.ref c0_3, .ref c1_4, .ref c2_5, .ref c3_6, .ref c4_7])), (c0_3, .inl (cI, 21092, .inl (fun _ => 0))), (c1_4, .inl (cI, 21092, .inl (fun _ => 0))), (c2_5, .inl (cI, 21092, .inl (fun _ => 0))), (c3_6, .inl (cI, 21092, .inl (fun _ => 0))), (c4_7, .inl (cI, 21092, .inl (fun _ => 0))), (q_8, .inr (2, [.ref p0_9, .int (nI 0), .int (nI 0)])), (p0_9, .inl (cB, 4096, .inl (fun _ => 0))), (q_10, .inr (3, [.null, .null, .int 0, .int 0, .int 0, .int 0, .long 0, .long 0]))] := hW
  refine lv_dup S.1 S.2.1 d_X_init_41 rfl ?_
  refine lv_aload_n S.1 S.2.1 d_X_init_42 rfl (lv_at hl 0 rfl) ?_
  refine g_get i_X S hW 0 rfl rfl 0 (by decide) kf_X_10 rfl d_X_init_43 ?_
  refine callI_v (wr := [(aX, .inr (9, [.ref q_1, .ref q_2, .ref q_8, .null, .null, .null, .null, .null, .int 0])), (q_1, .inr (0, [.int (nI 0), .int (-1)])), (q_2, .inr (1, [.ref c0_3, .ref c1_4, .ref c2_5, .ref c3_6, .ref c4_7])), (c0_3, .inl (cI, 21092, .inl (fun _ => 0))), (c1_4, .inl (cI, 21092, .inl (fun _ => 0))), (c2_5, .inl (cI, 21092, .inl (fun _ => 0))), (c3_6, .inl (cI, 21092, .inl (fun _ => 0))), (c4_7, .inl (cI, 21092, .inl (fun _ => 0))), (q_8, .inr (2, [.ref p0_9, .int (nI 0), .int (nI 0)])), (p0_9, .inl (cB, 4096, .inl (fun _ => 0)))]) (wc := [(q_10, .inr (3, [.null, .null, .int 0, .int 0, .int 0, .int 0, .long 0, .long 0]))]) (np := 1) (As := [.ref q_1]) (rest := [.ref q_10, .ref aX]) (c_T_init l D cI cJ cB cZ q_10 q_1 ) km_X_32 ki_T_init kz_T kk_T_init (by decide +kernel) rfl S hW hA ⟨Nat.le_of_ble_eq_true rfl, Nat.le_of_ble_eq_true rfl⟩ ⟨Nat.le_of_ble_eq_true rfl, Nat.le_of_ble_eq_true rfl⟩ [10] [0, 1, 2, 3, 4, 5, 6, 7, 8, 9] rfl (by decide) rfl (by decide) (by decide) rfl hl.1 rfl (Nat.le_of_ble_eq_true rfl) d_X_init_46 (fun u H locs hp hW => ?_)
  obtain ⟨t0_11, rfl⟩ := hp
  have hW : Wd D (tyl cI cJ cB cZ) A s s.heap H locs [(aX, .inr (9, [.ref q_1, .ref q_2, .ref q_8, .null, .null, .null, .null, .null, .int 0])), (q_1, .inr (0, [.int (nI 0), .int (-1)])), (q_2, .inr (1, [.ref c0_3, .ref c1_4, .ref c2_5, .ref c3_6, .ref c4_7])), (c0_3, .inl (cI, 21092, .inl (fun _ => 0))), (c1_4, .inl (cI, 21092, .inl (fun _ => 0))), (c2_5, .inl (cI, 21092, .inl (fun _ => 0))), (c3_6, .inl (cI, 21092, .inl (fun _ => 0))), (c4_7, .inl (cI, 21092, .inl (fun _ => 0))), (q_8, .inr (2, [.ref p0_9, .int (nI 0), .int (nI 0)])), (p0_9, .inl (cB, 4096, .inl (fun _ => 0))), (q_10, .inr (3, [.ref q_1, .ref t0_11, .int (nI 0), .int (nI 0), .int (nI 0), .int (nI 0), .long 0, .long 0])), (t0_11, .inl (cB, 8192, .inl (fun _ => 0)))] := hW
  refine g_putF (ws2 := [(aX, .inr (9, [.ref q_1, .ref q_2, .ref q_8, .ref q_10, .null, .null, .null, .null, .int 0])), (q_1, .inr (0, [.int (nI 0), .int (-1)])), (q_2, .inr (1, [.ref c0_3, .ref c1_4, .ref c2_5, .ref c3_6, .ref c4_7])), (c0_3, .inl (cI, 21092, .inl (fun _ => 0))), (c1_4, .inl (cI, 21092, .inl (fun _ => 0))), (c2_5, .inl (cI, 21092, .inl (fun _ => 0))), (c3_6, .inl (cI, 21092, .inl (fun _ => 0))), (c4_7, .inl (cI, 21092, .inl (fun _ => 0))), (q_8, .inr (2, [.ref p0_9, .int (nI 0), .int (nI 0)])), (p0_9, .inl (cB, 4096, .inl (fun _ => 0))), (q_10, .inr (3, [.ref q_1, .ref t0_11, .int (nI 0), .int (nI 0), .int (nI 0), .int (nI 0), .long 0, .long 0])), (t0_11, .inl (cB, 8192, .inl (fun _ => 0)))]) i_X ft_X ft_X_ok n_X S hW 0 rfl rfl 3 (by decide) kf_X_35 rfl hin rfl rfl rfl (Nat.le_of_ble_eq_true rfl) rfl d_X_init_49 (fun H locs hW => ?_)
  refine lv_aload_n S.1 S.2.1 d_X_init_52 rfl (lv_at hl 0 rfl) ?_
  refine g_new (ci := 4) (fs := [.null, .null, .null, .null, .null, .null, .int 0, .int 0]) i_K ft_K ft_K_ok S hW hA kc_X_39 kn_K kz_K rfl (dv_K) (Nat.le_of_ble_eq_true rfl) (Nat.le_of_ble_eq_true rfl) d_X_init_53 (fun q_12 H hW => ?_)
  have hW : Wd D (tyl cI cJ cB cZ) A s s.heap H _ [(aX, .inr (9, [.ref q_1, .ref q_2, .ref q_8, .ref q_10, .null, .null, .null, .null, .int 0])), (q_1, .inr (0, [.int (nI 0), .int (-1)])), (q_2, .inr (1, [.ref c0_3, .ref c1_4, .ref c2_5, .ref c3_6, .ref c4_7])), (c0_3, .inl (cI, 21092, .inl (fun _ => 0))), (c1_4, .inl (cI, 21092, .inl (fun _ => 0))), (c2_5, .inl (cI, 21092, .inl (fun _ => 0))), (c3_6, .inl (cI, 21092, .inl (fun _ => 0))), (c4_7, .inl (cI, 21092, .inl (fun _ => 0))), (q_8, .inr (2, [.ref p0_9, .int (nI 0), .int (nI 0)])), (p0_9, .inl (cB, 4096, .inl (fun _ => 0))), (q_10, .inr (3, [.ref q_1, .ref t0_11, .int (nI 0), .int (nI 0), .int (nI 0), .int (nI 0), .long 0, .long 0])), (t0_11, .inl (cB, 8192, .inl (fun _ => 0))), (q_12, .inr (4, [.null, .null, .null, .null, .null, .null, .int 0, .int 0]))] := hW
  refine lv_dup S.1 S.2.1 d_X_init_56 rfl ?_
  refine lv_aload_n S.1 S.2.1 d_X_init_57 rfl (lv_at hl 0 rfl) ?_
  refine g_get i_X S hW 0 rfl rfl 1 (by decide) kf_X_19 rfl d_X_init_58 ?_
  refine callI_v (wr := [(aX, .inr (9, [.ref q_1, .ref q_2, .ref q_8, .ref q_10, .null, .null, .null, .null, .int 0])), (q_1, .inr (0, [.int (nI 0), .int (-1)])), (q_2, .inr (1, [.ref c0_3, .ref c1_4, .ref c2_5, .ref c3_6, .ref c4_7])), (c0_3, .inl (cI, 21092, .inl (fun _ => 0))), (c1_4, .inl (cI, 21092, .inl (fun _ => 0))), (c2_5, .inl (cI, 21092, .inl (fun _ => 0))), (c3_6, .inl (cI, 21092, .inl (fun _ => 0))), (c4_7, .inl (cI, 21092, .inl (fun _ => 0))), (q_8, .inr (2, [.ref p0_9, .int (nI 0), .int (nI 0)])), (p0_9, .inl (cB, 4096, .inl (fun _ => 0))), (q_10, .inr (3, [.ref q_1, .ref t0_11, .int (nI 0), .int (nI 0), .int (nI 0), .int (nI 0), .long 0, .long 0])), (t0_11, .inl (cB, 8192, .inl (fun _ => 0)))]) (wc := [(q_12, .inr (4, [.null, .null, .null, .null, .null, .null, .int 0, .int 0]))]) (np := 1) (As := [.ref q_2]) (rest := [.ref q_12, .ref aX]) (c_K_init l D cI cJ cB cZ q_12 q_2 ) km_X_41 ki_K_init kz_K kk_K_init (by decide +kernel) rfl S hW hA ⟨Nat.le_of_ble_eq_true rfl, Nat.le_of_ble_eq_true rfl⟩ ⟨Nat.le_of_ble_eq_true rfl, Nat.le_of_ble_eq_true rfl⟩ [12] [0, 1, 2, 3, 4, 5, 6, 7, 8, 9, 10, 11] rfl (by decide) rfl (by decide) (by decide) rfl hl.1 rfl (Nat.le_of_ble_eq_true rfl) d_X_init_61 (fun u H locs hp hW => ?_)
  obtain ⟨k0_13, k1_14, k2_15, k3_16, k4_17, rfl⟩ := hp
  have hW : Wd D (tyl cI cJ cB cZ) A s s.heap H locs [(aX, .inr (9, [.ref q_1, .ref q_2, .ref q_8, .ref q_10, .null, .null, .null, .null, .int 0])), (q_1, .inr (0, [.int (nI 0), .int (-1)])), (q_2, .inr (1, [.ref c0_3, .ref c1_4, .ref c2_5, .ref c3_6, .ref c4_7])), (c0_3, .inl (cI, 21092, .inl (fun _ => 0))), (c1_4, .inl (cI, 21092, .inl (fun _ => 0))), (c2_5, .inl (cI, 21092, .inl (fun _ => 0))), (c3_6, .inl (cI, 21092, .inl (fun _ => 0))), (c4_7, .inl (cI, 21092, .inl (fun _ => 0))), (q_8, .inr (2, [.ref p0_9, .int (nI 0), .int (nI 0)])), (p0_9, .inl (cB, 4096, .inl (fun _ => 0))), (q_10, .inr (3, [.ref q_1, .ref t0_11, .int (nI 0), .int (nI 0), .int (nI 0), .int (nI 0), .long 0, .long 0])), (t0_11, .inl (cB, 8192, .inl (fun _ => 0))), (q_12, .inr (4, [.ref q_2, .ref k0_13, .ref k1_14, .ref k2_15, .ref k3_16, .ref k4_17, .int (nI 0), .int (nI 0)])), (k0_13, .inl (cJ, 48, .inr (.inl (fun _ => 0)))), (k1_14, .inl (cJ, 48, .inr (.inl (fun _ => 0)))), (k2_15, .inl (cI, 48, .inl (fun _ => 0))), (k3_16, .inl (cI, 48, .inl (fun _ => 0))), (k4_17, .inl (cZ, 48, .inl (fun _ => 0)))] := hW
  refine g_putF (ws2 := [(aX, .inr (9, [.ref q_1, .ref q_2, .ref q_8, .ref q_10, .ref q_12, .null, .null, .null, .int 0])), (q_1, .inr (0, [.int (nI 0), .int (-1)])), (q_2, .inr (1, [.ref c0_3, .ref c1_4, .ref c2_5, .ref c3_6, .ref c4_7])), (c0_3, .inl (cI, 21092, .inl (fun _ => 0))), (c1_4, .inl (cI, 21092, .inl (fun _ => 0))), (c2_5, .inl (cI, 21092, .inl (fun _ => 0))), (c3_6, .inl (cI, 21092, .inl (fun _ => 0))), (c4_7, .inl (cI, 21092, .inl (fun _ => 0))), (q_8, .inr (2, [.ref p0_9, .int (nI 0), .int (nI 0)])), (p0_9, .inl (cB, 4096, .inl (fun _ => 0))), (q_10, .inr (3, [.ref q_1, .ref t0_11, .int (nI 0), .int (nI 0), .int (nI 0), .int (nI 0), .long 0, .long 0])), (t0_11, .inl (cB, 8192, .inl (fun _ => 0))), (q_12, .inr (4, [.ref q_2, .ref k0_13, .ref k1_14, .ref k2_15, .ref k3_16, .ref k4_17, .int (nI 0), .int (nI 0)])), (k0_13, .inl (cJ, 48, .inr (.inl (fun _ => 0)))), (k1_14, .inl (cJ, 48, .inr (.inl (fun _ => 0)))), (k2_15, .inl (cI, 48, .inl (fun _ => 0))), (k3_16, .inl (cI, 48, .inl (fun _ => 0))), (k4_17, .inl (cZ, 48, .inl (fun _ => 0)))]) i_X ft_X ft_X_ok n_X S hW 0 rfl rfl 4 (by decide) kf_X_44 rfl hin rfl rfl rfl (Nat.le_of_ble_eq_true rfl) rfl d_X_init_64 (fun H locs hW => ?_)
  refine lv_aload_n S.1 S.2.1 d_X_init_67 rfl (lv_at hl 0 rfl) ?_
  refine g_new (ci := 5) (fs := [.null, .null, .null, .null, .null, .null, .int 0, .int 0, .int 0, .int 0, .int 0, .int 0, .int 0, .long 0, .long 0, .int 0, .int 0]) i_R ft_R ft_R_ok S hW hA kc_X_48 kn_R kz_R rfl (dv_R) (Nat.le_of_ble_eq_true rfl) (Nat.le_of_ble_eq_true rfl) d_X_init_68 (fun q_18 H hW => ?_)
  have hW : Wd D (tyl cI cJ cB cZ) A s s.heap H _ [(aX, .inr (9, [.ref q_1, .ref q_2, .ref q_8, .ref q_10, .ref q_12, .null, .null, .null, .int 0])), (q_1, .inr (0, [.int (nI 0), .int (-1)])), (q_2, .inr (1, [.ref c0_3, .ref c1_4, .ref c2_5, .ref c3_6, .ref c4_7])), (c0_3, .inl (cI, 21092, .inl (fun _ => 0))), (c1_4, .inl (cI, 21092, .inl (fun _ => 0))), (c2_5, .inl (cI, 21092, .inl (fun _ => 0))), (c3_6, .inl (cI, 21092, .inl (fun _ => 0))), (c4_7, .inl (cI, 21092, .inl (fun _ => 0))), (q_8, .inr (2, [.ref p0_9, .int (nI 0), .int (nI 0)])), (p0_9, .inl (cB, 4096, .inl (fun _ => 0))), (q_10, .inr (3, [.ref q_1, .ref t0_11, .int (nI 0), .int (nI 0), .int (nI 0), .int (nI 0), .long 0, .long 0])), (t0_11, .inl (cB, 8192, .inl (fun _ => 0))), (q_12, .inr (4, [.ref q_2, .ref k0_13, .ref k1_14, .ref k2_15, .ref k3_16, .ref k4_17, .int (nI 0), .int (nI 0)])), (k0_13, .inl (cJ, 48, .inr (.inl (fun _ => 0)))), (k1_14, .inl (cJ, 48, .inr (.inl (fun _ => 0)))), (k2_15, .inl (cI, 48, .inl (fun _ => 0))), (k3_16, .inl (cI, 48, .inl (fun _ => 0))), (k4_17, .inl (cZ, 48, .inl (fun _ => 0))), (q_18, .inr (5, [.null, .null, .null, .null, .null, .null, .int 0, .int 0, .int 0, .int 0, .int 0, .int 0, .int 0, .long 0, .long 0, .int 0, .int 0]))] := hW
  refine lv_dup S.1 S.2.1 d_X_init_71 rfl ?_
  refine lv_aload_n S.1 S.2.1 d_X_init_72 rfl (lv_at hl 0 rfl) ?_
  refine g_get i_X S hW 0 rfl rfl 3 (by decide) kf_X_35 rfl d_X_init_73 ?_
  refine lv_aload_n S.1 S.2.1 d_X_init_76 rfl (lv_at hl 0 rfl) ?_
  refine g_get i_X S hW 0 rfl rfl 1 (by decide) kf_X_19 rfl d_X_init_77 ?_
  refine lv_aload_n S.1 S.2.1 d_X_init_80 rfl (lv_at hl 0 rfl) ?_
  refine g_get i_X S hW 0 rfl rfl 4 (by decide) kf_X_44 rfl d_X_init_81 ?_
  refine lv_aload_n S.1 S.2.1 d_X_init_84 rfl (lv_at hl 0 rfl) ?_
  refine g_get i_X S hW 0 rfl rfl 0 (by decide) kf_X_10 rfl d_X_init_85 ?_
  refine callI_v (wr := [(aX, .inr (9, [.ref q_1, .ref q_2, .ref q_8, .ref q_10, .ref q_12, .null, .null, .null, .int 0])), (q_1, .inr (0, [.int (nI 0), .int (-1)])), (q_2, .inr (1, [.ref c0_3, .ref c1_4, .ref c2_5, .ref c3_6, .ref c4_7])), (c0_3, .inl (cI, 21092, .inl (fun _ => 0))), (c1_4, .inl (cI, 21092, .inl (fun _ => 0))), (c2_5, .inl (cI, 21092, .inl (fun _ => 0))), (c3_6, .inl (cI, 21092, .inl (fun _ => 0))), (c4_7, .inl (cI, 21092, .inl (fun _ => 0))), (q_8, .inr (2, [.ref p0_9, .int (nI 0), .int (nI 0)])), (p0_9, .inl (cB, 4096, .inl (fun _ => 0))), (q_10, .inr (3, [.ref q_1, .ref t0_11, .int (nI 0), .int (nI 0), .int (nI 0), .int (nI 0), .long 0, .long 0])), (t0_11, .inl (cB, 8192, .inl (fun _ => 0))), (q_12, .inr (4, [.ref q_2, .ref k0_13, .ref k1_14, .ref k2_15, .ref k3_16, .ref k4_17, .int (nI 0), .int (nI 0)])), (k0_13, .inl (cJ, 48, .inr (.inl (fun _ => 0)))), (k1_14, .inl (cJ, 48, .inr (.inl (fun _ => 0)))), (k2_15, .inl (cI, 48, .inl (fun _ => 0))), (k3_16, .inl (cI, 48, .inl (fun _ => 0))), (k4_17, .inl (cZ, 48, .inl (fun _ => 0)))]) (wc := [(q_18, .inr (5, [.null, .null, .null, .null, .null, .null, .int 0, .int 0, .int 0, .int 0, .int 0, .int 0, .int 0, .long 0, .long 0, .int 0, .int 0]))]) (np := 4) (As := [.ref q_10, .ref q_2, .ref q_12, .ref q_1]) (rest := [.ref q_18, .ref aX]) (c_R_init l D cI cJ cB cZ q_18 q_10 q_2 q_12 q_1 ) km_X_50 ki_R_init kz_R kk_R_init (by decide +kernel) rfl S hW hA ⟨Nat.le_of_ble_eq_true rfl, Nat.le_of_ble_eq_true rfl⟩ ⟨Nat.le_of_ble_eq_true rfl, Nat.le_of_ble_eq_true rfl⟩ [18] [0, 1, 2, 3, 4, 5, 6, 7, 8, 9, 10, 11, 12, 13, 14, 15, 16, 17] rfl (by decide) rfl (by decide) (by decide) rfl hl.1 rfl (Nat.le_of_ble_eq_true rfl) d_X_init_88 (fun u H locs hp hW => ?_)
  obtain ⟨r0_19, r1_20, rfl⟩ := hp
  have hW : Wd D (tyl cI cJ cB cZ) A s s.heap H locs [(aX, .inr (9, [.ref q_1, .ref q_2, .ref q_8, .ref q_10, .ref q_12, .null, .null, .null, .int 0])), (q_1, .inr (0, [.int (nI 0), .int (-1)])), (q_2, .inr (1, [.ref c0_3, .ref c1_4, .ref c2_5, .ref c3_6, .ref c4_7])), (c0_3, .inl (cI, 21092, .inl (fun _ => 0))), (c1_4, .inl (cI, 21092, .inl (fun _ => 0))), (c2_5, .inl (cI, 21092, .inl (fun _ => 0))), (c3_6, .inl (cI, 21092, .inl (fun _ => 0))), (c4_7, .inl (cI, 21092, .inl (fun _ => 0))), (q_8, .inr (2, [.ref p0_9, .int (nI 0), .int (nI 0)])), (p0_9, .inl (cB, 4096, .inl (fun _ => 0))), (q_10, .inr (3, [.ref q_1, .ref t0_11, .int (nI 0), .int (nI 0), .int (nI 0), .int (nI 0), .long 0, .long 0])), (t0_11, .inl (cB, 8192, .inl (fun _ => 0))), (q_12, .inr (4, [.ref q_2, .ref k0_13, .ref k1_14, .ref k2_15, .ref k3_16, .ref k4_17, .int (nI 0), .int (nI 0)])), (k0_13, .inl (cJ, 48, .inr (.inl (fun _ => 0)))), (k1_14, .inl (cJ, 48, .inr (.inl (fun _ => 0)))), (k2_15, .inl (cI, 48, .inl (fun _ => 0))), (k3_16, .inl (cI, 48, .inl (fun _ => 0))), (k4_17, .inl (cZ, 48, .inl (fun _ => 0))), (q_18, .inr (5, [.ref q_10, .ref q_2, .ref q_12, .ref q_1, .ref r0_19, .ref r1_20, .int (nI 0), .int (nI 0), .int (nI 0), .int (nI 0), .int (nI 0), .int (nI 0), .int (nI 0), .long 0, .long 0, .int (nI 0), .int (nI 0)])), (r0_19, .inl (cJ, 40, .inr (.inl (fun _ => 0)))), (r1_20, .inl (cJ, 40, .inr (.inl (fun _ => 0))))] := hW
  refine g_putF (ws2 := [(aX, .inr (9, [.ref q_1, .ref q_2, .ref q_8, .ref q_10, .ref q_12, .ref q_18, .null, .null, .int 0])), (q_1, .inr (0, [.int (nI 0), .int (-1)])), (q_2, .inr (1, [.ref c0_3, .ref c1_4, .ref c2_5, .ref c3_6, .ref c4_7])), (c0_3, .inl (cI, 21092, .inl (fun _ => 0))), (c1_4, .inl (cI, 21092, .inl (fun _ => 0))), (c2_5, .inl (cI, 21092, .inl (fun _ => 0))), (c3_6, .inl (cI, 21092, .inl (fun _ => 0))), (c4_7, .inl (cI, 21092, .inl (fun _ => 0))), (q_8, .inr (2, [.ref p0_9, .int (nI 0), .int (nI 0)])), (p0_9, .inl (cB, 4096, .inl (fun _ => 0))), (q_10, .inr (3, [.ref q_1, .ref t0_11, .int (nI 0), .int (nI 0), .int (nI 0), .int (nI 0), .long 0, .long 0])), (t0_11, .inl (cB, 8192, .inl (fun _ => 0))), (q_12, .inr (4, [.ref q_2, .ref k0_13, .ref k1_14, .ref k2_15, .ref k3_16, .ref k4_17, .int (nI 0), .int (nI 0)])), (k0_13, .inl (cJ, 48, .inr (.inl (fun _ => 0)))), (k1_14, .inl (cJ, 48, .inr (.inl (fun _ => 0)))), (k2_15, .inl (cI, 48, .inl (fun _ => 0))), (k3_16, .inl (cI, 48, .inl (fun _ => 0))), (k4_17, .inl (cZ, 48, .inl (fun _ => 0))), (q_18, .inr (5, [.ref q_10, .ref q_2, .ref q_12, .ref q_1, .ref r0_19, .ref r1_20, .int (nI 0), .int (nI 0), .int (nI 0), .int (nI 0), .int (nI 0), .int (nI 0), .int (nI 0), .long 0, .long 0, .int (nI 0), .int (nI 0)])), (r0_19, .inl (cJ, 40, .inr (.inl (fun _ => 0)))), (r1_20, .inl (cJ, 40, .inr (.inl (fun _ => 0))))]) i_X ft_X ft_X_ok n_X S hW 0 rfl rfl 5 (by decide) kf_X_53 rfl hin rfl rfl rfl (Nat.le_of_ble_eq_true rfl) rfl d_X_init_91 (fun H locs hW => ?_)
  refine lv_aload_n S.1 S.2.1 d_X_init_94 rfl (lv_at hl 0 rfl) ?_
  refine g_new (ci := 7) (fs := [.null, .null, .null, .null, .null, .int 0]) i_H ft_H ft_H_ok S hW hA kc_X_57 kn_H kz_H rfl (dv_H) (Nat.le_of_ble_eq_true rfl) (Nat.le_of_ble_eq_true rfl) d_X_init_95 (fun q_21 H hW => ?_)
  have hW : Wd D (tyl cI cJ cB cZ) A s s.heap H _ [(aX, .inr (9, [.ref q_1, .ref q_2, .ref q_8, .ref q_10, .ref q_12, .ref q_18, .null, .null, .int 0])), (q_1, .inr (0, [.int (nI 0), .int (-1)])), (q_2, .inr (1, [.ref c0_3, .ref c1_4, .ref c2_5, .ref c3_6, .ref c4_7])), (c0_3, .inl (cI, 21092, .inl (fun _ => 0))), (c1_4, .inl (cI, 21092, .inl (fun _ => 0))), (c2_5, .inl (cI, 21092, .inl (fun _ => 0))), (c3_6, .inl (cI, 21092, .inl (fun _ => 0))), (c4_7, .inl (cI, 21092, .inl (fun _ => 0))), (q_8, .inr (2, [.ref p0_9, .int (nI 0), .int (nI 0)])), (p0_9, .inl (cB, 4096, .inl (fun _ => 0))), (q_10, .inr (3, [.ref q_1, .ref t0_11, .int (nI 0), .int (nI 0), .int (nI 0), .int (nI 0), .long 0, .long 0])), (t0_11, .inl (cB, 8192, .inl (fun _ => 0))), (q_12, .inr (4, [.ref q_2, .ref k0_13, .ref k1_14, .ref k2_15, .ref k3_16, .ref k4_17, .int (nI 0), .int (nI 0)])), (k0_13, .inl (cJ, 48, .inr (.inl (fun _ => 0)))), (k1_14, .inl (cJ, 48, .inr (.inl (fun _ => 0)))), (k2_15, .inl (cI, 48, .inl (fun _ => 0))), (k3_16, .inl (cI, 48, .inl (fun _ => 0))), (k4_17, .inl (cZ, 48, .inl (fun _ => 0))), (q_18, .inr (5, [.ref q_10, .ref q_2, .ref q_12, .ref q_1, .ref r0_19, .ref r1_20, .int (nI 0), .int (nI 0), .int (nI 0), .int (nI 0), .int (nI 0), .int (nI 0), .int (nI 0), .long 0, .long 0, .int (nI 0), .int (nI 0)])), (r0_19, .inl (cJ, 40, .inr (.inl (fun _ => 0)))), (r1_20, .inl (cJ, 40, .inr (.inl (fun _ => 0)))), (q_21, .inr (7, [.null, .null, .null, .null, .null, .int 0]))] := hW
  refine lv_dup S.1 S.2.1 d_X_init_98 rfl ?_
  refine lv_aload_n S.1 S.2.1 d_X_init_99 rfl (lv_at hl 0 rfl) ?_
  refine g_get i_X S hW 0 rfl rfl 1 (by decide) kf_X_19 rfl d_X_init_100 ?_
  refine lv_aload_n S.1 S.2.1 d_X_init_103 rfl (lv_at hl 0 rfl) ?_
  refine g_get i_X S hW 0 rfl rfl 4 (by decide) kf_X_44 rfl d_X_init_104 ?_
  refine lv_aload_n S.1 S.2.1 d_X_init_107 rfl (lv_at hl 0 rfl) ?_
  refine g_get i_X S hW 0 rfl rfl 0 (by decide) kf_X_10 rfl d_X_init_108 ?_
  refine callI_v (wr := [(aX, .inr (9, [.ref q_1, .ref q_2, .ref q_8, .ref q_10, .ref q_12, .ref q_18, .null, .null, .int 0])), (q_1, .inr (0, [.int (nI 0), .int (-1)])), (q_2, .inr (1, [.ref c0_3, .ref c1_4, .ref c2_5, .ref c3_6, .ref c4_7])), (c0_3, .inl (cI, 21092, .inl (fun _ => 0))), (c1_4, .inl (cI, 21092, .inl (fun _ => 0))), (c2_5, .inl (cI, 21092, .inl (fun _ => 0))), (c3_6, .inl (cI, 21092, .inl (fun _ => 0))), (c4_7, .inl (cI, 21092, .inl (fun _ => 0))), (q_8, .inr (2, [.ref p0_9, .int (nI 0), .int (nI 0)])), (p0_9, .inl (cB, 4096, .inl (fun _ => 0))), (q_10, .inr (3, [.ref q_1, .ref t0_11, .int (nI 0), .int (nI 0), .int (nI 0), .int (nI 0), .long 0, .long 0])), (t0_11, .inl (cB, 8192, .inl (fun _ => 0))), (q_12, .inr (4, [.ref q_2, .ref k0_13, .ref k1_14, .ref k2_15, .ref k3_16, .ref k4_17, .int (nI 0), .int (nI 0)])), (k0_13, .inl (cJ, 48, .inr (.inl (fun _ => 0)))), (k1_14, .inl (cJ, 48, .inr (.inl (fun _ => 0)))), (k2_15, .inl (cI, 48, .inl (fun _ => 0))), (k3_16, .inl (cI, 48, .inl (fun _ => 0))), (k4_17, .inl (cZ, 48, .inl (fun _ => 0))), (q_18, .inr (5, [.ref q_10, .ref q_2, .ref q_12, .ref q_1, .ref r0_19, .ref r1_20, .int (nI 0), .int (nI 0), .int (nI 0), .int (nI 0), .int (nI 0), .int (nI 0), .int (nI 0), .long 0, .long 0, .int (nI 0), .int (nI 0)])), (r0_19, .inl (cJ, 40, .inr (.inl (fun _ => 0)))), (r1_20, .inl (cJ, 40, .inr (.inl (fun _ => 0))))]) (wc := [(q_21, .inr (7, [.null, .null, .null, .null, .null, .int 0]))]) (np := 3) (As := [.ref q_2, .ref q_12, .ref q_1]) (rest := [.ref q_21, .ref aX]) (c_H_init l D cI cJ cB cZ q_21 q_2 q_12 q_1 ) km_X_59 ki_H_init kz_H kk_H_init (by decide +kernel) rfl S hW hA ⟨Nat.le_of_ble_eq_true rfl, Nat.le_of_ble_eq_true rfl⟩ ⟨Nat.le_of_ble_eq_true rfl, Nat.le_of_ble_eq_true rfl⟩ [21] [0, 1, 2, 3, 4, 5, 6, 7, 8, 9, 10, 11, 12, 13, 14, 15, 16, 17, 18, 19, 20] rfl (by decide) rfl (by decide) (by decide) rfl hl.1 rfl (Nat.le_of_ble_eq_true rfl) d_X_init_111 (fun u H locs hp hW => ?_)
  obtain ⟨h0_22, aU_23, u0_24, u1_25, u2_26, u3_27, u4_28, rfl⟩ := hp
  have hW : Wd D (tyl cI cJ cB cZ) A s s.heap H locs [(aX, .inr (9, [.ref q_1, .ref q_2, .ref q_8, .ref q_10, .ref q_12, .ref q_18, .null, .null, .int 0])), (q_1, .inr (0, [.int (nI 0), .int (-1)])), (q_2, .inr (1, [.ref c0_3, .ref c1_4, .ref c2_5, .ref c3_6, .ref c4_7])), (c0_3, .inl (cI, 21092, .inl (fun _ => 0))), (c1_4, .inl (cI, 21092, .inl (fun _ => 0))), (c2_5, .inl (cI, 21092, .inl (fun _ => 0))), (c3_6, .inl (cI, 21092, .inl (fun _ => 0))), (c4_7, .inl (cI, 21092, .inl (fun _ => 0))), (q_8, .inr (2, [.ref p0_9, .int (nI 0), .int (nI 0)])), (p0_9, .inl (cB, 4096, .inl (fun _ => 0))), (q_10, .inr (3, [.ref q_1, .ref t0_11, .int (nI 0), .int (nI 0), .int (nI 0), .int (nI 0), .long 0, .long 0])), (t0_11, .inl (cB, 8192, .inl (fun _ => 0))), (q_12, .inr (4, [.ref q_2, .ref k0_13, .ref k1_14, .ref k2_15, .ref k3_16, .ref k4_17, .int (nI 0), .int (nI 0)])), (k0_13, .inl (cJ, 48, .inr (.inl (fun _ => 0)))), (k1_14, .inl (cJ, 48, .inr (.inl (fun _ => 0)))), (k2_15, .inl (cI, 48, .inl (fun _ => 0))), (k3_16, .inl (cI, 48, .inl (fun _ => 0))), (k4_17, .inl (cZ, 48, .inl (fun _ => 0))), (q_18, .inr (5, [.ref q_10, .ref q_2, .ref q_12, .ref q_1, .ref r0_19, .ref r1_20, .int (nI 0), .int (nI 0), .int (nI 0), .int (nI 0), .int (nI 0), .int (nI 0), .int (nI 0), .long 0, .long 0, .int (nI 0), .int (nI 0)])), (r0_19, .inl (cJ, 40, .inr (.inl (fun _ => 0)))), (r1_20, .inl (cJ, 40, .inr (.inl (fun _ => 0)))), (q_21, .inr (7, [.ref q_2, .ref q_12, .ref q_1, .ref aU_23, .ref h0_22, .int (nI 0)])), (h0_22, .inl (cI, 40, .inl (fun _ => 0))), (aU_23, .inr (6, [.ref q_2, .ref u0_24, .ref u1_25, .ref u2_26, .ref u3_27, .ref u4_28, .int (-1), .int (nI 0), .int (nI 0), .int (nI 0), .int (nI 0)])), (u0_24, .inl (cI, 602, .inl (fun _ => 0))), (u1_25, .inl (cI, 602, .inl (fun _ => 0))), (u2_26, .inl (cI, 602, .inl (fun _ => 0))), (u3_27, .inl (cI, 602, .inl (fun _ => 0))), (u4_28, .inl (cI, 602, .inl (fun _ => 0)))] := hW
  refine g_putF (ws2 := [(aX, .inr (9, [.ref q_1, .ref q_2, .ref q_8, .ref q_10, .ref q_12, .ref q_18, .ref q_21, .null, .int 0])), (q_1, .inr (0, [.int (nI 0), .int (-1)])), (q_2, .inr (1, [.ref c0_3, .ref c1_4, .ref c2_5, .ref c3_6, .ref c4_7])), (c0_3, .inl (cI, 21092, .inl (fun _ => 0))), (c1_4, .inl (cI, 21092, .inl (fun _ => 0))), (c2_5, .inl (cI, 21092, .inl (fun _ => 0))), (c3_6, .inl (cI, 21092, .inl (fun _ => 0))), (c4_7, .inl (cI, 21092, .inl (fun _ => 0))), (q_8, .inr (2, [.ref p0_9, .int (nI 0), .int (nI 0)])), (p0_9, .inl (cB, 4096, .inl (fun _ => 0))), (q_10, .inr (3, [.ref q_1, .ref t0_11, .int (nI 0), .int (nI 0), .int (nI 0), .int (nI 0), .long 0, .long 0])), (t0_11, .inl (cB, 8192, .inl (fun _ => 0))), (q_12, .inr (4, [.ref q_2, .ref k0_13, .ref k1_14, .ref k2_15, .ref k3_16, .ref k4_17, .int (nI 0), .int (nI 0)])), (k0_13, .inl (cJ, 48, .inr (.inl (fun _ => 0)))), (k1_14, .inl (cJ, 48, .inr (.inl (fun _ => 0)))), (k2_15, .inl (cI, 48, .inl (fun _ => 0))), (k3_16, .inl (cI, 48, .inl (fun _ => 0))), (k4_17, .inl (cZ, 48, .inl (fun _ => 0))), (q_18, .inr (5, [.ref q_10, .ref q_2, .ref q_12, .ref q_1, .ref r0_19, .ref r1_20, .int (nI 0), .int (nI 0), .int (nI 0), .int (nI 0), .int (nI 0), .int (nI 0), .int (nI 0), .long 0, .long 0, .int (nI 0), .int (nI 0)])), (r0_19, .inl (cJ, 40, .inr (.inl (fun _ => 0)))), (r1_20, .inl (cJ, 40, .inr (.inl (fun _ => 0)))), (q_21, .inr (7, [.ref q_2, .ref q_12, .ref q_1, .ref aU_23, .ref h0_22, .int (nI 0)])), (h0_22, .inl (cI, 40, .inl (fun _ => 0))), (aU_23, .inr (6, [.ref q_2, .ref u0_24, .ref u1_25, .ref u2_26, .ref u3_27, .ref u4_28, .int (-1), .int (nI 0), .int (nI 0), .int (nI 0), .int (nI 0)])), (u0_24, .inl (cI, 602, .inl (fun _ => 0))), (u1_25, .inl (cI, 602, .inl (fun _ => 0))), (u2_26, .inl (cI, 602, .inl (fun _ => 0))), (u3_27, .inl (cI, 602, .inl (fun _ => 0))), (u4_28, .inl (cI, 602, .inl (fun _ => 0)))]) i_X ft_X ft_X_ok n_X S hW 0 rfl rfl 6 (by decide) kf_X_62 rfl hin rfl rfl rfl (Nat.le_of_ble_eq_true rfl) rfl d_X_init_114 (fun H locs hW => ?_)
  refine lv_aload_n S.1 S.2.1 d_X_init_117 rfl (lv_at hl 0 rfl) ?_
  refine g_new (ci := 8) (fs := [.null, .null, .null, .null, .null, .null, .int 0, .int 0]) i_I ft_I ft_I_ok S hW hA kc_X_66 kn_I kz_I rfl (dv_I) (Nat.le_of_ble_eq_true rfl) (Nat.le_of_ble_eq_true rfl) d_X_init_118 (fun q_29 H hW => ?_)
  have hW : Wd D (tyl cI cJ cB cZ) A s s.heap H _ [(aX, .inr (9, [.ref q_1, .ref q_2, .ref q_8, .ref q_10, .ref q_12, .ref q_18, .ref q_21, .null, .int 0])), (q_1, .inr (0, [.int (nI 0), .int (-1)])), (q_2, .inr (1, [.ref c0_3, .ref c1_4, .ref c2_5, .ref c3_6, .ref c4_7])), (c0_3, .inl (cI, 21092, .inl (fun _ => 0))), (c1_4, .inl (cI, 21092, .inl (fun _ => 0))), (c2_5, .inl (cI, 21092, .inl (fun _ => 0))), (c3_6, .inl (cI, 21092, .inl (fun _ => 0))), (c4_7, .inl (cI, 21092, .inl (fun _ => 0))), (q_8, .inr (2, [.ref p0_9, .int (nI 0), .int (nI 0)])), (p0_9, .inl (cB, 4096, .inl (fun _ => 0))), (q_10, .inr (3, [.ref q_1, .ref t0_11, .int (nI 0), .int (nI 0), .int (nI 0), .int (nI 0), .long 0, .long 0])), (t0_11, .inl (cB, 8192, .inl (fun _ => 0))), (q_12, .inr (4, [.ref q_2, .ref k0_13, .ref k1_14, .ref k2_15, .ref k3_16, .ref k4_17, .int (nI 0), .int (nI 0)])), (k0_13, .inl (cJ, 48, .inr (.inl (fun _ => 0)))), (k1_14, .inl (cJ, 48, .inr (.inl (fun _ => 0)))), (k2_15, .inl (cI, 48, .inl (fun _ => 0))), (k3_16, .inl (cI, 48, .inl (fun _ => 0))), (k4_17, .inl (cZ, 48, .inl (fun _ => 0))), (q_18, .inr (5, [.ref q_10, .ref q_2, .ref q_12, .ref q_1, .ref r0_19, .ref r1_20, .int (nI 0), .int (nI 0), .int (nI 0), .int (nI 0), .int (nI 0), .int (nI 0), .int (nI 0), .long 0, .long 0, .int (nI 0), .int (nI 0)])), (r0_19, .inl (cJ, 40, .inr (.inl (fun _ => 0)))), (r1_20, .inl (cJ, 40, .inr (.inl (fun _ => 0)))), (q_21, .inr (7, [.ref q_2, .ref q_12, .ref q_1, .ref aU_23, .ref h0_22, .int (nI 0)])), (h0_22, .inl (cI, 40, .inl (fun _ => 0))), (aU_23, .inr (6, [.ref q_2, .ref u0_24, .ref u1_25, .ref u2_26, .ref u3_27, .ref u4_28, .int (-1), .int (nI 0), .int (nI 0), .int (nI 0), .int (nI 0)])), (u0_24, .inl (cI, 602, .inl (fun _ => 0))), (u1_25, .inl (cI, 602, .inl (fun _ => 0))), (u2_26, .inl (cI, 602, .inl (fun _ => 0))), (u3_27, .inl (cI, 602, .inl (fun _ => 0))), (u4_28, .inl (cI, 602, .inl (fun _ => 0))), (q_29, .inr (8, [.null, .null, .null, .null, .null, .null, .int 0, .int 0]))] := hW
  refine lv_dup S.1 S.2.1 d_X_init_121 rfl ?_
  refine lv_aload_n S.1 S.2.1 d_X_init_122 rfl (lv_at hl 0 rfl) ?_
  refine g_get i_X S hW 0 rfl rfl 1 (by decide) kf_X_19 rfl d_X_init_123 ?_
  refine lv_aload_n S.1 S.2.1 d_X_init_126 rfl (lv_at hl 0 rfl) ?_
  refine g_get i_X S hW 0 rfl rfl 4 (by decide) kf_X_44 rfl d_X_init_127 ?_
  refine lv_aload_n S.1 S.2.1 d_X_init_130 rfl (lv_at hl 0 rfl) ?_
  refine g_get i_X S hW 0 rfl rfl 2 (by decide) kf_X_26 rfl d_X_init_131 ?_
  refine callI_v (wr := [(aX, .inr (9, [.ref q_1, .ref q_2, .ref q_8, .ref q_10, .ref q_12, .ref q_18, .ref q_21, .null, .int 0])), (q_1, .inr (0, [.int (nI 0), .int (-1)])), (q_2, .inr (1, [.ref c0_3, .ref c1_4, .ref c2_5, .ref c3_6, .ref c4_7])), (c0_3, .inl (cI, 21092, .inl (fun _ => 0))), (c1_4, .inl (cI, 21092, .inl (fun _ => 0))), (c2_5, .inl (cI, 21092, .inl (fun _ => 0))), (c3_6, .inl (cI, 21092, .inl (fun _ => 0))), (c4_7, .inl (cI, 21092, .inl (fun _ => 0))), (q_8, .inr (2, [.ref p0_9, .int (nI 0), .int (nI 0)])), (p0_9, .inl (cB, 4096, .inl (fun _ => 0))), (q_10, .inr (3, [.ref q_1, .ref t0_11, .int (nI 0), .int (nI 0), .int (nI 0), .int (nI 0), .long 0, .long 0])), (t0_11, .inl (cB, 8192, .inl (fun _ => 0))), (q_12, .inr (4, [.ref q_2, .ref k0_13, .ref k1_14, .ref k2_15, .ref k3_16, .ref k4_17, .int (nI 0), .int (nI 0)])), (k0_13, .inl (cJ, 48, .inr (.inl (fun _ => 0)))), (k1_14, .inl (cJ, 48, .inr (.inl (fun _ => 0)))), (k2_15, .inl (cI, 48, .inl (fun _ => 0))), (k3_16, .inl (cI, 48, .inl (fun _ => 0))), (k4_17, .inl (cZ, 48, .inl (fun _ => 0))), (q_18, .inr (5, [.ref q_10, .ref q_2, .ref q_12, .ref q_1, .ref r0_19, .ref r1_20, .int (nI 0), .int (nI 0), .int (nI 0), .int (nI 0), .int (nI 0), .int (nI 0), .int (nI 0), .long 0, .long 0, .int (nI 0), .int (nI 0)])), (r0_19, .inl (cJ, 40, .inr (.inl (fun _ => 0)))), (r1_20, .inl (cJ, 40, .inr (.inl (fun _ => 0)))), (q_21, .inr (7, [.ref q_2, .ref q_12, .ref q_1, .ref aU_23, .ref h0_22, .int (nI 0)])), (h0_22, .inl (cI, 40, .inl (fun _ => 0))), (aU_23, .inr (6, [.ref q_2, .ref u0_24, .ref u1_25, .ref u2_26, .ref u3_27, .ref u4_28, .int (-1), .int (nI 0), .int (nI 0), .int (nI 0), .int (nI 0)])), (u0_24, .inl (cI, 602, .inl (fun _ => 0))), (u1_25, .inl (cI, 602, .inl (fun _ => 0))), (u2_26, .inl (cI, 602, .inl (fun _ => 0))), (u3_27, .inl (cI, 602, .inl (fun _ => 0))), (u4_28, .inl (cI, 602, .inl (fun _ => 0)))]) (wc := [(q_29, .inr (8, [.null, .null, .null, .null, .null, .null, .int 0, .int 0]))]) (np := 3) (As := [.ref q_2, .ref q_12, .ref q_8]) (rest := [.ref q_29, .ref aX]) (c_I_init l D cI cJ cB cZ q_29 q_2 q_12 q_8 ) km_X_68 ki_I_init kz_I kk_I_init (by decide +kernel) rfl S hW hA ⟨Nat.le_of_ble_eq_true rfl, Nat.le_of_ble_eq_true rfl⟩ ⟨Nat.le_of_ble_eq_true rfl, Nat.le_of_ble_eq_true rfl⟩ [29] [0, 1, 2, 3, 4, 5, 6, 7, 8, 9, 10, 11, 12, 13, 14, 15, 16, 17, 18, 19, 20, 21, 22, 23, 24, 25, 26, 27, 28] rfl (by decide) rfl (by decide) (by decide) rfl hl.1 rfl (Nat.le_of_ble_eq_true rfl) d_X_init_134 (fun u H locs hp hW => ?_)
  obtain ⟨i0_30, i1_31, i2_32, rfl⟩ := hp
  have hW : Wd D (tyl cI cJ cB cZ) A s s.heap H locs [(aX, .inr (9, [.ref q_1, .ref q_2, .ref q_8, .ref q_10, .ref q_12, .ref q_18, .ref q_21, .null, .int 0])), (q_1, .inr (0, [.int (nI 0), .int (-1)])), (q_2, .inr (1, [.ref c0_3, .ref c1_4, .ref c2_5, .ref c3_6, .ref c4_7])), (c0_3, .inl (cI, 21092, .inl (fun _ => 0))), (c1_4, .inl (cI, 21092, .inl (fun _ => 0))), (c2_5, .inl (cI, 21092, .inl (fun _ => 0))), (c3_6, .inl (cI, 21092, .inl (fun _ => 0))), (c4_7, .inl (cI, 21092, .inl (fun _ => 0))), (q_8, .inr (2, [.ref p0_9, .int (nI 0), .int (nI 0)])), (p0_9, .inl (cB, 4096, .inl (fun _ => 0))), (q_10, .inr (3, [.ref q_1, .ref t0_11, .int (nI 0), .int (nI 0), .int (nI 0), .int (nI 0), .long 0, .long 0])), (t0_11, .inl (cB, 8192, .inl (fun _ => 0))), (q_12, .inr (4, [.ref q_2, .ref k0_13, .ref k1_14, .ref k2_15, .ref k3_16, .ref k4_17, .int (nI 0), .int (nI 0)])), (k0_13, .inl (cJ, 48, .inr (.inl (fun _ => 0)))), (k1_14, .inl (cJ, 48, .inr (.inl (fun _ => 0)))), (k2_15, .inl (cI, 48, .inl (fun _ => 0))), (k3_16, .inl (cI, 48, .inl (fun _ => 0))), (k4_17, .inl (cZ, 48, .inl (fun _ => 0))), (q_18, .inr (5, [.ref q_10, .ref q_2, .ref q_12, .ref q_1, .ref r0_19, .ref r1_20, .int (nI 0), .int (nI 0), .int (nI 0), .int (nI 0), .int (nI 0), .int (nI 0), .int (nI 0), .long 0, .long 0, .int (nI 0), .int (nI 0)])), (r0_19, .inl (cJ, 40, .inr (.inl (fun _ => 0)))), (r1_20, .inl (cJ, 40, .inr (.inl (fun _ => 0)))), (q_21, .inr (7, [.ref q_2, .ref q_12, .ref q_1, .ref aU_23, .ref h0_22, .int (nI 0)])), (h0_22, .inl (cI, 40, .inl (fun _ => 0))), (aU_23, .inr (6, [.ref q_2, .ref u0_24, .ref u1_25, .ref u2_26, .ref u3_27, .ref u4_28, .int (-1), .int (nI 0), .int (nI 0), .int (nI 0), .int (nI 0)])), (u0_24, .inl (cI, 602, .inl (fun _ => 0))), (u1_25, .inl (cI, 602, .inl (fun _ => 0))), (u2_26, .inl (cI, 602, .inl (fun _ => 0))), (u3_27, .inl (cI, 602, .inl (fun _ => 0))), (u4_28, .inl (cI, 602, .inl (fun _ => 0))), (q_29, .inr (8, [.ref q_2, .ref q_12, .ref q_8, .ref i0_30, .ref i1_31, .ref i2_32, .int (nI 0), .int (nI 0)])), (i0_30, .inl (cZ, 300, .inl (fun _ => 0))), (i1_31, .inl (cI, 600, .inl (fun _ => 0))), (i2_32, .inl (cI, 600, .inl (fun _ => 0)))] := hW
  refine g_putF (ws2 := [(aX, .inr (9, [.ref q_1, .ref q_2, .ref q_8, .ref q_10, .ref q_12, .ref q_18, .ref q_21, .ref q_29, .int 0])), (q_1, .inr (0, [.int (nI 0), .int (-1)])), (q_2, .inr (1, [.ref c0_3, .ref c1_4, .ref c2_5, .ref c3_6, .ref c4_7])), (c0_3, .inl (cI, 21092, .inl (fun _ => 0))), (c1_4, .inl (cI, 21092, .inl (fun _ => 0))), (c2_5, .inl (cI, 21092, .inl (fun _ => 0))), (c3_6, .inl (cI, 21092, .inl (fun _ => 0))), (c4_7, .inl (cI, 21092, .inl (fun _ => 0))), (q_8, .inr (2, [.ref p0_9, .int (nI 0), .int (nI 0)])), (p0_9, .inl (cB, 4096, .inl (fun _ => 0))), (q_10, .inr (3, [.ref q_1, .ref t0_11, .int (nI 0), .int (nI 0), .int (nI 0), .int (nI 0), .long 0, .long 0])), (t0_11, .inl (cB, 8192, .inl (fun _ => 0))), (q_12, .inr (4, [.ref q_2, .ref k0_13, .ref k1_14, .ref k2_15, .ref k3_16, .ref k4_17, .int (nI 0), .int (nI 0)])), (k0_13, .inl (cJ, 48, .inr (.inl (fun _ => 0)))), (k1_14, .inl (cJ, 48, .inr (.inl (fun _ => 0)))), (k2_15, .inl (cI, 48, .inl (fun _ => 0))), (k3_16, .inl (cI, 48, .inl (fun _ => 0))), (k4_17, .inl (cZ, 48, .inl (fun _ => 0))), (q_18, .inr (5, [.ref q_10, .ref q_2, .ref q_12, .ref q_1, .ref r0_19, .ref r1_20, .int (nI 0), .int (nI 0), .int (nI 0), .int (nI 0), .int (nI 0), .int (nI 0), .int (nI 0), .long 0, .long 0, .int (nI 0), .int (nI 0)])), (r0_19, .inl (cJ, 40, .inr (.inl (fun _ => 0)))), (r1_20, .inl (cJ, 40, .inr (.inl (fun _ => 0)))), (q_21, .inr (7, [.ref q_2, .ref q_12, .ref q_1, .ref aU_23, .ref h0_22, .int (nI 0)])), (h0_22, .inl (cI, 40, .inl (fun _ => 0))), (aU_23, .inr (6, [.ref q_2, .ref u0_24, .ref u1_25, .ref u2_26, .ref u3_27, .ref u4_28, .int (-1), .int (nI 0), .int (nI 0), .int (nI 0), .int (nI 0)])), (u0_24, .inl (cI, 602, .inl (fun _ => 0))), (u1_25, .inl (cI, 602, .inl (fun _ => 0))), (u2_26, .inl (cI, 602, .inl (fun _ => 0))), (u3_27, .inl (cI, 602, .inl (fun _ => 0))), (u4_28, .inl (cI, 602, .inl (fun _ => 0))), (q_29, .inr (8, [.ref q_2, .ref q_12, .ref q_8, .ref i0_30, .ref i1_31, .ref i2_32, .int (nI 0), .int (nI 0)])), (i0_30, .inl (cZ, 300, .inl (fun _ => 0))), (i1_31, .inl (cI, 600, .inl (fun _ => 0))), (i2_32, .inl (cI, 600, .inl (fun _ => 0)))]) i_X ft_X ft_X_ok n_X S hW 0 rfl rfl 7 (by decide) kf_X_71 rfl hin rfl rfl rfl (Nat.le_of_ble_eq_true rfl) rfl d_X_init_137 (fun H locs hW => ?_)
  refine lv_aload_n S.1 S.2.1 d_X_init_140 rfl (lv_at hl 0 rfl) ?_
  refine lv_iconst (v := (nI 0)) S.1 S.2.1 d_X_init_141 (by decide) ?_
  refine g_put (ws2 := [(aX, .inr (9, [.ref q_1, .ref q_2, .ref q_8, .ref q_10, .ref q_12, .ref q_18, .ref q_21, .ref q_29, .int (nI 0)])), (q_1, .inr (0, [.int (nI 0), .int (-1)])), (q_2, .inr (1, [.ref c0_3, .ref c1_4, .ref c2_5, .ref c3_6, .ref c4_7])), (c0_3, .inl (cI, 21092, .inl (fun _ => 0))), (c1_4, .inl (cI, 21092, .inl (fun _ => 0))), (c2_5, .inl (cI, 21092, .inl (fun _ => 0))), (c3_6, .inl (cI, 21092, .inl (fun _ => 0))), (c4_7, .inl (cI, 21092, .inl (fun _ => 0))), (q_8, .inr (2, [.ref p0_9, .int (nI 0), .int (nI 0)])), (p0_9, .inl (cB, 4096, .inl (fun _ => 0))), (q_10, .inr (3, [.ref q_1, .ref t0_11, .int (nI 0), .int (nI 0), .int (nI 0), .int (nI 0), .long 0, .long 0])), (t0_11, .inl (cB, 8192, .inl (fun _ => 0))), (q_12, .inr (4, [.ref q_2, .ref k0_13, .ref k1_14, .ref k2_15, .ref k3_16, .ref k4_17, .int (nI 0), .int (nI 0)])), (k0_13, .inl (cJ, 48, .inr (.inl (fun _ => 0)))), (k1_14, .inl (cJ, 48, .inr (.inl (fun _ => 0)))), (k2_15, .inl (cI, 48, .inl (fun _ => 0))), (k3_16, .inl (cI, 48, .inl (fun _ => 0))), (k4_17, .inl (cZ, 48, .inl (fun _ => 0))), (q_18, .inr (5, [.ref q_10, .ref q_2, .ref q_12, .ref q_1, .ref r0_19, .ref r1_20, .int (nI 0), .int (nI 0), .int (nI 0), .int (nI 0), .int (nI 0), .int (nI 0), .int (nI 0), .long 0, .long 0, .int (nI 0), .int (nI 0)])), (r0_19, .inl (cJ, 40, .inr (.inl (fun _ => 0)))), (r1_20, .inl (cJ, 40, .inr (.inl (fun _ => 0)))), (q_21, .inr (7, [.ref q_2, .ref q_12, .ref q_1, .ref aU_23, .ref h0_22, .int (nI 0)])), (h0_22, .inl (cI, 40, .inl (fun _ => 0))), (aU_23, .inr (6, [.ref q_2, .ref u0_24, .ref u1_25, .ref u2_26, .ref u3_27, .ref u4_28, .int (-1), .int (nI 0), .int (nI 0), .int (nI 0), .int (nI 0)])), (u0_24, .inl (cI, 602, .inl (fun _ => 0))), (u1_25, .inl (cI, 602, .inl (fun _ => 0))), (u2_26, .inl (cI, 602, .inl (fun _ => 0))), (u3_27, .inl (cI, 602, .inl (fun _ => 0))), (u4_28, .inl (cI, 602, .inl (fun _ => 0))), (q_29, .inr (8, [.ref q_2, .ref q_12, .ref q_8, .ref i0_30, .ref i1_31, .ref i2_32, .int (nI 0), .int (nI 0)])), (i0_30, .inl (cZ, 300, .inl (fun _ => 0))), (i1_31, .inl (cI, 600, .inl (fun _ => 0))), (i2_32, .inl (cI, 600, .inl (fun _ => 0)))]) i_X ft_X ft_X_ok n_X S hW 0 rfl rfl 8 (by decide) kf_X_75 rfl rfl rfl (Nat.le_of_ble_eq_true rfl) rfl d_X_init_142 (fun H locs hW => ?_)
  exact ret _ _ _ _ _ d_X_init_145 ⟨_, _, _, _, _, _, _, _, _, _, _, _, _, _, _, _, _, _, _, _, _, _, _, _, _, _, _, _, _, _, _, _, rfl⟩ hW
theorem d_M_init_0 : decode b_M_init 0 = .ok (.aload_n 0, 1) := by decide +kernel
theorem d_M_init_1 : decode b_M_init 1 = .ok (.invokespecial 1, 3) := by decide +kernel
theorem d_M_init_4 : decode b_M_init 4 = .ok (.aload_n 0, 1) := by decide +kernel
theorem d_M_init_5 : decode b_M_init 5 = .ok (.sipush 8192, 3) := by decide +kernel
theorem d_M_init_8 : decode b_M_init 8 = .ok (.newarray .int, 2) := by decide +kernel
theorem d_M_init_10 : decode b_M_init 10 = .ok (.putfield 7, 3) := by decide +kernel
theorem d_M_init_13 : decode b_M_init 13 = .ok (.aload_n 0, 1) := by decide +kernel
theorem d_M_init_14 : decode b_M_init 14 = .ok (.iconst (-1), 1) := by decide +kernel
theorem d_M_init_15 : decode b_M_init 15 = .ok (.putfield 13, 3) := by decide +kernel
theorem d_M_init_18 : decode b_M_init 18 = .ok (.aload_n 0, 1) := by decide +kernel
theorem d_M_init_19 : decode b_M_init 19 = .ok (.sipush 4096, 3) := by decide +kernel
theorem d_M_init_22 : decode b_M_init 22 = .ok (.newarray .int, 2) := by decide +kernel
theorem d_M_init_24 : decode b_M_init 24 = .ok (.putfield 17, 3) := by decide +kernel
theorem d_M_init_27 : decode b_M_init 27 = .ok (.aload_n 0, 1) := by decide +kernel
theorem d_M_init_28 : decode b_M_init 28 = .ok (.bipush 48, 2) := by decide +kernel
theorem d_M_init_30 : decode b_M_init 30 = .ok (.newarray .long, 2) := by decide +kernel
theorem d_M_init_32 : decode b_M_init 32 = .ok (.putfield 20, 3) := by decide +kernel
theorem d_M_init_35 : decode b_M_init 35 = .ok (.aload_n 0, 1) := by decide +kernel
theorem d_M_init_36 : decode b_M_init 36 = .ok (.bipush 48, 2) := by decide +kernel
theorem d_M_init_38 : decode b_M_init 38 = .ok (.newarray .long, 2) := by decide +kernel
theorem d_M_init_40 : decode b_M_init 40 = .ok (.putfield 24, 3) := by decide +kernel
theorem d_M_init_43 : decode b_M_init 43 = .ok (.aload_n 0, 1) := by decide +kernel
theorem d_M_init_44 : decode b_M_init 44 = .ok (.ldc 27, 2) := by decide +kernel
theorem d_M_init_46 : decode b_M_init 46 = .ok (.newarray .int, 2) := by decide +kernel
theorem d_M_init_48 : decode b_M_init 48 = .ok (.putfield 28, 3) := by decide +kernel
theorem d_M_init_51 : decode b_M_init 51 = .ok (.aload_n 0, 1) := by decide +kernel
theorem d_M_init_52 : decode b_M_init 52 = .ok (.bipush 48, 2) := by decide +kernel
theorem d_M_init_54 : decode b_M_init 54 = .ok (.newarray .int, 2) := by decide +kernel
theorem d_M_init_56 : decode b_M_init 56 = .ok (.putfield 31, 3) := by decide +kernel
theorem d_M_init_59 : decode b_M_init 59 = .ok (.aload_n 0, 1) := by decide +kernel
theorem d_M_init_60 : decode b_M_init 60 = .ok (.sipush 2000, 3) := by decide +kernel
theorem d_M_init_63 : decode b_M_init 63 = .ok (.newarray .int, 2) := by decide +kernel
theorem d_M_init_65 : decode b_M_init 65 = .ok (.putfield 34, 3) := by decide +kernel
theorem d_M_init_68 : decode b_M_init 68 = .ok (.aload_n 0, 1) := by decide +kernel
theorem d_M_init_69 : decode b_M_init 69 = .ok (.sipush 2000, 3) := by decide +kernel
theorem d_M_init_72 : decode b_M_init 72 = .ok (.newarray .int, 2) := by decide +kernel
theorem d_M_init_74 : decode b_M_init 74 = .ok (.putfield 37, 3) := by decide +kernel
theorem d_M_init_77 : decode b_M_init 77 = .ok (.aload_n 0, 1) := by decide +kernel
theorem d_M_init_78 : decode b_M_init 78 = .ok (.bipush 50, 2) := by decide +kernel
theorem d_M_init_80 : decode b_M_init 80 = .ok (.newarray .int, 2) := by decide +kernel
theorem d_M_init_82 : decode b_M_init 82 = .ok (.putfield 40, 3) := by decide +kernel
theorem d_M_init_85 : decode b_M_init 85 = .ok (.aload_n 0, 1) := by decide +kernel
theorem d_M_init_86 : decode b_M_init 86 = .ok (.bipush 50, 2) := by decide +kernel
theorem d_M_init_88 : decode b_M_init 88 = .ok (.newarray .int, 2) := by decide +kernel
theorem d_M_init_90 : decode b_M_init 90 = .ok (.putfield 43, 3) := by decide +kernel
theorem d_M_init_93 : decode b_M_init 93 = .ok (.aload_n 0, 1) := by decide +kernel
theorem d_M_init_94 : decode b_M_init 94 = .ok (.bipush 50, 2) := by decide +kernel
theorem d_M_init_96 : decode b_M_init 96 = .ok (.newarray .int, 2) := by decide +kernel
theorem d_M_init_98 : decode b_M_init 98 = .ok (.putfield 46, 3) := by decide +kernel
theorem d_M_init_101 : decode b_M_init 101 = .ok (.aload_n 0, 1) := by decide +kernel
theorem d_M_init_102 : decode b_M_init 102 = .ok (.bipush 50, 2) := by decide +kernel
theorem d_M_init_104 : decode b_M_init 104 = .ok (.newarray .int, 2) := by decide +kernel
theorem d_M_init_106 : decode b_M_init 106 = .ok (.putfield 49, 3) := by decide +kernel
theorem d_M_init_109 : decode b_M_init 109 = .ok (.aload_n 0, 1) := by decide +kernel
theorem d_M_init_110 : decode b_M_init 110 = .ok (.bipush 50, 2) := by decide +kernel
theorem d_M_init_112 : decode b_M_init 112 = .ok (.newarray .int, 2) := by decide +kernel
theorem d_M_init_114 : decode b_M_init 114 = .ok (.putfield 52, 3) := by decide +kernel
theorem d_M_init_117 : decode b_M_init 117 = .ok (.aload_n 0, 1) := by decide +kernel
theorem d_M_init_118 : decode b_M_init 118 = .ok (.bipush 50, 2) := by decide +kernel
theorem d_M_init_120 : decode b_M_init 120 = .ok (.newarray .int, 2) := by decide +kernel
theorem d_M_init_122 : decode b_M_init 122 = .ok (.putfield 55, 3) := by decide +kernel
theorem d_M_init_125 : decode b_M_init 125 = .ok (.aload_n 0, 1) := by decide +kernel
theorem d_M_init_126 : decode b_M_init 126 = .ok (.bipush 50, 2) := by decide +kernel
theorem d_M_init_128 : decode b_M_init 128 = .ok (.newarray .long, 2) := by decide +kernel
theorem d_M_init_130 : decode b_M_init 130 = .ok (.putfield 58, 3) := by decide +kernel
theorem d_M_init_133 : decode b_M_init 133 = .ok (.aload_n 0, 1) := by decide +kernel
theorem d_M_init_134 : decode b_M_init 134 = .ok (.bipush 50, 2) := by decide +kernel
theorem d_M_init_136 : decode b_M_init 136 = .ok (.newarray .long, 2) := by decide +kernel
theorem d_M_init_138 : decode b_M_init 138 = .ok (.putfield 61, 3) := by decide +kernel
theorem d_M_init_141 : decode b_M_init 141 = .ok (.aload_n 0, 1) := by decide +kernel
theorem d_M_init_142 : decode b_M_init 142 = .ok (.bipush 50, 2) := by decide +kernel
theorem d_M_init_144 : decode b_M_init 144 = .ok (.newarray .long, 2) := by decide +kernel
theorem d_M_init_146 : decode b_M_init 146 = .ok (.putfield 64, 3) := by decide +kernel
theorem d_M_init_149 : decode b_M_init 149 = .ok (.aload_n 0, 1) := by decide +kernel
theorem d_M_init_150 : decode b_M_init 150 = .ok (.bipush 50, 2) := by decide +kernel
theorem d_M_init_152 : decode b_M_init 152 = .ok (.newarray .long, 2) := by decide +kernel
theorem d_M_init_154 : decode b_M_init 154 = .ok (.putfield 67, 3) := by decide +kernel
theorem d_M_init_157 : decode b_M_init 157 = .ok (.aload_n 0, 1) := by decide +kernel
theorem d_M_init_158 : decode b_M_init 158 = .ok (.bipush 50, 2) := by decide +kernel
theorem d_M_init_160 : decode b_M_init 160 = .ok (.newarray .int, 2) := by decide +kernel
theorem d_M_init_162 : decode b_M_init 162 = .ok (.putfield 70, 3) := by decide +kernel
theorem d_M_init_165 : decode b_M_init 165 = .ok (.aload_n 0, 1) := by decide +kernel
theorem d_M_init_166 : decode b_M_init 166 = .ok (.ldc 73, 2) := by decide +kernel
theorem d_M_init_168 : decode b_M_init 168 = .ok (.newarray .int, 2) := by decide +kernel
theorem d_M_init_170 : decode b_M_init 170 = .ok (.putfield 74, 3) := by decide +kernel
theorem d_M_init_173 : decode b_M_init 173 = .ok (.aload_n 0, 1) := by decide +kernel
theorem d_M_init_174 : decode b_M_init 174 = .ok (.sipush 1000, 3) := by decide +kernel
theorem d_M_init_177 : decode b_M_init 177 = .ok (.newarray .int, 2) := by decide +kernel
theorem d_M_init_179 : decode b_M_init 179 = .ok (.putfield 77, 3) := by decide +kernel
theorem d_M_init_182 : decode b_M_init 182 = .ok (.aload_n 0, 1) := by decide +kernel
theorem d_M_init_183 : decode b_M_init 183 = .ok (.sipush 14000, 3) := by decide +kernel
theorem d_M_init_186 : decode b_M_init 186 = .ok (.newarray .int, 2) := by decide +kernel
theorem d_M_init_188 : decode b_M_init 188 = .ok (.putfield 80, 3) := by decide +kernel
theorem d_M_init_191 : decode b_M_init 191 = .ok (.aload_n 0, 1) := by decide +kernel
theorem d_M_init_192 : decode b_M_init 192 = .ok (.sipush 30000, 3) := by decide +kernel
theorem d_M_init_195 : decode b_M_init 195 = .ok (.newarray .int, 2) := by decide +kernel
theorem d_M_init_197 : decode b_M_init 197 = .ok (.putfield 83, 3) := by decide +kernel
theorem d_M_init_200 : decode b_M_init 200 = .ok (.aload_n 0, 1) := by decide +kernel
theorem d_M_init_201 : decode b_M_init 201 = .ok (.sipush 1400, 3) := by decide +kernel
theorem d_M_init_204 : decode b_M_init 204 = .ok (.newarray .int, 2) := by decide +kernel
theorem d_M_init_206 : decode b_M_init 206 = .ok (.putfield 86, 3) := by decide +kernel
theorem d_M_init_209 : decode b_M_init 209 = .ok (.aload_n 0, 1) := by decide +kernel
theorem d_M_init_210 : decode b_M_init 210 = .ok (.sipush 1400, 3) := by decide +kernel
theorem d_M_init_213 : decode b_M_init 213 = .ok (.newarray .int, 2) := by decide +kernel
theorem d_M_init_215 : decode b_M_init 215 = .ok (.putfield 89, 3) := by decide +kernel
theorem d_M_init_218 : decode b_M_init 218 = .ok (.aload_n 0, 1) := by decide +kernel
theorem d_M_init_219 : decode b_M_init 219 = .ok (.iconst (-1), 1) := by decide +kernel
theorem d_M_init_220 : decode b_M_init 220 = .ok (.putfield 92, 3) := by decide +kernel
theorem d_M_init_223 : decode b_M_init 223 = .ok (.aload_n 0, 1) := by decide +kernel
theorem d_M_init_224 : decode b_M_init 224 = .ok (.sipush 1400, 3) := by decide +kernel
theorem d_M_init_227 : decode b_M_init 227 = .ok (.newarray .int, 2) := by decide +kernel
theorem d_M_init_229 : decode b_M_init 229 = .ok (.putfield 95, 3) := by decide +kernel
theorem d_M_init_232 : decode b_M_init 232 = .ok (.aload_n 0, 1) := by decide +kernel
theorem d_M_init_233 : decode b_M_init 233 = .ok (.sipush 1400, 3) := by decide +kernel
theorem d_M_init_236 : decode b_M_init 236 = .ok (.newarray .int, 2) := by decide +kernel
theorem d_M_init_238 : decode b_M_init 238 = .ok (.putfield 98, 3) := by decide +kernel
theorem d_M_init_241 : decode b_M_init 241 = .ok (.aload_n 0, 1) := by decide +kernel
theorem d_M_init_242 : decode b_M_init 242 = .ok (.sipush 4200, 3) := by decide +kernel
theorem d_M_init_245 : decode b_M_init 245 = .ok (.newarray .int, 2) := by decide +kernel
theorem d_M_init_247 : decode b_M_init 247 = .ok (.putfield 101, 3) := by decide +kernel
theorem d_M_init_250 : decode b_M_init 250 = .ok (.return_, 1) := by decide +kernel
set_option maxHeartbeats 4000000 in
set_option maxRecDepth 100000 in
theorem c_M_init (l : Launch) (D : va_G) (cI cJ cB cZ : ClassId) (aM : Nat) : Cv l D (tyl cI cJ cB cZ) y_M_init b_M_init 1 ({ frames := 1, cells := 28, slots := 255462, locals := 20 } : Room) [.ref aM] [(aM, .inr (10, [.int 0, .null, .int 0, .int 0, .int 0, .int 0, .null, .int 0, .int 0, .null, .null, .null, .null, .int 0, .int 0, .int 0, .long 0, .long 0, .null, .null, .int 0, .int 0, .int 0, .int 0, .int 0, .int 0, .int 0, .int 0, .int 0, .null, .null, .null, .null, .null, .null, .null, .null, .int 0, .null, .null, .null, .int 0, .null, .int 0, .null, .null, .int 0, .null, .int 0, .null, .null, .int 0, .int 0, .int 0, .int 0, .int 0, .null, .null, .null, .int 0, .int 0]))] (fun u => ∃ (m_text : Nat) (m_paper : Nat) (m_firstHalf : Nat) (m_secondHalf : Nat) (m_stored : Nat) (m_proved : Nat) (m_written : Nat) (m_places : Nat) (m_levelKind : Nat) (m_levelStart : Nat) (m_levelApp : Nat) (m_levelHad : Nat) (m_levelScope : Nat) (m_levelId : Nat) (m_levelFirst : Nat) (m_levelSecond : Nat) (m_scopeFirst : Nat) (m_scopeSecond : Nat) (m_scopeId : Nat) (m_made : Nat) (m_typeOf : Nat) (m_tasks : Nat) (m_todo : Nat) (m_renamed : Nat) (m_bound : Nat) (m_markA : Nat) (m_markB : Nat) (m_line : Nat), u = [(aM, .inr (10, [.int 0, .ref m_text, .int 0, .int 0, .int 0, .int (-1), .ref m_paper, .int 0, .int 0, .ref m_firstHalf, .ref m_secondHalf, .ref m_stored, .ref m_proved, .int 0, .int 0, .int 0, .long 0, .long 0, .ref m_written, .ref m_places, .int 0, .int 0, .int 0, .int 0, .int 0, .int 0, .int 0, .int 0, .int 0, .ref m_levelKind, .ref m_levelStart, .ref m_levelApp, .ref m_levelHad, .ref m_levelScope, .ref m_levelId, .ref m_levelFirst, .ref m_levelSecond, .int 0, .ref m_scopeFirst, .ref m_scopeSecond, .ref m_scopeId, .int 0, .ref m_made, .int 0, .ref m_typeOf, .ref m_tasks, .int 0, .ref m_todo, .int 0, .ref m_renamed, .ref m_bound, .int 0, .int (-1), .int 0, .int 0, .int 0, .ref m_markA, .ref m_markB, .ref m_line, .int 0, .int 0])), (m_text, .inl (cI, 8192, .inl (fun _ => 0))), (m_paper, .inl (cI, 4096, .inl (fun _ => 0))), (m_firstHalf, .inl (cJ, 48, .inr (.inl (fun _ => 0)))), (m_secondHalf, .inl (cJ, 48, .inr (.inl (fun _ => 0)))), (m_stored, .inl (cI, 43680, .inl (fun _ => 0))), (m_proved, .inl (cI, 48, .inl (fun _ => 0))), (m_written, .inl (cI, 2000, .inl (fun _ => 0))), (m_places, .inl (cI, 2000, .inl (fun _ => 0))), (m_levelKind, .inl (cI, 50, .inl (fun _ => 0))), (m_levelStart, .inl (cI, 50, .inl (fun _ => 0))), (m_levelApp, .inl (cI, 50, .inl (fun _ => 0))), (m_levelHad, .inl (cI, 50, .inl (fun _ => 0))), (m_levelScope, .inl (cI, 50, .inl (fun _ => 0))), (m_levelId, .inl (cI, 50, .inl (fun _ => 0))), (m_levelFirst, .inl (cJ, 50, .inr (.inl (fun _ => 0)))), (m_levelSecond, .inl (cJ, 50, .inr (.inl (fun _ => 0)))), (m_scopeFirst, .inl (cJ, 50, .inr (.inl (fun _ => 0)))), (m_scopeSecond, .inl (cJ, 50, .inr (.inl (fun _ => 0)))), (m_scopeId, .inl (cI, 50, .inl (fun _ => 0))), (m_made, .inl (cI, 140000, .inl (fun _ => 0))), (m_typeOf, .inl (cI, 1000, .inl (fun _ => 0))), (m_tasks, .inl (cI, 14000, .inl (fun _ => 0))), (m_todo, .inl (cI, 30000, .inl (fun _ => 0))), (m_renamed, .inl (cI, 1400, .inl (fun _ => 0))), (m_bound, .inl (cI, 1400, .inl (fun _ => 0))), (m_markA, .inl (cI, 1400, .inl (fun _ => 0))), (m_markB, .inl (cI, 1400, .inl (fun _ => 0))), (m_line, .inl (cI, 4200, .inl (fun _ => 0)))]) := by
  refine met_v (own := "ProofReaderModel") (by decide) rfl (Nat.le_of_ble_eq_true rfl) ?_
  intro p e s m args below meth c A Q S hin hA ret ls hl hW
  have hl : lv_has ls 1 [(0, .ref aM)] := hl
  have hW : Wd D (tyl cI cJ cB cZ) A s s.heap s.heap [] [(aM, .inr (10, [.int 0, .null, .int 0, .int 0, .int 0, .int 0, .null, .int 0, .int 0, .null, .null, .null, .null, .int 0, .int 0, .int 0, .long 0, .long 0, .null, .null, .int 0, .int 0, .int 0, .int 0, .int 0, .int 0, .int 0, .int 0, .int 0, .null, .null, .null, .null, .null, .null, .null, .null, .int 0, .null, .null, .null, .int 0, .null, .int 0, .null, .null, .int 0, .null, .int 0, .null, .null, .int 0, .int 0, .int 0, .int 0, .int 0, .null, .null, .null, .int 0, .int 0]))] := hW
  have hin : meth.name = "<init>" := hin
  refine lv_aload_n S.1 S.2.1 d_M_init_0 rfl (lv_at hl 0 rfl) ?_
  refine g_objInit S km_M_1 hl.1 d_M_init_1 (by decide) (Nat.le_of_ble_eq_true rfl) ?_
  refine lv_aload_n S.1 S.2.1 d_M_init_4 rfl (lv_at hl 0 rfl) ?_
  refine lv_sipush (v := (nI 8192)) S.1 S.2.1 d_M_init_5 (by decide) ?_
  refine g_newa (atype := .int) (a0 := (8192, .inl (fun _ => 0))) S hW hA ka_int 0 rfl (fun _ => rfl) (nI_pos (by decide)) (nI_clamp (by decide)) (Nat.le_of_ble_eq_true rfl) (Nat.le_of_ble_eq_true rfl) (Nat.le_of_ble_eq_true rfl) d_M_init_8 (fun q_1 H hW => ?_)
  have hW : Wd D (tyl cI cJ cB cZ) A s s.heap H _ [(aM, .inr (10, [.int 0, .null, .int 0, .int 0, .int 0, .int 0, .null, .int 0, .int 0, .null, .null, .null, .null, .int 0, .int 0, .int 0, .long 0, .long 0, .null, .null, .int 0, .int 0, .int 0, .int 0, .int 0, .int 0, .int 0, .int 0, .int 0, .null, .null, .null, .null, .null, .null, .null, .null, .int 0, .null, .null, .null, .int 0, .null, .int 0, .null, .null, .int 0, .null, .int 0, .null, .null, .int 0, .int 0, .int 0, .int 0, .int 0, .null, .null, .null, .int 0, .int 0])), (q_1, .inl (cI, 8192, .inl (fun _ => 0)))] := hW
  refine g_putF (ws2 := [(aM, .inr (10, [.int 0, .ref q_1, .int 0, .int 0, .int 0, .int 0, .null, .int 0, .int 0, .null, .null, .null, .null, .int 0, .int 0, .int 0, .long 0, .long 0, .null, .null, .int 0, .int 0, .int 0, .int 0, .int 0, .int 0, .int 0, .int 0, .int 0, .null, .null, .null, .null, .null, .null, .null, .null, .int 0, .null, .null, .null, .int 0, .null, .int 0, .null, .null, .int 0, .null, .int 0, .null, .null, .int 0, .int 0, .int 0, .int 0, .int 0, .null, .null, .null, .int 0, .int 0])), (q_1, .inl (cI, 8192, .inl (fun _ => 0)))]) i_M ft_M ft_M_ok n_M S hW 0 rfl rfl 1 (by decide) kf_M_7 rfl hin rfl rfl rfl (Nat.le_of_ble_eq_true rfl) rfl d_M_init_10 (fun H locs hW => ?_)
  refine lv_aload_n S.1 S.2.1 d_M_init_13 rfl (lv_at hl 0 rfl) ?_
  refine lv_iconst (v := (-1)) S.1 S.2.1 d_M_init_14 (by decide) ?_
  refine g_put (ws2 := [(aM, .inr (10, [.int 0, .ref q_1, .int 0, .int 0, .int 0, .int (-1), .null, .int 0, .int 0, .null, .null, .null, .null, .int 0, .int 0, .int 0, .long 0, .long 0, .null, .null, .int 0, .int 0, .int 0, .int 0, .int 0, .int 0, .int 0, .int 0, .int 0, .null, .null, .null, .null, .null, .null, .null, .null, .int 0, .null, .null, .null, .int 0, .null, .int 0, .null, .null, .int 0, .null, .int 0, .null, .null, .int 0, .int 0, .int 0, .int 0, .int 0, .null, .null, .null, .int 0, .int 0])), (q_1, .inl (cI, 8192, .inl (fun _ => 0)))]) i_M ft_M ft_M_ok n_M S hW 0 rfl rfl 5 (by decide) kf_M_13 rfl rfl rfl (Nat.le_of_ble_eq_true rfl) rfl d_M_init_15 (fun H locs hW => ?_)
  refine lv_aload_n S.1 S.2.1 d_M_init_18 rfl (lv_at hl 0 rfl) ?_
  refine lv_sipush (v := (nI 4096)) S.1 S.2.1 d_M_init_19 (by decide) ?_
  refine g_newa (atype := .int) (a0 := (4096, .inl (fun _ => 0))) S hW hA ka_int 0 rfl (fun _ => rfl) (nI_pos (by decide)) (nI_clamp (by decide)) (Nat.le_of_ble_eq_true rfl) (Nat.le_of_ble_eq_true rfl) (Nat.le_of_ble_eq_true rfl) d_M_init_22 (fun q_2 H hW => ?_)
  have hW : Wd D (tyl cI cJ cB cZ) A s s.heap H _ [(aM, .inr (10, [.int 0, .ref q_1, .int 0, .int 0, .int 0, .int (-1), .null, .int 0, .int 0, .null, .null, .null, .null, .int 0, .int 0, .int 0, .long 0, .long 0, .null, .null, .int 0, .int 0, .int 0, .int 0, .int 0, .int 0, .int 0, .int 0, .int 0, .null, .null, .null, .null, .null, .null, .null, .null, .int 0, .null, .null, .null, .int 0, .null, .int 0, .null, .null, .int 0, .null, .int 0, .null, .null, .int 0, .int 0, .int 0, .int 0, .int 0, .null, .null, .null, .int 0, .int 0])), (q_1, .inl (cI, 8192, .inl (fun _ => 0))), (q_2, .inl (cI, 4096, .inl (fun _ => 0)))] := hW
  refine g_putF (ws2 := [(aM, .inr (10, [.int 0, .ref q_1, .int 0, .int 0, .int 0, .int (-1), .ref q_2, .int 0, .int 0, .null, .null, .null, .null, .int 0, .int 0, .int 0, .long 0, .long 0, .null, .null, .int 0, .int 0, .int 0, .int 0, .int 0, .int 0, .int 0, .int 0, .int 0, .null, .null, .null, .null, .null, .null, .null, .null, .int 0, .null, .null, .null, .int 0, .null, .int 0, .null, .null, .int 0, .null, .int 0, .null, .null, .int 0, .int 0, .int 0, .int 0, .int 0, .null, .null, .null, .int 0, .int 0])), (q_1, .inl (cI, 8192, .inl (fun _ => 0))), (q_2, .inl (cI, 4096, .inl (fun _ => 0)))]) i_M ft_M ft_M_ok n_M S hW 0 rfl rfl 6 (by decide) kf_M_17 rfl hin rfl rfl rfl (Nat.le_of_ble_eq_true rfl) rfl d_M_init_24 (fun H locs hW => ?_)
  refine lv_aload_n S.1 S.2.1 d_M_init_27 rfl (lv_at hl 0 rfl) ?_
  refine lv_bipush (v := (nI 48)) S.1 S.2.1 d_M_init_28 (by decide) ?_
  refine g_newa (atype := .long) (a0 := (48, .inr (.inl (fun _ => 0)))) S hW hA ka_long 1 rfl (fun _ => rfl) (nI_pos (by decide)) (nI_clamp (by decide)) (Nat.le_of_ble_eq_true rfl) (Nat.le_of_ble_eq_true rfl) (Nat.le_of_ble_eq_true rfl) d_M_init_30 (fun q_3 H hW => ?_)
  have hW : Wd D (tyl cI cJ cB cZ) A s s.heap H _ [(aM, .inr (10, [.int 0, .ref q_1, .int 0, .int 0, .int 0, .int (-1), .ref q_2, .int 0, .int 0, .null, .null, .null, .null, .int 0, .int 0, .int 0, .long 0, .long 0, .null, .null, .int 0, .int 0, .int 0, .int 0, .int 0, .int 0, .int 0, .int 0, .int 0, .null, .null, .null, .null, .null, .null, .null, .null, .int 0, .null, .null, .null, .int 0, .null, .int 0, .null, .null, .int 0, .null, .int 0, .null, .null, .int 0, .int 0, .int 0, .int 0, .int 0, .null, .null, .null, .int 0, .int 0])), (q_1, .inl (cI, 8192, .inl (fun _ => 0))), (q_2, .inl (cI, 4096, .inl (fun _ => 0))), (q_3, .inl (cJ, 48, .inr (.inl (fun _ => 0))))] := hW
  refine g_putF (ws2 := [(aM, .inr (10, [.int 0, .ref q_1, .int 0, .int 0, .int 0, .int (-1), .ref q_2, .int 0, .int 0, .ref q_3, .null, .null, .null, .int 0, .int 0, .int 0, .long 0, .long 0, .null, .null, .int 0, .int 0, .int 0, .int 0, .int 0, .int 0, .int 0, .int 0, .int 0, .null, .null, .null, .null, .null, .null, .null, .null, .int 0, .null, .null, .null, .int 0, .null, .int 0, .null, .null, .int 0, .null, .int 0, .null, .null, .int 0, .int 0, .int 0, .int 0, .int 0, .null, .null, .null, .int 0, .int 0])), (q_1, .inl (cI, 8192, .inl (fun _ => 0))), (q_2, .inl (cI, 4096, .inl (fun _ => 0))), (q_3, .inl (cJ, 48, .inr (.inl (fun _ => 0))))]) i_M ft_M ft_M_ok n_M S hW 0 rfl rfl 9 (by decide) kf_M_20 rfl hin rfl rfl rfl (Nat.le_of_ble_eq_true rfl) rfl d_M_init_32 (fun H locs hW => ?_)
  refine lv_aload_n S.1 S.2.1 d_M_init_35 rfl (lv_at hl 0 rfl) ?_
  refine lv_bipush (v := (nI 48)) S.1 S.2.1 d_M_init_36 (by decide) ?_
  refine g_newa (atype := .long) (a0 := (48, .inr (.inl (fun _ => 0)))) S hW hA ka_long 1 rfl (fun _ => rfl) (nI_pos (by decide)) (nI_clamp (by decide)) (Nat.le_of_ble_eq_true rfl) (Nat.le_of_ble_eq_true rfl) (Nat.le_of_ble_eq_true rfl) d_M_init_38 (fun q_4 H hW => ?_)
  have hW : Wd D (tyl cI cJ cB cZ) A s s.heap H _ [(aM, .inr (10, [.int 0, .ref q_1, .int 0, .int 0, .int 0, .int (-1), .ref q_2, .int 0, .int 0, .ref q_3, .null, .null, .null, .int 0, .int 0, .int 0, .long 0, .long 0, .null, .null, .int 0, .int 0, .int 0, .int 0, .int 0, .int 0, .int 0, .int 0, .int 0, .null, .null, .null, .null, .null, .null, .null, .null, .int 0, .null, .null, .null, .int 0, .null, .int 0, .null, .null, .int 0, .null, .int 0, .null, .null, .int 0, .int 0, .int 0, .int 0, .int 0, .null, .null, .null, .int 0, .int 0])), (q_1, .inl (cI, 8192, .inl (fun _ => 0))), (q_2, .inl (cI, 4096, .inl (fun _ => 0))), (q_3, .inl (cJ, 48, .inr (.inl (fun _ => 0)))), (q_4, .inl (cJ, 48, .inr (.inl (fun _ => 0))))] := hW
  refine g_putF (ws2 := [(aM, .inr (10, [.int 0, .ref q_1, .int 0, .int 0, .int 0, .int (-1), .ref q_2, .int 0, .int 0, .ref q_3, .ref q_4, .null, .null, .int 0, .int 0, .int 0, .long 0, .long 0, .null, .null, .int 0, .int 0, .int 0, .int 0, .int 0, .int 0, .int 0, .int 0, .int 0, .null, .null, .null, .null, .null, .null, .null, .null, .int 0, .null, .null, .null, .int 0, .null, .int 0, .null, .null, .int 0, .null, .int 0, .null, .null, .int 0, .int 0, .int 0, .int 0, .int 0, .null, .null, .null, .int 0, .int 0])), (q_1, .inl (cI, 8192, .inl (fun _ => 0))), (q_2, .inl (cI, 4096, .inl (fun _ => 0))), (q_3, .inl (cJ, 48, .inr (.inl (fun _ => 0)))), (q_4, .inl (cJ, 48, .inr (.inl (fun _ => 0))))]) i_M ft_M ft_M_ok n_M S hW 0 rfl rfl 10 (by decide) kf_M_24 rfl hin rfl rfl rfl (Nat.le_of_ble_eq_true rfl) rfl d_M_init_40 (fun H locs hW => ?_)
  refine lv_aload_n S.1 S.2.1 d_M_init_43 rfl (lv_at hl 0 rfl) ?_
  refine lv_ldc (v := 43680) S.1 S.2.1 S.2.2.2.1 (S.2.2.2.2 _ kq_M_27) d_M_init_44 ?_
  refine top_eq (y := nI 43680) (by decide) ?_
  refine g_newa (atype := .int) (a0 := (43680, .inl (fun _ => 0))) S hW hA ka_int 0 rfl (fun _ => rfl) (nI_pos (by decide)) (nI_clamp (by decide)) (Nat.le_of_ble_eq_true rfl) (Nat.le_of_ble_eq_true rfl) (Nat.le_of_ble_eq_true rfl) d_M_init_46 (fun q_5 H hW => ?_)
  have hW : Wd D (tyl cI cJ cB cZ) A s s.heap H _ [(aM, .inr (10, [.int 0, .ref q_1, .int 0, .int 0, .int 0, .int (-1), .ref q_2, .int 0, .int 0, .ref q_3, .ref q_4, .null, .null, .int 0, .int 0, .int 0, .long 0, .long 0, .null, .null, .int 0, .int 0, .int 0, .int 0, .int 0, .int 0, .int 0, .int 0, .int 0, .null, .null, .null, .null, .null, .null, .null, .null, .int 0, .null, .null, .null, .int 0, .null, .int 0, .null, .null, .int 0, .null, .int 0, .null, .null, .int 0, .int 0, .int 0, .int 0, .int 0, .null, .null, .null, .int 0, .int 0])), (q_1, .inl (cI, 8192, .inl (fun _ => 0))), (q_2, .inl (cI, 4096, .inl (fun _ => 0))), (q_3, .inl (cJ, 48, .inr (.inl (fun _ => 0)))), (q_4, .inl (cJ, 48, .inr (.inl (fun _ => 0)))), (q_5, .inl (cI, 43680, .inl (fun _ => 0)))] := hW
  refine g_putF (ws2 := [(aM, .inr (10, [.int 0, .ref q_1, .int 0, .int 0, .int 0, .int (-1), .ref q_2, .int 0, .int 0, .ref q_3, .ref q_4, .ref q_5, .null, .int 0, .int 0, .int 0, .long 0, .long 0, .null, .null, .int 0, .int 0, .int 0, .int 0, .int 0, .int 0, .int 0, .int 0, .int 0, .null, .null, .null, .null, .null, .null, .null, .null, .int 0, .null, .null, .null, .int 0, .null, .int 0, .null, .null, .int 0, .null, .int 0, .null, .null, .int 0, .int 0, .int 0, .int 0, .int 0, .null, .null, .null, .int 0, .int 0])), (q_1, .inl (cI, 8192, .inl (fun _ => 0))), (q_2, .inl (cI, 4096, .inl (fun _ => 0))), (q_3, .inl (cJ, 48, .inr (.inl (fun _ => 0)))), (q_4, .inl (cJ, 48, .inr (.inl (fun _ => 0)))), (q_5, .inl (cI, 43680, .inl (fun _ => 0)))]) i_M ft_M ft_M_ok n_M S hW 0 rfl rfl 11 (by decide) kf_M_28 rfl hin rfl rfl rfl (Nat.le_of_ble_eq_true rfl) rfl d_M_init_48 (fun H locs hW => ?_)
  refine lv_aload_n S.1 S.2.1 d_M_init_51 rfl (lv_at hl 0 rfl) ?_
  refine lv_bipush (v := (nI 48)) S.1 S.2.1 d_M_init_52 (by decide) ?_
  refine g_newa (atype := .int) (a0 := (48, .inl (fun _ => 0))) S hW hA ka_int 0 rfl (fun _ => rfl) (nI_pos (by decide)) (nI_clamp (by decide)) (Nat.le_of_ble_eq_true rfl) (Nat.le_of_ble_eq_true rfl) (Nat.le_of_ble_eq_true rfl) d_M_init_54 (fun q_6 H hW => ?_)
  have hW : Wd D (tyl cI cJ cB cZ) A s s.heap H _ [(aM, .inr (10, [.int 0, .ref q_1, .int 0, .int 0, .int 0, .int (-1), .ref q_2, .int 0, .int 0, .ref q_3, .ref q_4, .ref q_5, .null, .int 0, .int 0, .int 0, .long 0, .long 0, .null, .null, .int 0, .int 0, .int 0, .int 0, .int 0, .int 0, .int 0, .int 0, .int 0, .null, .null, .null, .null, .null, .null, .null, .null, .int 0, .null, .null, .null, .int 0, .null, .int 0, .null, .null, .int 0, .null, .int 0, .null, .null, .int 0, .int 0, .int 0, .int 0, .int 0, .null, .null, .null, .int 0, .int 0])), (q_1, .inl (cI, 8192, .inl (fun _ => 0))), (q_2, .inl (cI, 4096, .inl (fun _ => 0))), (q_3, .inl (cJ, 48, .inr (.inl (fun _ => 0)))), (q_4, .inl (cJ, 48, .inr (.inl (fun _ => 0)))), (q_5, .inl (cI, 43680, .inl (fun _ => 0))), (q_6, .inl (cI, 48, .inl (fun _ => 0)))] := hW
  refine g_putF (ws2 := [(aM, .inr (10, [.int 0, .ref q_1, .int 0, .int 0, .int 0, .int (-1), .ref q_2, .int 0, .int 0, .ref q_3, .ref q_4, .ref q_5, .ref q_6, .int 0, .int 0, .int 0, .long 0, .long 0, .null, .null, .int 0, .int 0, .int 0, .int 0, .int 0, .int 0, .int 0, .int 0, .int 0, .null, .null, .null, .null, .null, .null, .null, .null, .int 0, .null, .null, .null, .int 0, .null, .int 0, .null, .null, .int 0, .null, .int 0, .null, .null, .int 0, .int 0, .int 0, .int 0, .int 0, .null, .null, .null, .int 0, .int 0])), (q_1, .inl (cI, 8192, .inl (fun _ => 0))), (q_2, .inl (cI, 4096, .inl (fun _ => 0))), (q_3, .inl (cJ, 48, .inr (.inl (fun _ => 0)))), (q_4, .inl (cJ, 48, .inr (.inl (fun _ => 0)))), (q_5, .inl (cI, 43680, .inl (fun _ => 0))), (q_6, .inl (cI, 48, .inl (fun _ => 0)))]) i_M ft_M ft_M_ok n_M S hW 0 rfl rfl 12 (by decide) kf_M_31 rfl hin rfl rfl rfl (Nat.le_of_ble_eq_true rfl) rfl d_M_init_56 (fun H locs hW => ?_)
  refine lv_aload_n S.1 S.2.1 d_M_init_59 rfl (lv_at hl 0 rfl) ?_
  refine lv_sipush (v := (nI 2000)) S.1 S.2.1 d_M_init_60 (by decide) ?_
  refine g_newa (atype := .int) (a0 := (2000, .inl (fun _ => 0))) S hW hA ka_int 0 rfl (fun _ => rfl) (nI_pos (by decide)) (nI_clamp (by decide)) (Nat.le_of_ble_eq_true rfl) (Nat.le_of_ble_eq_true rfl) (Nat.le_of_ble_eq_true rfl) d_M_init_63 (fun q_7 H hW => ?_)
  have hW : Wd D (tyl cI cJ cB cZ) A s s.heap H _ [(aM, .inr (10, [.int 0, .ref q_1, .int 0, .int 0, .int 0, .int (-1), .ref q_2, .int 0, .int 0, .ref q_3, .ref q_4, .ref q_5, .ref q_6, .int 0, .int 0, .int 0, .long 0, .long 0, .null, .null, .int 0, .int 0, .int 0, .int 0, .int 0, .int 0, .int 0, .int 0, .int 0, .null, .null, .null, .null, .null, .null, .null, .null, .int 0, .null, .null, .null, .int 0, .null, .int 0, .null, .null, .int 0, .null, .int 0, .null, .null, .int 0, .int 0, .int 0, .int 0, .int 0, .null, .null, .null, .int 0, .int 0])), (q_1, .inl (cI, 8192, .inl (fun _ => 0))), (q_2, .inl (cI, 4096, .inl (fun _ => 0))), (q_3, .inl (cJ, 48, .inr (.inl (fun _ => 0)))), (q_4, .inl (cJ, 48, .inr (.inl (fun _ => 0)))), (q_5, .inl (cI, 43680, .inl (fun _ => 0))), (q_6, .inl (cI, 48, .inl (fun _ => 0))), (q_7, .inl (cI, 2000, .inl (fun _ => 0)))] := hW
  refine g_putF (ws2 := [(aM, .inr (10, [.int 0, .ref q_1, .int 0, .int 0, .int 0, .int (-1), .ref q_2, .int 0, .int 0, .ref q_3, .ref q_4, .ref q_5, .ref q_6, .int 0, .int 0, .int 0, .long 0, .long 0, .ref q_7, .null, .int 0, .int 0, .int 0, .int 0, .int 0, .int 0, .int 0, .int 0, .int 0, .null, .null, .null, .null, .null, .null, .null, .null, .int 0, .null, .null, .null, .int 0, .null, .int 0, .null, .null, .int 0, .null, .int 0, .null, .null, .int 0, .int 0, .int 0, .int 0, .int 0, .null, .null, .null, .int 0, .int 0])), (q_1, .inl (cI, 8192, .inl (fun _ => 0))), (q_2, .inl (cI, 4096, .inl (fun _ => 0))), (q_3, .inl (cJ, 48, .inr (.inl (fun _ => 0)))), (q_4, .inl (cJ, 48, .inr (.inl (fun _ => 0)))), (q_5, .inl (cI, 43680, .inl (fun _ => 0))), (q_6, .inl (cI, 48, .inl (fun _ => 0))), (q_7, .inl (cI, 2000, .inl (fun _ => 0)))]) i_M ft_M ft_M_ok n_M S hW 0 rfl rfl 18 (by decide) kf_M_34 rfl hin rfl rfl rfl (Nat.le_of_ble_eq_true rfl) rfl d_M_init_65 (fun H locs hW => ?_)
  refine lv_aload_n S.1 S.2.1 d_M_init_68 rfl (lv_at hl 0 rfl) ?_
  refine lv_sipush (v := (nI 2000)) S.1 S.2.1 d_M_init_69 (by decide) ?_
  refine g_newa (atype := .int) (a0 := (2000, .inl (fun _ => 0))) S hW hA ka_int 0 rfl (fun _ => rfl) (nI_pos (by decide)) (nI_clamp (by decide)) (Nat.le_of_ble_eq_true rfl) (Nat.le_of_ble_eq_true rfl) (Nat.le_of_ble_eq_true rfl) d_M_init_72 (fun q_8 H hW => ?_)
  have hW : Wd D (tyl cI cJ cB cZ) A s s.heap H _ [(aM, .inr (10, [.int 0, .ref q_1, .int 0, .int 0, .int 0, .int (-1), .ref q_2, .int 0, .int 0, .ref q_3, .ref q_4, .ref q_5, .ref q_6, .int 0, .int 0, .int 0, .long 0, .long 0, .ref q_7, .null, .int 0, .int 0, .int 0, .int 0, .int 0, .int 0, .int 0, .int 0, .int 0, .null, .null, .null, .null, .null, .null, .null, .null, .int 0, .null, .null, .null, .int 0, .null, .int 0, .null, .null, .int 0, .null, .int 0, .null, .null, .int 0, .int 0, .int 0, .int 0, .int 0, .null, .null, .null, .int 0, .int 0])), (q_1, .inl (cI, 8192, .inl (fun _ => 0))), (q_2, .inl (cI, 4096, .inl (fun _ => 0))), (q_3, .inl (cJ, 48, .inr (.inl (fun _ => 0)))), (q_4, .inl (cJ, 48, .inr (.inl (fun _ => 0)))), (q_5, .inl (cI, 43680, .inl (fun _ => 0))), (q_6, .inl (cI, 48, .inl (fun _ => 0))), (q_7, .inl (cI, 2000, .inl (fun _ => 0))), (q_8, .inl (cI, 2000, .inl (fun _ => 0)))] := hW
  refine g_putF (ws2 := [(aM, .inr (10, [.int 0, .ref q_1, .int 0, .int 0, .int 0, .int (-1), .ref q_2, .int 0, .int 0, .ref q_3, .ref q_4, .ref q_5, .ref q_6, .int 0, .int 0, .int 0, .long 0, .long 0, .ref q_7, .ref q_8, .int 0, .int 0, .int 0, .int 0, .int 0, .int 0, .int 0, .int 0, .int 0, .null, .null, .null, .null, .null, .null, .null, .null, .int 0, .null, .null, .null, .int 0, .null, .int 0, .null, .null, .int 0, .null, .int 0, .null, .null, .int 0, .int 0, .int 0, .int 0, .int 0, .null, .null, .null, .int 0, .int 0])), (q_1, .inl (cI, 8192, .inl (fun _ => 0))), (q_2, .inl (cI, 4096, .inl (fun _ => 0))), (q_3, .inl (cJ, 48, .inr (.inl (fun _ => 0)))), (q_4, .inl (cJ, 48, .inr (.inl (fun _ => 0)))), (q_5, .inl (cI, 43680, .inl (fun _ => 0))), (q_6, .inl (cI, 48, .inl (fun _ => 0))), (q_7, .inl (cI, 2000, .inl (fun _ => 0))), (q_8, .inl (cI, 2000, .inl (fun _ => 0)))]) i_M ft_M ft_M_ok n_M S hW 0 rfl rfl 19 (by decide) kf_M_37 rfl hin rfl rfl rfl (Nat.le_of_ble_eq_true rfl) rfl d_M_init_74 (fun H locs hW => ?_)
  refine lv_aload_n S.1 S.2.1 d_M_init_77 rfl (lv_at hl 0 rfl) ?_
  refine lv_bipush (v := (nI 50)) S.1 S.2.1 d_M_init_78 (by decide) ?_
  refine g_newa (atype := .int) (a0 := (50, .inl (fun _ => 0))) S hW hA ka_int 0 rfl (fun _ => rfl) (nI_pos (by decide)) (nI_clamp (by decide)) (Nat.le_of_ble_eq_true rfl) (Nat.le_of_ble_eq_true rfl) (Nat.le_of_ble_eq_true rfl) d_M_init_80 (fun q_9 H hW => ?_)
  have hW : Wd D (tyl cI cJ cB cZ) A s s.heap H _ [(aM, .inr (10, [.int 0, .ref q_1, .int 0, .int 0, .int 0, .int (-1), .ref q_2, .int 0, .int 0, .ref q_3, .ref q_4, .ref q_5, .ref q_6, .int 0, .int 0, .int 0, .long 0, .long 0, .ref q_7, .ref q_8, .int 0, .int 0, .int 0, .int 0, .int 0, .int 0, .int 0, .int 0, .int 0, .null, .null, .null, .null, .null, .null, .null, .null, .int 0, .null, .null, .null, .int 0, .null, .int 0, .null, .null, .int 0, .null, .int 0, .null, .null, .int 0, .int 0, .int 0, .int 0, .int 0, .null, .null, .null, .int 0, .int 0])), (q_1, .inl (cI, 8192, .inl (fun _ => 0))), (q_2, .inl (cI, 4096, .inl (fun _ => 0))), (q_3, .inl (cJ, 48, .inr (.inl (fun _ => 0)))), (q_4, .inl (cJ, 48, .inr (.inl (fun _ => 0)))), (q_5, .inl (cI, 43680, .inl (fun _ => 0))), (q_6, .inl (cI, 48, .inl (fun _ => 0))), (q_7, .inl (cI, 2000, .inl (fun _ => 0))), (q_8, .inl (cI, 2000, .inl (fun _ => 0))), (q_9, .inl (cI, 50, .inl (fun _ => 0)))] := hW
  refine g_putF (ws2 := [(aM, .inr (10, [.int 0, .ref q_1, .int 0, .int 0, .int 0, .int (-1), .ref q_2, .int 0, .int 0, .ref q_3, .ref q_4, .ref q_5, .ref q_6, .int 0, .int 0, .int 0, .long 0, .long 0, .ref q_7, .ref q_8, .int 0, .int 0, .int 0, .int 0, .int 0, .int 0, .int 0, .int 0, .int 0, .ref q_9, .null, .null, .null, .null, .null, .null, .null, .int 0, .null, .null, .null, .int 0, .null, .int 0, .null, .null, .int 0, .null, .int 0, .null, .null, .int 0, .int 0, .int 0, .int 0, .int 0, .null, .null, .null, .int 0, .int 0])), (q_1, .inl (cI, 8192, .inl (fun _ => 0))), (q_2, .inl (cI, 4096, .inl (fun _ => 0))), (q_3, .inl (cJ, 48, .inr (.inl (fun _ => 0)))), (q_4, .inl (cJ, 48, .inr (.inl (fun _ => 0)))), (q_5, .inl (cI, 43680, .inl (fun _ => 0))), (q_6, .inl (cI, 48, .inl (fun _ => 0))), (q_7, .inl (cI, 2000, .inl (fun _ => 0))), (q_8, .inl (cI, 2000, .inl (fun _ => 0))), (q_9, .inl (cI, 50, .inl (fun _ => 0)))]) i_M ft_M ft_M_ok n_M S hW 0 rfl rfl 29 (by decide) kf_M_40 rfl hin rfl rfl rfl (Nat.le_of_ble_eq_true rfl) rfl d_M_init_82 (fun H locs hW => ?_)
  refine lv_aload_n S.1 S.2.1 d_M_init_85 rfl (lv_at hl 0 rfl) ?_
  refine lv_bipush (v := (nI 50)) S.1 S.2.1 d_M_init_86 (by decide) ?_
  refine g_newa (atype := .int) (a0 := (50, .inl (fun _ => 0))) S hW hA ka_int 0 rfl (fun _ => rfl) (nI_pos (by decide)) (nI_clamp (by decide)) (Nat.le_of_ble_eq_true rfl) (Nat.le_of_ble_eq_true rfl) (Nat.le_of_ble_eq_true rfl) d_M_init_88 (fun q_10 H hW => ?_)
  have hW : Wd D (tyl cI cJ cB cZ) A s s.heap H _ [(aM, .inr (10, [.int 0, .ref q_1, .int 0, .int 0, .int 0, .int (-1), .ref q_2, .int 0, .int 0, .ref q_3, .ref q_4, .ref q_5, .ref q_6, .int 0, .int 0, .int 0, .long 0, .long 0, .ref q_7, .ref q_8, .int 0, .int 0, .int 0, .int 0, .int 0, .int 0, .int 0, .int 0, .int 0, .ref q_9, .null, .null, .null, .null, .null, .null, .null, .int 0, .null, .null, .null, .int 0, .null, .int 0, .null, .null, .int 0, .null, .int 0, .null, .null, .int 0, .int 0, .int 0, .int 0, .int 0, .null, .null, .null, .int 0, .int 0])), (q_1, .inl (cI, 8192, .inl (fun _ => 0))), (q_2, .inl (cI, 4096, .inl (fun _ => 0))), (q_3, .inl (cJ, 48, .inr (.inl (fun _ => 0)))), (q_4, .inl (cJ, 48, .inr (.inl (fun _ => 0)))), (q_5, .inl (cI, 43680, .inl (fun _ => 0))), (q_6, .inl (cI, 48, .inl (fun _ => 0))), (q_7, .inl (cI, 2000, .inl (fun _ => 0))), (q_8, .inl (cI, 2000, .inl (fun _ => 0))), (q_9, .inl (cI, 50, .inl (fun _ => 0))), (q_10, .inl (cI, 50, .inl (fun _ => 0)))] := hW
  refine g_putF (ws2 := [(aM, .inr (10, [.int 0, .ref q_1, .int 0, .int 0, .int 0, .int (-1), .ref q_2, .int 0, .int 0, .ref q_3, .ref q_4, .ref q_5, .ref q_6, .int 0, .int 0, .int 0, .long 0, .long 0, .ref q_7, .ref q_8, .int 0, .int 0, .int 0, .int 0, .int 0, .int 0, .int 0, .int 0, .int 0, .ref q_9, .ref q_10, .null, .null, .null, .null, .null, .null, .int 0, .null, .null, .null, .int 0, .null, .int 0, .null, .null, .int 0, .null, .int 0, .null, .null, .int 0, .int 0, .int 0, .int 0, .int 0, .null, .null, .null, .int 0, .int 0])), (q_1, .inl (cI, 8192, .inl (fun _ => 0))), (q_2, .inl (cI, 4096, .inl (fun _ => 0))), (q_3, .inl (cJ, 48, .inr (.inl (fun _ => 0)))), (q_4, .inl (cJ, 48, .inr (.inl (fun _ => 0)))), (q_5, .inl (cI, 43680, .inl (fun _ => 0))), (q_6, .inl (cI, 48, .inl (fun _ => 0))), (q_7, .inl (cI, 2000, .inl (fun _ => 0))), (q_8, .inl (cI, 2000, .inl (fun _ => 0))), (q_9, .inl (cI, 50, .inl (fun _ => 0))), (q_10, .inl (cI, 50, .inl (fun _ => 0)))]) i_M ft_M ft_M_ok n_M S hW 0 rfl rfl 30 (by decide) kf_M_43 rfl hin rfl rfl rfl (Nat.le_of_ble_eq_true rfl) rfl d_M_init_90 (fun H locs hW => ?_)
  refine lv_aload_n S.1 S.2.1 d_M_init_93 rfl (lv_at hl 0 rfl) ?_
  refine lv_bipush (v := (nI 50)) S.1 S.2.1 d_M_init_94 (by decide) ?_
  refine g_newa (atype := .int) (a0 := (50, .inl (fun _ => 0))) S hW hA ka_int 0 rfl (fun _ => rfl) (nI_pos (by decide)) (nI_clamp (by decide)) (Nat.le_of_ble_eq_true rfl) (Nat.le_of_ble_eq_true rfl) (Nat.le_of_ble_eq_true rfl) d_M_init_96 (fun q_11 H hW => ?_)
  have hW : Wd D (tyl cI cJ cB cZ) A s s.heap H _ [(aM, .inr (10, [.int 0, .ref q_1, .int 0, .int 0, .int 0, .int (-1), .ref q_2, .int 0, .int 0, .ref q_3, .ref q_4, .ref q_5, .ref q_6, .int 0, .int 0, .int 0, .long 0, .long 0, .ref q_7, .ref q_8, .int 0, .int 0, .int 0, .int 0, .int 0, .int 0, .int 0, .int 0, .int 0, .ref q_9, .ref q_10, .null, .null, .null, .null, .null, .null, .int 0, .null, .null, .null, .int 0, .null, .int 0, .null, .null, .int 0, .null, .int 0, .null, .null, .int 0, .int 0, .int 0, .int 0, .int 0, .null, .null, .null, .int 0, .int 0])), (q_1, .inl (cI, 8192, .inl (fun _ => 0))), (q_2, .inl (cI, 4096, .inl (fun _ => 0))), (q_3, .inl (cJ, 48, .inr (.inl (fun _ => 0)))), (q_4, .inl (cJ, 48, .inr (.inl (fun _ => 0)))), (q_5, .inl (cI, 43680, .inl (fun _ => 0))), (q_6, .inl (cI, 48, .inl (fun _ => 0))), (q_7, .inl (cI, 2000, .inl (fun _ => 0))), (q_8, .inl (cI, 2000, .inl (fun _ => 0))), (q_9, .inl (cI, 50, .inl (fun _ => 0))), (q_10, .inl (cI, 50, .inl (fun _ => 0))), (q_11, .inl (cI, 50, .inl (fun _ => 0)))] := hW
  refine g_putF (ws2 := [(aM, .inr (10, [.int 0, .ref q_1, .int 0, .int 0, .int 0, .int (-1), .ref q_2, .int 0, .int 0, .ref q_3, .ref q_4, .ref q_5, .ref q_6, .int 0, .int 0, .int 0, .long 0, .long 0, .ref q_7, .ref q_8, .int 0, .int 0, .int 0, .int 0, .int 0, .int 0, .int 0, .int 0, .int 0, .ref q_9, .ref q_10, .ref q_11, .null, .null, .null, .null, .null, .int 0, .null, .null, .null, .int 0, .null, .int 0, .null, .null, .int 0, .null, .int 0, .null, .null, .int 0, .int 0, .int 0, .int 0, .int 0, .null, .null, .null, .int 0, .int 0])), (q_1, .inl (cI, 8192, .inl (fun _ => 0))), (q_2, .inl (cI, 4096, .inl (fun _ => 0))), (q_3, .inl (cJ, 48, .inr (.inl (fun _ => 0)))), (q_4, .inl (cJ, 48, .inr (.inl (fun _ => 0)))), (q_5, .inl (cI, 43680, .inl (fun _ => 0))), (q_6, .inl (cI, 48, .inl (fun _ => 0))), (q_7, .inl (cI, 2000, .inl (fun _ => 0))), (q_8, .inl (cI, 2000, .inl (fun _ => 0))), (q_9, .inl (cI, 50, .inl (fun _ => 0))), (q_10, .inl (cI, 50, .inl (fun _ => 0))), (q_11, .inl (cI, 50, .inl (fun _ => 0)))]) i_M ft_M ft_M_ok n_M S hW 0 rfl rfl 31 (by decide) kf_M_46 rfl hin rfl rfl rfl (Nat.le_of_ble_eq_true rfl) rfl d_M_init_98 (fun H locs hW => ?_)
  refine lv_aload_n S.1 S.2.1 d_M_init_101 rfl (lv_at hl 0 rfl) ?_
  refine lv_bipush (v := (nI 50)) S.1 S.2.1 d_M_init_102 (by decide) ?_
  refine g_newa (atype := .int) (a0 := (50, .inl (fun _ => 0))) S hW hA ka_int 0 rfl (fun _ => rfl) (nI_pos (by decide)) (nI_clamp (by decide)) (Nat.le_of_ble_eq_true rfl) (Nat.le_of_ble_eq_true rfl) (Nat.le_of_ble_eq_true rfl) d_M_init_104 (fun q_12 H hW => ?_)
  have hW : Wd D (tyl cI cJ cB cZ) A s s.heap H _ [(aM, .inr (10, [.int 0, .ref q_1, .int 0, .int 0, .int 0, .int (-1), .ref q_2, .int 0, .int 0, .ref q_3, .ref q_4, .ref q_5, .ref q_6, .int 0, .int 0, .int 0, .long 0, .long 0, .ref q_7, .ref q_8, .int 0, .int 0, .int 0, .int 0, .int 0, .int 0, .int 0, .int 0, .int 0, .ref q_9, .ref q_10, .ref q_11, .null, .null, .null, .null, .null, .int 0, .null, .null, .null, .int 0, .null, .int 0, .null, .null, .int 0, .null, .int 0, .null, .null, .int 0, .int 0, .int 0, .int 0, .int 0, .null, .null, .null, .int 0, .int 0])), (q_1, .inl (cI, 8192, .inl (fun _ => 0))), (q_2, .inl (cI, 4096, .inl (fun _ => 0))), (q_3, .inl (cJ, 48, .inr (.inl (fun _ => 0)))), (q_4, .inl (cJ, 48, .inr (.inl (fun _ => 0)))), (q_5, .inl (cI, 43680, .inl (fun _ => 0))), (q_6, .inl (cI, 48, .inl (fun _ => 0))), (q_7, .inl (cI, 2000, .inl (fun _ => 0))), (q_8, .inl (cI, 2000, .inl (fun _ => 0))), (q_9, .inl (cI, 50, .inl (fun _ => 0))), (q_10, .inl (cI, 50, .inl (fun _ => 0))), (q_11, .inl (cI, 50, .inl (fun _ => 0))), (q_12, .inl (cI, 50, .inl (fun _ => 0)))] := hW
  refine g_putF (ws2 := [(aM, .inr (10, [.int 0, .ref q_1, .int 0, .int 0, .int 0, .int (-1), .ref q_2, .int 0, .int 0, .ref q_3, .ref q_4, .ref q_5, .ref q_6, .int 0, .int 0, .int 0, .long 0, .long 0, .ref q_7, .ref q_8, .int 0, .int 0, .int 0, .int 0, .int 0, .int 0, .int 0, .int 0, .int 0, .ref q_9, .ref q_10, .ref q_11, .ref q_12, .null, .null, .null, .null, .int 0, .null, .null, .null, .int 0, .null, .int 0, .null, .null, .int 0, .null, .int 0, .null, .null, .int 0, .int 0, .int 0, .int 0, .int 0, .null, .null, .null, .int 0, .int 0])), (q_1, .inl (cI, 8192, .inl (fun _ => 0))), (q_2, .inl (cI, 4096, .inl (fun _ => 0))), (q_3, .inl (cJ, 48, .inr (.inl (fun _ => 0)))), (q_4, .inl (cJ, 48, .inr (.inl (fun _ => 0)))), (q_5, .inl (cI, 43680, .inl (fun _ => 0))), (q_6, .inl (cI, 48, .inl (fun _ => 0))), (q_7, .inl (cI, 2000, .inl (fun _ => 0))), (q_8, .inl (cI, 2000, .inl (fun _ => 0))), (q_9, .inl (cI, 50, .inl (fun _ => 0))), (q_10, .inl (cI, 50, .inl (fun _ => 0))), (q_11, .inl (cI, 50, .inl (fun _ => 0))), (q_12, .inl (cI, 50, .inl (fun _ => 0)))]) i_M ft_M ft_M_ok n_M S hW 0 rfl rfl 32 (by decide) kf_M_49 rfl hin rfl rfl rfl (Nat.le_of_ble_eq_true rfl) rfl d_M_init_106 (fun H locs hW => ?_)
  refine lv_aload_n S.1 S.2.1 d_M_init_109 rfl (lv_at hl 0 rfl) ?_
  refine lv_bipush (v := (nI 50)) S.1 S.2.1 d_M_init_110 (by decide) ?_
  refine g_newa (atype := .int) (a0 := (50, .inl (fun _ => 0))) S hW hA ka_int 0 rfl (fun _ => rfl) (nI_pos (by decide)) (nI_clamp (by decide)) (Nat.le_of_ble_eq_true rfl) (Nat.le_of_ble_eq_true rfl) (Nat.le_of_ble_eq_true rfl) d_M_init_112 (fun q_13 H hW => ?_)
  have hW : Wd D (tyl cI cJ cB cZ) A s s.heap H _ [(aM, .inr (10, [.int 0, .ref q_1, .int 0, .int 0, .int 0, .int (-1), .ref q_2, .int 0, .int 0, .ref q_3, .ref q_4, .ref q_5, .ref q_6, .int 0, .int 0, .int 0, .long 0, .long 0, .ref q_7, .ref q_8, .int 0, .int 0, .int 0, .int 0, .int 0, .int 0, .int 0, .int 0, .int 0, .ref q_9, .ref q_10, .ref q_11, .ref q_12, .null, .null, .null, .null, .int 0, .null, .null, .null, .int 0, .null, .int 0, .null, .null, .int 0, .null, .int 0, .null, .null, .int 0, .int 0, .int 0, .int 0, .int 0, .null, .null, .null, .int 0, .int 0])), (q_1, .inl (cI, 8192, .inl (fun _ => 0))), (q_2, .inl (cI, 4096, .inl (fun _ => 0))), (q_3, .inl (cJ, 48, .inr (.inl (fun _ => 0)))), (q_4, .inl (cJ, 48, .inr (.inl (fun _ => 0)))), (q_5, .inl (cI, 43680, .inl (fun _ => 0))), (q_6, .inl (cI, 48, .inl (fun _ => 0))), (q_7, .inl (cI, 2000, .inl (fun _ => 0))), (q_8, .inl (cI, 2000, .inl (fun _ => 0))), (q_9, .inl (cI, 50, .inl (fun _ => 0))), (q_10, .inl (cI, 50, .inl (fun _ => 0))), (q_11, .inl (cI, 50, .inl (fun _ => 0))), (q_12, .inl (cI, 50, .inl (fun _ => 0))), (q_13, .inl (cI, 50, .inl (fun _ => 0)))] := hW
  refine g_putF (ws2 := [(aM, .inr (10, [.int 0, .ref q_1, .int 0, .int 0, .int 0, .int (-1), .ref q_2, .int 0, .int 0, .ref q_3, .ref q_4, .ref q_5, .ref q_6, .int 0, .int 0, .int 0, .long 0, .long 0, .ref q_7, .ref q_8, .int 0, .int 0, .int 0, .int 0, .int 0, .int 0, .int 0, .int 0, .int 0, .ref q_9, .ref q_10, .ref q_11, .ref q_12, .ref q_13, .null, .null, .null, .int 0, .null, .null, .null, .int 0, .null, .int 0, .null, .null, .int 0, .null, .int 0, .null, .null, .int 0, .int 0, .int 0, .int 0, .int 0, .null, .null, .null, .int 0, .int 0])), (q_1, .inl (cI, 8192, .inl (fun _ => 0))), (q_2, .inl (cI, 4096, .inl (fun _ => 0))), (q_3, .inl (cJ, 48, .inr (.inl (fun _ => 0)))), (q_4, .inl (cJ, 48, .inr (.inl (fun _ => 0)))), (q_5, .inl (cI, 43680, .inl (fun _ => 0))), (q_6, .inl (cI, 48, .inl (fun _ => 0))), (q_7, .inl (cI, 2000, .inl (fun _ => 0))), (q_8, .inl (cI, 2000, .inl (fun _ => 0))), (q_9, .inl (cI, 50, .inl (fun _ => 0))), (q_10, .inl (cI, 50, .inl (fun _ => 0))), (q_11, .inl (cI, 50, .inl (fun _ => 0))), (q_12, .inl (cI, 50, .inl (fun _ => 0))), (q_13, .inl (cI, 50, .inl (fun _ => 0)))]) i_M ft_M ft_M_ok n_M S hW 0 rfl rfl 33 (by decide) kf_M_52 rfl hin rfl rfl rfl (Nat.le_of_ble_eq_true rfl) rfl d_M_init_114 (fun H locs hW => ?_)
  refine lv_aload_n S.1 S.2.1 d_M_init_117 rfl (lv_at hl 0 rfl) ?_
  refine lv_bipush (v := (nI 50)) S.1 S.2.1 d_M_init_118 (by decide) ?_
  refine g_newa (atype := .int) (a0 := (50, .inl (fun _ => 0))) S hW hA ka_int 0 rfl (fun _ => rfl) (nI_pos (by decide)) (nI_clamp (by decide)) (Nat.le_of_ble_eq_true rfl) (Nat.le_of_ble_eq_true rfl) (Nat.le_of_ble_eq_true rfl) d_M_init_120 (fun q_14 H hW => ?_)
  have hW : Wd D (tyl cI cJ cB cZ) A s s.heap H _ [(aM, .inr (10, [.int 0, .ref q_1, .int 0, .int 0, .int 0, .int (-1), .ref q_2, .int 0, .int 0, .ref q_3, .ref q_4, .ref q_5, .ref q_6, .int 0, .int 0, .int 0, .long 0, .long 0, .ref q_7, .ref q_8, .int 0, .int 0, .int 0, .int 0, .int 0, .int 0, .int 0, .int 0, .int 0, .ref q_9, .ref q_10, .ref q_11, .ref q_12, .ref q_13, .null, .null, .null, .int 0, .null, .null, .null, .int 0, .null, .int 0, .null, .null, .int 0, .null, .int 0, .null, .null, .int 0, .int 0, .int 0, .int 0, .int 0, .null, .null, .null, .int 0, .int 0])), (q_1, .inl (cI, 8192, .inl (fun _ => 0))), (q_2, .inl (cI, 4096, .inl (fun _ => 0))), (q_3, .inl (cJ, 48, .inr (.inl (fun _ => 0)))), (q_4, .inl (cJ, 48, .inr (.inl (fun _ => 0)))), (q_5, .inl (cI, 43680, .inl (fun _ => 0))), (q_6, .inl (cI, 48, .inl (fun _ => 0))), (q_7, .inl (cI, 2000, .inl (fun _ => 0))), (q_8, .inl (cI, 2000, .inl (fun _ => 0))), (q_9, .inl (cI, 50, .inl (fun _ => 0))), (q_10, .inl (cI, 50, .inl (fun _ => 0))), (q_11, .inl (cI, 50, .inl (fun _ => 0))), (q_12, .inl (cI, 50, .inl (fun _ => 0))), (q_13, .inl (cI, 50, .inl (fun _ => 0))), (q_14, .inl (cI, 50, .inl (fun _ => 0)))] := hW
  refine g_putF (ws2 := [(aM, .inr (10, [.int 0, .ref q_1, .int 0, .int 0, .int 0, .int (-1), .ref q_2, .int 0, .int 0, .ref q_3, .ref q_4, .ref q_5, .ref q_6, .int 0, .int 0, .int 0, .long 0, .long 0, .ref q_7, .ref q_8, .int 0, .int 0, .int 0, .int 0, .int 0, .int 0, .int 0, .int 0, .int 0, .ref q_9, .ref q_10, .ref q_11, .ref q_12, .ref q_13, .ref q_14, .null, .null, .int 0, .null, .null, .null, .int 0, .null, .int 0, .null, .null, .int 0, .null, .int 0, .null, .null, .int 0, .int 0, .int 0, .int 0, .int 0, .null, .null, .null, .int 0, .int 0])), (q_1, .inl (cI, 8192, .inl (fun _ => 0))), (q_2, .inl (cI, 4096, .inl (fun _ => 0))), (q_3, .inl (cJ, 48, .inr (.inl (fun _ => 0)))), (q_4, .inl (cJ, 48, .inr (.inl (fun _ => 0)))), (q_5, .inl (cI, 43680, .inl (fun _ => 0))), (q_6, .inl (cI, 48, .inl (fun _ => 0))), (q_7, .inl (cI, 2000, .inl (fun _ => 0))), (q_8, .inl (cI, 2000, .inl (fun _ => 0))), (q_9, .inl (cI, 50, .inl (fun _ => 0))), (q_10, .inl (cI, 50, .inl (fun _ => 0))), (q_11, .inl (cI, 50, .inl (fun _ => 0))), (q_12, .inl (cI, 50, .inl (fun _ => 0))), (q_13, .inl (cI, 50, .inl (fun _ => 0))), (q_14, .inl (cI, 50, .inl (fun _ => 0)))]) i_M ft_M ft_M_ok n_M S hW 0 rfl rfl 34 (by decide) kf_M_55 rfl hin rfl rfl rfl (Nat.le_of_ble_eq_true rfl) rfl d_M_init_122 (fun H locs hW => ?_)
  refine lv_aload_n S.1 S.2.1 d_M_init_125 rfl (lv_at hl 0 rfl) ?_
  refine lv_bipush (v := (nI 50)) S.1 S.2.1 d_M_init_126 (by decide) ?_
  refine g_newa (atype := .long) (a0 := (50, .inr (.inl (fun _ => 0)))) S hW hA ka_long 1 rfl (fun _ => rfl) (nI_pos (by decide)) (nI_clamp (by decide)) (Nat.le_of_ble_eq_true rfl) (Nat.le_of_ble_eq_true rfl) (Nat.le_of_ble_eq_true rfl) d_M_init_128 (fun q_15 H hW => ?_)
  have hW : Wd D (tyl cI cJ cB cZ) A s s.heap H _ [(aM, .inr (10, [.int 0, .ref q_1, .int 0, .int 0, .int 0, .int (-1), .ref q_2, .int 0, .int 0, .ref q_3, .ref q_4, .ref q_5, .ref q_6, .int 0, .int 0, .int 0, .long 0, .long 0, .ref q_7, .ref q_8, .int 0, .int 0, .int 0, .int 0, .int 0, .int 0, .int 0, .int 0, .int 0, .ref q_9, .ref q_10, .ref q_11, .ref q_12, .ref q_13, .ref q_14, .null, .null, .int 0, .null, .null, .null, .int 0, .null, .int 0, .null, .null, .int 0, .null, .int 0, .null, .null, .int 0, .int 0, .int 0, .int 0, .int 0, .null, .null, .null, .int 0, .int 0])), (q_1, .inl (cI, 8192, .inl (fun _ => 0))), (q_2, .inl (cI, 4096, .inl (fun _ => 0))), (q_3, .inl (cJ, 48, .inr (.inl (fun _ => 0)))), (q_4, .inl (cJ, 48, .inr (.inl (fun _ => 0)))), (q_5, .inl (cI, 43680, .inl (fun _ => 0))), (q_6, .inl (cI, 48, .inl (fun _ => 0))), (q_7, .inl (cI, 2000, .inl (fun _ => 0))), (q_8, .inl (cI, 2000, .inl (fun _ => 0))), (q_9, .inl (cI, 50, .inl (fun _ => 0))), (q_10, .inl (cI, 50, .inl (fun _ => 0))), (q_11, .inl (cI, 50, .inl (fun _ => 0))), (q_12, .inl (cI, 50, .inl (fun _ => 0))), (q_13, .inl (cI, 50, .inl (fun _ => 0))), (q_14, .inl (cI, 50, .inl (fun _ => 0))), (q_15, .inl (cJ, 50, .inr (.inl (fun _ => 0))))] := hW
  refine g_putF (ws2 := [(aM, .inr (10, [.int 0, .ref q_1, .int 0, .int 0, .int 0, .int (-1), .ref q_2, .int 0, .int 0, .ref q_3, .ref q_4, .ref q_5, .ref q_6, .int 0, .int 0, .int 0, .long 0, .long 0, .ref q_7, .ref q_8, .int 0, .int 0, .int 0, .int 0, .int 0, .int 0, .int 0, .int 0, .int 0, .ref q_9, .ref q_10, .ref q_11, .ref q_12, .ref q_13, .ref q_14, .ref q_15, .null, .int 0, .null, .null, .null, .int 0, .null, .int 0, .null, .null, .int 0, .null, .int 0, .null, .null, .int 0, .int 0, .int 0, .int 0, .int 0, .null, .null, .null, .int 0, .int 0])), (q_1, .inl (cI, 8192, .inl (fun _ => 0))), (q_2, .inl (cI, 4096, .inl (fun _ => 0))), (q_3, .inl (cJ, 48, .inr (.inl (fun _ => 0)))), (q_4, .inl (cJ, 48, .inr (.inl (fun _ => 0)))), (q_5, .inl (cI, 43680, .inl (fun _ => 0))), (q_6, .inl (cI, 48, .inl (fun _ => 0))), (q_7, .inl (cI, 2000, .inl (fun _ => 0))), (q_8, .inl (cI, 2000, .inl (fun _ => 0))), (q_9, .inl (cI, 50, .inl (fun _ => 0))), (q_10, .inl (cI, 50, .inl (fun _ => 0))), (q_11, .inl (cI, 50, .inl (fun _ => 0))), (q_12, .inl (cI, 50, .inl (fun _ => 0))), (q_13, .inl (cI, 50, .inl (fun _ => 0))), (q_14, .inl (cI, 50, .inl (fun _ => 0))), (q_15, .inl (cJ, 50, .inr (.inl (fun _ => 0))))]) i_M ft_M ft_M_ok n_M S hW 0 rfl rfl 35 (by decide) kf_M_58 rfl hin rfl rfl rfl (Nat.le_of_ble_eq_true rfl) rfl d_M_init_130 (fun H locs hW => ?_)
  refine lv_aload_n S.1 S.2.1 d_M_init_133 rfl (lv_at hl 0 rfl) ?_
  refine lv_bipush (v := (nI 50)) S.1 S.2.1 d_M_init_134 (by decide) ?_
  refine g_newa (atype := .long) (a0 := (50, .inr (.inl (fun _ => 0)))) S hW hA ka_long 1 rfl (fun _ => rfl) (nI_pos (by decide)) (nI_clamp (by decide)) (Nat.le_of_ble_eq_true rfl) (Nat.le_of_ble_eq_true rfl) (Nat.le_of_ble_eq_true rfl) d_M_init_136 (fun q_16 H hW => ?_)
  have hW : Wd D (tyl cI cJ cB cZ) A s s.heap H _ [(aM, .inr (10, [.int 0, .ref q_1, .int 0, .int 0, .int 0, .int (-1), .ref q_2, .int 0, .int 0, .ref q_3, .ref q_4, .ref q_5, .ref q_6, .int 0, .int 0, .int 0, .long 0, .long 0, .ref q_7, .ref q_8, .int 0, .int 0, .int 0, .int 0, .int 0, .int 0, .int 0, .int 0, .int 0, .ref q_9, .ref q_10, .ref q_11, .ref q_12, .ref q_13, .ref q_14, .ref q_15, .null, .int 0, .null, .null, .null, .int 0, .null, .int 0, .null, .null, .int 0, .null, .int 0, .null, .null, .int 0, .int 0, .int 0, .int 0, .int 0, .null, .null, .null, .int 0, .int 0])), (q_1, .inl (cI, 8192, .inl (fun _ => 0))), (q_2, .inl (cI, 4096, .inl (fun _ => 0))), (q_3, .inl (cJ, 48, .inr (.inl (fun _ => 0)))), (q_4, .inl (cJ, 48, .inr (.inl (fun _ => 0)))), (q_5, .inl (cI, 43680, .inl (fun _ => 0))), (q_6, .inl (cI, 48, .inl (fun _ => 0))), (q_7, .inl (cI, 2000, .inl (fun _ => 0))), (q_8, .inl (cI, 2000, .inl (fun _ => 0))), (q_9, .inl (cI, 50, .inl (fun _ => 0))), (q_10, .inl (cI, 50, .inl (fun _ => 0))), (q_11, .inl (cI, 50, .inl (fun _ => 0))), (q_12, .inl (cI, 50, .inl (fun _ => 0))), (q_13, .inl (cI, 50, .inl (fun _ => 0))), (q_14, .inl (cI, 50, .inl (fun _ => 0))), (q_15, .inl (cJ, 50, .inr (.inl (fun _ => 0)))), (q_16, .inl (cJ, 50, .inr (.inl (fun _ => 0))))] := hW
  refine g_putF (ws2 := [(aM, .inr (10, [.int 0, .ref q_1, .int 0, .int 0, .int 0, .int (-1), .ref q_2, .int 0, .int 0, .ref q_3, .ref q_4, .ref q_5, .ref q_6, .int 0, .int 0, .int 0, .long 0, .long 0, .ref q_7, .ref q_8, .int 0, .int 0, .int 0, .int 0, .int 0, .int 0, .int 0, .int 0, .int 0, .ref q_9, .ref q_10, .ref q_11, .ref q_12, .ref q_13, .ref q_14, .ref q_15, .ref q_16, .int 0, .null, .null, .null, .int 0, .null, .int 0, .null, .null, .int 0, .null, .int 0, .null, .null, .int 0, .int 0, .int 0, .int 0, .int 0, .null, .null, .null, .int 0, .int 0])), (q_1, .inl (cI, 8192, .inl (fun _ => 0))), (q_2, .inl (cI, 4096, .inl (fun _ => 0))), (q_3, .inl (cJ, 48, .inr (.inl (fun _ => 0)))), (q_4, .inl (cJ, 48, .inr (.inl (fun _ => 0)))), (q_5, .inl (cI, 43680, .inl (fun _ => 0))), (q_6, .inl (cI, 48, .inl (fun _ => 0))), (q_7, .inl (cI, 2000, .inl (fun _ => 0))), (q_8, .inl (cI, 2000, .inl (fun _ => 0))), (q_9, .inl (cI, 50, .inl (fun _ => 0))), (q_10, .inl (cI, 50, .inl (fun _ => 0))), (q_11, .inl (cI, 50, .inl (fun _ => 0))), (q_12, .inl (cI, 50, .inl (fun _ => 0))), (q_13, .inl (cI, 50, .inl (fun _ => 0))), (q_14, .inl (cI, 50, .inl (fun _ => 0))), (q_15, .inl (cJ, 50, .inr (.inl (fun _ => 0)))), (q_16, .inl (cJ, 50, .inr (.inl (fun _ => 0))))]) i_M ft_M ft_M_ok n_M S hW 0 rfl rfl 36 (by decide) kf_M_61 rfl hin rfl rfl rfl (Nat.le_of_ble_eq_true rfl) rfl d_M_init_138 (fun H locs hW => ?_)
  refine lv_aload_n S.1 S.2.1 d_M_init_141 rfl (lv_at hl 0 rfl) ?_
  refine lv_bipush (v := (nI 50)) S.1 S.2.1 d_M_init_142 (by decide) ?_
  refine g_newa (atype := .long) (a0 := (50, .inr (.inl (fun _ => 0)))) S hW hA ka_long 1 rfl (fun _ => rfl) (nI_pos (by decide)) (nI_clamp (by decide)) (Nat.le_of_ble_eq_true rfl) (Nat.le_of_ble_eq_true rfl) (Nat.le_of_ble_eq_true rfl) d_M_init_144 (fun q_17 H hW => ?_)
  have hW : Wd D (tyl cI cJ cB cZ) A s s.heap H _ [(aM, .inr (10, [.int 0, .ref q_1, .int 0, .int 0, .int 0, .int (-1), .ref q_2, .int 0, .int 0, .ref q_3, .ref q_4, .ref q_5, .ref q_6, .int 0, .int 0, .int 0, .long 0, .long 0, .ref q_7, .ref q_8, .int 0, .int 0, .int 0, .int 0, .int 0, .int 0, .int 0, .int 0, .int 0, .ref q_9, .ref q_10, .ref q_11, .ref q_12, .ref q_13, .ref q_14, .ref q_15, .ref q_16, .int 0, .null, .null, .null, .int 0, .null, .int 0, .null, .null, .int 0, .null, .int 0, .null, .null, .int 0, .int 0, .int 0, .int 0, .int 0, .null, .null, .null, .int 0, .int 0])), (q_1, .inl (cI, 8192, .inl (fun _ => 0))), (q_2, .inl (cI, 4096, .inl (fun _ => 0))), (q_3, .inl (cJ, 48, .inr (.inl (fun _ => 0)))), (q_4, .inl (cJ, 48, .inr (.inl (fun _ => 0)))), (q_5, .inl (cI, 43680, .inl (fun _ => 0))), (q_6, .inl (cI, 48, .inl (fun _ => 0))), (q_7, .inl (cI, 2000, .inl (fun _ => 0))), (q_8, .inl (cI, 2000, .inl (fun _ => 0))), (q_9, .inl (cI, 50, .inl (fun _ => 0))), (q_10, .inl (cI, 50, .inl (fun _ => 0))), (q_11, .inl (cI, 50, .inl (fun _ => 0))), (q_12, .inl (cI, 50, .inl (fun _ => 0))), (q_13, .inl (cI, 50, .inl (fun _ => 0))), (q_14, .inl (cI, 50, .inl (fun _ => 0))), (q_15, .inl (cJ, 50, .inr (.inl (fun _ => 0)))), (q_16, .inl (cJ, 50, .inr (.inl (fun _ => 0)))), (q_17, .inl (cJ, 50, .inr (.inl (fun _ => 0))))] := hW
  refine g_putF (ws2 := [(aM, .inr (10, [.int 0, .ref q_1, .int 0, .int 0, .int 0, .int (-1), .ref q_2, .int 0, .int 0, .ref q_3, .ref q_4, .ref q_5, .ref q_6, .int 0, .int 0, .int 0, .long 0, .long 0, .ref q_7, .ref q_8, .int 0, .int 0, .int 0, .int 0, .int 0, .int 0, .int 0, .int 0, .int 0, .ref q_9, .ref q_10, .ref q_11, .ref q_12, .ref q_13, .ref q_14, .ref q_15, .ref q_16, .int 0, .ref q_17, .null, .null, .int 0, .null, .int 0, .null, .null, .int 0, .null, .int 0, .null, .null, .int 0, .int 0, .int 0, .int 0, .int 0, .null, .null, .null, .int 0, .int 0])), (q_1, .inl (cI, 8192, .inl (fun _ => 0))), (q_2, .inl (cI, 4096, .inl (fun _ => 0))), (q_3, .inl (cJ, 48, .inr (.inl (fun _ => 0)))), (q_4, .inl (cJ, 48, .inr (.inl (fun _ => 0)))), (q_5, .inl (cI, 43680, .inl (fun _ => 0))), (q_6, .inl (cI, 48, .inl (fun _ => 0))), (q_7, .inl (cI, 2000, .inl (fun _ => 0))), (q_8, .inl (cI, 2000, .inl (fun _ => 0))), (q_9, .inl (cI, 50, .inl (fun _ => 0))), (q_10, .inl (cI, 50, .inl (fun _ => 0))), (q_11, .inl (cI, 50, .inl (fun _ => 0))), (q_12, .inl (cI, 50, .inl (fun _ => 0))), (q_13, .inl (cI, 50, .inl (fun _ => 0))), (q_14, .inl (cI, 50, .inl (fun _ => 0))), (q_15, .inl (cJ, 50, .inr (.inl (fun _ => 0)))), (q_16, .inl (cJ, 50, .inr (.inl (fun _ => 0)))), (q_17, .inl (cJ, 50, .inr (.inl (fun _ => 0))))]) i_M ft_M ft_M_ok n_M S hW 0 rfl rfl 38 (by decide) kf_M_64 rfl hin rfl rfl rfl (Nat.le_of_ble_eq_true rfl) rfl d_M_init_146 (fun H locs hW => ?_)
  refine lv_aload_n S.1 S.2.1 d_M_init_149 rfl (lv_at hl 0 rfl) ?_
  refine lv_bipush (v := (nI 50)) S.1 S.2.1 d_M_init_150 (by decide) ?_
  refine g_newa (atype := .long) (a0 := (50, .inr (.inl (fun _ => 0)))) S hW hA ka_long 1 rfl (fun _ => rfl) (nI_pos (by decide)) (nI_clamp (by decide)) (Nat.le_of_ble_eq_true rfl) (Nat.le_of_ble_eq_true rfl) (Nat.le_of_ble_eq_true rfl) d_M_init_152 (fun q_18 H hW => ?_)
  have hW : Wd D (tyl cI cJ cB cZ) A s s.heap H _ [(aM, .inr (10, [.int 0, .ref q_1, .int 0, .int 0, .int 0, .int (-1), .ref q_2, .int 0, .int 0, .ref q_3, .ref q_4, .ref q_5, .ref q_6, .int 0, .int 0, .int 0, .long 0, .long 0, .ref q_7, .ref q_8, .int 0, .int 0, .int 0, .int 0, .int 0, .int 0, .int 0, .int 0, .int 0, .ref q_9, .ref q_10, .ref q_11, .ref q_12, .ref q_13, .ref q_14, .ref q_15, .ref q_16, .int 0, .ref q_17, .null, .null, .int 0, .null, .int 0, .null, .null, .int 0, .null, .int 0, .null, .null, .int 0, .int 0, .int 0, .int 0, .int 0, .null, .null, .null, .int 0, .int 0])), (q_1, .inl (cI, 8192, .inl (fun _ => 0))), (q_2, .inl (cI, 4096, .inl (fun _ => 0))), (q_3, .inl (cJ, 48, .inr (.inl (fun _ => 0)))), (q_4, .inl (cJ, 48, .inr (.inl (fun _ => 0)))), (q_5, .inl (cI, 43680, .inl (fun _ => 0))), (q_6, .inl (cI, 48, .inl (fun _ => 0))), (q_7, .inl (cI, 2000, .inl (fun _ => 0))), (q_8, .inl (cI, 2000, .inl (fun _ => 0))), (q_9, .inl (cI, 50, .inl (fun _ => 0))), (q_10, .inl (cI, 50, .inl (fun _ => 0))), (q_11, .inl (cI, 50, .inl (fun _ => 0))), (q_12, .inl (cI, 50, .inl (fun _ => 0))), (q_13, .inl (cI, 50, .inl (fun _ => 0))), (q_14, .inl (cI, 50, .inl (fun _ => 0))), (q_15, .inl (cJ, 50, .inr (.inl (fun _ => 0)))), (q_16, .inl (cJ, 50, .inr (.inl (fun _ => 0)))), (q_17, .inl (cJ, 50, .inr (.inl (fun _ => 0)))), (q_18, .inl (cJ, 50, .inr (.inl (fun _ => 0))))] := hW
  refine g_putF (ws2 := [(aM, .inr (10, [.int 0, .ref q_1, .int 0, .int 0, .int 0, .int (-1), .ref q_2, .int 0, .int 0, .ref q_3, .ref q_4, .ref q_5, .ref q_6, .int 0, .int 0, .int 0, .long 0, .long 0, .ref q_7, .ref q_8, .int 0, .int 0, .int 0, .int 0, .int 0, .int 0, .int 0, .int 0, .int 0, .ref q_9, .ref q_10, .ref q_11, .ref q_12, .ref q_13, .ref q_14, .ref q_15, .ref q_16, .int 0, .ref q_17, .ref q_18, .null, .int 0, .null, .int 0, .null, .null, .int 0, .null, .int 0, .null, .null, .int 0, .int 0, .int 0, .int 0, .int 0, .null, .null, .null, .int 0, .int 0])), (q_1, .inl (cI, 8192, .inl (fun _ => 0))), (q_2, .inl (cI, 4096, .inl (fun _ => 0))), (q_3, .inl (cJ, 48, .inr (.inl (fun _ => 0)))), (q_4, .inl (cJ, 48, .inr (.inl (fun _ => 0)))), (q_5, .inl (cI, 43680, .inl (fun _ => 0))), (q_6, .inl (cI, 48, .inl (fun _ => 0))), (q_7, .inl (cI, 2000, .inl (fun _ => 0))), (q_8, .inl (cI, 2000, .inl (fun _ => 0))), (q_9, .inl (cI, 50, .inl (fun _ => 0))), (q_10, .inl (cI, 50, .inl (fun _ => 0))), (q_11, .inl (cI, 50, .inl (fun _ => 0))), (q_12, .inl (cI, 50, .inl (fun _ => 0))), (q_13, .inl (cI, 50, .inl (fun _ => 0))), (q_14, .inl (cI, 50, .inl (fun _ => 0))), (q_15, .inl (cJ, 50, .inr (.inl (fun _ => 0)))), (q_16, .inl (cJ, 50, .inr (.inl (fun _ => 0)))), (q_17, .inl (cJ, 50, .inr (.inl (fun _ => 0)))), (q_18, .inl (cJ, 50, .inr (.inl (fun _ => 0))))]) i_M ft_M ft_M_ok n_M S hW 0 rfl rfl 39 (by decide) kf_M_67 rfl hin rfl rfl rfl (Nat.le_of_ble_eq_true rfl) rfl d_M_init_154 (fun H locs hW => ?_)
  refine lv_aload_n S.1 S.2.1 d_M_init_157 rfl (lv_at hl 0 rfl) ?_
  refine lv_bipush (v := (nI 50)) S.1 S.2.1 d_M_init_158 (by decide) ?_
  refine g_newa (atype := .int) (a0 := (50, .inl (fun _ => 0))) S hW hA ka_int 0 rfl (fun _ => rfl) (nI_pos (by decide)) (nI_clamp (by decide)) (Nat.le_of_ble_eq_true rfl) (Nat.le_of_ble_eq_true rfl) (Nat.le_of_ble_eq_true rfl) d_M_init_160 (fun q_19 H hW => ?_)
  have hW : Wd D (tyl cI cJ cB cZ) A s s.heap H _ [(aM, .inr (10, [.int 0, .ref q_1, .int 0, .int 0, .int 0, .int (-1), .ref q_2, .int 0, .int 0, .ref q_3, .ref q_4, .ref q_5, .ref q_6, .int 0, .int 0, .int 0, .long 0, .long 0, .ref q_7, .ref q_8, .int 0, .int 0, .int 0, .int 0, .int 0, .int 0, .int 0, .int 0, .int 0, .ref q_9, .ref q_10, .ref q_11, .ref q_12, .ref q_13, .ref q_14, .ref q_15, .ref q_16, .int 0, .ref q_17, .ref q_18, .null, .int 0, .null, .int 0, .null, .null, .int 0, .null, .int 0, .null, .null, .int 0, .int 0, .int 0, .int 0, .int 0, .null, .null, .null, .int 0, .int 0])), (q_1, .inl (cI, 8192, .inl (fun _ => 0))), (q_2, .inl (cI, 4096, .inl (fun _ => 0))), (q_3, .inl (cJ, 48, .inr (.inl (fun _ => 0)))), (q_4, .inl (cJ, 48, .inr (.inl (fun _ => 0)))), (q_5, .inl (cI, 43680, .inl (fun _ => 0))), (q_6, .inl (cI, 48, .inl (fun _ => 0))), (q_7, .inl (cI, 2000, .inl (fun _ => 0))), (q_8, .inl (cI, 2000, .inl (fun _ => 0))), (q_9, .inl (cI, 50, .inl (fun _ => 0))), (q_10, .inl (cI, 50, .inl (fun _ => 0))), (q_11, .inl (cI, 50, .inl (fun _ => 0))), (q_12, .inl (cI, 50, .inl (fun _ => 0))), (q_13, .inl (cI, 50, .inl (fun _ => 0))), (q_14, .inl (cI, 50, .inl (fun _ => 0))), (q_15, .inl (cJ, 50, .inr (.inl (fun _ => 0)))), (q_16, .inl (cJ, 50, .inr (.inl (fun _ => 0)))), (q_17, .inl (cJ, 50, .inr (.inl (fun _ => 0)))), (q_18, .inl (cJ, 50, .inr (.inl (fun _ => 0)))), (q_19, .inl (cI, 50, .inl (fun _ => 0)))] := hW
  refine g_putF (ws2 := [(aM, .inr (10, [.int 0, .ref q_1, .int 0, .int 0, .int 0, .int (-1), .ref q_2, .int 0, .int 0, .ref q_3, .ref q_4, .ref q_5, .ref q_6, .int 0, .int 0, .int 0, .long 0, .long 0, .ref q_7, .ref q_8, .int 0, .int 0, .int 0, .int 0, .int 0, .int 0, .int 0, .int 0, .int 0, .ref q_9, .ref q_10, .ref q_11, .ref q_12, .ref q_13, .ref q_14, .ref q_15, .ref q_16, .int 0, .ref q_17, .ref q_18, .ref q_19, .int 0, .null, .int 0, .null, .null, .int 0, .null, .int 0, .null, .null, .int 0, .int 0, .int 0, .int 0, .int 0, .null, .null, .null, .int 0, .int 0])), (q_1, .inl (cI, 8192, .inl (fun _ => 0))), (q_2, .inl (cI, 4096, .inl (fun _ => 0))), (q_3, .inl (cJ, 48, .inr (.inl (fun _ => 0)))), (q_4, .inl (cJ, 48, .inr (.inl (fun _ => 0)))), (q_5, .inl (cI, 43680, .inl (fun _ => 0))), (q_6, .inl (cI, 48, .inl (fun _ => 0))), (q_7, .inl (cI, 2000, .inl (fun _ => 0))), (q_8, .inl (cI, 2000, .inl (fun _ => 0))), (q_9, .inl (cI, 50, .inl (fun _ => 0))), (q_10, .inl (cI, 50, .inl (fun _ => 0))), (q_11, .inl (cI, 50, .inl (fun _ => 0))), (q_12, .inl (cI, 50, .inl (fun _ => 0))), (q_13, .inl (cI, 50, .inl (fun _ => 0))), (q_14, .inl (cI, 50, .inl (fun _ => 0))), (q_15, .inl (cJ, 50, .inr (.inl (fun _ => 0)))), (q_16, .inl (cJ, 50, .inr (.inl (fun _ => 0)))), (q_17, .inl (cJ, 50, .inr (.inl (fun _ => 0)))), (q_18, .inl (cJ, 50, .inr (.inl (fun _ => 0)))), (q_19, .inl (cI, 50, .inl (fun _ => 0)))]) i_M ft_M ft_M_ok n_M S hW 0 rfl rfl 40 (by decide) kf_M_70 rfl hin rfl rfl rfl (Nat.le_of_ble_eq_true rfl) rfl d_M_init_162 (fun H locs hW => ?_)
  refine lv_aload_n S.1 S.2.1 d_M_init_165 rfl (lv_at hl 0 rfl) ?_
  refine lv_ldc (v := 140000) S.1 S.2.1 S.2.2.2.1 (S.2.2.2.2 _ kq_M_73) d_M_init_166 ?_
  refine top_eq (y := nI 140000) (by decide) ?_
  refine g_newa (atype := .int) (a0 := (140000, .inl (fun _ => 0))) S hW hA ka_int 0 rfl (fun _ => rfl) (nI_pos (by decide)) (nI_clamp (by decide)) (Nat.le_of_ble_eq_true rfl) (Nat.le_of_ble_eq_true rfl) (Nat.le_of_ble_eq_true rfl) d_M_init_168 (fun q_20 H hW => ?_)
  have hW : Wd D (tyl cI cJ cB cZ) A s s.heap H _ [(aM, .inr (10, [.int 0, .ref q_1, .int 0, .int 0, .int 0, .int (-1), .ref q_2, .int 0, .int 0, .ref q_3, .ref q_4, .ref q_5, .ref q_6, .int 0, .int 0, .int 0, .long 0, .long 0, .ref q_7, .ref q_8, .int 0, .int 0, .int 0, .int 0, .int 0, .int 0, .int 0, .int 0, .int 0, .ref q_9, .ref q_10, .ref q_11, .ref q_12, .ref q_13, .ref q_14, .ref q_15, .ref q_16, .int 0, .ref q_17, .ref q_18, .ref q_19, .int 0, .null, .int 0, .null, .null, .int 0, .null, .int 0, .null, .null, .int 0, .int 0, .int 0, .int 0, .int 0, .null, .null, .null, .int 0, .int 0])), (q_1, .inl (cI, 8192, .inl (fun _ => 0))), (q_2, .inl (cI, 4096, .inl (fun _ => 0))), (q_3, .inl (cJ, 48, .inr (.inl (fun _ => 0)))), (q_4, .inl (cJ, 48, .inr (.inl (fun _ => 0)))), (q_5, .inl (cI, 43680, .inl (fun _ => 0))), (q_6, .inl (cI, 48, .inl (fun _ => 0))), (q_7, .inl (cI, 2000, .inl (fun _ => 0))), (q_8, .inl (cI, 2000, .inl (fun _ => 0))), (q_9, .inl (cI, 50, .inl (fun _ => 0))), (q_10, .inl (cI, 50, .inl (fun _ => 0))), (q_11, .inl (cI, 50, .inl (fun _ => 0))), (q_12, .inl (cI, 50, .inl (fun _ => 0))), (q_13, .inl (cI, 50, .inl (fun _ => 0))), (q_14, .inl (cI, 50, .inl (fun _ => 0))), (q_15, .inl (cJ, 50, .inr (.inl (fun _ => 0)))), (q_16, .inl (cJ, 50, .inr (.inl (fun _ => 0)))), (q_17, .inl (cJ, 50, .inr (.inl (fun _ => 0)))), (q_18, .inl (cJ, 50, .inr (.inl (fun _ => 0)))), (q_19, .inl (cI, 50, .inl (fun _ => 0))), (q_20, .inl (cI, 140000, .inl (fun _ => 0)))] := hW
  refine g_putF (ws2 := [(aM, .inr (10, [.int 0, .ref q_1, .int 0, .int 0, .int 0, .int (-1), .ref q_2, .int 0, .int 0, .ref q_3, .ref q_4, .ref q_5, .ref q_6, .int 0, .int 0, .int 0, .long 0, .long 0, .ref q_7, .ref q_8, .int 0, .int 0, .int 0, .int 0, .int 0, .int 0, .int 0, .int 0, .int 0, .ref q_9, .ref q_10, .ref q_11, .ref q_12, .ref q_13, .ref q_14, .ref q_15, .ref q_16, .int 0, .ref q_17, .ref q_18, .ref q_19, .int 0, .ref q_20, .int 0, .null, .null, .int 0, .null, .int 0, .null, .null, .int 0, .int 0, .int 0, .int 0, .int 0, .null, .null, .null, .int 0, .int 0])), (q_1, .inl (cI, 8192, .inl (fun _ => 0))), (q_2, .inl (cI, 4096, .inl (fun _ => 0))), (q_3, .inl (cJ, 48, .inr (.inl (fun _ => 0)))), (q_4, .inl (cJ, 48, .inr (.inl (fun _ => 0)))), (q_5, .inl (cI, 43680, .inl (fun _ => 0))), (q_6, .inl (cI, 48, .inl (fun _ => 0))), (q_7, .inl (cI, 2000, .inl (fun _ => 0))), (q_8, .inl (cI, 2000, .inl (fun _ => 0))), (q_9, .inl (cI, 50, .inl (fun _ => 0))), (q_10, .inl (cI, 50, .inl (fun _ => 0))), (q_11, .inl (cI, 50, .inl (fun _ => 0))), (q_12, .inl (cI, 50, .inl (fun _ => 0))), (q_13, .inl (cI, 50, .inl (fun _ => 0))), (q_14, .inl (cI, 50, .inl (fun _ => 0))), (q_15, .inl (cJ, 50, .inr (.inl (fun _ => 0)))), (q_16, .inl (cJ, 50, .inr (.inl (fun _ => 0)))), (q_17, .inl (cJ, 50, .inr (.inl (fun _ => 0)))), (q_18, .inl (cJ, 50, .inr (.inl (fun _ => 0)))), (q_19, .inl (cI, 50, .inl (fun _ => 0))), (q_20, .inl (cI, 140000, .inl (fun _ => 0)))]) i_M ft_M ft_M_ok n_M S hW 0 rfl rfl 42 (by decide) kf_M_74 rfl hin rfl rfl rfl (Nat.le_of_ble_eq_true rfl) rfl d_M_init_170 (fun H locs hW => ?_)
  refine lv_aload_n S.1 S.2.1 d_M_init_173 rfl (lv_at hl 0 rfl) ?_
  refine lv_sipush (v := (nI 1000)) S.1 S.2.1 d_M_init_174 (by decide) ?_
  refine g_newa (atype := .int) (a0 := (1000, .inl (fun _ => 0))) S hW hA ka_int 0 rfl (fun _ => rfl) (nI_pos (by decide)) (nI_clamp (by decide)) (Nat.le_of_ble_eq_true rfl) (Nat.le_of_ble_eq_true rfl) (Nat.le_of_ble_eq_true rfl) d_M_init_177 (fun q_21 H hW => ?_)
  have hW : Wd D (tyl cI cJ cB cZ) A s s.heap H _ [(aM, .inr (10, [.int 0, .ref q_1, .int 0, .int 0, .int 0, .int (-1), .ref q_2, .int 0, .int 0, .ref q_3, .ref q_4, .ref q_5, .ref q_6, .int 0, .int 0, .int 0, .long 0, .long 0, .ref q_7, .ref q_8, .int 0, .int 0, .int 0, .int 0, .int 0, .int 0, .int 0, .int 0, .int 0, .ref q_9, .ref q_10, .ref q_11, .ref q_12, .ref q_13, .ref q_14, .ref q_15, .ref q_16, .int 0, .ref q_17, .ref q_18, .ref q_19, .int 0, .ref q_20, .int 0, .null, .null, .int 0, .null, .int 0, .null, .null, .int 0, .int 0, .int 0, .int 0, .int 0, .null, .null, .null, .int 0, .int 0])), (q_1, .inl (cI, 8192, .inl (fun _ => 0))), (q_2, .inl (cI, 4096, .inl (fun _ => 0))), (q_3, .inl (cJ, 48, .inr (.inl (fun _ => 0)))), (q_4, .inl (cJ, 48, .inr (.inl (fun _ => 0)))), (q_5, .inl (cI, 43680, .inl (fun _ => 0))), (q_6, .inl (cI, 48, .inl (fun _ => 0))), (q_7, .inl (cI, 2000, .inl (fun _ => 0))), (q_8, .inl (cI, 2000, .inl (fun _ => 0))), (q_9, .inl (cI, 50, .inl (fun _ => 0))), (q_10, .inl (cI, 50, .inl (fun _ => 0))), (q_11, .inl (cI, 50, .inl (fun _ => 0))), (q_12, .inl (cI, 50, .inl (fun _ => 0))), (q_13, .inl (cI, 50, .inl (fun _ => 0))), (q_14, .inl (cI, 50, .inl (fun _ => 0))), (q_15, .inl (cJ, 50, .inr (.inl (fun _ => 0)))), (q_16, .inl (cJ, 50, .inr (.inl (fun _ => 0)))), (q_17, .inl (cJ, 50, .inr (.inl (fun _ => 0)))), (q_18, .inl (cJ, 50, .inr (.inl (fun _ => 0)))), (q_19, .inl (cI, 50, .inl (fun _ => 0))), (q_20, .inl (cI, 140000, .inl (fun _ => 0))), (q_21, .inl (cI, 1000, .inl (fun _ => 0)))] := hW
  refine g_putF (ws2 := [(aM, .inr (10, [.int 0, .ref q_1, .int 0, .int 0, .int 0, .int (-1), .ref q_2, .int 0, .int 0, .ref q_3, .ref q_4, .ref q_5, .ref q_6, .int 0, .int 0, .int 0, .long 0, .long 0, .ref q_7, .ref q_8, .int 0, .int 0, .int 0, .int 0, .int 0, .int 0, .int 0, .int 0, .int 0, .ref q_9, .ref q_10, .ref q_11, .ref q_12, .ref q_13, .ref q_14, .ref q_15, .ref q_16, .int 0, .ref q_17, .ref q_18, .ref q_19, .int 0, .ref q_20, .int 0, .ref q_21, .null, .int 0, .null, .int 0, .null, .null, .int 0, .int 0, .int 0, .int 0, .int 0, .null, .null, .null, .int 0, .int 0])), (q_1, .inl (cI, 8192, .inl (fun _ => 0))), (q_2, .inl (cI, 4096, .inl (fun _ => 0))), (q_3, .inl (cJ, 48, .inr (.inl (fun _ => 0)))), (q_4, .inl (cJ, 48, .inr (.inl (fun _ => 0)))), (q_5, .inl (cI, 43680, .inl (fun _ => 0))), (q_6, .inl (cI, 48, .inl (fun _ => 0))), (q_7, .inl (cI, 2000, .inl (fun _ => 0))), (q_8, .inl (cI, 2000, .inl (fun _ => 0))), (q_9, .inl (cI, 50, .inl (fun _ => 0))), (q_10, .inl (cI, 50, .inl (fun _ => 0))), (q_11, .inl (cI, 50, .inl (fun _ => 0))), (q_12, .inl (cI, 50, .inl (fun _ => 0))), (q_13, .inl (cI, 50, .inl (fun _ => 0))), (q_14, .inl (cI, 50, .inl (fun _ => 0))), (q_15, .inl (cJ, 50, .inr (.inl (fun _ => 0)))), (q_16, .inl (cJ, 50, .inr (.inl (fun _ => 0)))), (q_17, .inl (cJ, 50, .inr (.inl (fun _ => 0)))), (q_18, .inl (cJ, 50, .inr (.inl (fun _ => 0)))), (q_19, .inl (cI, 50, .inl (fun _ => 0))), (q_20, .inl (cI, 140000, .inl (fun _ => 0))), (q_21, .inl (cI, 1000, .inl (fun _ => 0)))]) i_M ft_M ft_M_ok n_M S hW 0 rfl rfl 44 (by decide) kf_M_77 rfl hin rfl rfl rfl (Nat.le_of_ble_eq_true rfl) rfl d_M_init_179 (fun H locs hW => ?_)
  refine lv_aload_n S.1 S.2.1 d_M_init_182 rfl (lv_at hl 0 rfl) ?_
  refine lv_sipush (v := (nI 14000)) S.1 S.2.1 d_M_init_183 (by decide) ?_
  refine g_newa (atype := .int) (a0 := (14000, .inl (fun _ => 0))) S hW hA ka_int 0 rfl (fun _ => rfl) (nI_pos (by decide)) (nI_clamp (by decide)) (Nat.le_of_ble_eq_true rfl) (Nat.le_of_ble_eq_true rfl) (Nat.le_of_ble_eq_true rfl) d_M_init_186 (fun q_22 H hW => ?_)
  have hW : Wd D (tyl cI cJ cB cZ) A s s.heap H _ [(aM, .inr (10, [.int 0, .ref q_1, .int 0, .int 0, .int 0, .int (-1), .ref q_2, .int 0, .int 0, .ref q_3, .ref q_4, .ref q_5, .ref q_6, .int 0, .int 0, .int 0, .long 0, .long 0, .ref q_7, .ref q_8, .int 0, .int 0, .int 0, .int 0, .int 0, .int 0, .int 0, .int 0, .int 0, .ref q_9, .ref q_10, .ref q_11, .ref q_12, .ref q_13, .ref q_14, .ref q_15, .ref q_16, .int 0, .ref q_17, .ref q_18, .ref q_19, .int 0, .ref q_20, .int 0, .ref q_21, .null, .int 0, .null, .int 0, .null, .null, .int 0, .int 0, .int 0, .int 0, .int 0, .null, .null, .null, .int 0, .int 0])), (q_1, .inl (cI, 8192, .inl (fun _ => 0))), (q_2, .inl (cI, 4096, .inl (fun _ => 0))), (q_3, .inl (cJ, 48, .inr (.inl (fun _ => 0)))), (q_4, .inl (cJ, 48, .inr (.inl (fun _ => 0)))), (q_5, .inl (cI, 43680, .inl (fun _ => 0))), (q_6, .inl (cI, 48, .inl (fun _ => 0))), (q_7, .inl (cI, 2000, .inl (fun _ => 0))), (q_8, .inl (cI, 2000, .inl (fun _ => 0))), (q_9, .inl (cI, 50, .inl (fun _ => 0))), (q_10, .inl (cI, 50, .inl (fun _ => 0))), (q_11, .inl (cI, 50, .inl (fun _ => 0))), (q_12, .inl (cI, 50, .inl (fun _ => 0))), (q_13, .inl (cI, 50, .inl (fun _ => 0))), (q_14, .inl (cI, 50, .inl (fun _ => 0))), (q_15, .inl (cJ, 50, .inr (.inl (fun _ => 0)))), (q_16, .inl (cJ, 50, .inr (.inl (fun _ => 0)))), (q_17, .inl (cJ, 50, .inr (.inl (fun _ => 0)))), (q_18, .inl (cJ, 50, .inr (.inl (fun _ => 0)))), (q_19, .inl (cI, 50, .inl (fun _ => 0))), (q_20, .inl (cI, 140000, .inl (fun _ => 0))), (q_21, .inl (cI, 1000, .inl (fun _ => 0))), (q_22, .inl (cI, 14000, .inl (fun _ => 0)))] := hW
  refine g_putF (ws2 := [(aM, .inr (10, [.int 0, .ref q_1, .int 0, .int 0, .int 0, .int (-1), .ref q_2, .int 0, .int 0, .ref q_3, .ref q_4, .ref q_5, .ref q_6, .int 0, .int 0, .int 0, .long 0, .long 0, .ref q_7, .ref q_8, .int 0, .int 0, .int 0, .int 0, .int 0, .int 0, .int 0, .int 0, .int 0, .ref q_9, .ref q_10, .ref q_11, .ref q_12, .ref q_13, .ref q_14, .ref q_15, .ref q_16, .int 0, .ref q_17, .ref q_18, .ref q_19, .int 0, .ref q_20, .int 0, .ref q_21, .ref q_22, .int 0, .null, .int 0, .null, .null, .int 0, .int 0, .int 0, .int 0, .int 0, .null, .null, .null, .int 0, .int 0])), (q_1, .inl (cI, 8192, .inl (fun _ => 0))), (q_2, .inl (cI, 4096, .inl (fun _ => 0))), (q_3, .inl (cJ, 48, .inr (.inl (fun _ => 0)))), (q_4, .inl (cJ, 48, .inr (.inl (fun _ => 0)))), (q_5, .inl (cI, 43680, .inl (fun _ => 0))), (q_6, .inl (cI, 48, .inl (fun _ => 0))), (q_7, .inl (cI, 2000, .inl (fun _ => 0))), (q_8, .inl (cI, 2000, .inl (fun _ => 0))), (q_9, .inl (cI, 50, .inl (fun _ => 0))), (q_10, .inl (cI, 50, .inl (fun _ => 0))), (q_11, .inl (cI, 50, .inl (fun _ => 0))), (q_12, .inl (cI, 50, .inl (fun _ => 0))), (q_13, .inl (cI, 50, .inl (fun _ => 0))), (q_14, .inl (cI, 50, .inl (fun _ => 0))), (q_15, .inl (cJ, 50, .inr (.inl (fun _ => 0)))), (q_16, .inl (cJ, 50, .inr (.inl (fun _ => 0)))), (q_17, .inl (cJ, 50, .inr (.inl (fun _ => 0)))), (q_18, .inl (cJ, 50, .inr (.inl (fun _ => 0)))), (q_19, .inl (cI, 50, .inl (fun _ => 0))), (q_20, .inl (cI, 140000, .inl (fun _ => 0))), (q_21, .inl (cI, 1000, .inl (fun _ => 0))), (q_22, .inl (cI, 14000, .inl (fun _ => 0)))]) i_M ft_M ft_M_ok n_M S hW 0 rfl rfl 45 (by decide) kf_M_80 rfl hin rfl rfl rfl (Nat.le_of_ble_eq_true rfl) rfl d_M_init_188 (fun H locs hW => ?_)
  refine lv_aload_n S.1 S.2.1 d_M_init_191 rfl (lv_at hl 0 rfl) ?_
  refine lv_sipush (v := (nI 30000)) S.1 S.2.1 d_M_init_192 (by decide) ?_
  refine g_newa (atype := .int) (a0 := (30000, .inl (fun _ => 0))) S hW hA ka_int 0 rfl (fun _ => rfl) (nI_pos (by decide)) (nI_clamp (by decide)) (Nat.le_of_ble_eq_true rfl) (Nat.le_of_ble_eq_true rfl) (Nat.le_of_ble_eq_true rfl) d_M_init_195 (fun q_23 H hW => ?_)
  have hW : Wd D (tyl cI cJ cB cZ) A s s.heap H _ [(aM, .inr (10, [.int 0, .ref q_1, .int 0, .int 0, .int 0, .int (-1), .ref q_2, .int 0, .int 0, .ref q_3, .ref q_4, .ref q_5, .ref q_6, .int 0, .int 0, .int 0, .long 0, .long 0, .ref q_7, .ref q_8, .int 0, .int 0, .int 0, .int 0, .int 0, .int 0, .int 0, .int 0, .int 0, .ref q_9, .ref q_10, .ref q_11, .ref q_12, .ref q_13, .ref q_14, .ref q_15, .ref q_16, .int 0, .ref q_17, .ref q_18, .ref q_19, .int 0, .ref q_20, .int 0, .ref q_21, .ref q_22, .int 0, .null, .int 0, .null, .null, .int 0, .int 0, .int 0, .int 0, .int 0, .null, .null, .null, .int 0, .int 0])), (q_1, .inl (cI, 8192, .inl (fun _ => 0))), (q_2, .inl (cI, 4096, .inl (fun _ => 0))), (q_3, .inl (cJ, 48, .inr (.inl (fun _ => 0)))), (q_4, .inl (cJ, 48, .inr (.inl (fun _ => 0)))), (q_5, .inl (cI, 43680, .inl (fun _ => 0))), (q_6, .inl (cI, 48, .inl (fun _ => 0))), (q_7, .inl (cI, 2000, .inl (fun _ => 0))), (q_8, .inl (cI, 2000, .inl (fun _ => 0))), (q_9, .inl (cI, 50, .inl (fun _ => 0))), (q_10, .inl (cI, 50, .inl (fun _ => 0))), (q_11, .inl (cI, 50, .inl (fun _ => 0))), (q_12, .inl (cI, 50, .inl (fun _ => 0))), (q_13, .inl (cI, 50, .inl (fun _ => 0))), (q_14, .inl (cI, 50, .inl (fun _ => 0))), (q_15, .inl (cJ, 50, .inr (.inl (fun _ => 0)))), (q_16, .inl (cJ, 50, .inr (.inl (fun _ => 0)))), (q_17, .inl (cJ, 50, .inr (.inl (fun _ => 0)))), (q_18, .inl (cJ, 50, .inr (.inl (fun _ => 0)))), (q_19, .inl (cI, 50, .inl (fun _ => 0))), (q_20, .inl (cI, 140000, .inl (fun _ => 0))), (q_21, .inl (cI, 1000, .inl (fun _ => 0))), (q_22, .inl (cI, 14000, .inl (fun _ => 0))), (q_23, .inl (cI, 30000, .inl (fun _ => 0)))] := hW
  refine g_putF (ws2 := [(aM, .inr (10, [.int 0, .ref q_1, .int 0, .int 0, .int 0, .int (-1), .ref q_2, .int 0, .int 0, .ref q_3, .ref q_4, .ref q_5, .ref q_6, .int 0, .int 0, .int 0, .long 0, .long 0, .ref q_7, .ref q_8, .int 0, .int 0, .int 0, .int 0, .int 0, .int 0, .int 0, .int 0, .int 0, .ref q_9, .ref q_10, .ref q_11, .ref q_12, .ref q_13, .ref q_14, .ref q_15, .ref q_16, .int 0, .ref q_17, .ref q_18, .ref q_19, .int 0, .ref q_20, .int 0, .ref q_21, .ref q_22, .int 0, .ref q_23, .int 0, .null, .null, .int 0, .int 0, .int 0, .int 0, .int 0, .null, .null, .null, .int 0, .int 0])), (q_1, .inl (cI, 8192, .inl (fun _ => 0))), (q_2, .inl (cI, 4096, .inl (fun _ => 0))), (q_3, .inl (cJ, 48, .inr (.inl (fun _ => 0)))), (q_4, .inl (cJ, 48, .inr (.inl (fun _ => 0)))), (q_5, .inl (cI, 43680, .inl (fun _ => 0))), (q_6, .inl (cI, 48, .inl (fun _ => 0))), (q_7, .inl (cI, 2000, .inl (fun _ => 0))), (q_8, .inl (cI, 2000, .inl (fun _ => 0))), (q_9, .inl (cI, 50, .inl (fun _ => 0))), (q_10, .inl (cI, 50, .inl (fun _ => 0))), (q_11, .inl (cI, 50, .inl (fun _ => 0))), (q_12, .inl (cI, 50, .inl (fun _ => 0))), (q_13, .inl (cI, 50, .inl (fun _ => 0))), (q_14, .inl (cI, 50, .inl (fun _ => 0))), (q_15, .inl (cJ, 50, .inr (.inl (fun _ => 0)))), (q_16, .inl (cJ, 50, .inr (.inl (fun _ => 0)))), (q_17, .inl (cJ, 50, .inr (.inl (fun _ => 0)))), (q_18, .inl (cJ, 50, .inr (.inl (fun _ => 0)))), (q_19, .inl (cI, 50, .inl (fun _ => 0))), (q_20, .inl (cI, 140000, .inl (fun _ => 0))), (q_21, .inl (cI, 1000, .inl (fun _ => 0))), (q_22, .inl (cI, 14000, .inl (fun _ => 0))), (q_23, .inl (cI, 30000, .inl (fun _ => 0)))]) i_M ft_M ft_M_ok n_M S hW 0 rfl rfl 47 (by decide) kf_M_83 rfl hin rfl rfl rfl (Nat.le_of_ble_eq_true rfl) rfl d_M_init_197 (fun H locs hW => ?_)
  refine lv_aload_n S.1 S.2.1 d_M_init_200 rfl (lv_at hl 0 rfl) ?_
  refine lv_sipush (v := (nI 1400)) S.1 S.2.1 d_M_init_201 (by decide) ?_
  refine g_newa (atype := .int) (a0 := (1400, .inl (fun _ => 0))) S hW hA ka_int 0 rfl (fun _ => rfl) (nI_pos (by decide)) (nI_clamp (by decide)) (Nat.le_of_ble_eq_true rfl) (Nat.le_of_ble_eq_true rfl) (Nat.le_of_ble_eq_true rfl) d_M_init_204 (fun q_24 H hW => ?_)
  have hW : Wd D (tyl cI cJ cB cZ) A s s.heap H _ [(aM, .inr (10, [.int 0, .ref q_1, .int 0, .int 0, .int 0, .int (-1), .ref q_2, .int 0, .int 0, .ref q_3, .ref q_4, .ref q_5, .ref q_6, .int 0, .int 0, .int 0, .long 0, .long 0, .ref q_7, .ref q_8, .int 0, .int 0, .int 0, .int 0, .int 0, .int 0, .int 0, .int 0, .int 0, .ref q_9, .ref q_10, .ref q_11, .ref q_12, .ref q_13, .ref q_14, .ref q_15, .ref q_16, .int 0, .ref q_17, .ref q_18, .ref q_19, .int 0, .ref q_20, .int 0, .ref q_21, .ref q_22, .int 0, .ref q_23, .int 0, .null, .null, .int 0, .int 0, .int 0, .int 0, .int 0, .null, .null, .null, .int 0, .int 0])), (q_1, .inl (cI, 8192, .inl (fun _ => 0))), (q_2, .inl (cI, 4096, .inl (fun _ => 0))), (q_3, .inl (cJ, 48, .inr (.inl (fun _ => 0)))), (q_4, .inl (cJ, 48, .inr (.inl (fun _ => 0)))), (q_5, .inl (cI, 43680, .inl (fun _ => 0))), (q_6, .inl (cI, 48, .inl (fun _ => 0))), (q_7, .inl (cI, 2000, .inl (fun _ => 0))), (q_8, .inl (cI, 2000, .inl (fun _ => 0))), (q_9, .inl (cI, 50, .inl (fun _ => 0))), (q_10, .inl (cI, 50, .inl (fun _ => 0))), (q_11, .inl (cI, 50, .inl (fun _ => 0))), (q_12, .inl (cI, 50, .inl (fun _ => 0))), (q_13, .inl (cI, 50, .inl (fun _ => 0))), (q_14, .inl (cI, 50, .inl (fun _ => 0))), (q_15, .inl (cJ, 50, .inr (.inl (fun _ => 0)))), (q_16, .inl (cJ, 50, .inr (.inl (fun _ => 0)))), (q_17, .inl (cJ, 50, .inr (.inl (fun _ => 0)))), (q_18, .inl (cJ, 50, .inr (.inl (fun _ => 0)))), (q_19, .inl (cI, 50, .inl (fun _ => 0))), (q_20, .inl (cI, 140000, .inl (fun _ => 0))), (q_21, .inl (cI, 1000, .inl (fun _ => 0))), (q_22, .inl (cI, 14000, .inl (fun _ => 0))), (q_23, .inl (cI, 30000, .inl (fun _ => 0))), (q_24, .inl (cI, 1400, .inl (fun _ => 0)))] := hW
  refine g_putF (ws2 := [(aM, .inr (10, [.int 0, .ref q_1, .int 0, .int 0, .int 0, .int (-1), .ref q_2, .int 0, .int 0, .ref q_3, .ref q_4, .ref q_5, .ref q_6, .int 0, .int 0, .int 0, .long 0, .long 0, .ref q_7, .ref q_8, .int 0, .int 0, .int 0, .int 0, .int 0, .int 0, .int 0, .int 0, .int 0, .ref q_9, .ref q_10, .ref q_11, .ref q_12, .ref q_13, .ref q_14, .ref q_15, .ref q_16, .int 0, .ref q_17, .ref q_18, .ref q_19, .int 0, .ref q_20, .int 0, .ref q_21, .ref q_22, .int 0, .ref q_23, .int 0, .ref q_24, .null, .int 0, .int 0, .int 0, .int 0, .int 0, .null, .null, .null, .int 0, .int 0])), (q_1, .inl (cI, 8192, .inl (fun _ => 0))), (q_2, .inl (cI, 4096, .inl (fun _ => 0))), (q_3, .inl (cJ, 48, .inr (.inl (fun _ => 0)))), (q_4, .inl (cJ, 48, .inr (.inl (fun _ => 0)))), (q_5, .inl (cI, 43680, .inl (fun _ => 0))), (q_6, .inl (cI, 48, .inl (fun _ => 0))), (q_7, .inl (cI, 2000, .inl (fun _ => 0))), (q_8, .inl (cI, 2000, .inl (fun _ => 0))), (q_9, .inl (cI, 50, .inl (fun _ => 0))), (q_10, .inl (cI, 50, .inl (fun _ => 0))), (q_11, .inl (cI, 50, .inl (fun _ => 0))), (q_12, .inl (cI, 50, .inl (fun _ => 0))), (q_13, .inl (cI, 50, .inl (fun _ => 0))), (q_14, .inl (cI, 50, .inl (fun _ => 0))), (q_15, .inl (cJ, 50, .inr (.inl (fun _ => 0)))), (q_16, .inl (cJ, 50, .inr (.inl (fun _ => 0)))), (q_17, .inl (cJ, 50, .inr (.inl (fun _ => 0)))), (q_18, .inl (cJ, 50, .inr (.inl (fun _ => 0)))), (q_19, .inl (cI, 50, .inl (fun _ => 0))), (q_20, .inl (cI, 140000, .inl (fun _ => 0))), (q_21, .inl (cI, 1000, .inl (fun _ => 0))), (q_22, .inl (cI, 14000, .inl (fun _ => 0))), (q_23, .inl (cI, 30000, .inl (fun _ => 0))), (q_24, .inl (cI, 1400, .inl (fun _ => 0)))]) i_M ft_M ft_M_ok n_M S hW 0 rfl rfl 49 (by decide) kf_M_86 rfl hin rfl rfl rfl (Nat.le_of_ble_eq_true rfl) rfl d_M_init_206 (fun H locs hW => ?_)
  refine lv_aload_n S.1 S.2.1 d_M_init_209 rfl (lv_at hl 0 rfl) ?_
  refine lv_sipush (v := (nI 1400)) S.1 S.2.1 d_M_init_210 (by decide) ?_
  refine g_newa (atype := .int) (a0 := (1400, .inl (fun _ => 0))) S hW hA ka_int 0 rfl (fun _ => rfl) (nI_pos (by decide)) (nI_clamp (by decide)) (Nat.le_of_ble_eq_true rfl) (Nat.le_of_ble_eq_true rfl) (Nat.le_of_ble_eq_true rfl) d_M_init_213 (fun q_25 H hW => ?_)
  have hW : Wd D (tyl cI cJ cB cZ) A s s.heap H _ [(aM, .inr (10, [.int 0, .ref q_1, .int 0, .int 0, .int 0, .int (-1), .ref q_2, .int 0, .int 0, .ref q_3, .ref q_4, .ref q_5, .ref q_6, .int 0, .int 0, .int 0, .long 0, .long 0, .ref q_7, .ref q_8, .int 0, .int 0, .int 0, .int 0, .int 0, .int 0, .int 0, .int 0, .int 0, .ref q_9, .ref q_10, .ref q_11, .ref q_12, .ref q_13, .ref q_14, .ref q_15, .ref q_16, .int 0, .ref q_17, .ref q_18, .ref q_19, .int 0, .ref q_20, .int 0, .ref q_21, .ref q_22, .int 0, .ref q_23, .int 0, .ref q_24, .null, .int 0, .int 0, .int 0, .int 0, .int 0, .null, .null, .null, .int 0, .int 0])), (q_1, .inl (cI, 8192, .inl (fun _ => 0))), (q_2, .inl (cI, 4096, .inl (fun _ => 0))), (q_3, .inl (cJ, 48, .inr (.inl (fun _ => 0)))), (q_4, .inl (cJ, 48, .inr (.inl (fun _ => 0)))), (q_5, .inl (cI, 43680, .inl (fun _ => 0))), (q_6, .inl (cI, 48, .inl (fun _ => 0))), (q_7, .inl (cI, 2000, .inl (fun _ => 0))), (q_8, .inl (cI, 2000, .inl (fun _ => 0))), (q_9, .inl (cI, 50, .inl (fun _ => 0))), (q_10, .inl (cI, 50, .inl (fun _ => 0))), (q_11, .inl (cI, 50, .inl (fun _ => 0))), (q_12, .inl (cI, 50, .inl (fun _ => 0))), (q_13, .inl (cI, 50, .inl (fun _ => 0))), (q_14, .inl (cI, 50, .inl (fun _ => 0))), (q_15, .inl (cJ, 50, .inr (.inl (fun _ => 0)))), (q_16, .inl (cJ, 50, .inr (.inl (fun _ => 0)))), (q_17, .inl (cJ, 50, .inr (.inl (fun _ => 0)))), (q_18, .inl (cJ, 50, .inr (.inl (fun _ => 0)))), (q_19, .inl (cI, 50, .inl (fun _ => 0))), (q_20, .inl (cI, 140000, .inl (fun _ => 0))), (q_21, .inl (cI, 1000, .inl (fun _ => 0))), (q_22, .inl (cI, 14000, .inl (fun _ => 0))), (q_23, .inl (cI, 30000, .inl (fun _ => 0))), (q_24, .inl (cI, 1400, .inl (fun _ => 0))), (q_25, .inl (cI, 1400, .inl (fun _ => 0)))] := hW
  refine g_putF (ws2 := [(aM, .inr (10, [.int 0, .ref q_1, .int 0, .int 0, .int 0, .int (-1), .ref q_2, .int 0, .int 0, .ref q_3, .ref q_4, .ref q_5, .ref q_6, .int 0, .int 0, .int 0, .long 0, .long 0, .ref q_7, .ref q_8, .int 0, .int 0, .int 0, .int 0, .int 0, .int 0, .int 0, .int 0, .int 0, .ref q_9, .ref q_10, .ref q_11, .ref q_12, .ref q_13, .ref q_14, .ref q_15, .ref q_16, .int 0, .ref q_17, .ref q_18, .ref q_19, .int 0, .ref q_20, .int 0, .ref q_21, .ref q_22, .int 0, .ref q_23, .int 0, .ref q_24, .ref q_25, .int 0, .int 0, .int 0, .int 0, .int 0, .null, .null, .null, .int 0, .int 0])), (q_1, .inl (cI, 8192, .inl (fun _ => 0))), (q_2, .inl (cI, 4096, .inl (fun _ => 0))), (q_3, .inl (cJ, 48, .inr (.inl (fun _ => 0)))), (q_4, .inl (cJ, 48, .inr (.inl (fun _ => 0)))), (q_5, .inl (cI, 43680, .inl (fun _ => 0))), (q_6, .inl (cI, 48, .inl (fun _ => 0))), (q_7, .inl (cI, 2000, .inl (fun _ => 0))), (q_8, .inl (cI, 2000, .inl (fun _ => 0))), (q_9, .inl (cI, 50, .inl (fun _ => 0))), (q_10, .inl (cI, 50, .inl (fun _ => 0))), (q_11, .inl (cI, 50, .inl (fun _ => 0))), (q_12, .inl (cI, 50, .inl (fun _ => 0))), (q_13, .inl (cI, 50, .inl (fun _ => 0))), (q_14, .inl (cI, 50, .inl (fun _ => 0))), (q_15, .inl (cJ, 50, .inr (.inl (fun _ => 0)))), (q_16, .inl (cJ, 50, .inr (.inl (fun _ => 0)))), (q_17, .inl (cJ, 50, .inr (.inl (fun _ => 0)))), (q_18, .inl (cJ, 50, .inr (.inl (fun _ => 0)))), (q_19, .inl (cI, 50, .inl (fun _ => 0))), (q_20, .inl (cI, 140000, .inl (fun _ => 0))), (q_21, .inl (cI, 1000, .inl (fun _ => 0))), (q_22, .inl (cI, 14000, .inl (fun _ => 0))), (q_23, .inl (cI, 30000, .inl (fun _ => 0))), (q_24, .inl (cI, 1400, .inl (fun _ => 0))), (q_25, .inl (cI, 1400, .inl (fun _ => 0)))]) i_M ft_M ft_M_ok n_M S hW 0 rfl rfl 50 (by decide) kf_M_89 rfl hin rfl rfl rfl (Nat.le_of_ble_eq_true rfl) rfl d_M_init_215 (fun H locs hW => ?_)
  refine lv_aload_n S.1 S.2.1 d_M_init_218 rfl (lv_at hl 0 rfl) ?_
  refine lv_iconst (v := (-1)) S.1 S.2.1 d_M_init_219 (by decide) ?_
  refine g_put (ws2 := [(aM, .inr (10, [.int 0, .ref q_1, .int 0, .int 0, .int 0, .int (-1), .ref q_2, .int 0, .int 0, .ref q_3, .ref q_4, .ref q_5, .ref q_6, .int 0, .int 0, .int 0, .long 0, .long 0, .ref q_7, .ref q_8, .int 0, .int 0, .int 0, .int 0, .int 0, .int 0, .int 0, .int 0, .int 0, .ref q_9, .ref q_10, .ref q_11, .ref q_12, .ref q_13, .ref q_14, .ref q_15, .ref q_16, .int 0, .ref q_17, .ref q_18, .ref q_19, .int 0, .ref q_20, .int 0, .ref q_21, .ref q_22, .int 0, .ref q_23, .int 0, .ref q_24, .ref q_25, .int 0, .int (-1), .int 0, .int 0, .int 0, .null, .null, .null, .int 0, .int 0])), (q_1, .inl (cI, 8192, .inl (fun _ => 0))), (q_2, .inl (cI, 4096, .inl (fun _ => 0))), (q_3, .inl (cJ, 48, .inr (.inl (fun _ => 0)))), (q_4, .inl (cJ, 48, .inr (.inl (fun _ => 0)))), (q_5, .inl (cI, 43680, .inl (fun _ => 0))), (q_6, .inl (cI, 48, .inl (fun _ => 0))), (q_7, .inl (cI, 2000, .inl (fun _ => 0))), (q_8, .inl (cI, 2000, .inl (fun _ => 0))), (q_9, .inl (cI, 50, .inl (fun _ => 0))), (q_10, .inl (cI, 50, .inl (fun _ => 0))), (q_11, .inl (cI, 50, .inl (fun _ => 0))), (q_12, .inl (cI, 50, .inl (fun _ => 0))), (q_13, .inl (cI, 50, .inl (fun _ => 0))), (q_14, .inl (cI, 50, .inl (fun _ => 0))), (q_15, .inl (cJ, 50, .inr (.inl (fun _ => 0)))), (q_16, .inl (cJ, 50, .inr (.inl (fun _ => 0)))), (q_17, .inl (cJ, 50, .inr (.inl (fun _ => 0)))), (q_18, .inl (cJ, 50, .inr (.inl (fun _ => 0)))), (q_19, .inl (cI, 50, .inl (fun _ => 0))), (q_20, .inl (cI, 140000, .inl (fun _ => 0))), (q_21, .inl (cI, 1000, .inl (fun _ => 0))), (q_22, .inl (cI, 14000, .inl (fun _ => 0))), (q_23, .inl (cI, 30000, .inl (fun _ => 0))), (q_24, .inl (cI, 1400, .inl (fun _ => 0))), (q_25, .inl (cI, 1400, .inl (fun _ => 0)))]) i_M ft_M ft_M_ok n_M S hW 0 rfl rfl 52 (by decide) kf_M_92 rfl rfl rfl (Nat.le_of_ble_eq_true rfl) rfl d_M_init_220 (fun H locs hW => ?_)
  refine lv_aload_n S.1 S.2.1 d_M_init_223 rfl (lv_at hl 0 rfl) ?_
  refine lv_sipush (v := (nI 1400)) S.1 S.2.1 d_M_init_224 (by decide) ?_
  refine g_newa (atype := .int) (a0 := (1400, .inl (fun _ => 0))) S hW hA ka_int 0 rfl (fun _ => rfl) (nI_pos (by decide)) (nI_clamp (by decide)) (Nat.le_of_ble_eq_true rfl) (Nat.le_of_ble_eq_true rfl) (Nat.le_of_ble_eq_true rfl) d_M_init_227 (fun q_26 H hW => ?_)
  have hW : Wd D (tyl cI cJ cB cZ) A s s.heap H _ [(aM, .inr (10, [.int 0, .ref q_1, .int 0, .int 0, .int 0, .int (-1), .ref q_2, .int 0, .int 0, .ref q_3, .ref q_4, .ref q_5, .ref q_6, .int 0, .int 0, .int 0, .long 0, .long 0, .ref q_7, .ref q_8, .int 0, .int 0, .int 0, .int 0, .int 0, .int 0, .int 0, .int 0, .int 0, .ref q_9, .ref q_10, .ref q_11, .ref q_12, .ref q_13, .ref q_14, .ref q_15, .ref q_16, .int 0, .ref q_17, .ref q_18, .ref q_19, .int 0, .ref q_20, .int 0, .ref q_21, .ref q_22, .int 0, .ref q_23, .int 0, .ref q_24, .ref q_25, .int 0, .int (-1), .int 0, .int 0, .int 0, .null, .null, .null, .int 0, .int 0])), (q_1, .inl (cI, 8192, .inl (fun _ => 0))), (q_2, .inl (cI, 4096, .inl (fun _ => 0))), (q_3, .inl (cJ, 48, .inr (.inl (fun _ => 0)))), (q_4, .inl (cJ, 48, .inr (.inl (fun _ => 0)))), (q_5, .inl (cI, 43680, .inl (fun _ => 0))), (q_6, .inl (cI, 48, .inl (fun _ => 0))), (q_7, .inl (cI, 2000, .inl (fun _ => 0))), (q_8, .inl (cI, 2000, .inl (fun _ => 0))), (q_9, .inl (cI, 50, .inl (fun _ => 0))), (q_10, .inl (cI, 50, .inl (fun _ => 0))), (q_11, .inl (cI, 50, .inl (fun _ => 0))), (q_12, .inl (cI, 50, .inl (fun _ => 0))), (q_13, .inl (cI, 50, .inl (fun _ => 0))), (q_14, .inl (cI, 50, .inl (fun _ => 0))), (q_15, .inl (cJ, 50, .inr (.inl (fun _ => 0)))), (q_16, .inl (cJ, 50, .inr (.inl (fun _ => 0)))), (q_17, .inl (cJ, 50, .inr (.inl (fun _ => 0)))), (q_18, .inl (cJ, 50, .inr (.inl (fun _ => 0)))), (q_19, .inl (cI, 50, .inl (fun _ => 0))), (q_20, .inl (cI, 140000, .inl (fun _ => 0))), (q_21, .inl (cI, 1000, .inl (fun _ => 0))), (q_22, .inl (cI, 14000, .inl (fun _ => 0))), (q_23, .inl (cI, 30000, .inl (fun _ => 0))), (q_24, .inl (cI, 1400, .inl (fun _ => 0))), (q_25, .inl (cI, 1400, .inl (fun _ => 0))), (q_26, .inl (cI, 1400, .inl (fun _ => 0)))] := hW
  refine g_putF (ws2 := [(aM, .inr (10, [.int 0, .ref q_1, .int 0, .int 0, .int 0, .int (-1), .ref q_2, .int 0, .int 0, .ref q_3, .ref q_4, .ref q_5, .ref q_6, .int 0, .int 0, .int 0, .long 0, .long 0, .ref q_7, .ref q_8, .int 0, .int 0, .int 0, .int 0, .int 0, .int 0, .int 0, .int 0, .int 0, .ref q_9, .ref q_10, .ref q_11, .ref q_12, .ref q_13, .ref q_14, .ref q_15, .ref q_16, .int 0, .ref q_17, .ref q_18, .ref q_19, .int 0, .ref q_20, .int 0, .ref q_21, .ref q_22, .int 0, .ref q_23, .int 0, .ref q_24, .ref q_25, .int 0, .int (-1), .int 0, .int 0, .int 0, .ref q_26, .null, .null, .int 0, .int 0])), (q_1, .inl (cI, 8192, .inl (fun _ => 0))), (q_2, .inl (cI, 4096, .inl (fun _ => 0))), (q_3, .inl (cJ, 48, .inr (.inl (fun _ => 0)))), (q_4, .inl (cJ, 48, .inr (.inl (fun _ => 0)))), (q_5, .inl (cI, 43680, .inl (fun _ => 0))), (q_6, .inl (cI, 48, .inl (fun _ => 0))), (q_7, .inl (cI, 2000, .inl (fun _ => 0))), (q_8, .inl (cI, 2000, .inl (fun _ => 0))), (q_9, .inl (cI, 50, .inl (fun _ => 0))), (q_10, .inl (cI, 50, .inl (fun _ => 0))), (q_11, .inl (cI, 50, .inl (fun _ => 0))), (q_12, .inl (cI, 50, .inl (fun _ => 0))), (q_13, .inl (cI, 50, .inl (fun _ => 0))), (q_14, .inl (cI, 50, .inl (fun _ => 0))), (q_15, .inl (cJ, 50, .inr (.inl (fun _ => 0)))), (q_16, .inl (cJ, 50, .inr (.inl (fun _ => 0)))), (q_17, .inl (cJ, 50, .inr (.inl (fun _ => 0)))), (q_18, .inl (cJ, 50, .inr (.inl (fun _ => 0)))), (q_19, .inl (cI, 50, .inl (fun _ => 0))), (q_20, .inl (cI, 140000, .inl (fun _ => 0))), (q_21, .inl (cI, 1000, .inl (fun _ => 0))), (q_22, .inl (cI, 14000, .inl (fun _ => 0))), (q_23, .inl (cI, 30000, .inl (fun _ => 0))), (q_24, .inl (cI, 1400, .inl (fun _ => 0))), (q_25, .inl (cI, 1400, .inl (fun _ => 0))), (q_26, .inl (cI, 1400, .inl (fun _ => 0)))]) i_M ft_M ft_M_ok n_M S hW 0 rfl rfl 56 (by decide) kf_M_95 rfl hin rfl rfl rfl (Nat.le_of_ble_eq_true rfl) rfl d_M_init_229 (fun H locs hW => ?_)
  refine lv_aload_n S.1 S.2.1 d_M_init_232 rfl (lv_at hl 0 rfl) ?_
  refine lv_sipush (v := (nI 1400)) S.1 S.2.1 d_M_init_233 (by decide) ?_
  refine g_newa (atype := .int) (a0 := (1400, .inl (fun _ => 0))) S hW hA ka_int 0 rfl (fun _ => rfl) (nI_pos (by decide)) (nI_clamp (by decide)) (Nat.le_of_ble_eq_true rfl) (Nat.le_of_ble_eq_true rfl) (Nat.le_of_ble_eq_true rfl) d_M_init_236 (fun q_27 H hW => ?_)
  have hW : Wd D (tyl cI cJ cB cZ) A s s.heap H _ [(aM, .inr (10, [.int 0, .ref q_1, .int 0, .int 0, .int 0, .int (-1), .ref q_2, .int 0, .int 0, .ref q_3, .ref q_4, .ref q_5, .ref q_6, .int 0, .int 0, .int 0, .long 0, .long 0, .ref q_7, .ref q_8, .int 0, .int 0, .int 0, .int 0, .int 0, .int 0, .int 0, .int 0, .int 0, .ref q_9, .ref q_10, .ref q_11, .ref q_12, .ref q_13, .ref q_14, .ref q_15, .ref q_16, .int 0, .ref q_17, .ref q_18, .ref q_19, .int 0, .ref q_20, .int 0, .ref q_21, .ref q_22, .int 0, .ref q_23, .int 0, .ref q_24, .ref q_25, .int 0, .int (-1), .int 0, .int 0, .int 0, .ref q_26, .null, .null, .int 0, .int 0])), (q_1, .inl (cI, 8192, .inl (fun _ => 0))), (q_2, .inl (cI, 4096, .inl (fun _ => 0))), (q_3, .inl (cJ, 48, .inr (.inl (fun _ => 0)))), (q_4, .inl (cJ, 48, .inr (.inl (fun _ => 0)))), (q_5, .inl (cI, 43680, .inl (fun _ => 0))), (q_6, .inl (cI, 48, .inl (fun _ => 0))), (q_7, .inl (cI, 2000, .inl (fun _ => 0))), (q_8, .inl (cI, 2000, .inl (fun _ => 0))), (q_9, .inl (cI, 50, .inl (fun _ => 0))), (q_10, .inl (cI, 50, .inl (fun _ => 0))), (q_11, .inl (cI, 50, .inl (fun _ => 0))), (q_12, .inl (cI, 50, .inl (fun _ => 0))), (q_13, .inl (cI, 50, .inl (fun _ => 0))), (q_14, .inl (cI, 50, .inl (fun _ => 0))), (q_15, .inl (cJ, 50, .inr (.inl (fun _ => 0)))), (q_16, .inl (cJ, 50, .inr (.inl (fun _ => 0)))), (q_17, .inl (cJ, 50, .inr (.inl (fun _ => 0)))), (q_18, .inl (cJ, 50, .inr (.inl (fun _ => 0)))), (q_19, .inl (cI, 50, .inl (fun _ => 0))), (q_20, .inl (cI, 140000, .inl (fun _ => 0))), (q_21, .inl (cI, 1000, .inl (fun _ => 0))), (q_22, .inl (cI, 14000, .inl (fun _ => 0))), (q_23, .inl (cI, 30000, .inl (fun _ => 0))), (q_24, .inl (cI, 1400, .inl (fun _ => 0))), (q_25, .inl (cI, 1400, .inl (fun _ => 0))), (q_26, .inl (cI, 1400, .inl (fun _ => 0))), (q_27, .inl (cI, 1400, .inl (fun _ => 0)))] := hW
  refine g_putF (ws2 := [(aM, .inr (10, [.int 0, .ref q_1, .int 0, .int 0, .int 0, .int (-1), .ref q_2, .int 0, .int 0, .ref q_3, .ref q_4, .ref q_5, .ref q_6, .int 0, .int 0, .int 0, .long 0, .long 0, .ref q_7, .ref q_8, .int 0, .int 0, .int 0, .int 0, .int 0, .int 0, .int 0, .int 0, .int 0, .ref q_9, .ref q_10, .ref q_11, .ref q_12, .ref q_13, .ref q_14, .ref q_15, .ref q_16, .int 0, .ref q_17, .ref q_18, .ref q_19, .int 0, .ref q_20, .int 0, .ref q_21, .ref q_22, .int 0, .ref q_23, .int 0, .ref q_24, .ref q_25, .int 0, .int (-1), .int 0, .int 0, .int 0, .ref q_26, .ref q_27, .null, .int 0, .int 0])), (q_1, .inl (cI, 8192, .inl (fun _ => 0))), (q_2, .inl (cI, 4096, .inl (fun _ => 0))), (q_3, .inl (cJ, 48, .inr (.inl (fun _ => 0)))), (q_4, .inl (cJ, 48, .inr (.inl (fun _ => 0)))), (q_5, .inl (cI, 43680, .inl (fun _ => 0))), (q_6, .inl (cI, 48, .inl (fun _ => 0))), (q_7, .inl (cI, 2000, .inl (fun _ => 0))), (q_8, .inl (cI, 2000, .inl (fun _ => 0))), (q_9, .inl (cI, 50, .inl (fun _ => 0))), (q_10, .inl (cI, 50, .inl (fun _ => 0))), (q_11, .inl (cI, 50, .inl (fun _ => 0))), (q_12, .inl (cI, 50, .inl (fun _ => 0))), (q_13, .inl (cI, 50, .inl (fun _ => 0))), (q_14, .inl (cI, 50, .inl (fun _ => 0))), (q_15, .inl (cJ, 50, .inr (.inl (fun _ => 0)))), (q_16, .inl (cJ, 50, .inr (.inl (fun _ => 0)))), (q_17, .inl (cJ, 50, .inr (.inl (fun _ => 0)))), (q_18, .inl (cJ, 50, .inr (.inl (fun _ => 0)))), (q_19, .inl (cI, 50, .inl (fun _ => 0))), (q_20, .inl (cI, 140000, .inl (fun _ => 0))), (q_21, .inl (cI, 1000, .inl (fun _ => 0))), (q_22, .inl (cI, 14000, .inl (fun _ => 0))), (q_23, .inl (cI, 30000, .inl (fun _ => 0))), (q_24, .inl (cI, 1400, .inl (fun _ => 0))), (q_25, .inl (cI, 1400, .inl (fun _ => 0))), (q_26, .inl (cI, 1400, .inl (fun _ => 0))), (q_27, .inl (cI, 1400, .inl (fun _ => 0)))]) i_M ft_M ft_M_ok n_M S hW 0 rfl rfl 57 (by decide) kf_M_98 rfl hin rfl rfl rfl (Nat.le_of_ble_eq_true rfl) rfl d_M_init_238 (fun H locs hW => ?_)
  refine lv_aload_n S.1 S.2.1 d_M_init_241 rfl (lv_at hl 0 rfl) ?_
  refine lv_sipush (v := (nI 4200)) S.1 S.2.1 d_M_init_242 (by decide) ?_
  refine g_newa (atype := .int) (a0 := (4200, .inl (fun _ => 0))) S hW hA ka_int 0 rfl (fun _ => rfl) (nI_pos (by decide)) (nI_clamp (by decide)) (Nat.le_of_ble_eq_true rfl) (Nat.le_of_ble_eq_true rfl) (Nat.le_of_ble_eq_true rfl) d_M_init_245 (fun q_28 H hW => ?_)
  have hW : Wd D (tyl cI cJ cB cZ) A s s.heap H _ [(aM, .inr (10, [.int 0, .ref q_1, .int 0, .int 0, .int 0, .int (-1), .ref q_2, .int 0, .int 0, .ref q_3, .ref q_4, .ref q_5, .ref q_6, .int 0, .int 0, .int 0, .long 0, .long 0, .ref q_7, .ref q_8, .int 0, .int 0, .int 0, .int 0, .int 0, .int 0, .int 0, .int 0, .int 0, .ref q_9, .ref q_10, .ref q_11, .ref q_12, .ref q_13, .ref q_14, .ref q_15, .ref q_16, .int 0, .ref q_17, .ref q_18, .ref q_19, .int 0, .ref q_20, .int 0, .ref q_21, .ref q_22, .int 0, .ref q_23, .int 0, .ref q_24, .ref q_25, .int 0, .int (-1), .int 0, .int 0, .int 0, .ref q_26, .ref q_27, .null, .int 0, .int 0])), (q_1, .inl (cI, 8192, .inl (fun _ => 0))), (q_2, .inl (cI, 4096, .inl (fun _ => 0))), (q_3, .inl (cJ, 48, .inr (.inl (fun _ => 0)))), (q_4, .inl (cJ, 48, .inr (.inl (fun _ => 0)))), (q_5, .inl (cI, 43680, .inl (fun _ => 0))), (q_6, .inl (cI, 48, .inl (fun _ => 0))), (q_7, .inl (cI, 2000, .inl (fun _ => 0))), (q_8, .inl (cI, 2000, .inl (fun _ => 0))), (q_9, .inl (cI, 50, .inl (fun _ => 0))), (q_10, .inl (cI, 50, .inl (fun _ => 0))), (q_11, .inl (cI, 50, .inl (fun _ => 0))), (q_12, .inl (cI, 50, .inl (fun _ => 0))), (q_13, .inl (cI, 50, .inl (fun _ => 0))), (q_14, .inl (cI, 50, .inl (fun _ => 0))), (q_15, .inl (cJ, 50, .inr (.inl (fun _ => 0)))), (q_16, .inl (cJ, 50, .inr (.inl (fun _ => 0)))), (q_17, .inl (cJ, 50, .inr (.inl (fun _ => 0)))), (q_18, .inl (cJ, 50, .inr (.inl (fun _ => 0)))), (q_19, .inl (cI, 50, .inl (fun _ => 0))), (q_20, .inl (cI, 140000, .inl (fun _ => 0))), (q_21, .inl (cI, 1000, .inl (fun _ => 0))), (q_22, .inl (cI, 14000, .inl (fun _ => 0))), (q_23, .inl (cI, 30000, .inl (fun _ => 0))), (q_24, .inl (cI, 1400, .inl (fun _ => 0))), (q_25, .inl (cI, 1400, .inl (fun _ => 0))), (q_26, .inl (cI, 1400, .inl (fun _ => 0))), (q_27, .inl (cI, 1400, .inl (fun _ => 0))), (q_28, .inl (cI, 4200, .inl (fun _ => 0)))] := hW
  refine g_putF (ws2 := [(aM, .inr (10, [.int 0, .ref q_1, .int 0, .int 0, .int 0, .int (-1), .ref q_2, .int 0, .int 0, .ref q_3, .ref q_4, .ref q_5, .ref q_6, .int 0, .int 0, .int 0, .long 0, .long 0, .ref q_7, .ref q_8, .int 0, .int 0, .int 0, .int 0, .int 0, .int 0, .int 0, .int 0, .int 0, .ref q_9, .ref q_10, .ref q_11, .ref q_12, .ref q_13, .ref q_14, .ref q_15, .ref q_16, .int 0, .ref q_17, .ref q_18, .ref q_19, .int 0, .ref q_20, .int 0, .ref q_21, .ref q_22, .int 0, .ref q_23, .int 0, .ref q_24, .ref q_25, .int 0, .int (-1), .int 0, .int 0, .int 0, .ref q_26, .ref q_27, .ref q_28, .int 0, .int 0])), (q_1, .inl (cI, 8192, .inl (fun _ => 0))), (q_2, .inl (cI, 4096, .inl (fun _ => 0))), (q_3, .inl (cJ, 48, .inr (.inl (fun _ => 0)))), (q_4, .inl (cJ, 48, .inr (.inl (fun _ => 0)))), (q_5, .inl (cI, 43680, .inl (fun _ => 0))), (q_6, .inl (cI, 48, .inl (fun _ => 0))), (q_7, .inl (cI, 2000, .inl (fun _ => 0))), (q_8, .inl (cI, 2000, .inl (fun _ => 0))), (q_9, .inl (cI, 50, .inl (fun _ => 0))), (q_10, .inl (cI, 50, .inl (fun _ => 0))), (q_11, .inl (cI, 50, .inl (fun _ => 0))), (q_12, .inl (cI, 50, .inl (fun _ => 0))), (q_13, .inl (cI, 50, .inl (fun _ => 0))), (q_14, .inl (cI, 50, .inl (fun _ => 0))), (q_15, .inl (cJ, 50, .inr (.inl (fun _ => 0)))), (q_16, .inl (cJ, 50, .inr (.inl (fun _ => 0)))), (q_17, .inl (cJ, 50, .inr (.inl (fun _ => 0)))), (q_18, .inl (cJ, 50, .inr (.inl (fun _ => 0)))), (q_19, .inl (cI, 50, .inl (fun _ => 0))), (q_20, .inl (cI, 140000, .inl (fun _ => 0))), (q_21, .inl (cI, 1000, .inl (fun _ => 0))), (q_22, .inl (cI, 14000, .inl (fun _ => 0))), (q_23, .inl (cI, 30000, .inl (fun _ => 0))), (q_24, .inl (cI, 1400, .inl (fun _ => 0))), (q_25, .inl (cI, 1400, .inl (fun _ => 0))), (q_26, .inl (cI, 1400, .inl (fun _ => 0))), (q_27, .inl (cI, 1400, .inl (fun _ => 0))), (q_28, .inl (cI, 4200, .inl (fun _ => 0)))]) i_M ft_M ft_M_ok n_M S hW 0 rfl rfl 58 (by decide) kf_M_101 rfl hin rfl rfl rfl (Nat.le_of_ble_eq_true rfl) rfl d_M_init_247 (fun H locs hW => ?_)
  exact ret _ _ _ _ _ d_M_init_250 ⟨_, _, _, _, _, _, _, _, _, _, _, _, _, _, _, _, _, _, _, _, _, _, _, _, _, _, _, _, rfl⟩ hW
end
section
/-! exceptions: what the tables say of Throwable, and how it is carried from state to state -/
def tk_A : String := "java/lang/IllegalArgumentException"
def tk_B : String := "java/lang/IndexOutOfBoundsException"
def tk_nms : List String := ["java/lang/RuntimeException", "java/lang/Exception"]
def tk_1 : List Cond := Bundle.ownAtoms "ProofReader" 83 "java/lang/IllegalArgumentException" tk_nms
def tk_2 : List Cond := Bundle.ownAtoms "ProofReader" 132 "java/lang/IndexOutOfBoundsException" tk_nms
def tk_ws : List Cond := tk_1 ++ tk_2
/-- the words that read the heap: the two statics of Throwable -/
def tk_hw : List Cond := [.laysStatic Bundle.tN "UNASSIGNED_STACK" Bundle.steD, .laysStatic Bundle.tN "SUPPRESSED_SENTINEL" Bundle.listD, .isRef (.static Bundle.tN "UNASSIGNED_STACK" Bundle.steD), .isRef (.static Bundle.tN "SUPPRESSED_SENTINEL" Bundle.listD)]
def tk_rw : List Cond := [.isRef (.static Bundle.tN "UNASSIGNED_STACK" Bundle.steD), .isRef (.static Bundle.tN "SUPPRESSED_SENTINEL" Bundle.listD)]
theorem tk_all : tk_ws.all (fun w => w.keepsFace && (w.onTables || decide (w ∈ tk_hw))) = true := by decide +kernel
def tk_tab : List Cond := tk_ws.filter (fun w => !decide (w ∈ tk_rw))
theorem tk_in : ∀ w ∈ tk_tab, w ∈ lw_tbl := goodIn_r tk_tab [104, 860, 869, 872, 875, 877, 861, 862, 121, 122, 863, 868, 873, 893, 850, 894, 852, 895, 854, 864, 865, 866, 867, 856, 889, 890, 892, 856, 880, 881, 882, 883, 842, 883, 884, 885, 886, 844, 886, 887, 888, 889, 846, 879, 839, 840, 847, 848, 849, 851, 853, 855, 859, 858, 857, 104, 860, 869, 872, 875, 877, 861, 862, 121, 122, 863, 868, 873, 893, 850, 894, 852, 895, 854, 864, 865, 866, 867, 856, 889, 890, 892, 856, 928, 929, 930, 883, 842, 883, 884, 885, 886, 844, 886, 887, 888, 889, 846, 927, 918, 919, 920, 871, 921, 922, 923, 924, 859, 858, 925] (by decide +kernel)
theorem kw_L_feed : Cond.codeWith y_L_feed b_L_feed 6 (some .int) [(0, 11, 14, 13)] ∈ tb := tbm 832 (by decide +kernel) (by decide +kernel)
theorem kw_L_constant : Cond.codeWith y_L_constant b_L_constant 5 (some .int) [(0, 10, 13, 13), (0, 10, 17, 19)] ∈ tb := tbm 910 (by decide +kernel) (by decide +kernel)
theorem tk_lays {C n d : String} {A B : Array Value} {u U : State} (hv : u.vm = U.vm) (hh : ∀ q, q < u.heap.size → U.heap[q]? = u.heap[q]?) (h : (Cond.laysStatic C n d).before A u = true) : (Cond.laysStatic C n d).before B U = true := by
  obtain ⟨c, k, i, f, a, cell, h1, h2, h3, h4, h5, h6, h7, h8, h9⟩ := Cond.laysStatic_spec h
  have h1' : U.vm.findClass C = some c := by rw [← hv]; exact h1
  have h2' : U.fieldFound? C n d = some (c, k, i, f) := by
    have q := h2
    unfold State.fieldFound? at q ⊢
    rw [← hv]
    exact q
  have h5' : U.heap[a]? = some cell := by rw [hh a (Array.getElem?_eq_some_iff.mp h5).1]; exact h5
  simp [Cond.before, Cond.holds, Cond.value, h1', h2', h3, h4, h5', h6, h7, h8, h9]
theorem tk_static {C n d : String} {A B : Array Value} {u U : State} {v : Value} (hv : u.vm = U.vm) (hh : ∀ q, q < u.heap.size → U.heap[q]? = u.heap[q]?) (h : (Term.static C n d).eval A u none [] u = some v) : (Term.static C n d).eval B U none [] U = some v := by
  have hn : U.fieldNamed? C n d true = u.fieldNamed? C n d true := by
    unfold State.fieldNamed? State.fieldFound?
    rw [hv]
  simp only [Term.eval, Option.bind_eq_bind, Option.bind_eq_some_iff] at h ⊢
  obtain ⟨x, hx, a, ha, cell, hc, hs⟩ := h
  exact ⟨x, by rw [hn]; exact hx, a, ha, cell, by rw [hh a (Array.getElem?_eq_some_iff.mp hc).1]; exact hc, hs⟩
theorem tk_isref {C n d : String} {A B : Array Value} {u U : State} (hv : u.vm = U.vm) (hh : ∀ q, q < u.heap.size → U.heap[q]? = u.heap[q]?) (h : (Cond.isRef (.static C n d)).before A u = true) : (Cond.isRef (.static C n d)).before B U = true := by
  cases he : (Term.static C n d).eval A u none [] u with
  | none => simp [Cond.before, Cond.holds, Cond.value, he] at h
  | some v =>
    have he' := tk_static (B := B) hv hh he
    simp only [Cond.before, Cond.holds, Cond.value, he] at h
    simp only [Cond.before, Cond.holds, Cond.value, he']
    exact h
theorem tk_same {w : Cond} (hw : (w.onTables || decide (w ∈ tk_hw)) = true) {A B : Array Value} {u U : State} (hv : u.vm = U.vm) (hh : ∀ q, q < u.heap.size → U.heap[q]? = u.heap[q]?) (h : w.before A u = true) : w.before B U = true := by
  rcases Bool.or_eq_true_iff.mp hw with h1 | h1
  · exact va_tabs h1 hv h
  · have h2 := of_decide_eq_true h1
    simp only [tk_hw, List.mem_cons, List.not_mem_nil, or_false] at h2
    rcases h2 with rfl | rfl | rfl | rfl
    · exact tk_lays hv hh h
    · exact tk_lays hv hh h
    · exact tk_isref hv hh h
    · exact tk_isref hv hh h
/-- all that a thrown exception asks of the state -/
def Tw (U : State) : Prop := (∀ w ∈ tk_ws, w.before #[] U = true) ∧ ((∃ a, vk_R "ProofReader" 81 "n is not 1 to 8" a U) ∧ (∃ a, vk_R "ProofReader" 126 "what is not 0 to 5" a U) ∧ (∃ a, vk_R "ProofReader" 130 "there is no such constant" a U)) ∧ ∀ c1 c2, U.vm.findClass tk_B = some c1 → U.vm.findClass tk_A = some c2 → U.vm.assignable c1 c2 = false
theorem Tw.same {u U : State} (hv : u.vm = U.vm) (hh : ∀ q, q < u.heap.size → U.heap[q]? = u.heap[q]?) (h : Tw u) : Tw U := by
  obtain ⟨h1, ⟨⟨a1, g1⟩, ⟨a2, g2⟩, ⟨a3, g3⟩⟩, h3⟩ := h
  refine ⟨fun w hw => ?_, ⟨⟨a1, g1.same hv.symm⟩, ⟨a2, g2.same hv.symm⟩, ⟨a3, g3.same hv.symm⟩⟩, ?_⟩
  · have h4 := List.all_eq_true.mp tk_all w hw
    exact tk_same (Bool.and_eq_true_iff.mp h4).2 hv hh (h1 w hw)
  · rw [← hv]; exact h3
theorem Tw.warm {s U : State} (hW : s.WarmedH U.vm) (h : Tw s) : Tw (s.setVm U.vm) := by
  obtain ⟨h1, ⟨⟨a1, g1⟩, ⟨a2, g2⟩, ⟨a3, g3⟩⟩, h3⟩ := h
  have hW' : s.WarmedH (s.setVm U.vm).vm := hW
  refine ⟨fun w hw => ?_, ⟨⟨a1, g1.warm hW'⟩, ⟨a2, g2.warm hW'⟩, ⟨a3, g3.warm hW'⟩⟩, ?_⟩
  · have h4 := List.all_eq_true.mp tk_all w hw
    exact Cond.before_shiftedFace (State.Shifted.of_warmed hW) w (Bool.and_eq_true_iff.mp h4).1 (h1 w hw)
  · intro c1 c2 e1 e2
    have q1 : s.vm.findClass tk_B = some c1 := by rw [← hW.alike.findClass]; exact e1
    have q2 : s.vm.findClass tk_A = some c2 := by rw [← hW.alike.findClass]; exact e2
    show U.vm.assignable c1 c2 = false
    rw [hW.alike.assignable]
    exact h3 c1 c2 q1 q2
theorem Tw.move {s U : State} (hW : s.WarmedH U.vm) (hh : ∀ q, q < s.heap.size → U.heap[q]? = s.heap[q]?) (h : Tw s) : Tw U := Tw.same (u := s.setVm U.vm) rfl hh (h.warm hW)
theorem Tw.use1 {s : State} {args : Array Value} (h : Tw s) : ∀ a ∈ Bundle.ownAtoms "ProofReader" 83 "java/lang/IllegalArgumentException" tk_nms, a.before args s = true := fun w hw => by
  have hm : w ∈ tk_ws := List.mem_append_left _ hw
  exact tk_same (Bool.and_eq_true_iff.mp (List.all_eq_true.mp tk_all w hm)).2 rfl (fun _ _ => rfl) (h.1 w hm)
theorem Tw.use2 {s : State} {args : Array Value} (h : Tw s) : ∀ a ∈ Bundle.ownAtoms "ProofReader" 132 "java/lang/IndexOutOfBoundsException" tk_nms, a.before args s = true := fun w hw => by
  have hm : w ∈ tk_ws := List.mem_append_right _ hw
  exact tk_same (Bool.and_eq_true_iff.mp (List.all_eq_true.mp tk_all w hm)).2 rfl (fun _ _ => rfl) (h.1 w hm)
end
section
/-! a method that throws, its call, and what catches it -/
theorem tk_keep {s t : State} {mc ms : Nat} (h : s.sameButNew ({ t with vm := s.vm } : State) [] mc ms) : s.heap.size ≤ t.heap.size ∧ ∀ q, q < s.heap.size → t.heap[q]? = s.heap[q]? := by
  obtain ⟨-, h2, -, -, -, h6⟩ := h
  refine ⟨h2, fun q hq => ?_⟩
  obtain ⟨c', e1, e2, e3, e4⟩ := h6 q s.heap[q] (by simp [hq])
  have e1 : t.heap[q]? = some c' := e1
  have e5 : c'.slots = (s.heap[q]).slots := Array.ext_getElem? (fun i => e4 i (by simp))
  have e6 : c' = s.heap[q] := by rw [e2, e5]
  rw [e1, e6]
  simp [hq]
def TQ (below : List Frame) (s : State) (X : String) (mc ms : Nat) : State → Prop := fun t =>
  ∃ (x : Addr) (ce : Cell), t.status = .running ∧ Ended t below (.threw x) ∧ s.WarmedH t.vm ∧ s.sameButNew ({ t with vm := s.vm } : State) [] mc ms ∧ t.heap[x]? = some ce ∧ s.vm.findClass X = some ce.cls ∧ ce.vm.isStatics = false
section TK1
variable {p : Program} {l : Launch} {e : Env} {R : Room} {s : State} {m : MethodId} {args : Array Value} {below : List Frame} {meth : Method} {c : Code}
variable {cc : ByteArray} {nL pc : Nat} {ls : Array Slot}
/-- new, dup, ldc, the constructor, athrow -/
theorem tk_throw (S : CallFix p m c cc nL s args tb "ProofReader") (htr : l.stackTraces = false) (hlocks : meth.locks = false) (hnt : c.exceptionTable.toList = [])
    {X tx : String} {i1 i2 i3 : Nat} (k1 : Cond.classLink "ProofReader" i1 X ∈ tb) (k2 : Cond.instantiable X 6 ∈ tb) (k3 : Cond.initialized X ∈ tb)
    (hZ : ∃ a, vk_R "ProofReader" i2 tx a s) (hown : ∀ a ∈ Bundle.ownAtoms "ProofReader" i3 X tk_nms, a.before args s = true) (hfit : Bundle.fit X = true) (hls : ls.size = nL)
    (d0 : decode cc pc = .ok (.new i1, 3)) (d1 : decode cc (pc + 3) = .ok (.dup, 1)) (d2 : decode cc (pc + 4) = .ok (.ldc i2, 2)) (d3 : decode cc (pc + 6) = .ok (.invokespecial i3, 3)) (d4 : decode cc (pc + 9) = .ok (.athrow, 1))
    (hR : 5 < R.frames ∧ 100 ≤ R.locals ∧ 1 ≤ R.cells ∧ 6 ≤ R.slots) :
    W p l e R s m args below meth c s.heap [] 0 0 (TQ below s X 1 6) (F0 m pc ls []) := by
  obtain ⟨r1, r2, r3, r4⟩ := hR
  refine W.newc S.1 S.2.1 S.2.2.2.1 (S.2.2.2.2 _ k1) (S.2.2.2.2 _ k2) (S.2.2.2.2 _ k3) (g := F0 m pc ls []) rfl d0 (by omega) (by omega) (fun cC kC h1 h2 h3 h4 => ?_)
  show W p l e R s m args below meth c _ [] (0 + 1) (0 + 6) (TQ below s X 1 6) (F0 m (pc + 3) ls [.ref s.heap.size])
  refine lv_dup S.1 S.2.1 d1 rfl ?_
  obtain ⟨q, hZ⟩ := hZ
  refine va_ldcS S.1 S.2.1 S.2.2.2.1 hZ d2 ?_
  intro T hT XX
  have ht : e.platform.stackTraces = l.stackTraces := by rw [XX.admits.platform]
  obtain ⟨U, st, hrun, hend, hWm, hsame, ce, hce, O⟩ := XX.ctorThrowS S.1 (ht.trans htr) (own := "ProofReader") (cls := X) (names := tk_nms) (ic := i3) S.2.2.2.1 hfit (by decide) hown (fun x hx => by cases hx) h1 h2 (a := s.heap.size) (by rw [hT]; simp [freshCell]) (Nat.le_refl _) (msg := .ref q) rfl
    (g := F0 m (pc + 6) ls [.ref q, .ref s.heap.size, .ref s.heap.size]) rfl (hls.trans S.2.2.1.symm) rfl rfl (rest := []) rfl (by rw [S.2.1]; exact d3) (by rw [S.2.1]; exact d4) (fun x hx => by rw [hnt] at hx; cases hx) (by show 2 + 3 < R.frames; omega) (by show 2 * 0 + 1 + (13 * (2 + 1) + 42) ≤ R.locals; omega) hlocks
  exact ⟨U, st, s.heap.size, ce, hrun, hend, hWm, hsame, hce, O.cls, by rw [O.vm]; rfl⟩
end TK1
/-- a method that throws an X, writes nothing that was there, and makes no more than its room -/
def Ct (l : Launch) (D : va_G) (tys : Tys) (y : MethodName) (cc : ByteArray) (n : Nat) (ret : Option FieldType) (rm : Room) (av : List Value) (ws : va_W) (X : String) : Prop :=
  ∀ sz, MetFree l y (headSpec (mw y cc n ret) rm) (va_Pc av (fun U => PcW D tys sz ws U ∧ Tw U)) (fun _ _ _ _ _ => True)
    (fun _ st o t => ∃ (x : Addr) (ce : Cell), o = .threw x ∧ st.WarmedH t.vm ∧ st.sameButNew ({ t with vm := st.vm } : State) [] rm.cells rm.slots ∧ t.heap[x]? = some ce ∧ st.vm.findClass X = some ce.cls ∧ ce.vm.isStatics = false)
theorem ct_of {l : Launch} {D : va_G} {tys : Tys} {y : MethodName} {cc : ByteArray} {n : Nat} {ret : Option FieldType} {rm : Room} {av : List Value} {ws : va_W} {own X : String} (hy : plainName y.cls = true) (ho : y.cls = own) (hn : (lg_sl av).length ≤ n)
    (body : ∀ (p : Program) (e : Env) (s : State) (m : MethodId) (args : Array Value) (below : List Frame) (meth : Method) (c : Code) (A : Nat → Prop), CallFix p m c cc n s args tb own → meth.locks = false → c.exceptionTable.toList = [] → Tw s →
      ∀ ls, lv_has ls n (lv_args 0 av) → Wd D tys A s s.heap s.heap [] ws → W p l e rm s m args below meth c s.heap [] 0 0 (TQ below s X rm.cells rm.slots) (F0 m 0 ls [])) : Ct l D tys y cc n ret rm av ws X := by
  intro sz
  refine MetFree.of_bodyS (code := cc) (maxLocals := n) (ret := ret) hy ?_ ?_
  · intro args s m h hn
    obtain ⟨meth, c, h1, h2, h3, h4, h5, h6, -, -⟩ := Cond.code_spec hn (atoms_spec (ws := mw y cc n ret) h _ List.mem_cons_self)
    exact ⟨meth, c, h1, h2, h3, h4, h5, h6⟩
  · intro p e s m args below meth c s₁ B hml hv _
    obtain ⟨rfl, ⟨hsz, hP, hK, hD0⟩, hTw⟩ := hv
    have hts := atoms_spec (ws := mw y cc n ret) B.pre
    have hown : s.vm.findClass own = some m.cls := by rw [← ho]; exact findClass_of_methodNamed B.named
    obtain ⟨meth', c', g1, g2, -, -, -, -, g7, -⟩ := Cond.code_spec B.named (hts _ List.mem_cons_self)
    cases B.method.symm.trans g1
    cases (Stand.of_body B).code.symm.trans g2
    have hnt : c.exceptionTable.toList = [] := by
      have q := Array.isEmpty_iff.mp g7
      rw [q]
    subst hsz
    have hh0 : s₁.heap = s.heap := by rw [B.state]; rfl
    have K := body p e s m av.toArray below meth c (va_A ws s.heap.size) ⟨B.exec, B.bytes, hml, hown, fun w h => hts w (List.mem_cons_of_mem _ h)⟩ B.notSynchronized hnt hTw _ (lv_entry av hn) ⟨hK, hP, hD0.self, va_S.rf⟩
    obtain ⟨t, a1, x, ce, b1, b2, b3, b4, b5, b6, b7⟩ := K s₁ hh0 (Stand.of_body B)
    refine ⟨t, .threw x, ?_, b1, b2, x, ce, rfl, b3, b4, b5, b6, b7⟩
    rw [lg_entry_eq]
    exact a1
section TK2
variable {p : Program} {l : Launch} {e : Env} {R : Room} {s : State} {m : MethodId} {args : Array Value} {below : List Frame} {meth : Method} {c : Code} {H : Heap} {locs : List Loc} {cells slots : Nat} {Q : State → Prop}
variable {cc : ByteArray} {nL pc : Nat} {ls : Array Slot} {rest st : List Value} {D : va_G} {A : Nat → Prop} {tys : Tys} {ws : va_W} {H0 : Heap} {own : String}
variable {y : MethodName} {yc : ByteArray} {yn np index : Nat} {yr : Room} {b : Nat} {As : List Value} {wc wr : va_W} {C : String} {T : u_T} {N ci : Nat} {fs : List Value}
/-- a call that throws: the state in which the exception is looked for a handler -/
theorem callV_t {ret : Option FieldType} {X : String} (hM : Ct l D tys y yc yn ret yr (.ref b :: As) wc X)
    (k1 : Cond.methodLink own index y ∈ tb) (k2 : Cond.instanceMethod y ∈ tb) (k3 : Cond.selects C y y ∈ tb) (k4 : Cond.initialized C ∈ tb) (k5 : Cond.code y yc yn ret ∈ tb)
    (hd : y.cls = C ∧ y.cls ≠ "java/lang/invoke/MethodHandle" ∧ y.cls ≠ "java/lang/invoke/VarHandle" ∧ (parseMethodDescriptor y.desc).map (fun d => d.parameters.length) = some np)
    (S : CallFix p m c cc nL s args tb own) (hW : Wd D tys A s H0 H locs ws) (hTw : ∀ U : State, U.heap = H → s.WarmedH U.vm → Tw U)
    (hR : yr.frames + 1 ≤ R.frames ∧ 8 + (yn + 11) + yr.locals ≤ R.locals) (hf : cells + yr.cells ≤ R.cells ∧ slots + yr.slots ≤ R.slots)
    (hc : cls[ci]? = some (C, T, N)) (q0 : Nat) (he : wc[q0]? = some (b, .inr (ci, fs))) (isC : List Nat) (hC : isC.map (fun i => ws[i]?) = wc.map some) (hnC : va_nd isC = true)
    (hlen : As.length = np) (hls : ls.size = nL) (hst : st = As.reverse ++ .ref b :: rest) (hroom : (rest.map fun v => v.category).sum ≤ 8) (hdg : decode cc pc = .ok (.invokevirtual index, 3))
    (kk : ∀ (x : Addr) (ce : Cell) (T' : State), Stand p l e R s m args below meth c T' locs (cells + yr.cells) (slots + yr.slots) → H.size ≤ T'.heap.size → (∀ q, q < H.size → T'.heap[q]? = H[q]?) → T'.heap[x]? = some ce → s.vm.findClass X = some ce.cls → ce.vm.isStatics = false → ∃ t, Steps p.tables e below ((T'.setTop (F0 m pc ls rest)).pushFrame (.throwing x)) t ∧ Q t) :
    W p l e R s m args below meth c H locs cells slots Q (F0 m pc ls st) := by
  intro T hT XX
  have hPc := sub_P hW.2.1 hC
  have hDc := hW.2.2.1.sub isC hnC hC
  obtain ⟨cellB, hcB, hoB, hclB⟩ := va_recv hW.1.1 hPc hc he
  obtain ⟨mk, methM, hnamed, hmethM, hstM, habM⟩ := Cond.instanceMethod_spec (S.2.2.2.2 _ k2)
  obtain ⟨methM', cM, hmethM', -, -, -, -, -, -, hsigM⟩ := Cond.code_spec hnamed (S.2.2.2.2 _ k5)
  cases hmethM.symm.trans hmethM'
  obtain ⟨c2, r2, m2, q1, q2, q3, q4, kP, hkP, hkPi⟩ := Cond.selects_spec (S.2.2.2.2 _ k3)
  cases hclB.symm.trans q1
  cases (State.methodFound?_of_named hnamed ⟨hd.2.1, hd.2.2.1⟩).symm.trans q2
  cases hnamed.symm.trans q3
  have hselP : selectMethod e.platform s.vm cellB.cls mk = .method mk := by rw [Launch.admits_selectMethod XX.admits]; exact q4
  have hlen' : As.length = methM.sig.parameters.length := by
    have h2 := hd.2.2.2
    rw [hsigM] at h2
    exact hlen.trans (Option.some.inj h2).symm
  obtain ⟨vm₁, X₁, hstep₁⟩ := XX.invokevirtual S.1 S.2.2.2.1 (S.2.2.2.2 _ k1) hnamed hmethM hstM hkP hkPi ⟨hd.2.1, hd.2.2.1⟩ (a := b) (cell := cellB) (by rw [hT]; exact hcB)
    (fun z h => by rw [h] at hoB; cases hoB) hselP hmethM habM hkP hkPi (g := F0 m pc ls st) rfl (argsL := As) (rest := rest) hlen' hst (by rw [S.2.1]; exact hdg)
  have hwU : ∀ (w : Cond) (a' : Array Value), w ∈ tb → w.before a' (T.setVm vm₁) = true := fun w a' hw => word_at X₁.warmed (good_tb w hw).2 (S.2.2.2.2 w hw)
  have hn := X₁.named hnamed
  obtain ⟨methY, cY, hmY, hcY, -, hlY, -, -, -, -⟩ := Cond.code_spec hn (hwU _ #[] k5)
  obtain ⟨kY, hkY, -⟩ := className_of_methodNamed hn
  have hinitY : kY.init = .initialized := Cond.initialized_spec (findClass_of_methodNamed hn) hkY (by rw [hd.1]; exact hwU _ #[] k4)
  have hdg' : decode c.code (F0 m pc ls rest).pc = .ok (.invokevirtual index, 3) := by rw [S.2.1]; exact hdg
  have h : At (T.setVm vm₁) (F0 m pc ls rest).method c below := X₁.here
  have happ : (headSpec (mw y yc yn ret) yr).appliesLoose y e.platform ((T.setVm vm₁).calling (F0 m pc ls rest) mk (Value.ref b :: As).toArray) = true :=
    Spec.appliesLoose_calling (g := F0 m pc ls rest) h hdg' hn hkY hinitY
      (X₁.room_calling (g := F0 m pc ls rest) (R' := yr) (hls.trans S.2.2.1.symm) hmY hcY hR.1 (by rw [hlY]; have := hR.2; show 2 * 0 + (rest.map fun v => v.category).sum + (yn + 11) + yr.locals ≤ R.locals; omega) hf.1 hf.2)
      (atoms_intro fun w hw => (List.mem_cons.mp hw).elim (fun e => e ▸ hwU _ _ k5) (fun hw => hwU w _ hw))
  obtain ⟨mid, hmid⟩ := h.above
  have hfr : ((T.setVm vm₁).setTop (F0 m pc ls rest)).frames = (.java (F0 m pc ls rest) :: mid) ++ below := by rw [State.frames_setTop' (F0 m pc ls rest) h.top, hmid]; rfl
  have hTU : Tw ((T.setVm vm₁).calling (F0 m pc ls rest) mk (Value.ref b :: As).toArray) := Tw.same (u := T.setVm vm₁) rfl (fun _ _ => rfl) (hTw (T.setVm vm₁) hT X₁.warmed)
  have hPU : va_Pc (.ref b :: As) (PcW D tys H.size wc) (Value.ref b :: As).toArray ((T.setVm vm₁).calling (F0 m pc ls rest) mk (Value.ref b :: As).toArray) :=
    PcW_blind _ _ _ _ ⟨rfl, by rw [← hT]; rfl, by rw [← hT] at hPc; exact hPc, hW.1.warm X₁.warmed, hDc.weaken (fun _ _ _ _ => trivial)⟩
  obtain ⟨o, s₂, hsteps, -, hend, hq⟩ := Steps.callFree (hM H.size) p X₁.admits X₁.cas X₁.clock (acts := []) hfr happ ⟨hPU.1, hPU.2, hTU⟩ trivial
  obtain ⟨x, ce, rfl, hW₂, hsm, hce, hcls, hstt⟩ := hq
  have hkeep := tk_keep hsm
  obtain ⟨e2, q2, q3, q4, q5, q6⟩ := id hsm
  rw [State.frames_setTop' (F0 m pc ls rest) h.top] at hend
  have hf₂ : s₂.frames = .throwing x :: .java (F0 m pc ls rest) :: (T.setVm vm₁).frames.tail := hend
  have e3 : s₂ = ({ ((T.setVm vm₁).calling (F0 m pc ls rest) mk (Value.ref b :: As).toArray).setFrames s₂.frames with heap := s₂.heap, slotsUsed := s₂.slotsUsed } : State).setVm s₂.vm := by
    have : s₂ = ({ s₂ with vm := ((T.setVm vm₁).calling (F0 m pc ls rest) mk (Value.ref b :: As).toArray).vm } : State).setVm s₂.vm := rfl
    rw [show ({ s₂ with vm := ((T.setVm vm₁).calling (F0 m pc ls rest) mk (Value.ref b :: As).toArray).vm } : State) = _ from e2] at this
    exact this
  have hW' : (T.setVm vm₁).WarmedH s₂.vm := hW₂
  obtain ⟨g₀, hg0⟩ := Option.isSome_iff_exists.mp h.top
  obtain ⟨r, hr⟩ := State.topJava?_eq_some.mp hg0
  have hs₂ : s₂ = ((({ T.setVm vm₁ with heap := s₂.heap, slotsUsed := s₂.slotsUsed } : State).setVm s₂.vm).setTop (F0 m pc ls rest)).pushFrame (.throwing x) := by
    have hr' : (({ T.setVm vm₁ with heap := s₂.heap, slotsUsed := s₂.slotsUsed } : State).setVm s₂.vm).frames = .java g₀ :: r := hr
    refine e3.trans ?_
    rw [hf₂, State.calling_eq h.top, State.setFrames_setFrames, State.pushFrame, State.frames_setTop _ hr', State.setTop_of_frames _ hr', State.setFrames_setFrames, hr]
    rfl
  have hsame : (T.setVm vm₁).sameButNew ({ T.setVm vm₁ with heap := s₂.heap, slotsUsed := s₂.slotsUsed } : State) [] yr.cells yr.slots := by
    refine ⟨?_, q2, q3, q4, q5, q6⟩
    obtain ⟨t, ht, -⟩ := State.frames_cons hr
    show ({ T.setVm vm₁ with heap := s₂.heap, slotsUsed := s₂.slotsUsed } : State) = { (T.setVm vm₁).setFrames (T.setVm vm₁).frames with heap := s₂.heap, slotsUsed := s₂.slotsUsed }
    rw [State.setFrames_self ht]
  have X₂ : Stand p l e R s m args below meth c (({ T.setVm vm₁ with heap := s₂.heap, slotsUsed := s₂.slotsUsed } : State).setVm s₂.vm) (locs ++ []) (cells + yr.cells) (slots + yr.slots) :=
    ⟨X₁.admits, X₁.cas, X₁.clock, X₁.frames, X₁.room, X₁.hears, X₁.method, X₁.code, (X₁.here.setHeapUsed s₂.heap s₂.slotsUsed).setVm hW'.alike, X₁.tail, State.WarmedH.trans X₁.warmed hW', X₁.limits, X₁.bytes, X₁.same.trans (hsame.setVm s.vm)⟩
  rw [List.append_nil] at X₂
  have hcls' : s.vm.findClass X = some ce.cls := by rw [← X₁.warmed.alike.findClass]; exact hcls
  obtain ⟨t, a1, b1⟩ := kk x ce _ X₂ (by rw [← hT]; exact hkeep.1) (fun q hq => by rw [← hT] at hq ⊢; exact hkeep.2 q hq) hce hcls' hstt
  refine ⟨t, hstep₁ _ fun acts => ?_, b1⟩
  rw [doInvoke_state]
  refine hsteps.trans ?_
  rw [hs₂]
  exact a1
end TK2
end
section
/-! the search for a handler, whose class is looked up there for the first time -/
/-- what the search gives, and the tables that it leaves -/
def tk_F (e : Env) (s : State) (f : JFrame) (a : Addr) (h : Handler) (vm' : Vm) : Prop := ∀ (Q : Handler → Pre) (E : CtlPost) (d : Bool) (acts : List Action), wp (findHandler f a) Q E e d acts s ↔ Q h d acts (s.setVm vm')
section TK3
variable {e : Env} {s : State} {f : JFrame} {a : Addr}
theorem tk_go {Q : Handler → Pre} {E : CtlPost} {d : Bool} {acts : List Action} {x : ExceptionTableEntry} {t : List ExceptionTableEntry} {c : ClassId} {cell : Cell} (hx : covers x f.pc = true) (h0 : x.catchType ≠ 0) (hl : s.vm.ClassLinks e.platform f.method.cls x.catchType c) (hcell : s.heap[a]? = some cell) (hobj : cell.vm.isStatics = false)
    (hk : ∃ k, s.vm.classes[cell.cls]? = some k) (hc : ∃ k, s.vm.classes[c]? = some k) {b : Bool} (hb : s.vm.assignable cell.cls c = b) :
    wp (findHandler.go f a (x :: t)) Q E e d acts s ↔ if b = true then Q (.found x.handlerPc) d acts (s.setVm (s.vm.noted f.method.cls x.catchType (.cls c))) else wp (findHandler.go f a t) Q E e d acts (s.setVm (s.vm.noted f.method.cls x.catchType (.cls c))) := by
  simp only [covers] at hx
  obtain ⟨ha, ht⟩ := (resolveClass_links e.toSetting hl).op (op := VmOp.resolveClass f.method.cls x.catchType) rfl
  have hal : s.vm.Alike (s.vm.noted f.method.cls x.catchType (.cls c)) := (Vm.Alike.refl s.vm).noted _ _ _
  obtain ⟨k1, hk1⟩ := hk
  obtain ⟨k2, hk2⟩ := hc
  obtain ⟨j1, hj1, -⟩ := hal.2.2 _ _ hk1
  obtain ⟨j2, hj2, -⟩ := hal.2.2 _ _ hk2
  have hq : (s.vm.noted f.method.cls x.catchType (.cls c)).assignable cell.cls c = b := by rw [hal.assignable]; exact hb
  have hn := VmData.ne_statics_of hobj
  cases b <;> simp [findHandler.go, hx, h0, ha, ht, hcell, hn, hj1, hj2, hq, VmOp.dirties, VmOp.acts]
/-- the first entry catches -/
theorem tk_find1 {meth : Method} {code : Code} (hm : s.vm.method? f.method = some meth) (hcd : meth.code = some code) {x : ExceptionTableEntry} {t : List ExceptionTableEntry} (hsplit : code.exceptionTable.toList = x :: t) {c : ClassId} {cell : Cell} (hx : covers x f.pc = true) (h0 : x.catchType ≠ 0) (hl : s.vm.ClassLinks e.platform f.method.cls x.catchType c) (hcell : s.heap[a]? = some cell) (hobj : cell.vm.isStatics = false)
    (hk : ∃ k, s.vm.classes[cell.cls]? = some k) (hc : ∃ k, s.vm.classes[c]? = some k) (hb : s.vm.assignable cell.cls c = true) : tk_F e s f a (.found x.handlerPc) (s.vm.noted f.method.cls x.catchType (.cls c)) := by
  intro Q E d acts
  rw [Jvm.W.findHandler_eq hm hcd, hsplit, tk_go hx h0 hl hcell hobj hk hc hb, if_pos rfl]
/-- the first entry is passed, the second catches -/
theorem tk_find2 {meth : Method} {code : Code} (hm : s.vm.method? f.method = some meth) (hcd : meth.code = some code) {x y : ExceptionTableEntry} {t : List ExceptionTableEntry} (hsplit : code.exceptionTable.toList = x :: y :: t) {c c2 : ClassId} {cell : Cell} (hx : covers x f.pc = true) (hy : covers y f.pc = true) (h0 : x.catchType ≠ 0) (h1 : y.catchType ≠ 0) (hl : s.vm.ClassLinks e.platform f.method.cls x.catchType c)
    (hl2 : (s.vm.noted f.method.cls x.catchType (.cls c)).ClassLinks e.platform f.method.cls y.catchType c2) (hcell : s.heap[a]? = some cell) (hobj : cell.vm.isStatics = false)
    (hk : ∃ k, s.vm.classes[cell.cls]? = some k) (hc : ∃ k, s.vm.classes[c]? = some k) (hc2 : ∃ k, s.vm.classes[c2]? = some k) (hb : s.vm.assignable cell.cls c = false) (hb2 : s.vm.assignable cell.cls c2 = true) :
    tk_F e s f a (.found y.handlerPc) ((s.vm.noted f.method.cls x.catchType (.cls c)).noted f.method.cls y.catchType (.cls c2)) := by
  intro Q E d acts
  have hal : s.vm.Alike (s.vm.noted f.method.cls x.catchType (.cls c)) := (Vm.Alike.refl s.vm).noted _ _ _
  obtain ⟨k1, hk1⟩ := hk
  obtain ⟨k2, hk2⟩ := hc2
  obtain ⟨j1, hj1, -⟩ := hal.2.2 _ _ hk1
  obtain ⟨j2, hj2, -⟩ := hal.2.2 _ _ hk2
  rw [Jvm.W.findHandler_eq hm hcd, hsplit, tk_go hx h0 hl hcell hobj ⟨k1, hk1⟩ hc hb, if_neg (by decide)]
  have h2 := tk_go (e := e) (s := s.setVm (s.vm.noted f.method.cls x.catchType (.cls c))) (f := f) (a := a) (Q := Q) (E := E) (d := d) (acts := acts) (x := y) (t := t) (c := c2) (cell := cell) hy h1 hl2 hcell hobj ⟨j1, hj1⟩ ⟨j2, hj2⟩ (b := true) (by rw [show (s.setVm (s.vm.noted f.method.cls x.catchType (.cls c))).vm.assignable cell.cls c2 = _ from hal.assignable _ _]; exact hb2)
  rw [h2, if_pos rfl]
  exact Iff.rfl
theorem tk_step {r : List Frame} {pc : Nat} {vm' : Vm} (hfind : tk_F e s f a (.found pc) vm') : (stepThrowing e s a (.java f :: r)).Is ((s.setVm vm').setFrames (.java { f with pc := pc, stack := [.ref a] } :: r)) [] := by
  simp only [stepThrowing, searchFrame, vmDo]
  generalize hr : Sem.go _ e false [] s = res
  obtain ⟨as, rfl, ha⟩ := Sem.eq_ok_of hr (a := Handler.found pc) (s' := s.setVm vm') (acts' := []) (by simp [hfind _ _ _ _])
  exact ⟨rfl, ha⟩
theorem tk_fvf (u : State) (v : Vm) (F G : List Frame) : ((u.setFrames F).setVm v).setFrames G = (u.setVm v).setFrames G := by
  rw [show (u.setFrames F).setVm v = (u.setVm v).setFrames F from rfl, State.setFrames_setFrames]
theorem tk_caught {tbl : Tables} {target : State} {g : JFrame} {c : Code} {below : List Frame} (h : At s g.method c below) {pc : Nat} {vm' : Vm} (hfind : tk_F e ((s.setTop g).pushFrame (.throwing a)) g a (.found pc) vm')
    (hrest : Steps tbl e below ((s.setVm vm').setTop { g with pc := pc, stack := [.ref a] }) target) : Steps tbl e below ((s.setTop g).pushFrame (.throwing a)) target := by
  obtain ⟨hgo, hw⟩ := h.throwing a
  refine Steps.head hgo hw ?_
  obtain ⟨g₀, hg⟩ := Option.isSome_iff_exists.mp h.top
  obtain ⟨r, hr⟩ := State.topJava?_eq_some.mp hg
  have hr' : (s.setVm vm').frames = .java g₀ :: r := hr
  rw [State.setTop_of_frames _ hr'] at hrest
  rw [stepThread_throwing (frames_entered h.top _), (tk_step (s := (s.setTop g).pushFrame (.throwing a)) hfind).1, hr, List.tail_cons, State.pushFrame, tk_fvf, State.setTop_of_frames _ hr, tk_fvf]
  exact hrest
end TK3
section TK4
variable {p : Program} {l : Launch} {e : Env} {R : Room} {s : State} {m : MethodId} {args : Array Value} {below : List Frame} {meth : Method} {c : Code} {locs : List Loc} {cells slots : Nat} {Q : State → Prop}
variable {cc : ByteArray} {nL pc : Nat} {ls : Array Slot} {rest : List Value} {own : String} {T : State}
theorem tk_catch1 (XX : Stand p l e R s m args below meth c T locs cells slots) (S : CallFix p m c cc nL s args tb own) {x0 : ExceptionTableEntry} {t0 : List ExceptionTableEntry} (htab : c.exceptionTable.toList = x0 :: t0) (hcov : covers x0 pc = true) (h0 : x0.catchType ≠ 0) {n X : String} (k : Cond.classLink own x0.catchType n ∈ tb)
    {a : Addr} {ce : Cell} (hcell : T.heap[a]? = some ce) (hobj : ce.vm.isStatics = false) (hX : s.vm.findClass X = some ce.cls) {z : Array Value} (hcast : (Cond.castable X n).before z s = true)
    (kk : W p l e R s m args below meth c T.heap locs cells slots Q (F0 m x0.handlerPc ls [.ref a])) : ∃ t, Steps p.tables e below ((T.setTop (F0 m pc ls rest)).pushFrame (.throwing a)) t ∧ Q t := by
  have hpl : e.platform.magicAccessors = ({} : Platform).magicAccessors := by rw [XX.admits.platform]
  obtain ⟨c', hc', hcl⟩ := Cond.classLink_spec S.2.2.2.1 (S.2.2.2.2 _ k) e.platform hpl
  obtain ⟨c3, c4, e3, e4, hasg⟩ := Cond.castable_spec hcast
  cases hX.symm.trans e3
  cases hc'.symm.trans e4
  obtain ⟨dk, _, _, kt, hd, _, _, _, _, hkt, _, hopen⟩ := hcl.here
  have hcl₀ := XX.warmed.classLinks hcl
  have hW' : s.WarmedH (T.vm.noted m.cls x0.catchType (.cls c')) := XX.warmed.noted hd hopen (State.rightAt_cls hcl)
  obtain ⟨kt', hkt', -⟩ := XX.warmed.alike.2.2 _ _ hkt
  obtain ⟨kx, hkx⟩ := Vm.classAt_of_findClass hX
  obtain ⟨kx', hkx', -⟩ := XX.warmed.alike.2.2 _ _ hkx
  have hfit' : T.vm.assignable ce.cls c' = true := by rw [XX.warmed.alike.assignable]; exact hasg
  obtain ⟨t, a1, b1⟩ := kk (T.setVm (T.vm.noted m.cls x0.catchType (.cls c'))) rfl (XX.noted hW')
  exact ⟨t, tk_caught (g := F0 m pc ls rest) XX.here (tk_find1 (s := (T.setTop (F0 m pc ls rest)).pushFrame (.throwing a)) (f := F0 m pc ls rest) (meth := meth) (code := c) XX.method' XX.code htab hcov h0 (c := c') (cell := ce) hcl₀ hcell hobj ⟨kx', hkx'⟩ ⟨kt', hkt'⟩ hfit') a1, b1⟩
theorem tk_catch2 (XX : Stand p l e R s m args below meth c T locs cells slots) (S : CallFix p m c cc nL s args tb own) {x0 x1 : ExceptionTableEntry} {t0 : List ExceptionTableEntry} (htab : c.exceptionTable.toList = x0 :: x1 :: t0) (hcov : covers x0 pc = true) (hcov1 : covers x1 pc = true) (h0 : x0.catchType ≠ 0) (h1 : x1.catchType ≠ 0) {n n1 X : String} (k : Cond.classLink own x0.catchType n ∈ tb) (k1 : Cond.classLink own x1.catchType n1 ∈ tb)
    {a : Addr} {ce : Cell} (hcell : T.heap[a]? = some ce) (hobj : ce.vm.isStatics = false) (hX : s.vm.findClass X = some ce.cls) {z : Array Value} (hcast : (Cond.castable X n1).before z s = true) (hno : ∀ c1 c2, s.vm.findClass X = some c1 → s.vm.findClass n = some c2 → s.vm.assignable c1 c2 = false)
    (kk : W p l e R s m args below meth c T.heap locs cells slots Q (F0 m x1.handlerPc ls [.ref a])) : ∃ t, Steps p.tables e below ((T.setTop (F0 m pc ls rest)).pushFrame (.throwing a)) t ∧ Q t := by
  have hpl : e.platform.magicAccessors = ({} : Platform).magicAccessors := by rw [XX.admits.platform]
  obtain ⟨cA, hcA, hclA⟩ := Cond.classLink_spec S.2.2.2.1 (S.2.2.2.2 _ k) e.platform hpl
  obtain ⟨c', hc', hcl⟩ := Cond.classLink_spec S.2.2.2.1 (S.2.2.2.2 _ k1) e.platform hpl
  obtain ⟨c3, c4, e3, e4, hasg⟩ := Cond.castable_spec hcast
  cases hX.symm.trans e3
  cases hc'.symm.trans e4
  obtain ⟨dkA, _, _, ktA, hdA, _, _, _, _, hktA, _, hopenA⟩ := hclA.here
  obtain ⟨dk, _, _, kt, hd, _, _, _, _, hkt, _, hopen⟩ := hcl.here
  have hclA₀ := XX.warmed.classLinks hclA
  have hWA : s.WarmedH (T.vm.noted m.cls x0.catchType (.cls cA)) := XX.warmed.noted hdA hopenA (State.rightAt_cls hclA)
  have hcl₀ := hWA.classLinks hcl
  have hW' : s.WarmedH ((T.vm.noted m.cls x0.catchType (.cls cA)).noted m.cls x1.catchType (.cls c')) := hWA.noted hd hopen (State.rightAt_cls hcl)
  obtain ⟨kt', hkt', -⟩ := XX.warmed.alike.2.2 _ _ hkt
  obtain ⟨ktA', hktA', -⟩ := XX.warmed.alike.2.2 _ _ hktA
  obtain ⟨kx, hkx⟩ := Vm.classAt_of_findClass hX
  obtain ⟨kx', hkx', -⟩ := XX.warmed.alike.2.2 _ _ hkx
  have hfit' : T.vm.assignable ce.cls c' = true := by rw [XX.warmed.alike.assignable]; exact hasg
  have hnot' : T.vm.assignable ce.cls cA = false := by rw [XX.warmed.alike.assignable]; exact hno _ _ hX hcA
  obtain ⟨t, a1, b1⟩ := kk (T.setVm ((T.vm.noted m.cls x0.catchType (.cls cA)).noted m.cls x1.catchType (.cls c'))) rfl (XX.noted hW')
  exact ⟨t, tk_caught (g := F0 m pc ls rest) XX.here (tk_find2 (s := (T.setTop (F0 m pc ls rest)).pushFrame (.throwing a)) (f := F0 m pc ls rest) (meth := meth) (code := c) XX.method' XX.code htab hcov hcov1 h0 h1 (c := cA) (c2 := c') (cell := ce) hclA₀ hcl₀ hcell hobj ⟨kx', hkx'⟩ ⟨ktA', hktA'⟩ ⟨kt', hkt'⟩ hnot' hfit') a1, b1⟩
end TK4
/-! methods with an exception table: contract and call -/
abbrev mwW (y : MethodName) (cc : ByteArray) (n : Nat) (ret : Option FieldType) (hh : List (Nat × Nat × Nat × Nat)) : List Cond := .codeWith y cc n ret hh :: tb
abbrev PcT (D : va_G) (tys : Tys) (sz : Nat) (ws : va_W) (U : State) : Prop := PcW D tys sz ws U ∧ Tw U
theorem PcT_blind {D : va_G} {tys : Tys} {sz : Nat} {ws : va_W} {av : List Value} : FrameBlind (va_Pc av (PcT D tys sz ws)) := fun a U g mk q => ⟨q.1, (PcW_blind a U g mk ⟨q.1, q.2.1⟩).2, Tw.same (u := U) rfl (fun _ _ => rfl) q.2.2⟩
def CiW (l : Launch) (D : va_G) (tys : Tys) (y : MethodName) (cc : ByteArray) (n : Nat) (ret : Option FieldType) (hh : List (Nat × Nat × Nat × Nat)) (rm : Room) (av : List Value) (ws : va_W) (post : Int32 → va_W → Prop) : Prop :=
  ∀ sz, Met l y (mwW y cc n ret hh) rm (va_Pc av (PcT D tys sz ws)) (va_Qi (S := va_W) post (BW D tys (va_A ws sz)) (va_A ws sz)) rm.cells rm.slots (va_A ws sz)
theorem met_iW {l : Launch} {D : va_G} {tys : Tys} {y : MethodName} {cc : ByteArray} {n : Nat} {rm : Room} {av : List Value} {ws : va_W} {own : String} {ret : FieldType} {hh : List (Nat × Nat × Nat × Nat)} {post : Int32 → va_W → Prop} (hy : plainName y.cls = true) (ho : y.cls = own) (hn : (lg_sl av).length ≤ n)
    (body : ∀ (p : Program) (e : Env) (s : State) (m : MethodId) (args : Array Value) (below : List Frame) (meth : Method) (c : Code) (A : Nat → Prop) (Q : State → Prop), CallFix p m c cc n s args tb own → Tw s → c.exceptionTable.toList.map (fun h => (h.startPc, h.endPc, h.handlerPc, h.catchType)) = hh → (∀ q, s.heap.size ≤ q → A q) →
      (∀ (pc : Nat) (H : Heap) (locs : List Loc) (ls : Array Slot) (v : Int32) (u : va_W), decode cc pc = .ok (.ireturn, 1) → narrow ret (.int v) = .int v → post v u → Wd D tys A s s.heap H locs u → W p l e rm s m args below meth c H locs rm.cells rm.slots Q (F0 m pc ls [.int v])) →
      ∀ ls, lv_has ls n (lv_args 0 av) → Wd D tys A s s.heap s.heap [] ws → W p l e rm s m args below meth c s.heap [] 0 0 Q (F0 m 0 ls [])) : CiW l D tys y cc n (some ret) hh rm av ws post := by
  intro sz
  refine va_MetW (cc := cc) (maxL := n) (ret := some ret) (hh := hh) hy rfl ?_
  intro p e s m args below meth c s₁ B hml hv
  obtain ⟨rfl, ⟨hsz, hP, hK, hD0⟩, hTw⟩ := hv
  have hts := atoms_spec (ws := mwW y cc n (some ret) hh) B.pre
  have hown : s.vm.findClass own = some m.cls := by rw [← ho]; exact findClass_of_methodNamed B.named
  have hlocks := B.notSynchronized
  obtain ⟨m', meth', c', g0, g1, g2, -, -, g5, -⟩ := Cond.codeWith_spec (hts _ List.mem_cons_self)
  cases B.named.symm.trans g0
  cases B.method.symm.trans g1
  cases (Stand.of_body B).code.symm.trans g2
  subst hsz
  rw [lg_entry_eq]
  refine body p e s m _ below meth c (va_A ws s.heap.size) _ ⟨B.exec, B.bytes, hml, hown, fun w h => hts w (List.mem_cons_of_mem _ h)⟩ hTw g5 (fun q h => Or.inr h) ?_ _ (lv_entry av hn) ⟨hK, hP, hD0.self, va_S.rf⟩
  intro pc H locs ls v u hdg hnr hp hW
  exact W.zret B.exec B.bytes B.returns hnr (fun t ht hw => ⟨⟨v, u, rfl, hp, hW.B ht hw⟩, hW.2.2.2.F ht⟩) hW.2.2.2.2.2 hdg
section TK5
variable {p : Program} {l : Launch} {e : Env} {R : Room} {s : State} {m : MethodId} {args : Array Value} {below : List Frame} {meth : Method} {c : Code} {H : Heap} {locs : List Loc} {cells slots : Nat} {Q : State → Prop}
variable {cc : ByteArray} {nL pc : Nat} {ls : Array Slot} {rest st : List Value} {D : va_G} {A : Nat → Prop} {tys : Tys} {ws : va_W} {H0 : Heap} {own : String}
variable {y : MethodName} {yc : ByteArray} {yn np index : Nat} {yr : Room} {As : List Value} {wc wr : va_W}
theorem callSW_i {ret : Option FieldType} {hh : List (Nat × Nat × Nat × Nat)} {post : Int32 → va_W → Prop} (hM : CiW l D tys y yc yn ret hh yr As wc post)
    (k1 : Cond.methodLink own index y ∈ tb) (k2 : Cond.static y ∈ tb) (k4 : Cond.initialized own ∈ tb) (k5 : Cond.codeWith y yc yn ret hh ∈ tb)
    (hd : y.cls = own ∧ y.cls ≠ "java/lang/invoke/MethodHandle" ∧ y.cls ≠ "java/lang/invoke/VarHandle" ∧ (parseMethodDescriptor y.desc).map (fun d => d.parameters.length) = some np)
    (S : CallFix p m c cc nL s args tb own) (hW : Wd D tys A s H0 H locs ws) (hTw : ∀ U : State, U.heap = H → s.WarmedH U.vm → Tw U) (hA : ∀ q, H0.size ≤ q → A q)
    (hR : yr.frames + 1 ≤ R.frames ∧ 8 + (yn + 11) + yr.locals ≤ R.locals) (hf : cells + yr.cells ≤ R.cells ∧ slots + yr.slots ≤ R.slots)
    (isC isR : List Nat) (hC : isC.map (fun i => ws[i]?) = wc.map some) (hnC : va_nd isC = true) (hR2 : isR.map (fun i => ws[i]?) = wr.map some) (hnR : va_nd isR = true) (hdis : ∀ i ∈ isR, i ∉ isC)
    (hlen : As.length = np) (hls : ls.size = nL) (hst : st = As.reverse ++ rest) (hroom : (rest.map fun v => v.category).sum ≤ 8) (hdg : decode cc pc = .ok (.invokestatic index, 3))
    (kk : ∀ (r : Int32) (u : va_W) (H1 : Heap) (locs1 : List Loc), post r u → Wd D tys A s H0 H1 locs1 (wr ++ u) → W p l e R s m args below meth c H1 locs1 (cells + yr.cells) (slots + yr.slots) Q (F0 m (pc + 3) ls (.int r :: rest))) :
    W p l e R s m args below meth c H locs cells slots Q (F0 m pc ls st) := by
  have hF := va_free (wc := wc) hW.2.2.1 hW.2.2.2 hA isC hC
  have hPc := sub_P hW.2.1 hC
  have hDc := hW.2.2.1.sub isC hnC hC
  have hwU : ∀ w ∈ mwW y yc yn ret hh, ∀ (a' : Array Value) (U : State), s.WarmedH U.vm → w.before a' U = true := fun w hw a' U hU => (List.mem_cons.mp hw).elim (fun q => q ▸ word_at hU (good_tb _ k5).2 (S.2.2.2.2 _ k5)) (fun q => word_at hU (good_tb w q).2 (S.2.2.2.2 w q))
  have hK : Back l R p e below s args y 3 8 (PreOf R yr.cells yr.slots (va_Pc As (PcT D tys H.size wc))) (PostOf (va_Qi (S := va_W) post (BW D tys (va_A wc H.size)) (va_A wc H.size)) yr.cells yr.slots (va_A wc H.size)) :=
    va_backW (hh := hh) (bytes := yc) (maxL := yn) (ret := ret) (hM H.size) PcT_blind rfl rfl hR.1 hR.2 hwU List.mem_cons_self (fun a' U hU => by rw [hd.1]; exact word_at hU (good_tb _ k4).2 (S.2.2.2.2 _ k4))
  have hrun : va_Run p l e R s m args below meth c H locs cells slots yr.cells yr.slots (F0 m pc ls st) rest (va_Qi (S := va_W) post (BW D tys (va_A wc H.size)) (va_A wc H.size) As.toArray) (va_A wc H.size) := by
    intro T hT X
    obtain ⟨mk, methM, cM, hnamed, hmethM, -, -, -, -, -, -, hsigM⟩ := Cond.codeWith_spec (S.2.2.2.2 _ k5)
    have hstatic : methM.isStatic = true := Cond.static_spec hnamed hmethM (S.2.2.2.2 _ k2)
    obtain ⟨kP, hkP, -⟩ := className_of_methodNamed hnamed
    have hinitP : kP.init = .initialized := Cond.initialized_spec (findClass_of_methodNamed hnamed) hkP (by rw [hd.1]; exact S.2.2.2.2 _ k4)
    have hlen' : As.length = methM.sig.parameters.length := by
      have h2 := hd.2.2.2
      rw [hsigM] at h2
      exact hlen.trans (Option.some.inj h2).symm
    obtain ⟨vm₁, X₁, hstep₁⟩ := X.invokestatic S.1 S.2.2.2.1 (S.2.2.2.2 _ k1) hnamed hmethM hstatic hkP hinitP ⟨hd.2.1, hd.2.2.1⟩ (g := F0 m pc ls st) rfl (argsL := As) (rest := rest) hlen' hst (by rw [S.2.1]; exact hdg)
    obtain ⟨v, ⟨U', l2, c2, s2⟩, X', ⟨g', mk', t, L, e1, e2, hq, h1, hL, h2, h3⟩, hsteps⟩ := hK m meth c ⟨T.setVm vm₁, locs, cells, slots⟩ { F0 m pc ls st with stack := rest } (.invokestatic index) mk As.toArray X₁ rfl (hls.trans S.2.2.1.symm) (by rw [S.2.1]; exact hdg) (lv_room hroom) (X₁.named hnamed)
      ⟨hf.1, hf.2, rfl, ⟨by rw [← hT]; rfl, by rw [← hT] at hPc; exact hPc, hW.1.warm X₁.warmed, hDc.weaken (fun _ _ _ _ => trivial)⟩, hTw _ hT X₁.warmed⟩
    dsimp only [Pt.U, Pt.locs, Pt.cells, Pt.slots] at X' e1 e2 h1 h2 h3 hsteps
    subst h1; subst h2; subst h3
    exact ⟨v, (T.setVm vm₁).calling g' mk' As.toArray, t, U', L, hT, X', hL, e1, e2, hq, fun target h => hstep₁ _ fun acts => by rw [doInvoke_state]; exact hsteps.trans h⟩
  refine va_calli hrun hW.2.2.2 (fun q _ h => hF q h) hF (fun r u t H1 locs1 ht hvm hp hB hz hk hS => ?_)
  obtain ⟨hP1, hK1, hD1⟩ := hB
  rw [ht] at hP1
  obtain ⟨hP, hD⟩ := va_join hW.2.1 hW.2.2.1 isC isR hC hR2 hnR hdis hk hF hP1 hD1
  exact kk r u H1 locs1 hp ⟨hW.1, hP, hD, hS⟩
end TK5
end
section
theorem z_shl (x : Int64) : (0 : Int64) ||| (0 : Int64) <<< x = 0 := by simp
theorem d_K_forget_0 : decode b_K_forget 0 = .ok (.aload_n 0, 1) := by decide +kernel
theorem d_K_forget_1 : decode b_K_forget 1 = .ok (.iconst 0, 1) := by decide +kernel
theorem d_K_forget_2 : decode b_K_forget 2 = .ok (.putfield 29, 3) := by decide +kernel
theorem d_K_forget_5 : decode b_K_forget 5 = .ok (.aload_n 0, 1) := by decide +kernel
theorem d_K_forget_6 : decode b_K_forget 6 = .ok (.iconst 0, 1) := by decide +kernel
theorem d_K_forget_7 : decode b_K_forget 7 = .ok (.putfield 33, 3) := by decide +kernel
theorem d_K_forget_10 : decode b_K_forget 10 = .ok (.return_, 1) := by decide +kernel
set_option maxHeartbeats 4000000 in
set_option maxRecDepth 100000 in
theorem c_K_forget (l : Launch) (D : va_G) (cI cJ cB cZ : ClassId) (aK aC aK0 aK1 aK2 aK3 aK4 : Nat) (cn ce : Int32) : Cv l D (tyl cI cJ cB cZ) y_K_forget b_K_forget 1 ({ frames := 0, cells := 0, slots := 0, locals := 0 } : Room) [.ref aK] [(aK, .inr (4, [.ref aC, .ref aK0, .ref aK1, .ref aK2, .ref aK3, .ref aK4, .int cn, .int ce]))] (fun u => u = [(aK, .inr (4, [.ref aC, .ref aK0, .ref aK1, .ref aK2, .ref aK3, .ref aK4, .int (nI 0), .int (nI 0)]))]) := by
  refine met_v (own := "ProofReader$Constants") (by decide) rfl (Nat.le_of_ble_eq_true rfl) ?_
  intro p e s m args below meth c A Q S hin hA ret ls hl hW
  have hl : lv_has ls 1 [(0, .ref aK)] := hl
  have hW : Wd D (tyl cI cJ cB cZ) A s s.heap s.heap [] [(aK, .inr (4, [.ref aC, .ref aK0, .ref aK1, .ref aK2, .ref aK3, .ref aK4, .int cn, .int ce]))] := hW
  refine lv_aload_n S.1 S.2.1 d_K_forget_0 rfl (lv_at hl 0 rfl) ?_
  refine lv_iconst (v := (nI 0)) S.1 S.2.1 d_K_forget_1 (by decide) ?_
  refine g_put (ws2 := [(aK, .inr (4, [.ref aC, .ref aK0, .ref aK1, .ref aK2, .ref aK3, .ref aK4, .int (nI 0), .int ce]))]) i_K ft_K ft_K_ok n_K S hW 0 rfl rfl 6 (by decide) kf_K_29 rfl rfl rfl (Nat.le_of_ble_eq_true rfl) rfl d_K_forget_2 (fun H locs hW => ?_)
  refine lv_aload_n S.1 S.2.1 d_K_forget_5 rfl (lv_at hl 0 rfl) ?_
  refine lv_iconst (v := (nI 0)) S.1 S.2.1 d_K_forget_6 (by decide) ?_
  refine g_put (ws2 := [(aK, .inr (4, [.ref aC, .ref aK0, .ref aK1, .ref aK2, .ref aK3, .ref aK4, .int (nI 0), .int (nI 0)]))]) i_K ft_K ft_K_ok n_K S hW 0 rfl rfl 7 (by decide) kf_K_33 rfl rfl rfl (Nat.le_of_ble_eq_true rfl) rfl d_K_forget_7 (fun H locs hW => ?_)
  exact ret _ _ _ _ _ d_K_forget_10 rfl hW
theorem d_T_append_0 : decode b_T_append 0 = .ok (.aload_n 0, 1) := by decide +kernel
theorem d_T_append_1 : decode b_T_append 1 = .ok (.getfield 19, 3) := by decide +kernel
theorem d_T_append_4 : decode b_T_append 4 = .ok (.sipush 8192, 3) := by decide +kernel
theorem d_T_append_7 : decode b_T_append 7 = .ok (.if_icmp .ge 23, 3) := by decide +kernel
theorem d_T_append_10 : decode b_T_append 10 = .ok (.aload_n 0, 1) := by decide +kernel
theorem d_T_append_11 : decode b_T_append 11 = .ok (.getfield 9, 3) := by decide +kernel
theorem d_T_append_14 : decode b_T_append 14 = .ok (.aload_n 0, 1) := by decide +kernel
theorem d_T_append_15 : decode b_T_append 15 = .ok (.getfield 19, 3) := by decide +kernel
theorem d_T_append_18 : decode b_T_append 18 = .ok (.iload_n 1, 1) := by decide +kernel
theorem d_T_append_19 : decode b_T_append 19 = .ok (.bastore, 1) := by decide +kernel
theorem d_T_append_20 : decode b_T_append 20 = .ok (.aload_n 0, 1) := by decide +kernel
theorem d_T_append_21 : decode b_T_append 21 = .ok (.dup, 1) := by decide +kernel
theorem d_T_append_22 : decode b_T_append 22 = .ok (.getfield 19, 3) := by decide +kernel
theorem d_T_append_25 : decode b_T_append 25 = .ok (.iconst 1, 1) := by decide +kernel
theorem d_T_append_26 : decode b_T_append 26 = .ok (.iadd, 1) := by decide +kernel
theorem d_T_append_27 : decode b_T_append 27 = .ok (.putfield 19, 3) := by decide +kernel
theorem d_T_append_30 : decode b_T_append 30 = .ok (.return_, 1) := by decide +kernel
set_option maxHeartbeats 4000000 in
set_option maxRecDepth 100000 in
theorem c_T_append (l : Launch) (D : va_G) (cI cJ cB cZ : ClassId) (aT aF aTb : Nat) (f : Nat → Int32) (ln : Nat) (x nx kd st : Int32) (fr bk : Int64) (hln : ln < 8192) : Cv l D (tyl cI cJ cB cZ) y_T_append b_T_append 2 ({ frames := 0, cells := 0, slots := 0, locals := 0 } : Room) [.ref aT, .int x] [(aT, .inr (3, [.ref aF, .ref aTb, .int nx, .int (nI ln), .int kd, .int st, .long fr, .long bk])), (aTb, .inl (cB, 8192, .inl f))] (fun u => u = [(aT, .inr (3, [.ref aF, .ref aTb, .int nx, .int (nI (ln + 1)), .int kd, .int st, .long fr, .long bk])), (aTb, .inl (cB, 8192, .inl (upd f ln x.toInt8.toInt32)))]) := by
  refine met_v (own := "ProofReader$Tokens") (by decide) rfl (Nat.le_of_ble_eq_true rfl) ?_
  intro p e s m args below meth c A Q S hin hA ret ls hl hW
  have hl : lv_has ls 2 [(0, .ref aT), (1, .int x)] := hl
  have hW : Wd D (tyl cI cJ cB cZ) A s s.heap s.heap [] [(aT, .inr (3, [.ref aF, .ref aTb, .int nx, .int (nI ln), .int kd, .int st, .long fr, .long bk])), (aTb, .inl (cB, 8192, .inl f))] := hW
  refine lv_aload_n S.1 S.2.1 d_T_append_0 rfl (lv_at hl 0 rfl) ?_
  refine g_get i_T S hW 0 rfl rfl 3 (by decide) kf_T_19 rfl d_T_append_1 ?_
  refine lv_sipush (v := (nI 8192)) S.1 S.2.1 d_T_append_4 (by decide) ?_
  refine n_icmp_ge (tgt := 30) S (by omega) (by omega) d_T_append_7 (by decide) (fun c_7 => absurd c_7 (by omega)) (fun c_7 => ?_)
  refine lv_aload_n S.1 S.2.1 d_T_append_10 rfl (lv_at hl 0 rfl) ?_
  refine g_get i_T S hW 0 rfl rfl 1 (by decide) kf_T_9 rfl d_T_append_11 ?_
  refine lv_aload_n S.1 S.2.1 d_T_append_14 rfl (lv_at hl 0 rfl) ?_
  refine g_get i_T S hW 0 rfl rfl 3 (by decide) kf_T_19 rfl d_T_append_15 ?_
  refine lv_iload_n S.1 S.2.1 d_T_append_18 rfl (lv_at hl 1 rfl) ?_
  refine n_bast (ws2 := [(aT, .inr (3, [.ref aF, .ref aTb, .int nx, .int (nI ln), .int kd, .int st, .long fr, .long bk])), (aTb, .inl (cB, 8192, .inl (upd f ln x.toInt8.toInt32)))]) S hW 1 2 rfl rfl (by decide) (by omega) rfl d_T_append_19 (fun H locs hW => ?_)
  refine lv_aload_n S.1 S.2.1 d_T_append_20 rfl (lv_at hl 0 rfl) ?_
  refine lv_dup S.1 S.2.1 d_T_append_21 rfl ?_
  refine g_get i_T S hW 0 rfl rfl 3 (by decide) kf_T_19 rfl d_T_append_22 ?_
  refine lv_iconst (v := (nI 1)) S.1 S.2.1 d_T_append_25 (by decide) ?_
  refine n_iadd S d_T_append_26 ?_
  refine g_put (ws2 := [(aT, .inr (3, [.ref aF, .ref aTb, .int nx, .int (nI (ln + 1)), .int kd, .int st, .long fr, .long bk])), (aTb, .inl (cB, 8192, .inl (upd f ln x.toInt8.toInt32)))]) i_T ft_T ft_T_ok n_T S hW 0 rfl rfl 3 (by decide) kf_T_19 rfl rfl rfl (Nat.le_of_ble_eq_true rfl) rfl d_T_append_27 (fun H locs hW => ?_)
  exact ret _ _ _ _ _ d_T_append_30 rfl hW
theorem d_T_advance_0 : decode b_T_advance 0 = .ok (.aload_n 0, 1) := by decide +kernel
theorem d_T_advance_1 : decode b_T_advance 1 = .ok (.getfield 15, 3) := by decide +kernel
theorem d_T_advance_4 : decode b_T_advance 4 = .ok (.aload_n 0, 1) := by decide +kernel
theorem d_T_advance_5 : decode b_T_advance 5 = .ok (.getfield 19, 3) := by decide +kernel
theorem d_T_advance_8 : decode b_T_advance 8 = .ok (.if_icmp .ge 29, 3) := by decide +kernel
theorem d_T_advance_11 : decode b_T_advance 11 = .ok (.aload_n 0, 1) := by decide +kernel
theorem d_T_advance_12 : decode b_T_advance 12 = .ok (.aload_n 0, 1) := by decide +kernel
theorem d_T_advance_13 : decode b_T_advance 13 = .ok (.getfield 15, 3) := by decide +kernel
theorem d_T_advance_16 : decode b_T_advance 16 = .ok (.invokevirtual 39, 3) := by decide +kernel
theorem d_T_advance_19 : decode b_T_advance 19 = .ok (.bipush 32, 2) := by decide +kernel
theorem d_T_advance_21 : decode b_T_advance 21 = .ok (.if_icmp .gt 16, 3) := by decide +kernel
theorem d_T_advance_24 : decode b_T_advance 24 = .ok (.aload_n 0, 1) := by decide +kernel
theorem d_T_advance_25 : decode b_T_advance 25 = .ok (.dup, 1) := by decide +kernel
theorem d_T_advance_26 : decode b_T_advance 26 = .ok (.getfield 15, 3) := by decide +kernel
theorem d_T_advance_29 : decode b_T_advance 29 = .ok (.iconst 1, 1) := by decide +kernel
theorem d_T_advance_30 : decode b_T_advance 30 = .ok (.iadd, 1) := by decide +kernel
theorem d_T_advance_31 : decode b_T_advance 31 = .ok (.putfield 15, 3) := by decide +kernel
theorem d_T_advance_34 : decode b_T_advance 34 = .ok (.goto (-34), 3) := by decide +kernel
theorem d_T_advance_37 : decode b_T_advance 37 = .ok (.aload_n 0, 1) := by decide +kernel
theorem d_T_advance_38 : decode b_T_advance 38 = .ok (.aload_n 0, 1) := by decide +kernel
theorem d_T_advance_39 : decode b_T_advance 39 = .ok (.getfield 15, 3) := by decide +kernel
theorem d_T_advance_42 : decode b_T_advance 42 = .ok (.putfield 25, 3) := by decide +kernel
theorem d_T_advance_45 : decode b_T_advance 45 = .ok (.aload_n 0, 1) := by decide +kernel
theorem d_T_advance_46 : decode b_T_advance 46 = .ok (.getfield 15, 3) := by decide +kernel
theorem d_T_advance_49 : decode b_T_advance 49 = .ok (.aload_n 0, 1) := by decide +kernel
theorem d_T_advance_50 : decode b_T_advance 50 = .ok (.getfield 19, 3) := by decide +kernel
theorem d_T_advance_53 : decode b_T_advance 53 = .ok (.if_icmp .lt 10, 3) := by decide +kernel
theorem d_T_advance_56 : decode b_T_advance 56 = .ok (.aload_n 0, 1) := by decide +kernel
theorem d_T_advance_57 : decode b_T_advance 57 = .ok (.iconst 0, 1) := by decide +kernel
theorem d_T_advance_58 : decode b_T_advance 58 = .ok (.putfield 22, 3) := by decide +kernel
theorem d_T_advance_61 : decode b_T_advance 61 = .ok (.iconst 1, 1) := by decide +kernel
theorem d_T_advance_62 : decode b_T_advance 62 = .ok (.ireturn, 1) := by decide +kernel
theorem d_T_advance_63 : decode b_T_advance 63 = .ok (.aload_n 0, 1) := by decide +kernel
theorem d_T_advance_64 : decode b_T_advance 64 = .ok (.aload_n 0, 1) := by decide +kernel
theorem d_T_advance_65 : decode b_T_advance 65 = .ok (.getfield 15, 3) := by decide +kernel
theorem d_T_advance_68 : decode b_T_advance 68 = .ok (.invokevirtual 39, 3) := by decide +kernel
theorem d_T_advance_71 : decode b_T_advance 71 = .ok (.istore_n 1, 1) := by decide +kernel
theorem d_T_advance_72 : decode b_T_advance 72 = .ok (.iload_n 1, 1) := by decide +kernel
theorem d_T_advance_73 : decode b_T_advance 73 = .ok (.invokestatic 43, 3) := by decide +kernel
theorem d_T_advance_76 : decode b_T_advance 76 = .ok (.ifCond .eq 8, 3) := by decide +kernel
theorem d_T_advance_79 : decode b_T_advance 79 = .ok (.aload_n 0, 1) := by decide +kernel
theorem d_T_advance_80 : decode b_T_advance 80 = .ok (.invokevirtual 47, 3) := by decide +kernel
theorem d_T_advance_83 : decode b_T_advance 83 = .ok (.ireturn, 1) := by decide +kernel
theorem d_T_advance_84 : decode b_T_advance 84 = .ok (.iload_n 1, 1) := by decide +kernel
theorem d_T_advance_85 : decode b_T_advance 85 = .ok (.bipush 45, 2) := by decide +kernel
theorem d_T_advance_87 : decode b_T_advance 87 = .ok (.if_icmp .ne 8, 3) := by decide +kernel
theorem d_T_advance_90 : decode b_T_advance 90 = .ok (.aload_n 0, 1) := by decide +kernel
theorem d_T_advance_91 : decode b_T_advance 91 = .ok (.invokevirtual 51, 3) := by decide +kernel
theorem d_T_advance_94 : decode b_T_advance 94 = .ok (.ireturn, 1) := by decide +kernel
theorem d_T_advance_95 : decode b_T_advance 95 = .ok (.aload_n 0, 1) := by decide +kernel
theorem d_T_advance_96 : decode b_T_advance 96 = .ok (.iload_n 1, 1) := by decide +kernel
theorem d_T_advance_97 : decode b_T_advance 97 = .ok (.putfield 22, 3) := by decide +kernel
theorem d_T_advance_100 : decode b_T_advance 100 = .ok (.aload_n 0, 1) := by decide +kernel
theorem d_T_advance_101 : decode b_T_advance 101 = .ok (.dup, 1) := by decide +kernel
theorem d_T_advance_102 : decode b_T_advance 102 = .ok (.getfield 15, 3) := by decide +kernel
theorem d_T_advance_105 : decode b_T_advance 105 = .ok (.iconst 1, 1) := by decide +kernel
theorem d_T_advance_106 : decode b_T_advance 106 = .ok (.iadd, 1) := by decide +kernel
theorem d_T_advance_107 : decode b_T_advance 107 = .ok (.putfield 15, 3) := by decide +kernel
theorem d_T_advance_110 : decode b_T_advance 110 = .ok (.iload_n 1, 1) := by decide +kernel
theorem d_T_advance_111 : decode b_T_advance 111 = .ok (.invokestatic 54, 3) := by decide +kernel
theorem d_T_advance_114 : decode b_T_advance 114 = .ok (.ifCond .ne 18, 3) := by decide +kernel
theorem d_T_advance_117 : decode b_T_advance 117 = .ok (.aload_n 0, 1) := by decide +kernel
theorem d_T_advance_118 : decode b_T_advance 118 = .ok (.getfield 35, 3) := by decide +kernel
theorem d_T_advance_121 : decode b_T_advance 121 = .ok (.iconst 1, 1) := by decide +kernel
theorem d_T_advance_122 : decode b_T_advance 122 = .ok (.aload_n 0, 1) := by decide +kernel
theorem d_T_advance_123 : decode b_T_advance 123 = .ok (.getfield 25, 3) := by decide +kernel
theorem d_T_advance_126 : decode b_T_advance 126 = .ok (.invokevirtual 57, 3) := by decide +kernel
theorem d_T_advance_129 : decode b_T_advance 129 = .ok (.ifCond .eq 7, 3) := by decide +kernel
theorem d_T_advance_132 : decode b_T_advance 132 = .ok (.iconst 1, 1) := by decide +kernel
theorem d_T_advance_133 : decode b_T_advance 133 = .ok (.goto 4, 3) := by decide +kernel
theorem d_T_advance_136 : decode b_T_advance 136 = .ok (.iconst 0, 1) := by decide +kernel
theorem d_T_advance_137 : decode b_T_advance 137 = .ok (.ireturn, 1) := by decide +kernel
set_option maxHeartbeats 4000000 in
set_option maxRecDepth 100000 in
theorem c_T_advance (l : Launch) (D : va_G) (cI cJ cB cZ : ClassId) (aT aF aTb : Nat) : Ci l D (tyl cI cJ cB cZ) y_T_advance b_T_advance 2 (some .boolean) ({ frames := 0, cells := 0, slots := 0, locals := 0 } : Room) [.ref aT] [(aT, .inr (3, [.ref aF, .ref aTb, .int (nI 0), .int (nI 0), .int (nI 0), .int (nI 0), .long 0, .long 0]))] (fun r u => r = (nI 1) ∧ u = [(aT, .inr (3, [.ref aF, .ref aTb, .int (nI 0), .int (nI 0), .int (nI 0), .int (nI 0), .long 0, .long 0]))]) := by
  refine met_i (own := "ProofReader$Tokens") (by decide) rfl (Nat.le_of_ble_eq_true rfl) ?_
  intro p e s m args below meth c A Q S hA ret ls hl hW
  have hl : lv_has ls 2 [(0, .ref aT)] := hl
  have hW : Wd D (tyl cI cJ cB cZ) A s s.heap s.heap [] [(aT, .inr (3, [.ref aF, .ref aTb, .int (nI 0), .int (nI 0), .int (nI 0), .int (nI 0), .long 0, .long 0]))] := hW
  refine lv_aload_n S.1 S.2.1 d_T_advance_0 rfl (lv_at hl 0 rfl) ?_
  refine g_get i_T S hW 0 rfl rfl 2 (by decide) kf_T_15 rfl d_T_advance_1 ?_
  refine lv_aload_n S.1 S.2.1 d_T_advance_4 rfl (lv_at hl 0 rfl) ?_
  refine g_get i_T S hW 0 rfl rfl 3 (by decide) kf_T_19 rfl d_T_advance_5 ?_
  refine lv_icmp_ge (tgt := 37) S.1 S.2.1 d_T_advance_8 (by decide) (fun _ => ?_) (fun h => absurd h (by decide))
  refine lv_aload_n S.1 S.2.1 d_T_advance_37 rfl (lv_at hl 0 rfl) ?_
  refine lv_aload_n S.1 S.2.1 d_T_advance_38 rfl (lv_at hl 0 rfl) ?_
  refine g_get i_T S hW 0 rfl rfl 2 (by decide) kf_T_15 rfl d_T_advance_39 ?_
  refine g_put (ws2 := [(aT, .inr (3, [.ref aF, .ref aTb, .int (nI 0), .int (nI 0), .int (nI 0), .int (nI 0), .long 0, .long 0]))]) i_T ft_T ft_T_ok n_T S hW 0 rfl rfl 5 (by decide) kf_T_25 rfl rfl rfl (Nat.le_of_ble_eq_true rfl) rfl d_T_advance_42 (fun H locs hW => ?_)
  refine lv_aload_n S.1 S.2.1 d_T_advance_45 rfl (lv_at hl 0 rfl) ?_
  refine g_get i_T S hW 0 rfl rfl 2 (by decide) kf_T_15 rfl d_T_advance_46 ?_
  refine lv_aload_n S.1 S.2.1 d_T_advance_49 rfl (lv_at hl 0 rfl) ?_
  refine g_get i_T S hW 0 rfl rfl 3 (by decide) kf_T_19 rfl d_T_advance_50 ?_
  refine lv_icmp_lt (tgt := 63) S.1 S.2.1 d_T_advance_53 (by decide) (fun h => absurd h (by decide)) (fun _ => ?_)
  refine lv_aload_n S.1 S.2.1 d_T_advance_56 rfl (lv_at hl 0 rfl) ?_
  refine lv_iconst (v := (nI 0)) S.1 S.2.1 d_T_advance_57 (by decide) ?_
  refine g_put (ws2 := [(aT, .inr (3, [.ref aF, .ref aTb, .int (nI 0), .int (nI 0), .int (nI 0), .int (nI 0), .long 0, .long 0]))]) i_T ft_T ft_T_ok n_T S hW 0 rfl rfl 4 (by decide) kf_T_22 rfl rfl rfl (Nat.le_of_ble_eq_true rfl) rfl d_T_advance_58 (fun H locs hW => ?_)
  refine lv_iconst (v := (nI 1)) S.1 S.2.1 d_T_advance_61 (by decide) ?_
  exact ret _ _ _ _ _ _ d_T_advance_62 rfl ⟨rfl, rfl⟩ hW
theorem d_X_fault_0 : decode b_X_fault 0 = .ok (.aload_n 0, 1) := by decide +kernel
theorem d_X_fault_1 : decode b_X_fault 1 = .ok (.getfield 10, 3) := by decide +kernel
theorem d_X_fault_4 : decode b_X_fault 4 = .ok (.getfield 115, 3) := by decide +kernel
theorem d_X_fault_7 : decode b_X_fault 7 = .ok (.ireturn, 1) := by decide +kernel
set_option maxHeartbeats 4000000 in
set_option maxRecDepth 100000 in
theorem c_X_fault (l : Launch) (D : va_G) (cI cJ cB cZ : ClassId) (aX aF aC aP aT aK aR aH aI : Nat) (fn fw fd : Int32) : Ci l D (tyl cI cJ cB cZ) y_X_fault b_X_fault 1 (some .int) ({ frames := 0, cells := 0, slots := 0, locals := 0 } : Room) [.ref aX] [(aX, .inr (9, [.ref aF, .ref aC, .ref aP, .ref aT, .ref aK, .ref aR, .ref aH, .ref aI, .int fd])), (aF, .inr (0, [.int fn, .int fw]))] (fun r u => r = fn ∧ u = [(aX, .inr (9, [.ref aF, .ref aC, .ref aP, .ref aT, .ref aK, .ref aR, .ref aH, .ref aI, .int fd])), (aF, .inr (0, [.int fn, .int fw]))]) := by
  refine met_i (own := "ProofReader") (by decide) rfl (Nat.le_of_ble_eq_true rfl) ?_
  intro p e s m args below meth c A Q S hA ret ls hl hW
  have hl : lv_has ls 1 [(0, .ref aX)] := hl
  have hW : Wd D (tyl cI cJ cB cZ) A s s.heap s.heap [] [(aX, .inr (9, [.ref aF, .ref aC, .ref aP, .ref aT, .ref aK, .ref aR, .ref aH, .ref aI, .int fd])), (aF, .inr (0, [.int fn, .int fw]))] := hW
  refine lv_aload_n S.1 S.2.1 d_X_fault_0 rfl (lv_at hl 0 rfl) ?_
  refine g_get i_X S hW 0 rfl rfl 0 (by decide) kf_X_10 rfl d_X_fault_1 ?_
  refine g_get i_F S hW 1 rfl rfl 0 (by decide) kf_X_115 rfl d_X_fault_4 ?_
  exact ret _ _ _ _ _ _ d_X_fault_7 rfl ⟨rfl, rfl⟩ hW
theorem d_X_place_0 : decode b_X_place 0 = .ok (.aload_n 0, 1) := by decide +kernel
theorem d_X_place_1 : decode b_X_place 1 = .ok (.getfield 10, 3) := by decide +kernel
theorem d_X_place_4 : decode b_X_place 4 = .ok (.getfield 118, 3) := by decide +kernel
theorem d_X_place_7 : decode b_X_place 7 = .ok (.ireturn, 1) := by decide +kernel
set_option maxHeartbeats 4000000 in
set_option maxRecDepth 100000 in
theorem c_X_place (l : Launch) (D : va_G) (cI cJ cB cZ : ClassId) (aX aF aC aP aT aK aR aH aI : Nat) (fn fw fd : Int32) : Ci l D (tyl cI cJ cB cZ) y_X_place b_X_place 1 (some .int) ({ frames := 0, cells := 0, slots := 0, locals := 0 } : Room) [.ref aX] [(aX, .inr (9, [.ref aF, .ref aC, .ref aP, .ref aT, .ref aK, .ref aR, .ref aH, .ref aI, .int fd])), (aF, .inr (0, [.int fn, .int fw]))] (fun r u => r = fw ∧ u = [(aX, .inr (9, [.ref aF, .ref aC, .ref aP, .ref aT, .ref aK, .ref aR, .ref aH, .ref aI, .int fd])), (aF, .inr (0, [.int fn, .int fw]))]) := by
  refine met_i (own := "ProofReader") (by decide) rfl (Nat.le_of_ble_eq_true rfl) ?_
  intro p e s m args below meth c A Q S hA ret ls hl hW
  have hl : lv_has ls 1 [(0, .ref aX)] := hl
  have hW : Wd D (tyl cI cJ cB cZ) A s s.heap s.heap [] [(aX, .inr (9, [.ref aF, .ref aC, .ref aP, .ref aT, .ref aK, .ref aR, .ref aH, .ref aI, .int fd])), (aF, .inr (0, [.int fn, .int fw]))] := hW
  refine lv_aload_n S.1 S.2.1 d_X_place_0 rfl (lv_at hl 0 rfl) ?_
  refine g_get i_X S hW 0 rfl rfl 0 (by decide) kf_X_10 rfl d_X_place_1 ?_
  refine g_get i_F S hW 1 rfl rfl 1 (by decide) kf_X_118 rfl d_X_place_4 ?_
  exact ret _ _ _ _ _ _ d_X_place_7 rfl ⟨rfl, rfl⟩ hW
theorem d_X_constants_0 : decode b_X_constants 0 = .ok (.aload_n 0, 1) := by decide +kernel
theorem d_X_constants_1 : decode b_X_constants 1 = .ok (.getfield 44, 3) := by decide +kernel
theorem d_X_constants_4 : decode b_X_constants 4 = .ok (.getfield 121, 3) := by decide +kernel
theorem d_X_constants_7 : decode b_X_constants 7 = .ok (.ireturn, 1) := by decide +kernel
set_option maxHeartbeats 4000000 in
set_option maxRecDepth 100000 in
theorem c_X_constants (l : Launch) (D : va_G) (cI cJ cB cZ : ClassId) (aX aF aC aP aT aK aR aH aI : Nat) (aK0 aK1 aK2 aK3 aK4 : Nat) (cn ce fd : Int32) : Ci l D (tyl cI cJ cB cZ) y_X_constants b_X_constants 1 (some .int) ({ frames := 0, cells := 0, slots := 0, locals := 0 } : Room) [.ref aX] [(aX, .inr (9, [.ref aF, .ref aC, .ref aP, .ref aT, .ref aK, .ref aR, .ref aH, .ref aI, .int fd])), (aK, .inr (4, [.ref aC, .ref aK0, .ref aK1, .ref aK2, .ref aK3, .ref aK4, .int cn, .int ce]))] (fun r u => r = cn ∧ u = [(aX, .inr (9, [.ref aF, .ref aC, .ref aP, .ref aT, .ref aK, .ref aR, .ref aH, .ref aI, .int fd])), (aK, .inr (4, [.ref aC, .ref aK0, .ref aK1, .ref aK2, .ref aK3, .ref aK4, .int cn, .int ce]))]) := by
  refine met_i (own := "ProofReader") (by decide) rfl (Nat.le_of_ble_eq_true rfl) ?_
  intro p e s m args below meth c A Q S hA ret ls hl hW
  have hl : lv_has ls 1 [(0, .ref aX)] := hl
  have hW : Wd D (tyl cI cJ cB cZ) A s s.heap s.heap [] [(aX, .inr (9, [.ref aF, .ref aC, .ref aP, .ref aT, .ref aK, .ref aR, .ref aH, .ref aI, .int fd])), (aK, .inr (4, [.ref aC, .ref aK0, .ref aK1, .ref aK2, .ref aK3, .ref aK4, .int cn, .int ce]))] := hW
  refine lv_aload_n S.1 S.2.1 d_X_constants_0 rfl (lv_at hl 0 rfl) ?_
  refine g_get i_X S hW 0 rfl rfl 4 (by decide) kf_X_44 rfl d_X_constants_1 ?_
  refine g_get i_K S hW 1 rfl rfl 6 (by decide) kf_X_121 rfl d_X_constants_4 ?_
  exact ret _ _ _ _ _ _ d_X_constants_7 rfl ⟨rfl, rfl⟩ hW
theorem d_X_printed_0 : decode b_X_printed 0 = .ok (.aload_n 0, 1) := by decide +kernel
theorem d_X_printed_1 : decode b_X_printed 1 = .ok (.getfield 26, 3) := by decide +kernel
theorem d_X_printed_4 : decode b_X_printed 4 = .ok (.getfield 125, 3) := by decide +kernel
theorem d_X_printed_7 : decode b_X_printed 7 = .ok (.ireturn, 1) := by decide +kernel
set_option maxHeartbeats 4000000 in
set_option maxRecDepth 100000 in
theorem c_X_printed (l : Launch) (D : va_G) (cI cJ cB cZ : ClassId) (aX aF aC aP aT aK aR aH aI : Nat) (aPb : Nat) (ln ov fd : Int32) : Ci l D (tyl cI cJ cB cZ) y_X_printed b_X_printed 1 (some .int) ({ frames := 0, cells := 0, slots := 0, locals := 0 } : Room) [.ref aX] [(aX, .inr (9, [.ref aF, .ref aC, .ref aP, .ref aT, .ref aK, .ref aR, .ref aH, .ref aI, .int fd])), (aP, .inr (2, [.ref aPb, .int ln, .int ov]))] (fun r u => r = ln ∧ u = [(aX, .inr (9, [.ref aF, .ref aC, .ref aP, .ref aT, .ref aK, .ref aR, .ref aH, .ref aI, .int fd])), (aP, .inr (2, [.ref aPb, .int ln, .int ov]))]) := by
  refine met_i (own := "ProofReader") (by decide) rfl (Nat.le_of_ble_eq_true rfl) ?_
  intro p e s m args below meth c A Q S hA ret ls hl hW
  have hl : lv_has ls 1 [(0, .ref aX)] := hl
  have hW : Wd D (tyl cI cJ cB cZ) A s s.heap s.heap [] [(aX, .inr (9, [.ref aF, .ref aC, .ref aP, .ref aT, .ref aK, .ref aR, .ref aH, .ref aI, .int fd])), (aP, .inr (2, [.ref aPb, .int ln, .int ov]))] := hW
  refine lv_aload_n S.1 S.2.1 d_X_printed_0 rfl (lv_at hl 0 rfl) ?_
  refine g_get i_X S hW 0 rfl rfl 2 (by decide) kf_X_26 rfl d_X_printed_1 ?_
  refine g_get i_P S hW 1 rfl rfl 1 (by decide) kf_X_125 rfl d_X_printed_4 ?_
  exact ret _ _ _ _ _ _ d_X_printed_7 rfl ⟨rfl, rfl⟩ hW
theorem d_X_wipe_0 : decode b_X_wipe 0 = .ok (.aload_n 0, 1) := by decide +kernel
theorem d_X_wipe_1 : decode b_X_wipe 1 = .ok (.getfield 26, 3) := by decide +kernel
theorem d_X_wipe_4 : decode b_X_wipe 4 = .ok (.getfield 125, 3) := by decide +kernel
theorem d_X_wipe_7 : decode b_X_wipe 7 = .ok (.istore_n 1, 1) := by decide +kernel
theorem d_X_wipe_8 : decode b_X_wipe 8 = .ok (.aload_n 0, 1) := by decide +kernel
theorem d_X_wipe_9 : decode b_X_wipe 9 = .ok (.getfield 26, 3) := by decide +kernel
theorem d_X_wipe_12 : decode b_X_wipe 12 = .ok (.iconst 0, 1) := by decide +kernel
theorem d_X_wipe_13 : decode b_X_wipe 13 = .ok (.putfield 125, 3) := by decide +kernel
theorem d_X_wipe_16 : decode b_X_wipe 16 = .ok (.iload_n 1, 1) := by decide +kernel
theorem d_X_wipe_17 : decode b_X_wipe 17 = .ok (.ireturn, 1) := by decide +kernel
set_option maxHeartbeats 4000000 in
set_option maxRecDepth 100000 in
theorem c_X_wipe (l : Launch) (D : va_G) (cI cJ cB cZ : ClassId) (aX aF aC aP aT aK aR aH aI : Nat) (aPb : Nat) (ln ov fd : Int32) : Ci l D (tyl cI cJ cB cZ) y_X_wipe b_X_wipe 2 (some .int) ({ frames := 0, cells := 0, slots := 0, locals := 0 } : Room) [.ref aX] [(aX, .inr (9, [.ref aF, .ref aC, .ref aP, .ref aT, .ref aK, .ref aR, .ref aH, .ref aI, .int fd])), (aP, .inr (2, [.ref aPb, .int ln, .int ov]))] (fun r u => r = ln ∧ u = [(aX, .inr (9, [.ref aF, .ref aC, .ref aP, .ref aT, .ref aK, .ref aR, .ref aH, .ref aI, .int fd])), (aP, .inr (2, [.ref aPb, .int (nI 0), .int ov]))]) := by
  refine met_i (own := "ProofReader") (by decide) rfl (Nat.le_of_ble_eq_true rfl) ?_
  intro p e s m args below meth c A Q S hA ret ls hl hW
  have hl : lv_has ls 2 [(0, .ref aX)] := hl
  have hW : Wd D (tyl cI cJ cB cZ) A s s.heap s.heap [] [(aX, .inr (9, [.ref aF, .ref aC, .ref aP, .ref aT, .ref aK, .ref aR, .ref aH, .ref aI, .int fd])), (aP, .inr (2, [.ref aPb, .int ln, .int ov]))] := hW
  refine lv_aload_n S.1 S.2.1 d_X_wipe_0 rfl (lv_at hl 0 rfl) ?_
  refine g_get i_X S hW 0 rfl rfl 2 (by decide) kf_X_26 rfl d_X_wipe_1 ?_
  refine g_get i_P S hW 1 rfl rfl 1 (by decide) kf_X_125 rfl d_X_wipe_4 ?_
  refine lv_istore_n (lv' := [(1, .int ln), (0, .ref aX)]) S.1 S.2.1 d_X_wipe_7 rfl hl (by decide) rfl (fun ls hl => ?_)
  refine lv_aload_n S.1 S.2.1 d_X_wipe_8 rfl (lv_at hl 1 rfl) ?_
  refine g_get i_X S hW 0 rfl rfl 2 (by decide) kf_X_26 rfl d_X_wipe_9 ?_
  refine lv_iconst (v := (nI 0)) S.1 S.2.1 d_X_wipe_12 (by decide) ?_
  refine g_put (ws2 := [(aX, .inr (9, [.ref aF, .ref aC, .ref aP, .ref aT, .ref aK, .ref aR, .ref aH, .ref aI, .int fd])), (aP, .inr (2, [.ref aPb, .int (nI 0), .int ov]))]) i_P ft_P ft_P_ok n_P S hW 1 rfl rfl 1 (by decide) kf_X_125 rfl rfl rfl (Nat.le_of_ble_eq_true rfl) rfl d_X_wipe_13 (fun H locs hW => ?_)
  refine lv_iload_n S.1 S.2.1 d_X_wipe_16 rfl (lv_at hl 0 rfl) ?_
  exact ret _ _ _ _ _ _ d_X_wipe_17 rfl ⟨rfl, rfl⟩ hW
theorem d_X_clear_0 : decode b_X_clear 0 = .ok (.aload_n 0, 1) := by decide +kernel
theorem d_X_clear_1 : decode b_X_clear 1 = .ok (.getfield 44, 3) := by decide +kernel
theorem d_X_clear_4 : decode b_X_clear 4 = .ok (.getfield 121, 3) := by decide +kernel
theorem d_X_clear_7 : decode b_X_clear 7 = .ok (.istore_n 1, 1) := by decide +kernel
theorem d_X_clear_8 : decode b_X_clear 8 = .ok (.aload_n 0, 1) := by decide +kernel
theorem d_X_clear_9 : decode b_X_clear 9 = .ok (.getfield 44, 3) := by decide +kernel
theorem d_X_clear_12 : decode b_X_clear 12 = .ok (.invokevirtual 124, 3) := by decide +kernel
theorem d_X_clear_15 : decode b_X_clear 15 = .ok (.aload_n 0, 1) := by decide +kernel
theorem d_X_clear_16 : decode b_X_clear 16 = .ok (.getfield 35, 3) := by decide +kernel
theorem d_X_clear_19 : decode b_X_clear 19 = .ok (.invokevirtual 112, 3) := by decide +kernel
theorem d_X_clear_22 : decode b_X_clear 22 = .ok (.aload_n 0, 1) := by decide +kernel
theorem d_X_clear_23 : decode b_X_clear 23 = .ok (.getfield 26, 3) := by decide +kernel
theorem d_X_clear_26 : decode b_X_clear 26 = .ok (.iconst 0, 1) := by decide +kernel
theorem d_X_clear_27 : decode b_X_clear 27 = .ok (.putfield 125, 3) := by decide +kernel
theorem d_X_clear_30 : decode b_X_clear 30 = .ok (.aload_n 0, 1) := by decide +kernel
theorem d_X_clear_31 : decode b_X_clear 31 = .ok (.iconst 0, 1) := by decide +kernel
theorem d_X_clear_32 : decode b_X_clear 32 = .ok (.putfield 75, 3) := by decide +kernel
theorem d_X_clear_35 : decode b_X_clear 35 = .ok (.iload_n 1, 1) := by decide +kernel
theorem d_X_clear_36 : decode b_X_clear 36 = .ok (.ireturn, 1) := by decide +kernel
set_option maxHeartbeats 4000000 in
set_option maxRecDepth 100000 in
theorem c_X_clear (l : Launch) (D : va_G) (cI cJ cB cZ : ClassId) (aX aF aC aP aT aK aR aH aI : Nat) (aK0 aK1 aK2 aK3 aK4 aTb aPb : Nat) (cn ce nx ln kd st pl ov fd : Int32) (fr bk : Int64) : Ci l D (tyl cI cJ cB cZ) y_X_clear b_X_clear 2 (some .int) ({ frames := 1, cells := 0, slots := 0, locals := 20 } : Room) [.ref aX] [(aX, .inr (9, [.ref aF, .ref aC, .ref aP, .ref aT, .ref aK, .ref aR, .ref aH, .ref aI, .int fd])), (aK, .inr (4, [.ref aC, .ref aK0, .ref aK1, .ref aK2, .ref aK3, .ref aK4, .int cn, .int ce])), (aT, .inr (3, [.ref aF, .ref aTb, .int nx, .int ln, .int kd, .int st, .long fr, .long bk])), (aP, .inr (2, [.ref aPb, .int pl, .int ov]))] (fun r u => r = cn ∧ u = [(aX, .inr (9, [.ref aF, .ref aC, .ref aP, .ref aT, .ref aK, .ref aR, .ref aH, .ref aI, .int (nI 0)])), (aK, .inr (4, [.ref aC, .ref aK0, .ref aK1, .ref aK2, .ref aK3, .ref aK4, .int (nI 0), .int (nI 0)])), (aT, .inr (3, [.ref aF, .ref aTb, .int nx, .int (nI 0), .int kd, .int st, .long fr, .long bk])), (aP, .inr (2, [.ref aPb, .int (nI 0), .int ov]))]) := by
  refine met_i (own := "ProofReader") (by decide) rfl (Nat.le_of_ble_eq_true rfl) ?_
  intro p e s m args below meth c A Q S hA ret ls hl hW
  have hl : lv_has ls 2 [(0, .ref aX)] := hl
  have hW : Wd D (tyl cI cJ cB cZ) A s s.heap s.heap [] [(aX, .inr (9, [.ref aF, .ref aC, .ref aP, .ref aT, .ref aK, .ref aR, .ref aH, .ref aI, .int fd])), (aK, .inr (4, [.ref aC, .ref aK0, .ref aK1, .ref aK2, .ref aK3, .ref aK4, .int cn, .int ce])), (aT, .inr (3, [.ref aF, .ref aTb, .int nx, .int ln, .int kd, .int st, .long fr, .long bk])), (aP, .inr (2, [.ref aPb, .int pl, .int ov]))] := hW
  refine lv_aload_n S.1 S.2.1 d_X_clear_0 rfl (lv_at hl 0 rfl) ?_
  refine g_get i_X S hW 0 rfl rfl 4 (by decide) kf_X_44 rfl d_X_clear_1 ?_
  refine g_get i_K S hW 1 rfl rfl 6 (by decide) kf_X_121 rfl d_X_clear_4 ?_
  refine lv_istore_n (lv' := [(1, .int cn), (0, .ref aX)]) S.1 S.2.1 d_X_clear_7 rfl hl (by decide) rfl (fun ls hl => ?_)
  refine lv_aload_n S.1 S.2.1 d_X_clear_8 rfl (lv_at hl 1 rfl) ?_
  refine g_get i_X S hW 0 rfl rfl 4 (by decide) kf_X_44 rfl d_X_clear_9 ?_
  refine callV_v (wr := [(aX, .inr (9, [.ref aF, .ref aC, .ref aP, .ref aT, .ref aK, .ref aR, .ref aH, .ref aI, .int fd])), (aT, .inr (3, [.ref aF, .ref aTb, .int nx, .int ln, .int kd, .int st, .long fr, .long bk])), (aP, .inr (2, [.ref aPb, .int pl, .int ov]))]) (wc := [(aK, .inr (4, [.ref aC, .ref aK0, .ref aK1, .ref aK2, .ref aK3, .ref aK4, .int cn, .int ce]))]) (np := 0) (As := []) (rest := []) (c_K_forget l D cI cJ cB cZ aK aC aK0 aK1 aK2 aK3 aK4 cn ce ) km_X_124 ki_K_forget kv_K_forget kz_K kk_K_forget (by decide +kernel) S hW hA ⟨Nat.le_of_ble_eq_true rfl, Nat.le_of_ble_eq_true rfl⟩ ⟨Nat.le_of_ble_eq_true rfl, Nat.le_of_ble_eq_true rfl⟩ rfl 0 rfl [1] [0, 2, 3] rfl (by decide) rfl (by decide) (by decide) rfl hl.1 rfl (Nat.le_of_ble_eq_true rfl) d_X_clear_12 (fun u H locs hp hW => ?_)
  obtain rfl := hp
  have hW : Wd D (tyl cI cJ cB cZ) A s s.heap H locs [(aX, .inr (9, [.ref aF, .ref aC, .ref aP, .ref aT, .ref aK, .ref aR, .ref aH, .ref aI, .int fd])), (aK, .inr (4, [.ref aC, .ref aK0, .ref aK1, .ref aK2, .ref aK3, .ref aK4, .int (nI 0), .int (nI 0)])), (aT, .inr (3, [.ref aF, .ref aTb, .int nx, .int ln, .int kd, .int st, .long fr, .long bk])), (aP, .inr (2, [.ref aPb, .int pl, .int ov]))] := hW.sub [0, 3, 1, 2] (by decide) rfl
  refine lv_aload_n S.1 S.2.1 d_X_clear_15 rfl (lv_at hl 1 rfl) ?_
  refine g_get i_X S hW 0 rfl rfl 3 (by decide) kf_X_35 rfl d_X_clear_16 ?_
  refine callV_v (wr := [(aX, .inr (9, [.ref aF, .ref aC, .ref aP, .ref aT, .ref aK, .ref aR, .ref aH, .ref aI, .int fd])), (aK, .inr (4, [.ref aC, .ref aK0, .ref aK1, .ref aK2, .ref aK3, .ref aK4, .int (nI 0), .int (nI 0)])), (aP, .inr (2, [.ref aPb, .int pl, .int ov]))]) (wc := [(aT, .inr (3, [.ref aF, .ref aTb, .int nx, .int ln, .int kd, .int st, .long fr, .long bk]))]) (np := 0) (As := []) (rest := []) (c_T_drop l D cI cJ cB cZ aT aF aTb nx ln kd st fr bk ) km_X_112 ki_T_drop kv_T_drop kz_T kk_T_drop (by decide +kernel) S hW hA ⟨Nat.le_of_ble_eq_true rfl, Nat.le_of_ble_eq_true rfl⟩ ⟨Nat.le_of_ble_eq_true rfl, Nat.le_of_ble_eq_true rfl⟩ rfl 0 rfl [2] [0, 1, 3] rfl (by decide) rfl (by decide) (by decide) rfl hl.1 rfl (Nat.le_of_ble_eq_true rfl) d_X_clear_19 (fun u H locs hp hW => ?_)
  obtain rfl := hp
  have hW : Wd D (tyl cI cJ cB cZ) A s s.heap H locs [(aX, .inr (9, [.ref aF, .ref aC, .ref aP, .ref aT, .ref aK, .ref aR, .ref aH, .ref aI, .int fd])), (aK, .inr (4, [.ref aC, .ref aK0, .ref aK1, .ref aK2, .ref aK3, .ref aK4, .int (nI 0), .int (nI 0)])), (aT, .inr (3, [.ref aF, .ref aTb, .int nx, .int (nI 0), .int kd, .int st, .long fr, .long bk])), (aP, .inr (2, [.ref aPb, .int pl, .int ov]))] := hW.sub [0, 1, 3, 2] (by decide) rfl
  refine lv_aload_n S.1 S.2.1 d_X_clear_22 rfl (lv_at hl 1 rfl) ?_
  refine g_get i_X S hW 0 rfl rfl 2 (by decide) kf_X_26 rfl d_X_clear_23 ?_
  refine lv_iconst (v := (nI 0)) S.1 S.2.1 d_X_clear_26 (by decide) ?_
  refine g_put (ws2 := [(aX, .inr (9, [.ref aF, .ref aC, .ref aP, .ref aT, .ref aK, .ref aR, .ref aH, .ref aI, .int fd])), (aK, .inr (4, [.ref aC, .ref aK0, .ref aK1, .ref aK2, .ref aK3, .ref aK4, .int (nI 0), .int (nI 0)])), (aT, .inr (3, [.ref aF, .ref aTb, .int nx, .int (nI 0), .int kd, .int st, .long fr, .long bk])), (aP, .inr (2, [.ref aPb, .int (nI 0), .int ov]))]) i_P ft_P ft_P_ok n_P S hW 3 rfl rfl 1 (by decide) kf_X_125 rfl rfl rfl (Nat.le_of_ble_eq_true rfl) rfl d_X_clear_27 (fun H locs hW => ?_)
  refine lv_aload_n S.1 S.2.1 d_X_clear_30 rfl (lv_at hl 1 rfl) ?_
  refine lv_iconst (v := (nI 0)) S.1 S.2.1 d_X_clear_31 (by decide) ?_
  refine g_put (ws2 := [(aX, .inr (9, [.ref aF, .ref aC, .ref aP, .ref aT, .ref aK, .ref aR, .ref aH, .ref aI, .int (nI 0)])), (aK, .inr (4, [.ref aC, .ref aK0, .ref aK1, .ref aK2, .ref aK3, .ref aK4, .int (nI 0), .int (nI 0)])), (aT, .inr (3, [.ref aF, .ref aTb, .int nx, .int (nI 0), .int kd, .int st, .long fr, .long bk])), (aP, .inr (2, [.ref aPb, .int (nI 0), .int ov]))]) i_X ft_X ft_X_ok n_X S hW 0 rfl rfl 8 (by decide) kf_X_75 rfl rfl rfl (Nat.le_of_ble_eq_true rfl) rfl d_X_clear_32 (fun H locs hW => ?_)
  refine lv_iload_n S.1 S.2.1 d_X_clear_35 rfl (lv_at hl 0 rfl) ?_
  exact ret _ _ _ _ _ _ d_X_clear_36 rfl ⟨rfl, rfl⟩ hW
theorem d_P_at_0 : decode b_P_at 0 = .ok (.lload_n 1, 1) := by decide +kernel
theorem d_P_at_1 : decode b_P_at 1 = .ok (.lconst 0, 1) := by decide +kernel
theorem d_P_at_2 : decode b_P_at 2 = .ok (.lcmp, 1) := by decide +kernel
theorem d_P_at_3 : decode b_P_at 3 = .ok (.ifCond .lt 13, 3) := by decide +kernel
theorem d_P_at_6 : decode b_P_at 6 = .ok (.lload_n 1, 1) := by decide +kernel
theorem d_P_at_7 : decode b_P_at 7 = .ok (.aload_n 0, 1) := by decide +kernel
theorem d_P_at_8 : decode b_P_at 8 = .ok (.getfield 15, 3) := by decide +kernel
theorem d_P_at_11 : decode b_P_at 11 = .ok (.i2l, 1) := by decide +kernel
theorem d_P_at_12 : decode b_P_at 12 = .ok (.lcmp, 1) := by decide +kernel
theorem d_P_at_13 : decode b_P_at 13 = .ok (.ifCond .lt 7, 3) := by decide +kernel
theorem d_P_at_16 : decode b_P_at 16 = .ok (.lconst 0, 1) := by decide +kernel
theorem d_P_at_17 : decode b_P_at 17 = .ok (.goto 15, 3) := by decide +kernel
theorem d_P_at_20 : decode b_P_at 20 = .ok (.aload_n 0, 1) := by decide +kernel
theorem d_P_at_21 : decode b_P_at 21 = .ok (.getfield 9, 3) := by decide +kernel
theorem d_P_at_24 : decode b_P_at 24 = .ok (.lload_n 1, 1) := by decide +kernel
theorem d_P_at_25 : decode b_P_at 25 = .ok (.l2i, 1) := by decide +kernel
theorem d_P_at_26 : decode b_P_at 26 = .ok (.baload, 1) := by decide +kernel
theorem d_P_at_27 : decode b_P_at 27 = .ok (.sipush 255, 3) := by decide +kernel
theorem d_P_at_30 : decode b_P_at 30 = .ok (.iand, 1) := by decide +kernel
theorem d_P_at_31 : decode b_P_at 31 = .ok (.i2l, 1) := by decide +kernel
theorem d_P_at_32 : decode b_P_at 32 = .ok (.lreturn, 1) := by decide +kernel
set_option maxHeartbeats 4000000 in
set_option maxRecDepth 100000 in
theorem c_P_at (l : Launch) (D : va_G) (cI cJ cB cZ : ClassId) (aP aPb : Nat) (x : Int64) (ov : Int32) : Cl l D (tyl cI cJ cB cZ) y_P_at b_P_at 3 (some .long) ({ frames := 0, cells := 0, slots := 0, locals := 0 } : Room) [.ref aP, .long x] [(aP, .inr (2, [.ref aPb, .int (nI 0), .int ov]))] (fun r u => r = 0 ∧ u = [(aP, .inr (2, [.ref aPb, .int (nI 0), .int ov]))]) := by
  refine met_l (own := "ProofReader$Paper") (by decide) rfl (Nat.le_of_ble_eq_true rfl) ?_
  intro p e s m args below meth c A Q S hA ret ls hl hW
  have hl : lv_has ls 3 [(0, .ref aP), (1, .long x)] := hl
  have hW : Wd D (tyl cI cJ cB cZ) A s s.heap s.heap [] [(aP, .inr (2, [.ref aPb, .int (nI 0), .int ov]))] := hW
  refine lv_lload_n S.1 S.2.1 d_P_at_0 rfl (lv_at hl 1 rfl) ?_
  refine lv_lconst (v := 0) S.1 S.2.1 d_P_at_1 rfl ?_
  refine W.lcmp S.1 S.2.1 d_P_at_2 ?_
  refine lv_if_lt (tgt := 16) S.1 S.2.1 d_P_at_3 (by decide) (fun c_3 => ?_) (fun c_3 => ?_)
  · refine lv_lconst (v := 0) S.1 S.2.1 d_P_at_16 rfl ?_
    refine lv_goto (tgt := 32) S.1 S.2.1 d_P_at_17 (by decide) ?_
    exact ret _ _ _ _ _ _ d_P_at_32 ⟨rfl, rfl⟩ hW
  · refine lv_lload_n S.1 S.2.1 d_P_at_6 rfl (lv_at hl 1 rfl) ?_
    refine lv_aload_n S.1 S.2.1 d_P_at_7 rfl (lv_at hl 0 rfl) ?_
    refine g_get i_P S hW 0 rfl rfl 1 (by decide) kf_P_15 rfl d_P_at_8 ?_
    refine lv_i2l (v := (nI 0).toInt64) S.1 S.2.1 d_P_at_11 rfl ?_
    refine W.lcmp S.1 S.2.1 d_P_at_12 ?_
    refine lv_if_lt (tgt := 20) S.1 S.2.1 d_P_at_13 (by decide) (fun c_13 => absurd c_13 (by rw [(show (nI 0).toInt64 = 0 by decide)]; exact c_3)) (fun c_13 => ?_)
    refine lv_lconst (v := 0) S.1 S.2.1 d_P_at_16 rfl ?_
    refine lv_goto (tgt := 32) S.1 S.2.1 d_P_at_17 (by decide) ?_
    exact ret _ _ _ _ _ _ d_P_at_32 ⟨rfl, rfl⟩ hW
theorem d_X_paper_0 : decode b_X_paper 0 = .ok (.lconst 0, 1) := by decide +kernel
theorem d_X_paper_1 : decode b_X_paper 1 = .ok (.lstore_n 2, 1) := by decide +kernel
theorem d_X_paper_2 : decode b_X_paper 2 = .ok (.iconst 0, 1) := by decide +kernel
theorem d_X_paper_3 : decode b_X_paper 3 = .ok (.istore 4, 2) := by decide +kernel
theorem d_X_paper_5 : decode b_X_paper 5 = .ok (.iload 4, 2) := by decide +kernel
theorem d_X_paper_7 : decode b_X_paper 7 = .ok (.bipush 8, 2) := by decide +kernel
theorem d_X_paper_9 : decode b_X_paper 9 = .ok (.if_icmp .ge 31, 3) := by decide +kernel
theorem d_X_paper_12 : decode b_X_paper 12 = .ok (.lload_n 2, 1) := by decide +kernel
theorem d_X_paper_13 : decode b_X_paper 13 = .ok (.aload_n 0, 1) := by decide +kernel
theorem d_X_paper_14 : decode b_X_paper 14 = .ok (.getfield 26, 3) := by decide +kernel
theorem d_X_paper_17 : decode b_X_paper 17 = .ok (.iload_n 1, 1) := by decide +kernel
theorem d_X_paper_18 : decode b_X_paper 18 = .ok (.i2l, 1) := by decide +kernel
theorem d_X_paper_19 : decode b_X_paper 19 = .ok (.iload 4, 2) := by decide +kernel
theorem d_X_paper_21 : decode b_X_paper 21 = .ok (.i2l, 1) := by decide +kernel
theorem d_X_paper_22 : decode b_X_paper 22 = .ok (.ladd, 1) := by decide +kernel
theorem d_X_paper_23 : decode b_X_paper 23 = .ok (.invokevirtual 158, 3) := by decide +kernel
theorem d_X_paper_26 : decode b_X_paper 26 = .ok (.bipush 8, 2) := by decide +kernel
theorem d_X_paper_28 : decode b_X_paper 28 = .ok (.iload 4, 2) := by decide +kernel
theorem d_X_paper_30 : decode b_X_paper 30 = .ok (.imul, 1) := by decide +kernel
theorem d_X_paper_31 : decode b_X_paper 31 = .ok (.lshl, 1) := by decide +kernel
theorem d_X_paper_32 : decode b_X_paper 32 = .ok (.lor, 1) := by decide +kernel
theorem d_X_paper_33 : decode b_X_paper 33 = .ok (.lstore_n 2, 1) := by decide +kernel
theorem d_X_paper_34 : decode b_X_paper 34 = .ok (.iinc 4 1, 3) := by decide +kernel
theorem d_X_paper_37 : decode b_X_paper 37 = .ok (.goto (-32), 3) := by decide +kernel
theorem d_X_paper_40 : decode b_X_paper 40 = .ok (.lload_n 2, 1) := by decide +kernel
theorem d_X_paper_41 : decode b_X_paper 41 = .ok (.lreturn, 1) := by decide +kernel
set_option maxHeartbeats 4000000 in
set_option maxRecDepth 100000 in
theorem c_X_paper (l : Launch) (D : va_G) (cI cJ cB cZ : ClassId) (aX aF aC aP aT aK aR aH aI : Nat) (aPb : Nat) (i ov fd : Int32) : Cl l D (tyl cI cJ cB cZ) y_X_paper b_X_paper 5 (some .long) ({ frames := 1, cells := 0, slots := 0, locals := 22 } : Room) [.ref aX, .int i] [(aX, .inr (9, [.ref aF, .ref aC, .ref aP, .ref aT, .ref aK, .ref aR, .ref aH, .ref aI, .int fd])), (aP, .inr (2, [.ref aPb, .int (nI 0), .int ov]))] (fun r u => r = 0 ∧ u = [(aX, .inr (9, [.ref aF, .ref aC, .ref aP, .ref aT, .ref aK, .ref aR, .ref aH, .ref aI, .int fd])), (aP, .inr (2, [.ref aPb, .int (nI 0), .int ov]))]) := by
  refine met_l (own := "ProofReader") (by decide) rfl (Nat.le_of_ble_eq_true rfl) ?_
  intro p e s m args below meth c A Q S hA ret ls hl hW
  have hl : lv_has ls 5 [(0, .ref aX), (1, .int i)] := hl
  have hW : Wd D (tyl cI cJ cB cZ) A s s.heap s.heap [] [(aX, .inr (9, [.ref aF, .ref aC, .ref aP, .ref aT, .ref aK, .ref aR, .ref aH, .ref aI, .int fd])), (aP, .inr (2, [.ref aPb, .int (nI 0), .int ov]))] := hW
  refine lv_lconst (v := 0) S.1 S.2.1 d_X_paper_0 rfl ?_
  refine lv_lstore_n (lv' := [(2, .long 0), (0, .ref aX), (1, .int i)]) S.1 S.2.1 d_X_paper_1 rfl hl (by decide) rfl (fun ls hl => ?_)
  refine lv_iconst (v := (nI 0)) S.1 S.2.1 d_X_paper_2 (by decide) ?_
  refine lv_istore (lv' := [(4, .int (nI 0)), (2, .long 0), (0, .ref aX), (1, .int i)]) S.1 S.2.1 d_X_paper_3 hl (by decide) rfl (fun ls hl => ?_)
  have loop_5 : ∀ (nf : Nat) (n : Nat), 8 - n < nf → (n ≤ 8) → ∀ (H : Heap) (locs : List Loc), Wd D (tyl cI cJ cB cZ) A s s.heap H locs [(aX, .inr (9, [.ref aF, .ref aC, .ref aP, .ref aT, .ref aK, .ref aR, .ref aH, .ref aI, .int fd])), (aP, .inr (2, [.ref aPb, .int (nI 0), .int ov]))] → ∀ (ls : Array Slot), lv_has ls 5 [(4, .int (nI n)), (2, .long 0), (0, .ref aX), (1, .int i)] → W p l e ({ frames := 1, cells := 0, slots := 0, locals := 22 } : Room) s m args below meth c H locs 0 0 Q (F0 m 5 ls []) := by
    intro nf
    induction nf with
    | zero =>
      intros
      omega
    | succ nf ih =>
      intro n hnf hn H locs hW ls hl
      refine lv_iload S.1 S.2.1 d_X_paper_5 (lv_at hl 0 rfl) ?_
      refine lv_bipush (v := (nI 8)) S.1 S.2.1 d_X_paper_7 (by decide) ?_
      refine n_icmp_ge (tgt := 40) S (by omega) (by omega) d_X_paper_9 (by decide) (fun c_9 => ?_) (fun c_9 => ?_)
      · refine lv_lload_n S.1 S.2.1 d_X_paper_40 rfl (lv_at hl 1 rfl) ?_
        exact ret _ _ _ _ _ _ d_X_paper_41 ⟨rfl, rfl⟩ hW
      · refine lv_lload_n S.1 S.2.1 d_X_paper_12 rfl (lv_at hl 1 rfl) ?_
        refine lv_aload_n S.1 S.2.1 d_X_paper_13 rfl (lv_at hl 2 rfl) ?_
        refine g_get i_X S hW 0 rfl rfl 2 (by decide) kf_X_26 rfl d_X_paper_14 ?_
        refine lv_iload_n S.1 S.2.1 d_X_paper_17 rfl (lv_at hl 3 rfl) ?_
        refine lv_i2l (v := i.toInt64) S.1 S.2.1 d_X_paper_18 rfl ?_
        refine lv_iload S.1 S.2.1 d_X_paper_19 (lv_at hl 0 rfl) ?_
        refine lv_i2l (v := (nI n).toInt64) S.1 S.2.1 d_X_paper_21 rfl ?_
        refine lv_ladd S.1 S.2.1 d_X_paper_22 ?_
        refine callV_l (wr := [(aX, .inr (9, [.ref aF, .ref aC, .ref aP, .ref aT, .ref aK, .ref aR, .ref aH, .ref aI, .int fd]))]) (wc := [(aP, .inr (2, [.ref aPb, .int (nI 0), .int ov]))]) (np := 1) (As := [.long (i.toInt64 + ((nI n).toInt64))]) (rest := [.long 0]) (c_P_at l D cI cJ cB cZ aP aPb (i.toInt64 + ((nI n).toInt64)) ov ) km_X_158 ki_P_at kv_P_at kz_P kk_P_at (by decide +kernel) S hW hA ⟨Nat.le_of_ble_eq_true rfl, Nat.le_of_ble_eq_true rfl⟩ ⟨Nat.le_of_ble_eq_true rfl, Nat.le_of_ble_eq_true rfl⟩ rfl 0 rfl [1] [0] rfl (by decide) rfl (by decide) (by decide) rfl hl.1 rfl (Nat.le_of_ble_eq_true rfl) d_X_paper_23 (fun r u H locs hp hW => ?_)
        obtain ⟨rfl, rfl⟩ := hp
        have hW : Wd D (tyl cI cJ cB cZ) A s s.heap H locs [(aX, .inr (9, [.ref aF, .ref aC, .ref aP, .ref aT, .ref aK, .ref aR, .ref aH, .ref aI, .int fd])), (aP, .inr (2, [.ref aPb, .int (nI 0), .int ov]))] := hW
        refine lv_bipush (v := (nI 8)) S.1 S.2.1 d_X_paper_26 (by decide) ?_
        refine lv_iload S.1 S.2.1 d_X_paper_28 (lv_at hl 0 rfl) ?_
        refine n_imul S d_X_paper_30 ?_
        refine lv_lshl (v := 0 <<< ((nI (8 * n)).toInt64 &&& 63)) S.1 S.2.1 d_X_paper_31 rfl ?_
        refine lv_lor S.1 S.2.1 d_X_paper_32 ?_
        refine topl_eq (y := 0) (z_shl _) ?_
        refine lv_lstore_n (lv' := [(2, .long 0), (4, .int (nI n)), (0, .ref aX), (1, .int i)]) S.1 S.2.1 d_X_paper_33 rfl hl (by decide) rfl (fun ls hl => ?_)
        refine lv_iinc (v := (nI (n + 1))) (lv' := [(4, .int (nI (n + 1))), (2, .long 0), (0, .ref aX), (1, .int i)]) S.1 S.2.1 d_X_paper_34 hl (k := 1) rfl (inc_eq _ 1 _ (by decide)) (by decide) rfl (fun ls hl => ?_)
        refine lv_goto (tgt := 5) S.1 S.2.1 d_X_paper_37 (by decide) ?_
        exact ih (n + 1) (by omega) (by omega) _ _ hW _ (lv_sub hl [0, 1, 2, 3] rfl)
  exact loop_5 (8 - 0 + 1) 0 (Nat.lt_succ_self _) (by omega) _ _ hW _ (lv_sub hl [0, 1, 2, 3] rfl)
theorem d_X_read_0 : decode b_X_read 0 = .ok (.iconst 0, 1) := by decide +kernel
theorem d_X_read_1 : decode b_X_read 1 = .ok (.istore_n 1, 1) := by decide +kernel
theorem d_X_read_2 : decode b_X_read 2 = .ok (.aload_n 0, 1) := by decide +kernel
theorem d_X_read_3 : decode b_X_read 3 = .ok (.getfield 10, 3) := by decide +kernel
theorem d_X_read_6 : decode b_X_read 6 = .ok (.invokevirtual 93, 3) := by decide +kernel
theorem d_X_read_9 : decode b_X_read 9 = .ok (.aload_n 0, 1) := by decide +kernel
theorem d_X_read_10 : decode b_X_read 10 = .ok (.getfield 35, 3) := by decide +kernel
theorem d_X_read_13 : decode b_X_read 13 = .ok (.invokevirtual 96, 3) := by decide +kernel
theorem d_X_read_16 : decode b_X_read 16 = .ok (.iload_n 1, 1) := by decide +kernel
theorem d_X_read_17 : decode b_X_read 17 = .ok (.sipush 8192, 3) := by decide +kernel
theorem d_X_read_20 : decode b_X_read 20 = .ok (.if_icmp .ge 49, 3) := by decide +kernel
theorem d_X_read_23 : decode b_X_read 23 = .ok (.aload_n 0, 1) := by decide +kernel
theorem d_X_read_24 : decode b_X_read 24 = .ok (.getfield 35, 3) := by decide +kernel
theorem d_X_read_27 : decode b_X_read 27 = .ok (.invokevirtual 99, 3) := by decide +kernel
theorem d_X_read_30 : decode b_X_read 30 = .ok (.ifCond .eq 39, 3) := by decide +kernel
theorem d_X_read_33 : decode b_X_read 33 = .ok (.aload_n 0, 1) := by decide +kernel
theorem d_X_read_34 : decode b_X_read 34 = .ok (.getfield 35, 3) := by decide +kernel
theorem d_X_read_37 : decode b_X_read 37 = .ok (.getfield 103, 3) := by decide +kernel
theorem d_X_read_40 : decode b_X_read 40 = .ok (.ifCond .eq 29, 3) := by decide +kernel
theorem d_X_read_43 : decode b_X_read 43 = .ok (.aload_n 0, 1) := by decide +kernel
theorem d_X_read_44 : decode b_X_read 44 = .ok (.getfield 53, 3) := by decide +kernel
theorem d_X_read_47 : decode b_X_read 47 = .ok (.invokevirtual 106, 3) := by decide +kernel
theorem d_X_read_50 : decode b_X_read 50 = .ok (.ifCond .eq 19, 3) := by decide +kernel
theorem d_X_read_53 : decode b_X_read 53 = .ok (.aload_n 0, 1) := by decide +kernel
theorem d_X_read_54 : decode b_X_read 54 = .ok (.invokevirtual 109, 3) := by decide +kernel
theorem d_X_read_57 : decode b_X_read 57 = .ok (.ifCond .ne 6, 3) := by decide +kernel
theorem d_X_read_60 : decode b_X_read 60 = .ok (.goto 9, 3) := by decide +kernel
theorem d_X_read_63 : decode b_X_read 63 = .ok (.iinc 1 1, 3) := by decide +kernel
theorem d_X_read_66 : decode b_X_read 66 = .ok (.goto (-50), 3) := by decide +kernel
theorem d_X_read_69 : decode b_X_read 69 = .ok (.aload_n 0, 1) := by decide +kernel
theorem d_X_read_70 : decode b_X_read 70 = .ok (.getfield 35, 3) := by decide +kernel
theorem d_X_read_73 : decode b_X_read 73 = .ok (.invokevirtual 112, 3) := by decide +kernel
theorem d_X_read_76 : decode b_X_read 76 = .ok (.aload_n 0, 1) := by decide +kernel
theorem d_X_read_77 : decode b_X_read 77 = .ok (.getfield 10, 3) := by decide +kernel
theorem d_X_read_80 : decode b_X_read 80 = .ok (.getfield 115, 3) := by decide +kernel
theorem d_X_read_83 : decode b_X_read 83 = .ok (.ifCond .ne 7, 3) := by decide +kernel
theorem d_X_read_86 : decode b_X_read 86 = .ok (.iload_n 1, 1) := by decide +kernel
theorem d_X_read_87 : decode b_X_read 87 = .ok (.goto 4, 3) := by decide +kernel
theorem d_X_read_90 : decode b_X_read 90 = .ok (.iconst (-1), 1) := by decide +kernel
theorem d_X_read_91 : decode b_X_read 91 = .ok (.ireturn, 1) := by decide +kernel
set_option maxHeartbeats 4000000 in
set_option maxRecDepth 100000 in
theorem c_X_read (l : Launch) (D : va_G) (cI cJ cB cZ : ClassId) (aX aF aC aP aT aK aR aH aI : Nat) (aTb : Nat) (fn fw fd : Int32) : Ci l D (tyl cI cJ cB cZ) y_X_read b_X_read 2 (some .int) ({ frames := 1, cells := 0, slots := 0, locals := 21 } : Room) [.ref aX] [(aX, .inr (9, [.ref aF, .ref aC, .ref aP, .ref aT, .ref aK, .ref aR, .ref aH, .ref aI, .int fd])), (aF, .inr (0, [.int fn, .int fw])), (aT, .inr (3, [.ref aF, .ref aTb, .int (nI 0), .int (nI 0), .int (nI 0), .int (nI 0), .long 0, .long 0]))] (fun r u => r = (nI 0) ∧ u = [(aX, .inr (9, [.ref aF, .ref aC, .ref aP, .ref aT, .ref aK, .ref aR, .ref aH, .ref aI, .int fd])), (aF, .inr (0, [.int (nI 0), .int (-1)])), (aT, .inr (3, [.ref aF, .ref aTb, .int (nI 0), .int (nI 0), .int (nI 0), .int (nI 0), .long 0, .long 0]))]) := by
  refine met_i (own := "ProofReader") (by decide) rfl (Nat.le_of_ble_eq_true rfl) ?_
  intro p e s m args below meth c A Q S hA ret ls hl hW
  have hl : lv_has ls 2 [(0, .ref aX)] := hl
  have hW : Wd D (tyl cI cJ cB cZ) A s s.heap s.heap [] [(aX, .inr (9, [.ref aF, .ref aC, .ref aP, .ref aT, .ref aK, .ref aR, .ref aH, .ref aI, .int fd])), (aF, .inr (0, [.int fn, .int fw])), (aT, .inr (3, [.ref aF, .ref aTb, .int (nI 0), .int (nI 0), .int (nI 0), .int (nI 0), .long 0, .long 0]))] := hW
  refine lv_iconst (v := (nI 0)) S.1 S.2.1 d_X_read_0 (by decide) ?_
  refine lv_istore_n (lv' := [(1, .int (nI 0)), (0, .ref aX)]) S.1 S.2.1 d_X_read_1 rfl hl (by decide) rfl (fun ls hl => ?_)
  refine lv_aload_n S.1 S.2.1 d_X_read_2 rfl (lv_at hl 1 rfl) ?_
  refine g_get i_X S hW 0 rfl rfl 0 (by decide) kf_X_10 rfl d_X_read_3 ?_
  refine callV_v (wr := [(aX, .inr (9, [.ref aF, .ref aC, .ref aP, .ref aT, .ref aK, .ref aR, .ref aH, .ref aI, .int fd])), (aT, .inr (3, [.ref aF, .ref aTb, .int (nI 0), .int (nI 0), .int (nI 0), .int (nI 0), .long 0, .long 0]))]) (wc := [(aF, .inr (0, [.int fn, .int fw]))]) (np := 0) (As := []) (rest := []) (c_F_forget l D cI cJ cB cZ aF fn fw ) km_X_93 ki_F_forget kv_F_forget kz_F kk_F_forget (by decide +kernel) S hW hA ⟨Nat.le_of_ble_eq_true rfl, Nat.le_of_ble_eq_true rfl⟩ ⟨Nat.le_of_ble_eq_true rfl, Nat.le_of_ble_eq_true rfl⟩ rfl 0 rfl [1] [0, 2] rfl (by decide) rfl (by decide) (by decide) rfl hl.1 rfl (Nat.le_of_ble_eq_true rfl) d_X_read_6 (fun u H locs hp hW => ?_)
  obtain rfl := hp
  have hW : Wd D (tyl cI cJ cB cZ) A s s.heap H locs [(aX, .inr (9, [.ref aF, .ref aC, .ref aP, .ref aT, .ref aK, .ref aR, .ref aH, .ref aI, .int fd])), (aF, .inr (0, [.int (nI 0), .int (-1)])), (aT, .inr (3, [.ref aF, .ref aTb, .int (nI 0), .int (nI 0), .int (nI 0), .int (nI 0), .long 0, .long 0]))] := hW.sub [0, 2, 1] (by decide) rfl
  refine lv_aload_n S.1 S.2.1 d_X_read_9 rfl (lv_at hl 1 rfl) ?_
  refine g_get i_X S hW 0 rfl rfl 3 (by decide) kf_X_35 rfl d_X_read_10 ?_
  refine callV_v (wr := [(aX, .inr (9, [.ref aF, .ref aC, .ref aP, .ref aT, .ref aK, .ref aR, .ref aH, .ref aI, .int fd])), (aF, .inr (0, [.int (nI 0), .int (-1)]))]) (wc := [(aT, .inr (3, [.ref aF, .ref aTb, .int (nI 0), .int (nI 0), .int (nI 0), .int (nI 0), .long 0, .long 0]))]) (np := 0) (As := []) (rest := []) (c_T_restart l D cI cJ cB cZ aT aF aTb (nI 0) (nI 0) (nI 0) (nI 0) 0 0 ) km_X_96 ki_T_restart kv_T_restart kz_T kk_T_restart (by decide +kernel) S hW hA ⟨Nat.le_of_ble_eq_true rfl, Nat.le_of_ble_eq_true rfl⟩ ⟨Nat.le_of_ble_eq_true rfl, Nat.le_of_ble_eq_true rfl⟩ rfl 0 rfl [2] [0, 1] rfl (by decide) rfl (by decide) (by decide) rfl hl.1 rfl (Nat.le_of_ble_eq_true rfl) d_X_read_13 (fun u H locs hp hW => ?_)
  obtain rfl := hp
  have hW : Wd D (tyl cI cJ cB cZ) A s s.heap H locs [(aX, .inr (9, [.ref aF, .ref aC, .ref aP, .ref aT, .ref aK, .ref aR, .ref aH, .ref aI, .int fd])), (aF, .inr (0, [.int (nI 0), .int (-1)])), (aT, .inr (3, [.ref aF, .ref aTb, .int (nI 0), .int (nI 0), .int (nI 0), .int (nI 0), .long 0, .long 0]))] := hW
  refine lv_iload_n S.1 S.2.1 d_X_read_16 rfl (lv_at hl 0 rfl) ?_
  refine lv_sipush (v := (nI 8192)) S.1 S.2.1 d_X_read_17 (by decide) ?_
  refine lv_icmp_ge (tgt := 69) S.1 S.2.1 d_X_read_20 (by decide) (fun h => absurd h (by decide)) (fun _ => ?_)
  refine lv_aload_n S.1 S.2.1 d_X_read_23 rfl (lv_at hl 1 rfl) ?_
  refine g_get i_X S hW 0 rfl rfl 3 (by decide) kf_X_35 rfl d_X_read_24 ?_
  refine callV_i (wr := [(aX, .inr (9, [.ref aF, .ref aC, .ref aP, .ref aT, .ref aK, .ref aR, .ref aH, .ref aI, .int fd])), (aF, .inr (0, [.int (nI 0), .int (-1)]))]) (wc := [(aT, .inr (3, [.ref aF, .ref aTb, .int (nI 0), .int (nI 0), .int (nI 0), .int (nI 0), .long 0, .long 0]))]) (np := 0) (As := []) (rest := []) (c_T_advance l D cI cJ cB cZ aT aF aTb ) km_X_99 ki_T_advance kv_T_advance kz_T kk_T_advance (by decide +kernel) S hW hA ⟨Nat.le_of_ble_eq_true rfl, Nat.le_of_ble_eq_true rfl⟩ ⟨Nat.le_of_ble_eq_true rfl, Nat.le_of_ble_eq_true rfl⟩ rfl 0 rfl [2] [0, 1] rfl (by decide) rfl (by decide) (by decide) rfl hl.1 rfl (Nat.le_of_ble_eq_true rfl) d_X_read_27 (fun r u H locs hp hW => ?_)
  obtain ⟨rfl, rfl⟩ := hp
  have hW : Wd D (tyl cI cJ cB cZ) A s s.heap H locs [(aX, .inr (9, [.ref aF, .ref aC, .ref aP, .ref aT, .ref aK, .ref aR, .ref aH, .ref aI, .int fd])), (aF, .inr (0, [.int (nI 0), .int (-1)])), (aT, .inr (3, [.ref aF, .ref aTb, .int (nI 0), .int (nI 0), .int (nI 0), .int (nI 0), .long 0, .long 0]))] := hW
  refine lv_if_eq (tgt := 69) S.1 S.2.1 d_X_read_30 (by decide) (fun h => absurd h (by decide)) (fun _ => ?_)
  refine lv_aload_n S.1 S.2.1 d_X_read_33 rfl (lv_at hl 1 rfl) ?_
  refine g_get i_X S hW 0 rfl rfl 3 (by decide) kf_X_35 rfl d_X_read_34 ?_
  refine g_get i_T S hW 2 rfl rfl 4 (by decide) kf_X_103 rfl d_X_read_37 ?_
  refine lv_if_eq (tgt := 69) S.1 S.2.1 d_X_read_40 (by decide) (fun _ => ?_) (fun h => absurd h (by decide))
  refine lv_aload_n S.1 S.2.1 d_X_read_69 rfl (lv_at hl 1 rfl) ?_
  refine g_get i_X S hW 0 rfl rfl 3 (by decide) kf_X_35 rfl d_X_read_70 ?_
  refine callV_v (wr := [(aX, .inr (9, [.ref aF, .ref aC, .ref aP, .ref aT, .ref aK, .ref aR, .ref aH, .ref aI, .int fd])), (aF, .inr (0, [.int (nI 0), .int (-1)]))]) (wc := [(aT, .inr (3, [.ref aF, .ref aTb, .int (nI 0), .int (nI 0), .int (nI 0), .int (nI 0), .long 0, .long 0]))]) (np := 0) (As := []) (rest := []) (c_T_drop l D cI cJ cB cZ aT aF aTb (nI 0) (nI 0) (nI 0) (nI 0) 0 0 ) km_X_112 ki_T_drop kv_T_drop kz_T kk_T_drop (by decide +kernel) S hW hA ⟨Nat.le_of_ble_eq_true rfl, Nat.le_of_ble_eq_true rfl⟩ ⟨Nat.le_of_ble_eq_true rfl, Nat.le_of_ble_eq_true rfl⟩ rfl 0 rfl [2] [0, 1] rfl (by decide) rfl (by decide) (by decide) rfl hl.1 rfl (Nat.le_of_ble_eq_true rfl) d_X_read_73 (fun u H locs hp hW => ?_)
  obtain rfl := hp
  have hW : Wd D (tyl cI cJ cB cZ) A s s.heap H locs [(aX, .inr (9, [.ref aF, .ref aC, .ref aP, .ref aT, .ref aK, .ref aR, .ref aH, .ref aI, .int fd])), (aF, .inr (0, [.int (nI 0), .int (-1)])), (aT, .inr (3, [.ref aF, .ref aTb, .int (nI 0), .int (nI 0), .int (nI 0), .int (nI 0), .long 0, .long 0]))] := hW
  refine lv_aload_n S.1 S.2.1 d_X_read_76 rfl (lv_at hl 1 rfl) ?_
  refine g_get i_X S hW 0 rfl rfl 0 (by decide) kf_X_10 rfl d_X_read_77 ?_
  refine g_get i_F S hW 1 rfl rfl 0 (by decide) kf_X_115 rfl d_X_read_80 ?_
  refine lv_if_ne (tgt := 90) S.1 S.2.1 d_X_read_83 (by decide) (fun h => absurd h (by decide)) (fun _ => ?_)
  refine lv_iload_n S.1 S.2.1 d_X_read_86 rfl (lv_at hl 0 rfl) ?_
  refine lv_goto (tgt := 91) S.1 S.2.1 d_X_read_87 (by decide) ?_
  exact ret _ _ _ _ _ _ d_X_read_91 rfl ⟨rfl, rfl⟩ hW
theorem d_X_feed_0 : decode b_X_feed 0 = .ok (.iload_n 1, 1) := by decide +kernel
theorem d_X_feed_1 : decode b_X_feed 1 = .ok (.iconst 1, 1) := by decide +kernel
theorem d_X_feed_2 : decode b_X_feed 2 = .ok (.if_icmp .lt 9, 3) := by decide +kernel
theorem d_X_feed_5 : decode b_X_feed 5 = .ok (.iload_n 1, 1) := by decide +kernel
theorem d_X_feed_6 : decode b_X_feed 6 = .ok (.bipush 8, 2) := by decide +kernel
theorem d_X_feed_8 : decode b_X_feed 8 = .ok (.if_icmp .le 13, 3) := by decide +kernel
theorem d_X_feed_11 : decode b_X_feed 11 = .ok (.new 79, 3) := by decide +kernel
theorem d_X_feed_14 : decode b_X_feed 14 = .ok (.dup, 1) := by decide +kernel
theorem d_X_feed_15 : decode b_X_feed 15 = .ok (.ldc 81, 2) := by decide +kernel
theorem d_X_feed_17 : decode b_X_feed 17 = .ok (.invokespecial 83, 3) := by decide +kernel
theorem d_X_feed_20 : decode b_X_feed 20 = .ok (.athrow, 1) := by decide +kernel
theorem d_X_feed_21 : decode b_X_feed 21 = .ok (.iload_n 1, 1) := by decide +kernel
theorem d_X_feed_22 : decode b_X_feed 22 = .ok (.sipush 8192, 3) := by decide +kernel
theorem d_X_feed_25 : decode b_X_feed 25 = .ok (.aload_n 0, 1) := by decide +kernel
theorem d_X_feed_26 : decode b_X_feed 26 = .ok (.getfield 75, 3) := by decide +kernel
theorem d_X_feed_29 : decode b_X_feed 29 = .ok (.isub, 1) := by decide +kernel
theorem d_X_feed_30 : decode b_X_feed 30 = .ok (.if_icmp .le 5, 3) := by decide +kernel
theorem d_X_feed_33 : decode b_X_feed 33 = .ok (.iconst (-1), 1) := by decide +kernel
theorem d_X_feed_34 : decode b_X_feed 34 = .ok (.ireturn, 1) := by decide +kernel
theorem d_X_feed_35 : decode b_X_feed 35 = .ok (.iconst 0, 1) := by decide +kernel
theorem d_X_feed_36 : decode b_X_feed 36 = .ok (.istore 4, 2) := by decide +kernel
theorem d_X_feed_38 : decode b_X_feed 38 = .ok (.iload 4, 2) := by decide +kernel
theorem d_X_feed_40 : decode b_X_feed 40 = .ok (.iload_n 1, 1) := by decide +kernel
theorem d_X_feed_41 : decode b_X_feed 41 = .ok (.if_icmp .ge 25, 3) := by decide +kernel
theorem d_X_feed_44 : decode b_X_feed 44 = .ok (.aload_n 0, 1) := by decide +kernel
theorem d_X_feed_45 : decode b_X_feed 45 = .ok (.getfield 35, 3) := by decide +kernel
theorem d_X_feed_48 : decode b_X_feed 48 = .ok (.lload_n 2, 1) := by decide +kernel
theorem d_X_feed_49 : decode b_X_feed 49 = .ok (.bipush 8, 2) := by decide +kernel
theorem d_X_feed_51 : decode b_X_feed 51 = .ok (.iload 4, 2) := by decide +kernel
theorem d_X_feed_53 : decode b_X_feed 53 = .ok (.imul, 1) := by decide +kernel
theorem d_X_feed_54 : decode b_X_feed 54 = .ok (.lushr, 1) := by decide +kernel
theorem d_X_feed_55 : decode b_X_feed 55 = .ok (.l2i, 1) := by decide +kernel
theorem d_X_feed_56 : decode b_X_feed 56 = .ok (.i2b, 1) := by decide +kernel
theorem d_X_feed_57 : decode b_X_feed 57 = .ok (.invokevirtual 86, 3) := by decide +kernel
theorem d_X_feed_60 : decode b_X_feed 60 = .ok (.iinc 4 1, 3) := by decide +kernel
theorem d_X_feed_63 : decode b_X_feed 63 = .ok (.goto (-25), 3) := by decide +kernel
theorem d_X_feed_66 : decode b_X_feed 66 = .ok (.aload_n 0, 1) := by decide +kernel
theorem d_X_feed_67 : decode b_X_feed 67 = .ok (.dup, 1) := by decide +kernel
theorem d_X_feed_68 : decode b_X_feed 68 = .ok (.getfield 75, 3) := by decide +kernel
theorem d_X_feed_71 : decode b_X_feed 71 = .ok (.iload_n 1, 1) := by decide +kernel
theorem d_X_feed_72 : decode b_X_feed 72 = .ok (.iadd, 1) := by decide +kernel
theorem d_X_feed_73 : decode b_X_feed 73 = .ok (.putfield 75, 3) := by decide +kernel
theorem d_X_feed_76 : decode b_X_feed 76 = .ok (.aload_n 0, 1) := by decide +kernel
theorem d_X_feed_77 : decode b_X_feed 77 = .ok (.getfield 35, 3) := by decide +kernel
theorem d_X_feed_80 : decode b_X_feed 80 = .ok (.getfield 90, 3) := by decide +kernel
theorem d_X_feed_83 : decode b_X_feed 83 = .ok (.ireturn, 1) := by decide +kernel
set_option maxHeartbeats 4000000 in
set_option maxRecDepth 100000 in
theorem c_X_feed (l : Launch) (D : va_G) (cI cJ cB cZ : ClassId) (aX aF aC aP aT aK aR aH aI : Nat) (aTb : Nat) (f : Nat → Int32) (k : Nat) (v : Int64) (h1 : 1 ≤ k) (h8 : k ≤ 8) : Ci l D (tyl cI cJ cB cZ) y_X_feed b_X_feed 5 (some .int) ({ frames := 1, cells := 0, slots := 0, locals := 21 } : Room) [.ref aX, .int (nI k), .long v] [(aX, .inr (9, [.ref aF, .ref aC, .ref aP, .ref aT, .ref aK, .ref aR, .ref aH, .ref aI, .int (nI 0)])), (aT, .inr (3, [.ref aF, .ref aTb, .int (nI 0), .int (nI 0), .int (nI 0), .int (nI 0), .long 0, .long 0])), (aTb, .inl (cB, 8192, .inl f))] (fun r u => ∃ (f2 : Nat → Int32), r = (nI k) ∧ u = [(aX, .inr (9, [.ref aF, .ref aC, .ref aP, .ref aT, .ref aK, .ref aR, .ref aH, .ref aI, .int (nI (0 + k))])), (aT, .inr (3, [.ref aF, .ref aTb, .int (nI 0), .int (nI k), .int (nI 0), .int (nI 0), .long 0, .long 0])), (aTb, .inl (cB, 8192, .inl f2))]) := by
  refine met_i (own := "ProofReader") (by decide) rfl (Nat.le_of_ble_eq_true rfl) ?_
  intro p e s m args below meth c A Q S hA ret ls hl hW
  have hl : lv_has ls 5 [(0, .ref aX), (1, .int (nI k)), (2, .long v)] := hl
  have hW : Wd D (tyl cI cJ cB cZ) A s s.heap s.heap [] [(aX, .inr (9, [.ref aF, .ref aC, .ref aP, .ref aT, .ref aK, .ref aR, .ref aH, .ref aI, .int (nI 0)])), (aT, .inr (3, [.ref aF, .ref aTb, .int (nI 0), .int (nI 0), .int (nI 0), .int (nI 0), .long 0, .long 0])), (aTb, .inl (cB, 8192, .inl f))] := hW
  refine lv_iload_n S.1 S.2.1 d_X_feed_0 rfl (lv_at hl 1 rfl) ?_
  refine lv_iconst (v := (nI 1)) S.1 S.2.1 d_X_feed_1 (by decide) ?_
  refine n_icmp_lt (tgt := 11) S (by omega) (by omega) d_X_feed_2 (by decide) (fun c_2 => absurd c_2 (by omega)) (fun c_2 => ?_)
  refine lv_iload_n S.1 S.2.1 d_X_feed_5 rfl (lv_at hl 1 rfl) ?_
  refine lv_bipush (v := (nI 8)) S.1 S.2.1 d_X_feed_6 (by decide) ?_
  refine n_icmp_le (tgt := 21) S (by omega) (by omega) d_X_feed_8 (by decide) (fun c_8 => ?_) (fun c_8 => absurd c_8 (by omega))
  refine lv_iload_n S.1 S.2.1 d_X_feed_21 rfl (lv_at hl 1 rfl) ?_
  refine lv_sipush (v := (nI 8192)) S.1 S.2.1 d_X_feed_22 (by decide) ?_
  refine lv_aload_n S.1 S.2.1 d_X_feed_25 rfl (lv_at hl 0 rfl) ?_
  refine g_get i_X S hW 0 rfl rfl 8 (by decide) kf_X_75 rfl d_X_feed_26 ?_
  refine n_isub S (by omega) d_X_feed_29 ?_
  refine n_icmp_le (tgt := 35) S (by omega) (by omega) d_X_feed_30 (by decide) (fun c_30 => ?_) (fun c_30 => absurd c_30 (by omega))
  refine lv_iconst (v := (nI 0)) S.1 S.2.1 d_X_feed_35 (by decide) ?_
  refine lv_istore (lv' := [(4, .int (nI 0)), (0, .ref aX), (1, .int (nI k)), (2, .long v)]) S.1 S.2.1 d_X_feed_36 hl (by decide) rfl (fun ls hl => ?_)
  have loop_38 : ∀ (nf : Nat) (i : Nat) (f1 : Nat → Int32), k - i < nf → (i ≤ k) → ∀ (H : Heap) (locs : List Loc), Wd D (tyl cI cJ cB cZ) A s s.heap H locs [(aX, .inr (9, [.ref aF, .ref aC, .ref aP, .ref aT, .ref aK, .ref aR, .ref aH, .ref aI, .int (nI 0)])), (aT, .inr (3, [.ref aF, .ref aTb, .int (nI 0), .int (nI i), .int (nI 0), .int (nI 0), .long 0, .long 0])), (aTb, .inl (cB, 8192, .inl f1))] → ∀ (ls : Array Slot), lv_has ls 5 [(4, .int (nI i)), (0, .ref aX), (1, .int (nI k)), (2, .long v)] → W p l e ({ frames := 1, cells := 0, slots := 0, locals := 21 } : Room) s m args below meth c H locs 0 0 Q (F0 m 38 ls []) := by
    intro nf
    induction nf with
    | zero =>
      intros
      omega
    | succ nf ih =>
      intro i f1 hnf hi H locs hW ls hl
      refine lv_iload S.1 S.2.1 d_X_feed_38 (lv_at hl 0 rfl) ?_
      refine lv_iload_n S.1 S.2.1 d_X_feed_40 rfl (lv_at hl 2 rfl) ?_
      refine n_icmp_ge (tgt := 66) S (by omega) (by omega) d_X_feed_41 (by decide) (fun c_41 => ?_) (fun c_41 => ?_)
      · refine lv_aload_n S.1 S.2.1 d_X_feed_66 rfl (lv_at hl 1 rfl) ?_
        refine lv_dup S.1 S.2.1 d_X_feed_67 rfl ?_
        refine g_get i_X S hW 0 rfl rfl 8 (by decide) kf_X_75 rfl d_X_feed_68 ?_
        refine lv_iload_n S.1 S.2.1 d_X_feed_71 rfl (lv_at hl 2 rfl) ?_
        refine n_iadd S d_X_feed_72 ?_
        refine g_put (ws2 := [(aX, .inr (9, [.ref aF, .ref aC, .ref aP, .ref aT, .ref aK, .ref aR, .ref aH, .ref aI, .int (nI (0 + k))])), (aT, .inr (3, [.ref aF, .ref aTb, .int (nI 0), .int (nI i), .int (nI 0), .int (nI 0), .long 0, .long 0])), (aTb, .inl (cB, 8192, .inl f1))]) i_X ft_X ft_X_ok n_X S hW 0 rfl rfl 8 (by decide) kf_X_75 rfl rfl rfl (Nat.le_of_ble_eq_true rfl) rfl d_X_feed_73 (fun H locs hW => ?_)
        refine lv_aload_n S.1 S.2.1 d_X_feed_76 rfl (lv_at hl 1 rfl) ?_
        refine g_get i_X S hW 0 rfl rfl 3 (by decide) kf_X_35 rfl d_X_feed_77 ?_
        refine g_get i_T S hW 1 rfl rfl 3 (by decide) kf_X_90 rfl d_X_feed_80 ?_
        exact ret _ _ _ _ _ _ d_X_feed_83 rfl ⟨f1, (by rw [show i = k by omega]), (by rw [show i = k by omega])⟩ hW
      · refine lv_aload_n S.1 S.2.1 d_X_feed_44 rfl (lv_at hl 1 rfl) ?_
        refine g_get i_X S hW 0 rfl rfl 3 (by decide) kf_X_35 rfl d_X_feed_45 ?_
        refine lv_lload_n S.1 S.2.1 d_X_feed_48 rfl (lv_at hl 3 rfl) ?_
        refine lv_bipush (v := (nI 8)) S.1 S.2.1 d_X_feed_49 (by decide) ?_
        refine lv_iload S.1 S.2.1 d_X_feed_51 (lv_at hl 0 rfl) ?_
        refine n_imul S d_X_feed_53 ?_
        refine lv_lushr (v := (v.toUInt64 >>> ((nI (8 * i)).toInt64.toUInt64 &&& Int64.toUInt64 63)).toInt64) S.1 S.2.1 d_X_feed_54 rfl ?_
        refine lv_l2i (v := ((v.toUInt64 >>> ((nI (8 * i)).toInt64.toUInt64 &&& Int64.toUInt64 63)).toInt64).toInt32) S.1 S.2.1 d_X_feed_55 rfl ?_
        refine lv_i2b (v := (((v.toUInt64 >>> ((nI (8 * i)).toInt64.toUInt64 &&& Int64.toUInt64 63)).toInt64).toInt32).toInt8.toInt32) S.1 S.2.1 d_X_feed_56 rfl ?_
        refine callV_v (wr := [(aX, .inr (9, [.ref aF, .ref aC, .ref aP, .ref aT, .ref aK, .ref aR, .ref aH, .ref aI, .int (nI 0)]))]) (wc := [(aT, .inr (3, [.ref aF, .ref aTb, .int (nI 0), .int (nI i), .int (nI 0), .int (nI 0), .long 0, .long 0])), (aTb, .inl (cB, 8192, .inl f1))]) (np := 1) (As := [.int ((((v.toUInt64 >>> ((nI (8 * i)).toInt64.toUInt64 &&& Int64.toUInt64 63)).toInt64).toInt32).toInt8.toInt32)]) (rest := []) (c_T_append l D cI cJ cB cZ aT aF aTb f1 i ((((v.toUInt64 >>> ((nI (8 * i)).toInt64.toUInt64 &&& Int64.toUInt64 63)).toInt64).toInt32).toInt8.toInt32) (nI 0) (nI 0) (nI 0) 0 0 (by first | omega | assumption | simp_all)) km_X_86 ki_T_append kv_T_append kz_T kk_T_append (by decide +kernel) S hW hA ⟨Nat.le_of_ble_eq_true rfl, Nat.le_of_ble_eq_true rfl⟩ ⟨Nat.le_of_ble_eq_true rfl, Nat.le_of_ble_eq_true rfl⟩ rfl 0 rfl [1, 2] [0] rfl (by decide) rfl (by decide) (by decide) rfl hl.1 rfl (Nat.le_of_ble_eq_true rfl) d_X_feed_57 (fun u H locs hp hW => ?_)
        obtain rfl := hp
        have hW : Wd D (tyl cI cJ cB cZ) A s s.heap H locs [(aX, .inr (9, [.ref aF, .ref aC, .ref aP, .ref aT, .ref aK, .ref aR, .ref aH, .ref aI, .int (nI 0)])), (aT, .inr (3, [.ref aF, .ref aTb, .int (nI 0), .int (nI (i + 1)), .int (nI 0), .int (nI 0), .long 0, .long 0])), (aTb, .inl (cB, 8192, .inl (upd f1 i ((((v.toUInt64 >>> ((nI (8 * i)).toInt64.toUInt64 &&& Int64.toUInt64 63)).toInt64).toInt32).toInt8.toInt32).toInt8.toInt32)))] := hW
        refine lv_iinc (v := (nI (i + 1))) (lv' := [(4, .int (nI (i + 1))), (0, .ref aX), (1, .int (nI k)), (2, .long v)]) S.1 S.2.1 d_X_feed_60 hl (k := 0) rfl (inc_eq _ 1 _ (by decide)) (by decide) rfl (fun ls hl => ?_)
        refine lv_goto (tgt := 38) S.1 S.2.1 d_X_feed_63 (by decide) ?_
        exact ih (i + 1) (upd f1 i ((((v.toUInt64 >>> ((nI (8 * i)).toInt64.toUInt64 &&& Int64.toUInt64 63)).toInt64).toInt32).toInt8.toInt32).toInt8.toInt32) (by omega) (by omega) _ _ hW _ (lv_sub hl [0, 1, 2, 3] rfl)
  exact loop_38 (k - 0 + 1) 0 f (Nat.lt_succ_self _) (by omega) _ _ hW _ (lv_sub hl [0, 1, 2, 3] rfl)
set_option maxHeartbeats 4000000 in
set_option maxRecDepth 100000 in
theorem t_X_feed (l : Launch) (D : va_G) (cI cJ cB cZ : ClassId) (aX aF aC aP aT aK aR aH aI : Nat) (fd n : Int32) (v : Int64) (htr : l.stackTraces = false) (hb : ¬ (¬ n < nI 1 ∧ n ≤ nI 8)) : Ct l D (tyl cI cJ cB cZ) y_X_feed b_X_feed 5 (some .int) ({ frames := 6, cells := 1, slots := 6, locals := 100 } : Room) [.ref aX, .int n, .long v] [(aX, .inr (9, [.ref aF, .ref aC, .ref aP, .ref aT, .ref aK, .ref aR, .ref aH, .ref aI, .int fd]))] "java/lang/IllegalArgumentException" := by
  refine ct_of (own := "ProofReader") (by decide) rfl (Nat.le_of_ble_eq_true rfl) ?_
  intro p e s m args below meth c A S hlk hnt hTw ls hl hW
  have hl : lv_has ls 5 [(0, .ref aX), (1, .int n), (2, .long v)] := hl
  have hW : Wd D (tyl cI cJ cB cZ) A s s.heap s.heap [] [(aX, .inr (9, [.ref aF, .ref aC, .ref aP, .ref aT, .ref aK, .ref aR, .ref aH, .ref aI, .int fd]))] := hW
  refine lv_iload_n S.1 S.2.1 d_X_feed_0 rfl (lv_at hl 1 rfl) ?_
  refine lv_iconst (v := (nI 1)) S.1 S.2.1 d_X_feed_1 (by decide) ?_
  refine lv_icmp_lt (tgt := 11) S.1 S.2.1 d_X_feed_2 (by decide) (fun c_2 => ?_) (fun c_2 => ?_)
  · exact tk_throw S htr hlk hnt kc_X_79 kn_IllegalArgumentException kz_IllegalArgumentException hTw.2.1.1 hTw.use1 (by decide +kernel) hl.1 d_X_feed_11 d_X_feed_14 d_X_feed_15 d_X_feed_17 d_X_feed_20 ⟨Nat.le_of_ble_eq_true rfl, Nat.le_of_ble_eq_true rfl, Nat.le_of_ble_eq_true rfl, Nat.le_of_ble_eq_true rfl⟩
  · refine lv_iload_n S.1 S.2.1 d_X_feed_5 rfl (lv_at hl 1 rfl) ?_
    refine lv_bipush (v := (nI 8)) S.1 S.2.1 d_X_feed_6 (by decide) ?_
    refine lv_icmp_le (tgt := 21) S.1 S.2.1 d_X_feed_8 (by decide) (fun c_8 => absurd c_8 (fun z => hb ⟨c_2, z⟩)) (fun c_8 => ?_)
    exact tk_throw S htr hlk hnt kc_X_79 kn_IllegalArgumentException kz_IllegalArgumentException hTw.2.1.1 hTw.use1 (by decide +kernel) hl.1 d_X_feed_11 d_X_feed_14 d_X_feed_15 d_X_feed_17 d_X_feed_20 ⟨Nat.le_of_ble_eq_true rfl, Nat.le_of_ble_eq_true rfl, Nat.le_of_ble_eq_true rfl, Nat.le_of_ble_eq_true rfl⟩
theorem d_X_constant_0 : decode b_X_constant 0 = .ok (.iload_n 2, 1) := by decide +kernel
theorem d_X_constant_1 : decode b_X_constant 1 = .ok (.ifCond .lt 8, 3) := by decide +kernel
theorem d_X_constant_4 : decode b_X_constant 4 = .ok (.iload_n 2, 1) := by decide +kernel
theorem d_X_constant_5 : decode b_X_constant 5 = .ok (.iconst 5, 1) := by decide +kernel
theorem d_X_constant_6 : decode b_X_constant 6 = .ok (.if_icmp .le 13, 3) := by decide +kernel
theorem d_X_constant_9 : decode b_X_constant 9 = .ok (.new 79, 3) := by decide +kernel
theorem d_X_constant_12 : decode b_X_constant 12 = .ok (.dup, 1) := by decide +kernel
theorem d_X_constant_13 : decode b_X_constant 13 = .ok (.ldc 126, 2) := by decide +kernel
theorem d_X_constant_15 : decode b_X_constant 15 = .ok (.invokespecial 83, 3) := by decide +kernel
theorem d_X_constant_18 : decode b_X_constant 18 = .ok (.athrow, 1) := by decide +kernel
theorem d_X_constant_19 : decode b_X_constant 19 = .ok (.iload_n 1, 1) := by decide +kernel
theorem d_X_constant_20 : decode b_X_constant 20 = .ok (.ifCond .lt 14, 3) := by decide +kernel
theorem d_X_constant_23 : decode b_X_constant 23 = .ok (.iload_n 1, 1) := by decide +kernel
theorem d_X_constant_24 : decode b_X_constant 24 = .ok (.aload_n 0, 1) := by decide +kernel
theorem d_X_constant_25 : decode b_X_constant 25 = .ok (.getfield 44, 3) := by decide +kernel
theorem d_X_constant_28 : decode b_X_constant 28 = .ok (.getfield 121, 3) := by decide +kernel
theorem d_X_constant_31 : decode b_X_constant 31 = .ok (.if_icmp .lt 13, 3) := by decide +kernel
theorem d_X_constant_34 : decode b_X_constant 34 = .ok (.new 128, 3) := by decide +kernel
theorem d_X_constant_37 : decode b_X_constant 37 = .ok (.dup, 1) := by decide +kernel
theorem d_X_constant_38 : decode b_X_constant 38 = .ok (.ldc 130, 2) := by decide +kernel
theorem d_X_constant_40 : decode b_X_constant 40 = .ok (.invokespecial 132, 3) := by decide +kernel
theorem d_X_constant_43 : decode b_X_constant 43 = .ok (.athrow, 1) := by decide +kernel
theorem d_X_constant_44 : decode b_X_constant 44 = .ok (.iload_n 2, 1) := by decide +kernel
theorem d_X_constant_45 : decode b_X_constant 45 = .ok (.tableswitch 122 0 4 #[35, 52, 69, 87, 104], 35) := by decide +kernel
theorem d_X_constant_80 : decode b_X_constant 80 = .ok (.aload_n 0, 1) := by decide +kernel
theorem d_X_constant_81 : decode b_X_constant 81 = .ok (.getfield 44, 3) := by decide +kernel
theorem d_X_constant_84 : decode b_X_constant 84 = .ok (.iload_n 1, 1) := by decide +kernel
theorem d_X_constant_85 : decode b_X_constant 85 = .ok (.invokevirtual 133, 3) := by decide +kernel
theorem d_X_constant_88 : decode b_X_constant 88 = .ok (.ifCond .eq 7, 3) := by decide +kernel
theorem d_X_constant_91 : decode b_X_constant 91 = .ok (.iconst 1, 1) := by decide +kernel
theorem d_X_constant_92 : decode b_X_constant 92 = .ok (.goto 4, 3) := by decide +kernel
theorem d_X_constant_95 : decode b_X_constant 95 = .ok (.iconst 0, 1) := by decide +kernel
theorem d_X_constant_96 : decode b_X_constant 96 = .ok (.ireturn, 1) := by decide +kernel
theorem d_X_constant_97 : decode b_X_constant 97 = .ok (.aload_n 0, 1) := by decide +kernel
theorem d_X_constant_98 : decode b_X_constant 98 = .ok (.getfield 19, 3) := by decide +kernel
theorem d_X_constant_101 : decode b_X_constant 101 = .ok (.aload_n 0, 1) := by decide +kernel
theorem d_X_constant_102 : decode b_X_constant 102 = .ok (.getfield 44, 3) := by decide +kernel
theorem d_X_constant_105 : decode b_X_constant 105 = .ok (.getfield 137, 3) := by decide +kernel
theorem d_X_constant_108 : decode b_X_constant 108 = .ok (.iload_n 1, 1) := by decide +kernel
theorem d_X_constant_109 : decode b_X_constant 109 = .ok (.iaload, 1) := by decide +kernel
theorem d_X_constant_110 : decode b_X_constant 110 = .ok (.invokevirtual 141, 3) := by decide +kernel
theorem d_X_constant_113 : decode b_X_constant 113 = .ok (.ireturn, 1) := by decide +kernel
theorem d_X_constant_114 : decode b_X_constant 114 = .ok (.aload_n 0, 1) := by decide +kernel
theorem d_X_constant_115 : decode b_X_constant 115 = .ok (.getfield 19, 3) := by decide +kernel
theorem d_X_constant_118 : decode b_X_constant 118 = .ok (.getfield 145, 3) := by decide +kernel
theorem d_X_constant_121 : decode b_X_constant 121 = .ok (.aload_n 0, 1) := by decide +kernel
theorem d_X_constant_122 : decode b_X_constant 122 = .ok (.getfield 44, 3) := by decide +kernel
theorem d_X_constant_125 : decode b_X_constant 125 = .ok (.getfield 137, 3) := by decide +kernel
theorem d_X_constant_128 : decode b_X_constant 128 = .ok (.iload_n 1, 1) := by decide +kernel
theorem d_X_constant_129 : decode b_X_constant 129 = .ok (.iaload, 1) := by decide +kernel
theorem d_X_constant_130 : decode b_X_constant 130 = .ok (.iaload, 1) := by decide +kernel
theorem d_X_constant_131 : decode b_X_constant 131 = .ok (.ireturn, 1) := by decide +kernel
theorem d_X_constant_132 : decode b_X_constant 132 = .ok (.aload_n 0, 1) := by decide +kernel
theorem d_X_constant_133 : decode b_X_constant 133 = .ok (.getfield 19, 3) := by decide +kernel
theorem d_X_constant_136 : decode b_X_constant 136 = .ok (.aload_n 0, 1) := by decide +kernel
theorem d_X_constant_137 : decode b_X_constant 137 = .ok (.getfield 44, 3) := by decide +kernel
theorem d_X_constant_140 : decode b_X_constant 140 = .ok (.getfield 137, 3) := by decide +kernel
theorem d_X_constant_143 : decode b_X_constant 143 = .ok (.iload_n 1, 1) := by decide +kernel
theorem d_X_constant_144 : decode b_X_constant 144 = .ok (.iaload, 1) := by decide +kernel
theorem d_X_constant_145 : decode b_X_constant 145 = .ok (.invokevirtual 148, 3) := by decide +kernel
theorem d_X_constant_148 : decode b_X_constant 148 = .ok (.ireturn, 1) := by decide +kernel
theorem d_X_constant_149 : decode b_X_constant 149 = .ok (.aload_n 0, 1) := by decide +kernel
theorem d_X_constant_150 : decode b_X_constant 150 = .ok (.getfield 44, 3) := by decide +kernel
theorem d_X_constant_153 : decode b_X_constant 153 = .ok (.getfield 151, 3) := by decide +kernel
theorem d_X_constant_156 : decode b_X_constant 156 = .ok (.iload_n 1, 1) := by decide +kernel
theorem d_X_constant_157 : decode b_X_constant 157 = .ok (.baload, 1) := by decide +kernel
theorem d_X_constant_158 : decode b_X_constant 158 = .ok (.ifCond .eq 7, 3) := by decide +kernel
theorem d_X_constant_161 : decode b_X_constant 161 = .ok (.iconst 1, 1) := by decide +kernel
theorem d_X_constant_162 : decode b_X_constant 162 = .ok (.goto 4, 3) := by decide +kernel
theorem d_X_constant_165 : decode b_X_constant 165 = .ok (.iconst 0, 1) := by decide +kernel
theorem d_X_constant_166 : decode b_X_constant 166 = .ok (.ireturn, 1) := by decide +kernel
theorem d_X_constant_167 : decode b_X_constant 167 = .ok (.aload_n 0, 1) := by decide +kernel
theorem d_X_constant_168 : decode b_X_constant 168 = .ok (.getfield 44, 3) := by decide +kernel
theorem d_X_constant_171 : decode b_X_constant 171 = .ok (.iload_n 1, 1) := by decide +kernel
theorem d_X_constant_172 : decode b_X_constant 172 = .ok (.invokevirtual 133, 3) := by decide +kernel
theorem d_X_constant_175 : decode b_X_constant 175 = .ok (.ifCond .eq 7, 3) := by decide +kernel
theorem d_X_constant_178 : decode b_X_constant 178 = .ok (.iconst (-1), 1) := by decide +kernel
theorem d_X_constant_179 : decode b_X_constant 179 = .ok (.goto 12, 3) := by decide +kernel
theorem d_X_constant_182 : decode b_X_constant 182 = .ok (.aload_n 0, 1) := by decide +kernel
theorem d_X_constant_183 : decode b_X_constant 183 = .ok (.getfield 44, 3) := by decide +kernel
theorem d_X_constant_186 : decode b_X_constant 186 = .ok (.getfield 155, 3) := by decide +kernel
theorem d_X_constant_189 : decode b_X_constant 189 = .ok (.iload_n 1, 1) := by decide +kernel
theorem d_X_constant_190 : decode b_X_constant 190 = .ok (.iaload, 1) := by decide +kernel
theorem d_X_constant_191 : decode b_X_constant 191 = .ok (.ireturn, 1) := by decide +kernel
set_option maxHeartbeats 4000000 in
set_option maxRecDepth 100000 in
theorem t_X_constantA (l : Launch) (D : va_G) (cI cJ cB cZ : ClassId) (aX aF aC aP aT aK aR aH aI : Nat) (fd k w : Int32) (htr : l.stackTraces = false) (hb : ¬ (¬ w < 0 ∧ w ≤ nI 5)) : Ct l D (tyl cI cJ cB cZ) y_X_constant b_X_constant 3 (some .int) ({ frames := 6, cells := 1, slots := 6, locals := 100 } : Room) [.ref aX, .int k, .int w] [(aX, .inr (9, [.ref aF, .ref aC, .ref aP, .ref aT, .ref aK, .ref aR, .ref aH, .ref aI, .int fd]))] "java/lang/IllegalArgumentException" := by
  refine ct_of (own := "ProofReader") (by decide) rfl (Nat.le_of_ble_eq_true rfl) ?_
  intro p e s m args below meth c A S hlk hnt hTw ls hl hW
  have hl : lv_has ls 3 [(0, .ref aX), (1, .int k), (2, .int w)] := hl
  have hW : Wd D (tyl cI cJ cB cZ) A s s.heap s.heap [] [(aX, .inr (9, [.ref aF, .ref aC, .ref aP, .ref aT, .ref aK, .ref aR, .ref aH, .ref aI, .int fd]))] := hW
  refine lv_iload_n S.1 S.2.1 d_X_constant_0 rfl (lv_at hl 2 rfl) ?_
  refine lv_if_lt (tgt := 9) S.1 S.2.1 d_X_constant_1 (by decide) (fun c_1 => ?_) (fun c_1 => ?_)
  · exact tk_throw S htr hlk hnt kc_X_79 kn_IllegalArgumentException kz_IllegalArgumentException hTw.2.1.2.1 hTw.use1 (by decide +kernel) hl.1 d_X_constant_9 d_X_constant_12 d_X_constant_13 d_X_constant_15 d_X_constant_18 ⟨Nat.le_of_ble_eq_true rfl, Nat.le_of_ble_eq_true rfl, Nat.le_of_ble_eq_true rfl, Nat.le_of_ble_eq_true rfl⟩
  · refine lv_iload_n S.1 S.2.1 d_X_constant_4 rfl (lv_at hl 2 rfl) ?_
    refine lv_iconst (v := (nI 5)) S.1 S.2.1 d_X_constant_5 (by decide) ?_
    refine lv_icmp_le (tgt := 19) S.1 S.2.1 d_X_constant_6 (by decide) (fun c_6 => absurd c_6 (fun z => hb ⟨c_1, z⟩)) (fun c_6 => ?_)
    exact tk_throw S htr hlk hnt kc_X_79 kn_IllegalArgumentException kz_IllegalArgumentException hTw.2.1.2.1 hTw.use1 (by decide +kernel) hl.1 d_X_constant_9 d_X_constant_12 d_X_constant_13 d_X_constant_15 d_X_constant_18 ⟨Nat.le_of_ble_eq_true rfl, Nat.le_of_ble_eq_true rfl, Nat.le_of_ble_eq_true rfl, Nat.le_of_ble_eq_true rfl⟩
set_option maxHeartbeats 4000000 in
set_option maxRecDepth 100000 in
theorem t_X_constantB (l : Launch) (D : va_G) (cI cJ cB cZ : ClassId) (aX aF aC aP aT aK aR aH aI : Nat) (aK0 aK1 aK2 aK3 aK4 : Nat) (fd k w ce : Int32) (htr : l.stackTraces = false) (hb : ¬ w < 0 ∧ w ≤ nI 5) : Ct l D (tyl cI cJ cB cZ) y_X_constant b_X_constant 3 (some .int) ({ frames := 6, cells := 1, slots := 6, locals := 100 } : Room) [.ref aX, .int k, .int w] [(aX, .inr (9, [.ref aF, .ref aC, .ref aP, .ref aT, .ref aK, .ref aR, .ref aH, .ref aI, .int fd])), (aK, .inr (4, [.ref aC, .ref aK0, .ref aK1, .ref aK2, .ref aK3, .ref aK4, .int (nI 0), .int ce]))] "java/lang/IndexOutOfBoundsException" := by
  refine ct_of (own := "ProofReader") (by decide) rfl (Nat.le_of_ble_eq_true rfl) ?_
  intro p e s m args below meth c A S hlk hnt hTw ls hl hW
  have hl : lv_has ls 3 [(0, .ref aX), (1, .int k), (2, .int w)] := hl
  have hW : Wd D (tyl cI cJ cB cZ) A s s.heap s.heap [] [(aX, .inr (9, [.ref aF, .ref aC, .ref aP, .ref aT, .ref aK, .ref aR, .ref aH, .ref aI, .int fd])), (aK, .inr (4, [.ref aC, .ref aK0, .ref aK1, .ref aK2, .ref aK3, .ref aK4, .int (nI 0), .int ce]))] := hW
  refine lv_iload_n S.1 S.2.1 d_X_constant_0 rfl (lv_at hl 2 rfl) ?_
  refine lv_if_lt (tgt := 9) S.1 S.2.1 d_X_constant_1 (by decide) (fun c_1 => absurd c_1 hb.1) (fun c_1 => ?_)
  refine lv_iload_n S.1 S.2.1 d_X_constant_4 rfl (lv_at hl 2 rfl) ?_
  refine lv_iconst (v := (nI 5)) S.1 S.2.1 d_X_constant_5 (by decide) ?_
  refine lv_icmp_le (tgt := 19) S.1 S.2.1 d_X_constant_6 (by decide) (fun c_6 => ?_) (fun c_6 => absurd c_6 (fun z => z hb.2))
  refine lv_iload_n S.1 S.2.1 d_X_constant_19 rfl (lv_at hl 1 rfl) ?_
  refine lv_if_lt (tgt := 34) S.1 S.2.1 d_X_constant_20 (by decide) (fun c_20 => ?_) (fun c_20 => ?_)
  · exact tk_throw S htr hlk hnt kc_X_128 kn_IndexOutOfBoundsException kz_IndexOutOfBoundsException hTw.2.1.2.2 hTw.use2 (by decide +kernel) hl.1 d_X_constant_34 d_X_constant_37 d_X_constant_38 d_X_constant_40 d_X_constant_43 ⟨Nat.le_of_ble_eq_true rfl, Nat.le_of_ble_eq_true rfl, Nat.le_of_ble_eq_true rfl, Nat.le_of_ble_eq_true rfl⟩
  · refine lv_iload_n S.1 S.2.1 d_X_constant_23 rfl (lv_at hl 1 rfl) ?_
    refine lv_aload_n S.1 S.2.1 d_X_constant_24 rfl (lv_at hl 0 rfl) ?_
    refine g_get i_X S hW 0 rfl rfl 4 (by decide) kf_X_44 rfl d_X_constant_25 ?_
    refine g_get i_K S hW 1 rfl rfl 6 (by decide) kf_X_121 rfl d_X_constant_28 ?_
    refine lv_icmp_lt (tgt := 44) S.1 S.2.1 d_X_constant_31 (by decide) (fun c_31 => absurd c_31 c_20) (fun c_31 => ?_)
    exact tk_throw S htr hlk hnt kc_X_128 kn_IndexOutOfBoundsException kz_IndexOutOfBoundsException hTw.2.1.2.2 hTw.use2 (by decide +kernel) hl.1 d_X_constant_34 d_X_constant_37 d_X_constant_38 d_X_constant_40 d_X_constant_43 ⟨Nat.le_of_ble_eq_true rfl, Nat.le_of_ble_eq_true rfl, Nat.le_of_ble_eq_true rfl, Nat.le_of_ble_eq_true rfl⟩
end
section
theorem d_M_thrown_0 : decode b_M_thrown 0 = .ok (.aload_n 0, 1) := by decide +kernel
theorem d_M_thrown_1 : decode b_M_thrown 1 = .ok (.getfield 104, 3) := by decide +kernel
theorem d_M_thrown_4 : decode b_M_thrown 4 = .ok (.ireturn, 1) := by decide +kernel
set_option maxHeartbeats 4000000 in
set_option maxRecDepth 100000 in
theorem c_M_thrown (l : Launch) (D : va_G) (cI cJ cB cZ : ClassId) (aM m_text m_paper m_firstHalf m_secondHalf m_stored m_proved m_written m_places m_levelKind m_levelStart m_levelApp m_levelHad m_levelScope m_levelId m_levelFirst m_levelSecond m_scopeFirst m_scopeSecond m_scopeId m_made m_typeOf m_tasks m_todo m_renamed m_bound m_markA m_markB m_line : Nat) (v_thrown v_length v_came v_fault v_place v_papered v_constants v_at v_token v_tokenAt v_end v_second v_ids v_nodes v_opens v_levelOpens v_start v_app v_behind v_level v_scope v_top v_left v_waits v_fresh v_changed v_changedTo v_out v_counted v_printed v_questionAt : Int32) (v_nameFirst v_nameSecond : Int64) : Ci l D (tyl cI cJ cB cZ) y_M_thrown b_M_thrown 1 (some .int) ({ frames := 0, cells := 0, slots := 0, locals := 0 } : Room) [.ref aM] [(aM, .inr (10, [.int v_thrown, .ref m_text, .int v_length, .int v_came, .int v_fault, .int v_place, .ref m_paper, .int v_papered, .int v_constants, .ref m_firstHalf, .ref m_secondHalf, .ref m_stored, .ref m_proved, .int v_at, .int v_token, .int v_tokenAt, .long v_nameFirst, .long v_nameSecond, .ref m_written, .ref m_places, .int v_end, .int v_second, .int v_ids, .int v_nodes, .int v_opens, .int v_levelOpens, .int v_start, .int v_app, .int v_behind, .ref m_levelKind, .ref m_levelStart, .ref m_levelApp, .ref m_levelHad, .ref m_levelScope, .ref m_levelId, .ref m_levelFirst, .ref m_levelSecond, .int v_level, .ref m_scopeFirst, .ref m_scopeSecond, .ref m_scopeId, .int v_scope, .ref m_made, .int v_top, .ref m_typeOf, .ref m_tasks, .int v_left, .ref m_todo, .int v_waits, .ref m_renamed, .ref m_bound, .int v_fresh, .int v_changed, .int v_changedTo, .int v_out, .int v_counted, .ref m_markA, .ref m_markB, .ref m_line, .int v_printed, .int v_questionAt]))] (fun r u => r = v_thrown ∧ u = [(aM, .inr (10, [.int v_thrown, .ref m_text, .int v_length, .int v_came, .int v_fault, .int v_place, .ref m_paper, .int v_papered, .int v_constants, .ref m_firstHalf, .ref m_secondHalf, .ref m_stored, .ref m_proved, .int v_at, .int v_token, .int v_tokenAt, .long v_nameFirst, .long v_nameSecond, .ref m_written, .ref m_places, .int v_end, .int v_second, .int v_ids, .int v_nodes, .int v_opens, .int v_levelOpens, .int v_start, .int v_app, .int v_behind, .ref m_levelKind, .ref m_levelStart, .ref m_levelApp, .ref m_levelHad, .ref m_levelScope, .ref m_levelId, .ref m_levelFirst, .ref m_levelSecond, .int v_level, .ref m_scopeFirst, .ref m_scopeSecond, .ref m_scopeId, .int v_scope, .ref m_made, .int v_top, .ref m_typeOf, .ref m_tasks, .int v_left, .ref m_todo, .int v_waits, .ref m_renamed, .ref m_bound, .int v_fresh, .int v_changed, .int v_changedTo, .int v_out, .int v_counted, .ref m_markA, .ref m_markB, .ref m_line, .int v_printed, .int v_questionAt]))]) := by
  refine met_i (own := "ProofReaderModel") (by decide) rfl (Nat.le_of_ble_eq_true rfl) ?_
  intro p e s m args below meth c A Q S hA ret ls hl hW
  have hl : lv_has ls 1 [(0, .ref aM)] := hl
  have hW : Wd D (tyl cI cJ cB cZ) A s s.heap s.heap [] [(aM, .inr (10, [.int v_thrown, .ref m_text, .int v_length, .int v_came, .int v_fault, .int v_place, .ref m_paper, .int v_papered, .int v_constants, .ref m_firstHalf, .ref m_secondHalf, .ref m_stored, .ref m_proved, .int v_at, .int v_token, .int v_tokenAt, .long v_nameFirst, .long v_nameSecond, .ref m_written, .ref m_places, .int v_end, .int v_second, .int v_ids, .int v_nodes, .int v_opens, .int v_levelOpens, .int v_start, .int v_app, .int v_behind, .ref m_levelKind, .ref m_levelStart, .ref m_levelApp, .ref m_levelHad, .ref m_levelScope, .ref m_levelId, .ref m_levelFirst, .ref m_levelSecond, .int v_level, .ref m_scopeFirst, .ref m_scopeSecond, .ref m_scopeId, .int v_scope, .ref m_made, .int v_top, .ref m_typeOf, .ref m_tasks, .int v_left, .ref m_todo, .int v_waits, .ref m_renamed, .ref m_bound, .int v_fresh, .int v_changed, .int v_changedTo, .int v_out, .int v_counted, .ref m_markA, .ref m_markB, .ref m_line, .int v_printed, .int v_questionAt]))] := hW
  refine lv_aload_n S.1 S.2.1 d_M_thrown_0 rfl (lv_at hl 0 rfl) ?_
  refine g_get i_M S hW 0 rfl rfl 0 (by decide) kf_M_104 rfl d_M_thrown_1 ?_
  exact ret _ _ _ _ _ _ d_M_thrown_4 rfl ⟨rfl, rfl⟩ hW
theorem d_M_fault_0 : decode b_M_fault 0 = .ok (.aload_n 0, 1) := by decide +kernel
theorem d_M_fault_1 : decode b_M_fault 1 = .ok (.iconst 0, 1) := by decide +kernel
theorem d_M_fault_2 : decode b_M_fault 2 = .ok (.putfield 104, 3) := by decide +kernel
theorem d_M_fault_5 : decode b_M_fault 5 = .ok (.aload_n 0, 1) := by decide +kernel
theorem d_M_fault_6 : decode b_M_fault 6 = .ok (.getfield 138, 3) := by decide +kernel
theorem d_M_fault_9 : decode b_M_fault 9 = .ok (.ireturn, 1) := by decide +kernel
set_option maxHeartbeats 4000000 in
set_option maxRecDepth 100000 in
theorem c_M_fault (l : Launch) (D : va_G) (cI cJ cB cZ : ClassId) (aM m_text m_paper m_firstHalf m_secondHalf m_stored m_proved m_written m_places m_levelKind m_levelStart m_levelApp m_levelHad m_levelScope m_levelId m_levelFirst m_levelSecond m_scopeFirst m_scopeSecond m_scopeId m_made m_typeOf m_tasks m_todo m_renamed m_bound m_markA m_markB m_line : Nat) (v_thrown v_length v_came v_fault v_place v_papered v_constants v_at v_token v_tokenAt v_end v_second v_ids v_nodes v_opens v_levelOpens v_start v_app v_behind v_level v_scope v_top v_left v_waits v_fresh v_changed v_changedTo v_out v_counted v_printed v_questionAt : Int32) (v_nameFirst v_nameSecond : Int64) : Ci l D (tyl cI cJ cB cZ) y_M_fault b_M_fault 1 (some .int) ({ frames := 0, cells := 0, slots := 0, locals := 0 } : Room) [.ref aM] [(aM, .inr (10, [.int v_thrown, .ref m_text, .int v_length, .int v_came, .int v_fault, .int v_place, .ref m_paper, .int v_papered, .int v_constants, .ref m_firstHalf, .ref m_secondHalf, .ref m_stored, .ref m_proved, .int v_at, .int v_token, .int v_tokenAt, .long v_nameFirst, .long v_nameSecond, .ref m_written, .ref m_places, .int v_end, .int v_second, .int v_ids, .int v_nodes, .int v_opens, .int v_levelOpens, .int v_start, .int v_app, .int v_behind, .ref m_levelKind, .ref m_levelStart, .ref m_levelApp, .ref m_levelHad, .ref m_levelScope, .ref m_levelId, .ref m_levelFirst, .ref m_levelSecond, .int v_level, .ref m_scopeFirst, .ref m_scopeSecond, .ref m_scopeId, .int v_scope, .ref m_made, .int v_top, .ref m_typeOf, .ref m_tasks, .int v_left, .ref m_todo, .int v_waits, .ref m_renamed, .ref m_bound, .int v_fresh, .int v_changed, .int v_changedTo, .int v_out, .int v_counted, .ref m_markA, .ref m_markB, .ref m_line, .int v_printed, .int v_questionAt]))] (fun r u => r = v_fault ∧ u = [(aM, .inr (10, [.int (nI 0), .ref m_text, .int v_length, .int v_came, .int v_fault, .int v_place, .ref m_paper, .int v_papered, .int v_constants, .ref m_firstHalf, .ref m_secondHalf, .ref m_stored, .ref m_proved, .int v_at, .int v_token, .int v_tokenAt, .long v_nameFirst, .long v_nameSecond, .ref m_written, .ref m_places, .int v_end, .int v_second, .int v_ids, .int v_nodes, .int v_opens, .int v_levelOpens, .int v_start, .int v_app, .int v_behind, .ref m_levelKind, .ref m_levelStart, .ref m_levelApp, .ref m_levelHad, .ref m_levelScope, .ref m_levelId, .ref m_levelFirst, .ref m_levelSecond, .int v_level, .ref m_scopeFirst, .ref m_scopeSecond, .ref m_scopeId, .int v_scope, .ref m_made, .int v_top, .ref m_typeOf, .ref m_tasks, .int v_left, .ref m_todo, .int v_waits, .ref m_renamed, .ref m_bound, .int v_fresh, .int v_changed, .int v_changedTo, .int v_out, .int v_counted, .ref m_markA, .ref m_markB, .ref m_line, .int v_printed, .int v_questionAt]))]) := by
  refine met_i (own := "ProofReaderModel") (by decide) rfl (Nat.le_of_ble_eq_true rfl) ?_
  intro p e s m args below meth c A Q S hA ret ls hl hW
  have hl : lv_has ls 1 [(0, .ref aM)] := hl
  have hW : Wd D (tyl cI cJ cB cZ) A s s.heap s.heap [] [(aM, .inr (10, [.int v_thrown, .ref m_text, .int v_length, .int v_came, .int v_fault, .int v_place, .ref m_paper, .int v_papered, .int v_constants, .ref m_firstHalf, .ref m_secondHalf, .ref m_stored, .ref m_proved, .int v_at, .int v_token, .int v_tokenAt, .long v_nameFirst, .long v_nameSecond, .ref m_written, .ref m_places, .int v_end, .int v_second, .int v_ids, .int v_nodes, .int v_opens, .int v_levelOpens, .int v_start, .int v_app, .int v_behind, .ref m_levelKind, .ref m_levelStart, .ref m_levelApp, .ref m_levelHad, .ref m_levelScope, .ref m_levelId, .ref m_levelFirst, .ref m_levelSecond, .int v_level, .ref m_scopeFirst, .ref m_scopeSecond, .ref m_scopeId, .int v_scope, .ref m_made, .int v_top, .ref m_typeOf, .ref m_tasks, .int v_left, .ref m_todo, .int v_waits, .ref m_renamed, .ref m_bound, .int v_fresh, .int v_changed, .int v_changedTo, .int v_out, .int v_counted, .ref m_markA, .ref m_markB, .ref m_line, .int v_printed, .int v_questionAt]))] := hW
  refine lv_aload_n S.1 S.2.1 d_M_fault_0 rfl (lv_at hl 0 rfl) ?_
  refine lv_iconst (v := (nI 0)) S.1 S.2.1 d_M_fault_1 (by decide) ?_
  refine g_put (ws2 := [(aM, .inr (10, [.int (nI 0), .ref m_text, .int v_length, .int v_came, .int v_fault, .int v_place, .ref m_paper, .int v_papered, .int v_constants, .ref m_firstHalf, .ref m_secondHalf, .ref m_stored, .ref m_proved, .int v_at, .int v_token, .int v_tokenAt, .long v_nameFirst, .long v_nameSecond, .ref m_written, .ref m_places, .int v_end, .int v_second, .int v_ids, .int v_nodes, .int v_opens, .int v_levelOpens, .int v_start, .int v_app, .int v_behind, .ref m_levelKind, .ref m_levelStart, .ref m_levelApp, .ref m_levelHad, .ref m_levelScope, .ref m_levelId, .ref m_levelFirst, .ref m_levelSecond, .int v_level, .ref m_scopeFirst, .ref m_scopeSecond, .ref m_scopeId, .int v_scope, .ref m_made, .int v_top, .ref m_typeOf, .ref m_tasks, .int v_left, .ref m_todo, .int v_waits, .ref m_renamed, .ref m_bound, .int v_fresh, .int v_changed, .int v_changedTo, .int v_out, .int v_counted, .ref m_markA, .ref m_markB, .ref m_line, .int v_printed, .int v_questionAt]))]) i_M ft_M ft_M_ok n_M S hW 0 rfl rfl 0 (by decide) kf_M_104 rfl rfl rfl (Nat.le_of_ble_eq_true rfl) rfl d_M_fault_2 (fun H locs hW => ?_)
  refine lv_aload_n S.1 S.2.1 d_M_fault_5 rfl (lv_at hl 0 rfl) ?_
  refine g_get i_M S hW 0 rfl rfl 4 (by decide) kf_M_138 rfl d_M_fault_6 ?_
  exact ret _ _ _ _ _ _ d_M_fault_9 rfl ⟨rfl, rfl⟩ hW
theorem d_M_place_0 : decode b_M_place 0 = .ok (.aload_n 0, 1) := by decide +kernel
theorem d_M_place_1 : decode b_M_place 1 = .ok (.iconst 0, 1) := by decide +kernel
theorem d_M_place_2 : decode b_M_place 2 = .ok (.putfield 104, 3) := by decide +kernel
theorem d_M_place_5 : decode b_M_place 5 = .ok (.aload_n 0, 1) := by decide +kernel
theorem d_M_place_6 : decode b_M_place 6 = .ok (.getfield 13, 3) := by decide +kernel
theorem d_M_place_9 : decode b_M_place 9 = .ok (.ireturn, 1) := by decide +kernel
set_option maxHeartbeats 4000000 in
set_option maxRecDepth 100000 in
theorem c_M_place (l : Launch) (D : va_G) (cI cJ cB cZ : ClassId) (aM m_text m_paper m_firstHalf m_secondHalf m_stored m_proved m_written m_places m_levelKind m_levelStart m_levelApp m_levelHad m_levelScope m_levelId m_levelFirst m_levelSecond m_scopeFirst m_scopeSecond m_scopeId m_made m_typeOf m_tasks m_todo m_renamed m_bound m_markA m_markB m_line : Nat) (v_thrown v_length v_came v_fault v_place v_papered v_constants v_at v_token v_tokenAt v_end v_second v_ids v_nodes v_opens v_levelOpens v_start v_app v_behind v_level v_scope v_top v_left v_waits v_fresh v_changed v_changedTo v_out v_counted v_printed v_questionAt : Int32) (v_nameFirst v_nameSecond : Int64) : Ci l D (tyl cI cJ cB cZ) y_M_place b_M_place 1 (some .int) ({ frames := 0, cells := 0, slots := 0, locals := 0 } : Room) [.ref aM] [(aM, .inr (10, [.int v_thrown, .ref m_text, .int v_length, .int v_came, .int v_fault, .int v_place, .ref m_paper, .int v_papered, .int v_constants, .ref m_firstHalf, .ref m_secondHalf, .ref m_stored, .ref m_proved, .int v_at, .int v_token, .int v_tokenAt, .long v_nameFirst, .long v_nameSecond, .ref m_written, .ref m_places, .int v_end, .int v_second, .int v_ids, .int v_nodes, .int v_opens, .int v_levelOpens, .int v_start, .int v_app, .int v_behind, .ref m_levelKind, .ref m_levelStart, .ref m_levelApp, .ref m_levelHad, .ref m_levelScope, .ref m_levelId, .ref m_levelFirst, .ref m_levelSecond, .int v_level, .ref m_scopeFirst, .ref m_scopeSecond, .ref m_scopeId, .int v_scope, .ref m_made, .int v_top, .ref m_typeOf, .ref m_tasks, .int v_left, .ref m_todo, .int v_waits, .ref m_renamed, .ref m_bound, .int v_fresh, .int v_changed, .int v_changedTo, .int v_out, .int v_counted, .ref m_markA, .ref m_markB, .ref m_line, .int v_printed, .int v_questionAt]))] (fun r u => r = v_place ∧ u = [(aM, .inr (10, [.int (nI 0), .ref m_text, .int v_length, .int v_came, .int v_fault, .int v_place, .ref m_paper, .int v_papered, .int v_constants, .ref m_firstHalf, .ref m_secondHalf, .ref m_stored, .ref m_proved, .int v_at, .int v_token, .int v_tokenAt, .long v_nameFirst, .long v_nameSecond, .ref m_written, .ref m_places, .int v_end, .int v_second, .int v_ids, .int v_nodes, .int v_opens, .int v_levelOpens, .int v_start, .int v_app, .int v_behind, .ref m_levelKind, .ref m_levelStart, .ref m_levelApp, .ref m_levelHad, .ref m_levelScope, .ref m_levelId, .ref m_levelFirst, .ref m_levelSecond, .int v_level, .ref m_scopeFirst, .ref m_scopeSecond, .ref m_scopeId, .int v_scope, .ref m_made, .int v_top, .ref m_typeOf, .ref m_tasks, .int v_left, .ref m_todo, .int v_waits, .ref m_renamed, .ref m_bound, .int v_fresh, .int v_changed, .int v_changedTo, .int v_out, .int v_counted, .ref m_markA, .ref m_markB, .ref m_line, .int v_printed, .int v_questionAt]))]) := by
  refine met_i (own := "ProofReaderModel") (by decide) rfl (Nat.le_of_ble_eq_true rfl) ?_
  intro p e s m args below meth c A Q S hA ret ls hl hW
  have hl : lv_has ls 1 [(0, .ref aM)] := hl
  have hW : Wd D (tyl cI cJ cB cZ) A s s.heap s.heap [] [(aM, .inr (10, [.int v_thrown, .ref m_text, .int v_length, .int v_came, .int v_fault, .int v_place, .ref m_paper, .int v_papered, .int v_constants, .ref m_firstHalf, .ref m_secondHalf, .ref m_stored, .ref m_proved, .int v_at, .int v_token, .int v_tokenAt, .long v_nameFirst, .long v_nameSecond, .ref m_written, .ref m_places, .int v_end, .int v_second, .int v_ids, .int v_nodes, .int v_opens, .int v_levelOpens, .int v_start, .int v_app, .int v_behind, .ref m_levelKind, .ref m_levelStart, .ref m_levelApp, .ref m_levelHad, .ref m_levelScope, .ref m_levelId, .ref m_levelFirst, .ref m_levelSecond, .int v_level, .ref m_scopeFirst, .ref m_scopeSecond, .ref m_scopeId, .int v_scope, .ref m_made, .int v_top, .ref m_typeOf, .ref m_tasks, .int v_left, .ref m_todo, .int v_waits, .ref m_renamed, .ref m_bound, .int v_fresh, .int v_changed, .int v_changedTo, .int v_out, .int v_counted, .ref m_markA, .ref m_markB, .ref m_line, .int v_printed, .int v_questionAt]))] := hW
  refine lv_aload_n S.1 S.2.1 d_M_place_0 rfl (lv_at hl 0 rfl) ?_
  refine lv_iconst (v := (nI 0)) S.1 S.2.1 d_M_place_1 (by decide) ?_
  refine g_put (ws2 := [(aM, .inr (10, [.int (nI 0), .ref m_text, .int v_length, .int v_came, .int v_fault, .int v_place, .ref m_paper, .int v_papered, .int v_constants, .ref m_firstHalf, .ref m_secondHalf, .ref m_stored, .ref m_proved, .int v_at, .int v_token, .int v_tokenAt, .long v_nameFirst, .long v_nameSecond, .ref m_written, .ref m_places, .int v_end, .int v_second, .int v_ids, .int v_nodes, .int v_opens, .int v_levelOpens, .int v_start, .int v_app, .int v_behind, .ref m_levelKind, .ref m_levelStart, .ref m_levelApp, .ref m_levelHad, .ref m_levelScope, .ref m_levelId, .ref m_levelFirst, .ref m_levelSecond, .int v_level, .ref m_scopeFirst, .ref m_scopeSecond, .ref m_scopeId, .int v_scope, .ref m_made, .int v_top, .ref m_typeOf, .ref m_tasks, .int v_left, .ref m_todo, .int v_waits, .ref m_renamed, .ref m_bound, .int v_fresh, .int v_changed, .int v_changedTo, .int v_out, .int v_counted, .ref m_markA, .ref m_markB, .ref m_line, .int v_printed, .int v_questionAt]))]) i_M ft_M ft_M_ok n_M S hW 0 rfl rfl 0 (by decide) kf_M_104 rfl rfl rfl (Nat.le_of_ble_eq_true rfl) rfl d_M_place_2 (fun H locs hW => ?_)
  refine lv_aload_n S.1 S.2.1 d_M_place_5 rfl (lv_at hl 0 rfl) ?_
  refine g_get i_M S hW 0 rfl rfl 5 (by decide) kf_M_13 rfl d_M_place_6 ?_
  exact ret _ _ _ _ _ _ d_M_place_9 rfl ⟨rfl, rfl⟩ hW
theorem d_M_constants_0 : decode b_M_constants 0 = .ok (.aload_n 0, 1) := by decide +kernel
theorem d_M_constants_1 : decode b_M_constants 1 = .ok (.iconst 0, 1) := by decide +kernel
theorem d_M_constants_2 : decode b_M_constants 2 = .ok (.putfield 104, 3) := by decide +kernel
theorem d_M_constants_5 : decode b_M_constants 5 = .ok (.aload_n 0, 1) := by decide +kernel
theorem d_M_constants_6 : decode b_M_constants 6 = .ok (.getfield 162, 3) := by decide +kernel
theorem d_M_constants_9 : decode b_M_constants 9 = .ok (.ireturn, 1) := by decide +kernel
set_option maxHeartbeats 4000000 in
set_option maxRecDepth 100000 in
theorem c_M_constants (l : Launch) (D : va_G) (cI cJ cB cZ : ClassId) (aM m_text m_paper m_firstHalf m_secondHalf m_stored m_proved m_written m_places m_levelKind m_levelStart m_levelApp m_levelHad m_levelScope m_levelId m_levelFirst m_levelSecond m_scopeFirst m_scopeSecond m_scopeId m_made m_typeOf m_tasks m_todo m_renamed m_bound m_markA m_markB m_line : Nat) (v_thrown v_length v_came v_fault v_place v_papered v_constants v_at v_token v_tokenAt v_end v_second v_ids v_nodes v_opens v_levelOpens v_start v_app v_behind v_level v_scope v_top v_left v_waits v_fresh v_changed v_changedTo v_out v_counted v_printed v_questionAt : Int32) (v_nameFirst v_nameSecond : Int64) : Ci l D (tyl cI cJ cB cZ) y_M_constants b_M_constants 1 (some .int) ({ frames := 0, cells := 0, slots := 0, locals := 0 } : Room) [.ref aM] [(aM, .inr (10, [.int v_thrown, .ref m_text, .int v_length, .int v_came, .int v_fault, .int v_place, .ref m_paper, .int v_papered, .int v_constants, .ref m_firstHalf, .ref m_secondHalf, .ref m_stored, .ref m_proved, .int v_at, .int v_token, .int v_tokenAt, .long v_nameFirst, .long v_nameSecond, .ref m_written, .ref m_places, .int v_end, .int v_second, .int v_ids, .int v_nodes, .int v_opens, .int v_levelOpens, .int v_start, .int v_app, .int v_behind, .ref m_levelKind, .ref m_levelStart, .ref m_levelApp, .ref m_levelHad, .ref m_levelScope, .ref m_levelId, .ref m_levelFirst, .ref m_levelSecond, .int v_level, .ref m_scopeFirst, .ref m_scopeSecond, .ref m_scopeId, .int v_scope, .ref m_made, .int v_top, .ref m_typeOf, .ref m_tasks, .int v_left, .ref m_todo, .int v_waits, .ref m_renamed, .ref m_bound, .int v_fresh, .int v_changed, .int v_changedTo, .int v_out, .int v_counted, .ref m_markA, .ref m_markB, .ref m_line, .int v_printed, .int v_questionAt]))] (fun r u => r = v_constants ∧ u = [(aM, .inr (10, [.int (nI 0), .ref m_text, .int v_length, .int v_came, .int v_fault, .int v_place, .ref m_paper, .int v_papered, .int v_constants, .ref m_firstHalf, .ref m_secondHalf, .ref m_stored, .ref m_proved, .int v_at, .int v_token, .int v_tokenAt, .long v_nameFirst, .long v_nameSecond, .ref m_written, .ref m_places, .int v_end, .int v_second, .int v_ids, .int v_nodes, .int v_opens, .int v_levelOpens, .int v_start, .int v_app, .int v_behind, .ref m_levelKind, .ref m_levelStart, .ref m_levelApp, .ref m_levelHad, .ref m_levelScope, .ref m_levelId, .ref m_levelFirst, .ref m_levelSecond, .int v_level, .ref m_scopeFirst, .ref m_scopeSecond, .ref m_scopeId, .int v_scope, .ref m_made, .int v_top, .ref m_typeOf, .ref m_tasks, .int v_left, .ref m_todo, .int v_waits, .ref m_renamed, .ref m_bound, .int v_fresh, .int v_changed, .int v_changedTo, .int v_out, .int v_counted, .ref m_markA, .ref m_markB, .ref m_line, .int v_printed, .int v_questionAt]))]) := by
  refine met_i (own := "ProofReaderModel") (by decide) rfl (Nat.le_of_ble_eq_true rfl) ?_
  intro p e s m args below meth c A Q S hA ret ls hl hW
  have hl : lv_has ls 1 [(0, .ref aM)] := hl
  have hW : Wd D (tyl cI cJ cB cZ) A s s.heap s.heap [] [(aM, .inr (10, [.int v_thrown, .ref m_text, .int v_length, .int v_came, .int v_fault, .int v_place, .ref m_paper, .int v_papered, .int v_constants, .ref m_firstHalf, .ref m_secondHalf, .ref m_stored, .ref m_proved, .int v_at, .int v_token, .int v_tokenAt, .long v_nameFirst, .long v_nameSecond, .ref m_written, .ref m_places, .int v_end, .int v_second, .int v_ids, .int v_nodes, .int v_opens, .int v_levelOpens, .int v_start, .int v_app, .int v_behind, .ref m_levelKind, .ref m_levelStart, .ref m_levelApp, .ref m_levelHad, .ref m_levelScope, .ref m_levelId, .ref m_levelFirst, .ref m_levelSecond, .int v_level, .ref m_scopeFirst, .ref m_scopeSecond, .ref m_scopeId, .int v_scope, .ref m_made, .int v_top, .ref m_typeOf, .ref m_tasks, .int v_left, .ref m_todo, .int v_waits, .ref m_renamed, .ref m_bound, .int v_fresh, .int v_changed, .int v_changedTo, .int v_out, .int v_counted, .ref m_markA, .ref m_markB, .ref m_line, .int v_printed, .int v_questionAt]))] := hW
  refine lv_aload_n S.1 S.2.1 d_M_constants_0 rfl (lv_at hl 0 rfl) ?_
  refine lv_iconst (v := (nI 0)) S.1 S.2.1 d_M_constants_1 (by decide) ?_
  refine g_put (ws2 := [(aM, .inr (10, [.int (nI 0), .ref m_text, .int v_length, .int v_came, .int v_fault, .int v_place, .ref m_paper, .int v_papered, .int v_constants, .ref m_firstHalf, .ref m_secondHalf, .ref m_stored, .ref m_proved, .int v_at, .int v_token, .int v_tokenAt, .long v_nameFirst, .long v_nameSecond, .ref m_written, .ref m_places, .int v_end, .int v_second, .int v_ids, .int v_nodes, .int v_opens, .int v_levelOpens, .int v_start, .int v_app, .int v_behind, .ref m_levelKind, .ref m_levelStart, .ref m_levelApp, .ref m_levelHad, .ref m_levelScope, .ref m_levelId, .ref m_levelFirst, .ref m_levelSecond, .int v_level, .ref m_scopeFirst, .ref m_scopeSecond, .ref m_scopeId, .int v_scope, .ref m_made, .int v_top, .ref m_typeOf, .ref m_tasks, .int v_left, .ref m_todo, .int v_waits, .ref m_renamed, .ref m_bound, .int v_fresh, .int v_changed, .int v_changedTo, .int v_out, .int v_counted, .ref m_markA, .ref m_markB, .ref m_line, .int v_printed, .int v_questionAt]))]) i_M ft_M ft_M_ok n_M S hW 0 rfl rfl 0 (by decide) kf_M_104 rfl rfl rfl (Nat.le_of_ble_eq_true rfl) rfl d_M_constants_2 (fun H locs hW => ?_)
  refine lv_aload_n S.1 S.2.1 d_M_constants_5 rfl (lv_at hl 0 rfl) ?_
  refine g_get i_M S hW 0 rfl rfl 8 (by decide) kf_M_162 rfl d_M_constants_6 ?_
  exact ret _ _ _ _ _ _ d_M_constants_9 rfl ⟨rfl, rfl⟩ hW
theorem d_M_printed_0 : decode b_M_printed 0 = .ok (.aload_n 0, 1) := by decide +kernel
theorem d_M_printed_1 : decode b_M_printed 1 = .ok (.iconst 0, 1) := by decide +kernel
theorem d_M_printed_2 : decode b_M_printed 2 = .ok (.putfield 104, 3) := by decide +kernel
theorem d_M_printed_5 : decode b_M_printed 5 = .ok (.aload_n 0, 1) := by decide +kernel
theorem d_M_printed_6 : decode b_M_printed 6 = .ok (.getfield 339, 3) := by decide +kernel
theorem d_M_printed_9 : decode b_M_printed 9 = .ok (.ireturn, 1) := by decide +kernel
set_option maxHeartbeats 4000000 in
set_option maxRecDepth 100000 in
theorem c_M_printed (l : Launch) (D : va_G) (cI cJ cB cZ : ClassId) (aM m_text m_paper m_firstHalf m_secondHalf m_stored m_proved m_written m_places m_levelKind m_levelStart m_levelApp m_levelHad m_levelScope m_levelId m_levelFirst m_levelSecond m_scopeFirst m_scopeSecond m_scopeId m_made m_typeOf m_tasks m_todo m_renamed m_bound m_markA m_markB m_line : Nat) (v_thrown v_length v_came v_fault v_place v_papered v_constants v_at v_token v_tokenAt v_end v_second v_ids v_nodes v_opens v_levelOpens v_start v_app v_behind v_level v_scope v_top v_left v_waits v_fresh v_changed v_changedTo v_out v_counted v_printed v_questionAt : Int32) (v_nameFirst v_nameSecond : Int64) : Ci l D (tyl cI cJ cB cZ) y_M_printed b_M_printed 1 (some .int) ({ frames := 0, cells := 0, slots := 0, locals := 0 } : Room) [.ref aM] [(aM, .inr (10, [.int v_thrown, .ref m_text, .int v_length, .int v_came, .int v_fault, .int v_place, .ref m_paper, .int v_papered, .int v_constants, .ref m_firstHalf, .ref m_secondHalf, .ref m_stored, .ref m_proved, .int v_at, .int v_token, .int v_tokenAt, .long v_nameFirst, .long v_nameSecond, .ref m_written, .ref m_places, .int v_end, .int v_second, .int v_ids, .int v_nodes, .int v_opens, .int v_levelOpens, .int v_start, .int v_app, .int v_behind, .ref m_levelKind, .ref m_levelStart, .ref m_levelApp, .ref m_levelHad, .ref m_levelScope, .ref m_levelId, .ref m_levelFirst, .ref m_levelSecond, .int v_level, .ref m_scopeFirst, .ref m_scopeSecond, .ref m_scopeId, .int v_scope, .ref m_made, .int v_top, .ref m_typeOf, .ref m_tasks, .int v_left, .ref m_todo, .int v_waits, .ref m_renamed, .ref m_bound, .int v_fresh, .int v_changed, .int v_changedTo, .int v_out, .int v_counted, .ref m_markA, .ref m_markB, .ref m_line, .int v_printed, .int v_questionAt]))] (fun r u => r = v_papered ∧ u = [(aM, .inr (10, [.int (nI 0), .ref m_text, .int v_length, .int v_came, .int v_fault, .int v_place, .ref m_paper, .int v_papered, .int v_constants, .ref m_firstHalf, .ref m_secondHalf, .ref m_stored, .ref m_proved, .int v_at, .int v_token, .int v_tokenAt, .long v_nameFirst, .long v_nameSecond, .ref m_written, .ref m_places, .int v_end, .int v_second, .int v_ids, .int v_nodes, .int v_opens, .int v_levelOpens, .int v_start, .int v_app, .int v_behind, .ref m_levelKind, .ref m_levelStart, .ref m_levelApp, .ref m_levelHad, .ref m_levelScope, .ref m_levelId, .ref m_levelFirst, .ref m_levelSecond, .int v_level, .ref m_scopeFirst, .ref m_scopeSecond, .ref m_scopeId, .int v_scope, .ref m_made, .int v_top, .ref m_typeOf, .ref m_tasks, .int v_left, .ref m_todo, .int v_waits, .ref m_renamed, .ref m_bound, .int v_fresh, .int v_changed, .int v_changedTo, .int v_out, .int v_counted, .ref m_markA, .ref m_markB, .ref m_line, .int v_printed, .int v_questionAt]))]) := by
  refine met_i (own := "ProofReaderModel") (by decide) rfl (Nat.le_of_ble_eq_true rfl) ?_
  intro p e s m args below meth c A Q S hA ret ls hl hW
  have hl : lv_has ls 1 [(0, .ref aM)] := hl
  have hW : Wd D (tyl cI cJ cB cZ) A s s.heap s.heap [] [(aM, .inr (10, [.int v_thrown, .ref m_text, .int v_length, .int v_came, .int v_fault, .int v_place, .ref m_paper, .int v_papered, .int v_constants, .ref m_firstHalf, .ref m_secondHalf, .ref m_stored, .ref m_proved, .int v_at, .int v_token, .int v_tokenAt, .long v_nameFirst, .long v_nameSecond, .ref m_written, .ref m_places, .int v_end, .int v_second, .int v_ids, .int v_nodes, .int v_opens, .int v_levelOpens, .int v_start, .int v_app, .int v_behind, .ref m_levelKind, .ref m_levelStart, .ref m_levelApp, .ref m_levelHad, .ref m_levelScope, .ref m_levelId, .ref m_levelFirst, .ref m_levelSecond, .int v_level, .ref m_scopeFirst, .ref m_scopeSecond, .ref m_scopeId, .int v_scope, .ref m_made, .int v_top, .ref m_typeOf, .ref m_tasks, .int v_left, .ref m_todo, .int v_waits, .ref m_renamed, .ref m_bound, .int v_fresh, .int v_changed, .int v_changedTo, .int v_out, .int v_counted, .ref m_markA, .ref m_markB, .ref m_line, .int v_printed, .int v_questionAt]))] := hW
  refine lv_aload_n S.1 S.2.1 d_M_printed_0 rfl (lv_at hl 0 rfl) ?_
  refine lv_iconst (v := (nI 0)) S.1 S.2.1 d_M_printed_1 (by decide) ?_
  refine g_put (ws2 := [(aM, .inr (10, [.int (nI 0), .ref m_text, .int v_length, .int v_came, .int v_fault, .int v_place, .ref m_paper, .int v_papered, .int v_constants, .ref m_firstHalf, .ref m_secondHalf, .ref m_stored, .ref m_proved, .int v_at, .int v_token, .int v_tokenAt, .long v_nameFirst, .long v_nameSecond, .ref m_written, .ref m_places, .int v_end, .int v_second, .int v_ids, .int v_nodes, .int v_opens, .int v_levelOpens, .int v_start, .int v_app, .int v_behind, .ref m_levelKind, .ref m_levelStart, .ref m_levelApp, .ref m_levelHad, .ref m_levelScope, .ref m_levelId, .ref m_levelFirst, .ref m_levelSecond, .int v_level, .ref m_scopeFirst, .ref m_scopeSecond, .ref m_scopeId, .int v_scope, .ref m_made, .int v_top, .ref m_typeOf, .ref m_tasks, .int v_left, .ref m_todo, .int v_waits, .ref m_renamed, .ref m_bound, .int v_fresh, .int v_changed, .int v_changedTo, .int v_out, .int v_counted, .ref m_markA, .ref m_markB, .ref m_line, .int v_printed, .int v_questionAt]))]) i_M ft_M ft_M_ok n_M S hW 0 rfl rfl 0 (by decide) kf_M_104 rfl rfl rfl (Nat.le_of_ble_eq_true rfl) rfl d_M_printed_2 (fun H locs hW => ?_)
  refine lv_aload_n S.1 S.2.1 d_M_printed_5 rfl (lv_at hl 0 rfl) ?_
  refine g_get i_M S hW 0 rfl rfl 7 (by decide) kf_M_339 rfl d_M_printed_6 ?_
  exact ret _ _ _ _ _ _ d_M_printed_9 rfl ⟨rfl, rfl⟩ hW
theorem d_M_clear_0 : decode b_M_clear 0 = .ok (.aload_n 0, 1) := by decide +kernel
theorem d_M_clear_1 : decode b_M_clear 1 = .ok (.iconst 0, 1) := by decide +kernel
theorem d_M_clear_2 : decode b_M_clear 2 = .ok (.putfield 104, 3) := by decide +kernel
theorem d_M_clear_5 : decode b_M_clear 5 = .ok (.aload_n 0, 1) := by decide +kernel
theorem d_M_clear_6 : decode b_M_clear 6 = .ok (.getfield 162, 3) := by decide +kernel
theorem d_M_clear_9 : decode b_M_clear 9 = .ok (.istore_n 1, 1) := by decide +kernel
theorem d_M_clear_10 : decode b_M_clear 10 = .ok (.aload_n 0, 1) := by decide +kernel
theorem d_M_clear_11 : decode b_M_clear 11 = .ok (.iconst 0, 1) := by decide +kernel
theorem d_M_clear_12 : decode b_M_clear 12 = .ok (.putfield 162, 3) := by decide +kernel
theorem d_M_clear_15 : decode b_M_clear 15 = .ok (.aload_n 0, 1) := by decide +kernel
theorem d_M_clear_16 : decode b_M_clear 16 = .ok (.iconst 0, 1) := by decide +kernel
theorem d_M_clear_17 : decode b_M_clear 17 = .ok (.putfield 117, 3) := by decide +kernel
theorem d_M_clear_20 : decode b_M_clear 20 = .ok (.aload_n 0, 1) := by decide +kernel
theorem d_M_clear_21 : decode b_M_clear 21 = .ok (.iconst 0, 1) := by decide +kernel
theorem d_M_clear_22 : decode b_M_clear 22 = .ok (.putfield 364, 3) := by decide +kernel
theorem d_M_clear_25 : decode b_M_clear 25 = .ok (.aload_n 0, 1) := by decide +kernel
theorem d_M_clear_26 : decode b_M_clear 26 = .ok (.iconst 0, 1) := by decide +kernel
theorem d_M_clear_27 : decode b_M_clear 27 = .ok (.putfield 339, 3) := by decide +kernel
theorem d_M_clear_30 : decode b_M_clear 30 = .ok (.iload_n 1, 1) := by decide +kernel
theorem d_M_clear_31 : decode b_M_clear 31 = .ok (.ireturn, 1) := by decide +kernel
set_option maxHeartbeats 4000000 in
set_option maxRecDepth 100000 in
theorem c_M_clear (l : Launch) (D : va_G) (cI cJ cB cZ : ClassId) (aM m_text m_paper m_firstHalf m_secondHalf m_stored m_proved m_written m_places m_levelKind m_levelStart m_levelApp m_levelHad m_levelScope m_levelId m_levelFirst m_levelSecond m_scopeFirst m_scopeSecond m_scopeId m_made m_typeOf m_tasks m_todo m_renamed m_bound m_markA m_markB m_line : Nat) (v_thrown v_length v_came v_fault v_place v_papered v_constants v_at v_token v_tokenAt v_end v_second v_ids v_nodes v_opens v_levelOpens v_start v_app v_behind v_level v_scope v_top v_left v_waits v_fresh v_changed v_changedTo v_out v_counted v_printed v_questionAt : Int32) (v_nameFirst v_nameSecond : Int64) : Ci l D (tyl cI cJ cB cZ) y_M_clear b_M_clear 2 (some .int) ({ frames := 0, cells := 0, slots := 0, locals := 0 } : Room) [.ref aM] [(aM, .inr (10, [.int v_thrown, .ref m_text, .int v_length, .int v_came, .int v_fault, .int v_place, .ref m_paper, .int v_papered, .int v_constants, .ref m_firstHalf, .ref m_secondHalf, .ref m_stored, .ref m_proved, .int v_at, .int v_token, .int v_tokenAt, .long v_nameFirst, .long v_nameSecond, .ref m_written, .ref m_places, .int v_end, .int v_second, .int v_ids, .int v_nodes, .int v_opens, .int v_levelOpens, .int v_start, .int v_app, .int v_behind, .ref m_levelKind, .ref m_levelStart, .ref m_levelApp, .ref m_levelHad, .ref m_levelScope, .ref m_levelId, .ref m_levelFirst, .ref m_levelSecond, .int v_level, .ref m_scopeFirst, .ref m_scopeSecond, .ref m_scopeId, .int v_scope, .ref m_made, .int v_top, .ref m_typeOf, .ref m_tasks, .int v_left, .ref m_todo, .int v_waits, .ref m_renamed, .ref m_bound, .int v_fresh, .int v_changed, .int v_changedTo, .int v_out, .int v_counted, .ref m_markA, .ref m_markB, .ref m_line, .int v_printed, .int v_questionAt]))] (fun r u => r = v_constants ∧ u = [(aM, .inr (10, [.int (nI 0), .ref m_text, .int (nI 0), .int (nI 0), .int v_fault, .int v_place, .ref m_paper, .int (nI 0), .int (nI 0), .ref m_firstHalf, .ref m_secondHalf, .ref m_stored, .ref m_proved, .int v_at, .int v_token, .int v_tokenAt, .long v_nameFirst, .long v_nameSecond, .ref m_written, .ref m_places, .int v_end, .int v_second, .int v_ids, .int v_nodes, .int v_opens, .int v_levelOpens, .int v_start, .int v_app, .int v_behind, .ref m_levelKind, .ref m_levelStart, .ref m_levelApp, .ref m_levelHad, .ref m_levelScope, .ref m_levelId, .ref m_levelFirst, .ref m_levelSecond, .int v_level, .ref m_scopeFirst, .ref m_scopeSecond, .ref m_scopeId, .int v_scope, .ref m_made, .int v_top, .ref m_typeOf, .ref m_tasks, .int v_left, .ref m_todo, .int v_waits, .ref m_renamed, .ref m_bound, .int v_fresh, .int v_changed, .int v_changedTo, .int v_out, .int v_counted, .ref m_markA, .ref m_markB, .ref m_line, .int v_printed, .int v_questionAt]))]) := by
  refine met_i (own := "ProofReaderModel") (by decide) rfl (Nat.le_of_ble_eq_true rfl) ?_
  intro p e s m args below meth c A Q S hA ret ls hl hW
  have hl : lv_has ls 2 [(0, .ref aM)] := hl
  have hW : Wd D (tyl cI cJ cB cZ) A s s.heap s.heap [] [(aM, .inr (10, [.int v_thrown, .ref m_text, .int v_length, .int v_came, .int v_fault, .int v_place, .ref m_paper, .int v_papered, .int v_constants, .ref m_firstHalf, .ref m_secondHalf, .ref m_stored, .ref m_proved, .int v_at, .int v_token, .int v_tokenAt, .long v_nameFirst, .long v_nameSecond, .ref m_written, .ref m_places, .int v_end, .int v_second, .int v_ids, .int v_nodes, .int v_opens, .int v_levelOpens, .int v_start, .int v_app, .int v_behind, .ref m_levelKind, .ref m_levelStart, .ref m_levelApp, .ref m_levelHad, .ref m_levelScope, .ref m_levelId, .ref m_levelFirst, .ref m_levelSecond, .int v_level, .ref m_scopeFirst, .ref m_scopeSecond, .ref m_scopeId, .int v_scope, .ref m_made, .int v_top, .ref m_typeOf, .ref m_tasks, .int v_left, .ref m_todo, .int v_waits, .ref m_renamed, .ref m_bound, .int v_fresh, .int v_changed, .int v_changedTo, .int v_out, .int v_counted, .ref m_markA, .ref m_markB, .ref m_line, .int v_printed, .int v_questionAt]))] := hW
  refine lv_aload_n S.1 S.2.1 d_M_clear_0 rfl (lv_at hl 0 rfl) ?_
  refine lv_iconst (v := (nI 0)) S.1 S.2.1 d_M_clear_1 (by decide) ?_
  refine g_put (ws2 := [(aM, .inr (10, [.int (nI 0), .ref m_text, .int v_length, .int v_came, .int v_fault, .int v_place, .ref m_paper, .int v_papered, .int v_constants, .ref m_firstHalf, .ref m_secondHalf, .ref m_stored, .ref m_proved, .int v_at, .int v_token, .int v_tokenAt, .long v_nameFirst, .long v_nameSecond, .ref m_written, .ref m_places, .int v_end, .int v_second, .int v_ids, .int v_nodes, .int v_opens, .int v_levelOpens, .int v_start, .int v_app, .int v_behind, .ref m_levelKind, .ref m_levelStart, .ref m_levelApp, .ref m_levelHad, .ref m_levelScope, .ref m_levelId, .ref m_levelFirst, .ref m_levelSecond, .int v_level, .ref m_scopeFirst, .ref m_scopeSecond, .ref m_scopeId, .int v_scope, .ref m_made, .int v_top, .ref m_typeOf, .ref m_tasks, .int v_left, .ref m_todo, .int v_waits, .ref m_renamed, .ref m_bound, .int v_fresh, .int v_changed, .int v_changedTo, .int v_out, .int v_counted, .ref m_markA, .ref m_markB, .ref m_line, .int v_printed, .int v_questionAt]))]) i_M ft_M ft_M_ok n_M S hW 0 rfl rfl 0 (by decide) kf_M_104 rfl rfl rfl (Nat.le_of_ble_eq_true rfl) rfl d_M_clear_2 (fun H locs hW => ?_)
  refine lv_aload_n S.1 S.2.1 d_M_clear_5 rfl (lv_at hl 0 rfl) ?_
  refine g_get i_M S hW 0 rfl rfl 8 (by decide) kf_M_162 rfl d_M_clear_6 ?_
  refine lv_istore_n (lv' := [(1, .int v_constants), (0, .ref aM)]) S.1 S.2.1 d_M_clear_9 rfl hl (by decide) rfl (fun ls hl => ?_)
  refine lv_aload_n S.1 S.2.1 d_M_clear_10 rfl (lv_at hl 1 rfl) ?_
  refine lv_iconst (v := (nI 0)) S.1 S.2.1 d_M_clear_11 (by decide) ?_
  refine g_put (ws2 := [(aM, .inr (10, [.int (nI 0), .ref m_text, .int v_length, .int v_came, .int v_fault, .int v_place, .ref m_paper, .int v_papered, .int (nI 0), .ref m_firstHalf, .ref m_secondHalf, .ref m_stored, .ref m_proved, .int v_at, .int v_token, .int v_tokenAt, .long v_nameFirst, .long v_nameSecond, .ref m_written, .ref m_places, .int v_end, .int v_second, .int v_ids, .int v_nodes, .int v_opens, .int v_levelOpens, .int v_start, .int v_app, .int v_behind, .ref m_levelKind, .ref m_levelStart, .ref m_levelApp, .ref m_levelHad, .ref m_levelScope, .ref m_levelId, .ref m_levelFirst, .ref m_levelSecond, .int v_level, .ref m_scopeFirst, .ref m_scopeSecond, .ref m_scopeId, .int v_scope, .ref m_made, .int v_top, .ref m_typeOf, .ref m_tasks, .int v_left, .ref m_todo, .int v_waits, .ref m_renamed, .ref m_bound, .int v_fresh, .int v_changed, .int v_changedTo, .int v_out, .int v_counted, .ref m_markA, .ref m_markB, .ref m_line, .int v_printed, .int v_questionAt]))]) i_M ft_M ft_M_ok n_M S hW 0 rfl rfl 8 (by decide) kf_M_162 rfl rfl rfl (Nat.le_of_ble_eq_true rfl) rfl d_M_clear_12 (fun H locs hW => ?_)
  refine lv_aload_n S.1 S.2.1 d_M_clear_15 rfl (lv_at hl 1 rfl) ?_
  refine lv_iconst (v := (nI 0)) S.1 S.2.1 d_M_clear_16 (by decide) ?_
  refine g_put (ws2 := [(aM, .inr (10, [.int (nI 0), .ref m_text, .int (nI 0), .int v_came, .int v_fault, .int v_place, .ref m_paper, .int v_papered, .int (nI 0), .ref m_firstHalf, .ref m_secondHalf, .ref m_stored, .ref m_proved, .int v_at, .int v_token, .int v_tokenAt, .long v_nameFirst, .long v_nameSecond, .ref m_written, .ref m_places, .int v_end, .int v_second, .int v_ids, .int v_nodes, .int v_opens, .int v_levelOpens, .int v_start, .int v_app, .int v_behind, .ref m_levelKind, .ref m_levelStart, .ref m_levelApp, .ref m_levelHad, .ref m_levelScope, .ref m_levelId, .ref m_levelFirst, .ref m_levelSecond, .int v_level, .ref m_scopeFirst, .ref m_scopeSecond, .ref m_scopeId, .int v_scope, .ref m_made, .int v_top, .ref m_typeOf, .ref m_tasks, .int v_left, .ref m_todo, .int v_waits, .ref m_renamed, .ref m_bound, .int v_fresh, .int v_changed, .int v_changedTo, .int v_out, .int v_counted, .ref m_markA, .ref m_markB, .ref m_line, .int v_printed, .int v_questionAt]))]) i_M ft_M ft_M_ok n_M S hW 0 rfl rfl 2 (by decide) kf_M_117 rfl rfl rfl (Nat.le_of_ble_eq_true rfl) rfl d_M_clear_17 (fun H locs hW => ?_)
  refine lv_aload_n S.1 S.2.1 d_M_clear_20 rfl (lv_at hl 1 rfl) ?_
  refine lv_iconst (v := (nI 0)) S.1 S.2.1 d_M_clear_21 (by decide) ?_
  refine g_put (ws2 := [(aM, .inr (10, [.int (nI 0), .ref m_text, .int (nI 0), .int (nI 0), .int v_fault, .int v_place, .ref m_paper, .int v_papered, .int (nI 0), .ref m_firstHalf, .ref m_secondHalf, .ref m_stored, .ref m_proved, .int v_at, .int v_token, .int v_tokenAt, .long v_nameFirst, .long v_nameSecond, .ref m_written, .ref m_places, .int v_end, .int v_second, .int v_ids, .int v_nodes, .int v_opens, .int v_levelOpens, .int v_start, .int v_app, .int v_behind, .ref m_levelKind, .ref m_levelStart, .ref m_levelApp, .ref m_levelHad, .ref m_levelScope, .ref m_levelId, .ref m_levelFirst, .ref m_levelSecond, .int v_level, .ref m_scopeFirst, .ref m_scopeSecond, .ref m_scopeId, .int v_scope, .ref m_made, .int v_top, .ref m_typeOf, .ref m_tasks, .int v_left, .ref m_todo, .int v_waits, .ref m_renamed, .ref m_bound, .int v_fresh, .int v_changed, .int v_changedTo, .int v_out, .int v_counted, .ref m_markA, .ref m_markB, .ref m_line, .int v_printed, .int v_questionAt]))]) i_M ft_M ft_M_ok n_M S hW 0 rfl rfl 3 (by decide) kf_M_364 rfl rfl rfl (Nat.le_of_ble_eq_true rfl) rfl d_M_clear_22 (fun H locs hW => ?_)
  refine lv_aload_n S.1 S.2.1 d_M_clear_25 rfl (lv_at hl 1 rfl) ?_
  refine lv_iconst (v := (nI 0)) S.1 S.2.1 d_M_clear_26 (by decide) ?_
  refine g_put (ws2 := [(aM, .inr (10, [.int (nI 0), .ref m_text, .int (nI 0), .int (nI 0), .int v_fault, .int v_place, .ref m_paper, .int (nI 0), .int (nI 0), .ref m_firstHalf, .ref m_secondHalf, .ref m_stored, .ref m_proved, .int v_at, .int v_token, .int v_tokenAt, .long v_nameFirst, .long v_nameSecond, .ref m_written, .ref m_places, .int v_end, .int v_second, .int v_ids, .int v_nodes, .int v_opens, .int v_levelOpens, .int v_start, .int v_app, .int v_behind, .ref m_levelKind, .ref m_levelStart, .ref m_levelApp, .ref m_levelHad, .ref m_levelScope, .ref m_levelId, .ref m_levelFirst, .ref m_levelSecond, .int v_level, .ref m_scopeFirst, .ref m_scopeSecond, .ref m_scopeId, .int v_scope, .ref m_made, .int v_top, .ref m_typeOf, .ref m_tasks, .int v_left, .ref m_todo, .int v_waits, .ref m_renamed, .ref m_bound, .int v_fresh, .int v_changed, .int v_changedTo, .int v_out, .int v_counted, .ref m_markA, .ref m_markB, .ref m_line, .int v_printed, .int v_questionAt]))]) i_M ft_M ft_M_ok n_M S hW 0 rfl rfl 7 (by decide) kf_M_339 rfl rfl rfl (Nat.le_of_ble_eq_true rfl) rfl d_M_clear_27 (fun H locs hW => ?_)
  refine lv_iload_n S.1 S.2.1 d_M_clear_30 rfl (lv_at hl 0 rfl) ?_
  exact ret _ _ _ _ _ _ d_M_clear_31 rfl ⟨rfl, rfl⟩ hW
theorem d_M_wipe_0 : decode b_M_wipe 0 = .ok (.aload_n 0, 1) := by decide +kernel
theorem d_M_wipe_1 : decode b_M_wipe 1 = .ok (.iconst 0, 1) := by decide +kernel
theorem d_M_wipe_2 : decode b_M_wipe 2 = .ok (.putfield 104, 3) := by decide +kernel
theorem d_M_wipe_5 : decode b_M_wipe 5 = .ok (.aload_n 0, 1) := by decide +kernel
theorem d_M_wipe_6 : decode b_M_wipe 6 = .ok (.getfield 339, 3) := by decide +kernel
theorem d_M_wipe_9 : decode b_M_wipe 9 = .ok (.istore_n 1, 1) := by decide +kernel
theorem d_M_wipe_10 : decode b_M_wipe 10 = .ok (.aload_n 0, 1) := by decide +kernel
theorem d_M_wipe_11 : decode b_M_wipe 11 = .ok (.iconst 0, 1) := by decide +kernel
theorem d_M_wipe_12 : decode b_M_wipe 12 = .ok (.putfield 339, 3) := by decide +kernel
theorem d_M_wipe_15 : decode b_M_wipe 15 = .ok (.iload_n 1, 1) := by decide +kernel
theorem d_M_wipe_16 : decode b_M_wipe 16 = .ok (.ireturn, 1) := by decide +kernel
set_option maxHeartbeats 4000000 in
set_option maxRecDepth 100000 in
theorem c_M_wipe (l : Launch) (D : va_G) (cI cJ cB cZ : ClassId) (aM m_text m_paper m_firstHalf m_secondHalf m_stored m_proved m_written m_places m_levelKind m_levelStart m_levelApp m_levelHad m_levelScope m_levelId m_levelFirst m_levelSecond m_scopeFirst m_scopeSecond m_scopeId m_made m_typeOf m_tasks m_todo m_renamed m_bound m_markA m_markB m_line : Nat) (v_thrown v_length v_came v_fault v_place v_papered v_constants v_at v_token v_tokenAt v_end v_second v_ids v_nodes v_opens v_levelOpens v_start v_app v_behind v_level v_scope v_top v_left v_waits v_fresh v_changed v_changedTo v_out v_counted v_printed v_questionAt : Int32) (v_nameFirst v_nameSecond : Int64) : Ci l D (tyl cI cJ cB cZ) y_M_wipe b_M_wipe 2 (some .int) ({ frames := 0, cells := 0, slots := 0, locals := 0 } : Room) [.ref aM] [(aM, .inr (10, [.int v_thrown, .ref m_text, .int v_length, .int v_came, .int v_fault, .int v_place, .ref m_paper, .int v_papered, .int v_constants, .ref m_firstHalf, .ref m_secondHalf, .ref m_stored, .ref m_proved, .int v_at, .int v_token, .int v_tokenAt, .long v_nameFirst, .long v_nameSecond, .ref m_written, .ref m_places, .int v_end, .int v_second, .int v_ids, .int v_nodes, .int v_opens, .int v_levelOpens, .int v_start, .int v_app, .int v_behind, .ref m_levelKind, .ref m_levelStart, .ref m_levelApp, .ref m_levelHad, .ref m_levelScope, .ref m_levelId, .ref m_levelFirst, .ref m_levelSecond, .int v_level, .ref m_scopeFirst, .ref m_scopeSecond, .ref m_scopeId, .int v_scope, .ref m_made, .int v_top, .ref m_typeOf, .ref m_tasks, .int v_left, .ref m_todo, .int v_waits, .ref m_renamed, .ref m_bound, .int v_fresh, .int v_changed, .int v_changedTo, .int v_out, .int v_counted, .ref m_markA, .ref m_markB, .ref m_line, .int v_printed, .int v_questionAt]))] (fun r u => r = v_papered ∧ u = [(aM, .inr (10, [.int (nI 0), .ref m_text, .int v_length, .int v_came, .int v_fault, .int v_place, .ref m_paper, .int (nI 0), .int v_constants, .ref m_firstHalf, .ref m_secondHalf, .ref m_stored, .ref m_proved, .int v_at, .int v_token, .int v_tokenAt, .long v_nameFirst, .long v_nameSecond, .ref m_written, .ref m_places, .int v_end, .int v_second, .int v_ids, .int v_nodes, .int v_opens, .int v_levelOpens, .int v_start, .int v_app, .int v_behind, .ref m_levelKind, .ref m_levelStart, .ref m_levelApp, .ref m_levelHad, .ref m_levelScope, .ref m_levelId, .ref m_levelFirst, .ref m_levelSecond, .int v_level, .ref m_scopeFirst, .ref m_scopeSecond, .ref m_scopeId, .int v_scope, .ref m_made, .int v_top, .ref m_typeOf, .ref m_tasks, .int v_left, .ref m_todo, .int v_waits, .ref m_renamed, .ref m_bound, .int v_fresh, .int v_changed, .int v_changedTo, .int v_out, .int v_counted, .ref m_markA, .ref m_markB, .ref m_line, .int v_printed, .int v_questionAt]))]) := by
  refine met_i (own := "ProofReaderModel") (by decide) rfl (Nat.le_of_ble_eq_true rfl) ?_
  intro p e s m args below meth c A Q S hA ret ls hl hW
  have hl : lv_has ls 2 [(0, .ref aM)] := hl
  have hW : Wd D (tyl cI cJ cB cZ) A s s.heap s.heap [] [(aM, .inr (10, [.int v_thrown, .ref m_text, .int v_length, .int v_came, .int v_fault, .int v_place, .ref m_paper, .int v_papered, .int v_constants, .ref m_firstHalf, .ref m_secondHalf, .ref m_stored, .ref m_proved, .int v_at, .int v_token, .int v_tokenAt, .long v_nameFirst, .long v_nameSecond, .ref m_written, .ref m_places, .int v_end, .int v_second, .int v_ids, .int v_nodes, .int v_opens, .int v_levelOpens, .int v_start, .int v_app, .int v_behind, .ref m_levelKind, .ref m_levelStart, .ref m_levelApp, .ref m_levelHad, .ref m_levelScope, .ref m_levelId, .ref m_levelFirst, .ref m_levelSecond, .int v_level, .ref m_scopeFirst, .ref m_scopeSecond, .ref m_scopeId, .int v_scope, .ref m_made, .int v_top, .ref m_typeOf, .ref m_tasks, .int v_left, .ref m_todo, .int v_waits, .ref m_renamed, .ref m_bound, .int v_fresh, .int v_changed, .int v_changedTo, .int v_out, .int v_counted, .ref m_markA, .ref m_markB, .ref m_line, .int v_printed, .int v_questionAt]))] := hW
  refine lv_aload_n S.1 S.2.1 d_M_wipe_0 rfl (lv_at hl 0 rfl) ?_
  refine lv_iconst (v := (nI 0)) S.1 S.2.1 d_M_wipe_1 (by decide) ?_
  refine g_put (ws2 := [(aM, .inr (10, [.int (nI 0), .ref m_text, .int v_length, .int v_came, .int v_fault, .int v_place, .ref m_paper, .int v_papered, .int v_constants, .ref m_firstHalf, .ref m_secondHalf, .ref m_stored, .ref m_proved, .int v_at, .int v_token, .int v_tokenAt, .long v_nameFirst, .long v_nameSecond, .ref m_written, .ref m_places, .int v_end, .int v_second, .int v_ids, .int v_nodes, .int v_opens, .int v_levelOpens, .int v_start, .int v_app, .int v_behind, .ref m_levelKind, .ref m_levelStart, .ref m_levelApp, .ref m_levelHad, .ref m_levelScope, .ref m_levelId, .ref m_levelFirst, .ref m_levelSecond, .int v_level, .ref m_scopeFirst, .ref m_scopeSecond, .ref m_scopeId, .int v_scope, .ref m_made, .int v_top, .ref m_typeOf, .ref m_tasks, .int v_left, .ref m_todo, .int v_waits, .ref m_renamed, .ref m_bound, .int v_fresh, .int v_changed, .int v_changedTo, .int v_out, .int v_counted, .ref m_markA, .ref m_markB, .ref m_line, .int v_printed, .int v_questionAt]))]) i_M ft_M ft_M_ok n_M S hW 0 rfl rfl 0 (by decide) kf_M_104 rfl rfl rfl (Nat.le_of_ble_eq_true rfl) rfl d_M_wipe_2 (fun H locs hW => ?_)
  refine lv_aload_n S.1 S.2.1 d_M_wipe_5 rfl (lv_at hl 0 rfl) ?_
  refine g_get i_M S hW 0 rfl rfl 7 (by decide) kf_M_339 rfl d_M_wipe_6 ?_
  refine lv_istore_n (lv' := [(1, .int v_papered), (0, .ref aM)]) S.1 S.2.1 d_M_wipe_9 rfl hl (by decide) rfl (fun ls hl => ?_)
  refine lv_aload_n S.1 S.2.1 d_M_wipe_10 rfl (lv_at hl 1 rfl) ?_
  refine lv_iconst (v := (nI 0)) S.1 S.2.1 d_M_wipe_11 (by decide) ?_
  refine g_put (ws2 := [(aM, .inr (10, [.int (nI 0), .ref m_text, .int v_length, .int v_came, .int v_fault, .int v_place, .ref m_paper, .int (nI 0), .int v_constants, .ref m_firstHalf, .ref m_secondHalf, .ref m_stored, .ref m_proved, .int v_at, .int v_token, .int v_tokenAt, .long v_nameFirst, .long v_nameSecond, .ref m_written, .ref m_places, .int v_end, .int v_second, .int v_ids, .int v_nodes, .int v_opens, .int v_levelOpens, .int v_start, .int v_app, .int v_behind, .ref m_levelKind, .ref m_levelStart, .ref m_levelApp, .ref m_levelHad, .ref m_levelScope, .ref m_levelId, .ref m_levelFirst, .ref m_levelSecond, .int v_level, .ref m_scopeFirst, .ref m_scopeSecond, .ref m_scopeId, .int v_scope, .ref m_made, .int v_top, .ref m_typeOf, .ref m_tasks, .int v_left, .ref m_todo, .int v_waits, .ref m_renamed, .ref m_bound, .int v_fresh, .int v_changed, .int v_changedTo, .int v_out, .int v_counted, .ref m_markA, .ref m_markB, .ref m_line, .int v_printed, .int v_questionAt]))]) i_M ft_M ft_M_ok n_M S hW 0 rfl rfl 7 (by decide) kf_M_339 rfl rfl rfl (Nat.le_of_ble_eq_true rfl) rfl d_M_wipe_12 (fun H locs hW => ?_)
  refine lv_iload_n S.1 S.2.1 d_M_wipe_15 rfl (lv_at hl 0 rfl) ?_
  exact ret _ _ _ _ _ _ d_M_wipe_16 rfl ⟨rfl, rfl⟩ hW
theorem d_M_readToken_0 : decode b_M_readToken 0 = .ok (.aload_n 0, 1) := by decide +kernel
theorem d_M_readToken_1 : decode b_M_readToken 1 = .ok (.getfield 114, 3) := by decide +kernel
theorem d_M_readToken_4 : decode b_M_readToken 4 = .ok (.aload_n 0, 1) := by decide +kernel
theorem d_M_readToken_5 : decode b_M_readToken 5 = .ok (.getfield 117, 3) := by decide +kernel
theorem d_M_readToken_8 : decode b_M_readToken 8 = .ok (.if_icmp .ge 30, 3) := by decide +kernel
theorem d_M_readToken_11 : decode b_M_readToken 11 = .ok (.aload_n 0, 1) := by decide +kernel
theorem d_M_readToken_12 : decode b_M_readToken 12 = .ok (.getfield 7, 3) := by decide +kernel
theorem d_M_readToken_15 : decode b_M_readToken 15 = .ok (.aload_n 0, 1) := by decide +kernel
theorem d_M_readToken_16 : decode b_M_readToken 16 = .ok (.getfield 114, 3) := by decide +kernel
theorem d_M_readToken_19 : decode b_M_readToken 19 = .ok (.iaload, 1) := by decide +kernel
theorem d_M_readToken_20 : decode b_M_readToken 20 = .ok (.bipush 32, 2) := by decide +kernel
theorem d_M_readToken_22 : decode b_M_readToken 22 = .ok (.if_icmp .gt 16, 3) := by decide +kernel
theorem d_M_readToken_25 : decode b_M_readToken 25 = .ok (.aload_n 0, 1) := by decide +kernel
theorem d_M_readToken_26 : decode b_M_readToken 26 = .ok (.dup, 1) := by decide +kernel
theorem d_M_readToken_27 : decode b_M_readToken 27 = .ok (.getfield 114, 3) := by decide +kernel
theorem d_M_readToken_30 : decode b_M_readToken 30 = .ok (.iconst 1, 1) := by decide +kernel
theorem d_M_readToken_31 : decode b_M_readToken 31 = .ok (.iadd, 1) := by decide +kernel
theorem d_M_readToken_32 : decode b_M_readToken 32 = .ok (.putfield 114, 3) := by decide +kernel
theorem d_M_readToken_35 : decode b_M_readToken 35 = .ok (.goto (-35), 3) := by decide +kernel
theorem d_M_readToken_38 : decode b_M_readToken 38 = .ok (.aload_n 0, 1) := by decide +kernel
theorem d_M_readToken_39 : decode b_M_readToken 39 = .ok (.aload_n 0, 1) := by decide +kernel
theorem d_M_readToken_40 : decode b_M_readToken 40 = .ok (.getfield 114, 3) := by decide +kernel
theorem d_M_readToken_43 : decode b_M_readToken 43 = .ok (.putfield 129, 3) := by decide +kernel
theorem d_M_readToken_46 : decode b_M_readToken 46 = .ok (.aload_n 0, 1) := by decide +kernel
theorem d_M_readToken_47 : decode b_M_readToken 47 = .ok (.getfield 114, 3) := by decide +kernel
theorem d_M_readToken_50 : decode b_M_readToken 50 = .ok (.aload_n 0, 1) := by decide +kernel
theorem d_M_readToken_51 : decode b_M_readToken 51 = .ok (.getfield 117, 3) := by decide +kernel
theorem d_M_readToken_54 : decode b_M_readToken 54 = .ok (.if_icmp .ne 9, 3) := by decide +kernel
theorem d_M_readToken_57 : decode b_M_readToken 57 = .ok (.aload_n 0, 1) := by decide +kernel
theorem d_M_readToken_58 : decode b_M_readToken 58 = .ok (.iconst 0, 1) := by decide +kernel
theorem d_M_readToken_59 : decode b_M_readToken 59 = .ok (.putfield 126, 3) := by decide +kernel
theorem d_M_readToken_62 : decode b_M_readToken 62 = .ok (.return_, 1) := by decide +kernel
theorem d_M_readToken_63 : decode b_M_readToken 63 = .ok (.aload_n 0, 1) := by decide +kernel
theorem d_M_readToken_64 : decode b_M_readToken 64 = .ok (.getfield 7, 3) := by decide +kernel
theorem d_M_readToken_67 : decode b_M_readToken 67 = .ok (.aload_n 0, 1) := by decide +kernel
theorem d_M_readToken_68 : decode b_M_readToken 68 = .ok (.getfield 114, 3) := by decide +kernel
theorem d_M_readToken_71 : decode b_M_readToken 71 = .ok (.iaload, 1) := by decide +kernel
theorem d_M_readToken_72 : decode b_M_readToken 72 = .ok (.istore_n 1, 1) := by decide +kernel
theorem d_M_readToken_73 : decode b_M_readToken 73 = .ok (.iload_n 1, 1) := by decide +kernel
theorem d_M_readToken_74 : decode b_M_readToken 74 = .ok (.invokestatic 120, 3) := by decide +kernel
theorem d_M_readToken_77 : decode b_M_readToken 77 = .ok (.ifCond .eq 10, 3) := by decide +kernel
theorem d_M_readToken_80 : decode b_M_readToken 80 = .ok (.aload_n 0, 1) := by decide +kernel
theorem d_M_readToken_81 : decode b_M_readToken 81 = .ok (.invokevirtual 132, 3) := by decide +kernel
theorem d_M_readToken_84 : decode b_M_readToken 84 = .ok (.goto 86, 3) := by decide +kernel
theorem d_M_readToken_87 : decode b_M_readToken 87 = .ok (.iload_n 1, 1) := by decide +kernel
theorem d_M_readToken_88 : decode b_M_readToken 88 = .ok (.bipush 45, 2) := by decide +kernel
theorem d_M_readToken_90 : decode b_M_readToken 90 = .ok (.if_icmp .ne 54, 3) := by decide +kernel
theorem d_M_readToken_93 : decode b_M_readToken 93 = .ok (.aload_n 0, 1) := by decide +kernel
theorem d_M_readToken_94 : decode b_M_readToken 94 = .ok (.aload_n 0, 1) := by decide +kernel
theorem d_M_readToken_95 : decode b_M_readToken 95 = .ok (.getfield 114, 3) := by decide +kernel
theorem d_M_readToken_98 : decode b_M_readToken 98 = .ok (.iconst 1, 1) := by decide +kernel
theorem d_M_readToken_99 : decode b_M_readToken 99 = .ok (.iadd, 1) := by decide +kernel
theorem d_M_readToken_100 : decode b_M_readToken 100 = .ok (.aload_n 0, 1) := by decide +kernel
theorem d_M_readToken_101 : decode b_M_readToken 101 = .ok (.getfield 117, 3) := by decide +kernel
theorem d_M_readToken_104 : decode b_M_readToken 104 = .ok (.if_icmp .ge 23, 3) := by decide +kernel
theorem d_M_readToken_107 : decode b_M_readToken 107 = .ok (.aload_n 0, 1) := by decide +kernel
theorem d_M_readToken_108 : decode b_M_readToken 108 = .ok (.getfield 7, 3) := by decide +kernel
theorem d_M_readToken_111 : decode b_M_readToken 111 = .ok (.aload_n 0, 1) := by decide +kernel
theorem d_M_readToken_112 : decode b_M_readToken 112 = .ok (.getfield 114, 3) := by decide +kernel
theorem d_M_readToken_115 : decode b_M_readToken 115 = .ok (.iconst 1, 1) := by decide +kernel
theorem d_M_readToken_116 : decode b_M_readToken 116 = .ok (.iadd, 1) := by decide +kernel
theorem d_M_readToken_117 : decode b_M_readToken 117 = .ok (.iaload, 1) := by decide +kernel
theorem d_M_readToken_118 : decode b_M_readToken 118 = .ok (.bipush 62, 2) := by decide +kernel
theorem d_M_readToken_120 : decode b_M_readToken 120 = .ok (.if_icmp .ne 7, 3) := by decide +kernel
theorem d_M_readToken_123 : decode b_M_readToken 123 = .ok (.iconst 3, 1) := by decide +kernel
theorem d_M_readToken_124 : decode b_M_readToken 124 = .ok (.goto 4, 3) := by decide +kernel
theorem d_M_readToken_127 : decode b_M_readToken 127 = .ok (.iconst 4, 1) := by decide +kernel
theorem d_M_readToken_128 : decode b_M_readToken 128 = .ok (.putfield 126, 3) := by decide +kernel
theorem d_M_readToken_131 : decode b_M_readToken 131 = .ok (.aload_n 0, 1) := by decide +kernel
theorem d_M_readToken_132 : decode b_M_readToken 132 = .ok (.aload_n 0, 1) := by decide +kernel
theorem d_M_readToken_133 : decode b_M_readToken 133 = .ok (.getfield 114, 3) := by decide +kernel
theorem d_M_readToken_136 : decode b_M_readToken 136 = .ok (.iconst 2, 1) := by decide +kernel
theorem d_M_readToken_137 : decode b_M_readToken 137 = .ok (.iadd, 1) := by decide +kernel
theorem d_M_readToken_138 : decode b_M_readToken 138 = .ok (.putfield 114, 3) := by decide +kernel
theorem d_M_readToken_141 : decode b_M_readToken 141 = .ok (.goto 29, 3) := by decide +kernel
theorem d_M_readToken_144 : decode b_M_readToken 144 = .ok (.aload_n 0, 1) := by decide +kernel
theorem d_M_readToken_145 : decode b_M_readToken 145 = .ok (.iload_n 1, 1) := by decide +kernel
theorem d_M_readToken_146 : decode b_M_readToken 146 = .ok (.invokestatic 135, 3) := by decide +kernel
theorem d_M_readToken_149 : decode b_M_readToken 149 = .ok (.ifCond .eq 7, 3) := by decide +kernel
theorem d_M_readToken_152 : decode b_M_readToken 152 = .ok (.iload_n 1, 1) := by decide +kernel
theorem d_M_readToken_153 : decode b_M_readToken 153 = .ok (.goto 4, 3) := by decide +kernel
theorem d_M_readToken_156 : decode b_M_readToken 156 = .ok (.iconst 4, 1) := by decide +kernel
theorem d_M_readToken_157 : decode b_M_readToken 157 = .ok (.putfield 126, 3) := by decide +kernel
theorem d_M_readToken_160 : decode b_M_readToken 160 = .ok (.aload_n 0, 1) := by decide +kernel
theorem d_M_readToken_161 : decode b_M_readToken 161 = .ok (.dup, 1) := by decide +kernel
theorem d_M_readToken_162 : decode b_M_readToken 162 = .ok (.getfield 114, 3) := by decide +kernel
theorem d_M_readToken_165 : decode b_M_readToken 165 = .ok (.iconst 1, 1) := by decide +kernel
theorem d_M_readToken_166 : decode b_M_readToken 166 = .ok (.iadd, 1) := by decide +kernel
theorem d_M_readToken_167 : decode b_M_readToken 167 = .ok (.putfield 114, 3) := by decide +kernel
theorem d_M_readToken_170 : decode b_M_readToken 170 = .ok (.return_, 1) := by decide +kernel
set_option maxHeartbeats 4000000 in
set_option maxRecDepth 100000 in
theorem c_M_readToken (l : Launch) (D : va_G) (cI cJ cB cZ : ClassId) (aM m_text m_paper m_firstHalf m_secondHalf m_stored m_proved m_written m_places m_levelKind m_levelStart m_levelApp m_levelHad m_levelScope m_levelId m_levelFirst m_levelSecond m_scopeFirst m_scopeSecond m_scopeId m_made m_typeOf m_tasks m_todo m_renamed m_bound m_markA m_markB m_line : Nat) (v_thrown v_came v_fault v_place v_papered v_constants v_token v_tokenAt v_end v_second v_ids v_nodes v_opens v_levelOpens v_start v_app v_behind v_level v_scope v_top v_left v_waits v_fresh v_changed v_changedTo v_out v_counted v_printed v_questionAt : Int32) (v_nameFirst v_nameSecond : Int64) : Cv l D (tyl cI cJ cB cZ) y_M_readToken b_M_readToken 2 ({ frames := 0, cells := 0, slots := 0, locals := 0 } : Room) [.ref aM] [(aM, .inr (10, [.int v_thrown, .ref m_text, .int (nI 0), .int v_came, .int v_fault, .int v_place, .ref m_paper, .int v_papered, .int v_constants, .ref m_firstHalf, .ref m_secondHalf, .ref m_stored, .ref m_proved, .int (nI 0), .int v_token, .int v_tokenAt, .long v_nameFirst, .long v_nameSecond, .ref m_written, .ref m_places, .int v_end, .int v_second, .int v_ids, .int v_nodes, .int v_opens, .int v_levelOpens, .int v_start, .int v_app, .int v_behind, .ref m_levelKind, .ref m_levelStart, .ref m_levelApp, .ref m_levelHad, .ref m_levelScope, .ref m_levelId, .ref m_levelFirst, .ref m_levelSecond, .int v_level, .ref m_scopeFirst, .ref m_scopeSecond, .ref m_scopeId, .int v_scope, .ref m_made, .int v_top, .ref m_typeOf, .ref m_tasks, .int v_left, .ref m_todo, .int v_waits, .ref m_renamed, .ref m_bound, .int v_fresh, .int v_changed, .int v_changedTo, .int v_out, .int v_counted, .ref m_markA, .ref m_markB, .ref m_line, .int v_printed, .int v_questionAt]))] (fun u => u = [(aM, .inr (10, [.int v_thrown, .ref m_text, .int (nI 0), .int v_came, .int v_fault, .int v_place, .ref m_paper, .int v_papered, .int v_constants, .ref m_firstHalf, .ref m_secondHalf, .ref m_stored, .ref m_proved, .int (nI 0), .int (nI 0), .int (nI 0), .long v_nameFirst, .long v_nameSecond, .ref m_written, .ref m_places, .int v_end, .int v_second, .int v_ids, .int v_nodes, .int v_opens, .int v_levelOpens, .int v_start, .int v_app, .int v_behind, .ref m_levelKind, .ref m_levelStart, .ref m_levelApp, .ref m_levelHad, .ref m_levelScope, .ref m_levelId, .ref m_levelFirst, .ref m_levelSecond, .int v_level, .ref m_scopeFirst, .ref m_scopeSecond, .ref m_scopeId, .int v_scope, .ref m_made, .int v_top, .ref m_typeOf, .ref m_tasks, .int v_left, .ref m_todo, .int v_waits, .ref m_renamed, .ref m_bound, .int v_fresh, .int v_changed, .int v_changedTo, .int v_out, .int v_counted, .ref m_markA, .ref m_markB, .ref m_line, .int v_printed, .int v_questionAt]))]) := by
  refine met_v (own := "ProofReaderModel") (by decide) rfl (Nat.le_of_ble_eq_true rfl) ?_
  intro p e s m args below meth c A Q S hin hA ret ls hl hW
  have hl : lv_has ls 2 [(0, .ref aM)] := hl
  have hW : Wd D (tyl cI cJ cB cZ) A s s.heap s.heap [] [(aM, .inr (10, [.int v_thrown, .ref m_text, .int (nI 0), .int v_came, .int v_fault, .int v_place, .ref m_paper, .int v_papered, .int v_constants, .ref m_firstHalf, .ref m_secondHalf, .ref m_stored, .ref m_proved, .int (nI 0), .int v_token, .int v_tokenAt, .long v_nameFirst, .long v_nameSecond, .ref m_written, .ref m_places, .int v_end, .int v_second, .int v_ids, .int v_nodes, .int v_opens, .int v_levelOpens, .int v_start, .int v_app, .int v_behind, .ref m_levelKind, .ref m_levelStart, .ref m_levelApp, .ref m_levelHad, .ref m_levelScope, .ref m_levelId, .ref m_levelFirst, .ref m_levelSecond, .int v_level, .ref m_scopeFirst, .ref m_scopeSecond, .ref m_scopeId, .int v_scope, .ref m_made, .int v_top, .ref m_typeOf, .ref m_tasks, .int v_left, .ref m_todo, .int v_waits, .ref m_renamed, .ref m_bound, .int v_fresh, .int v_changed, .int v_changedTo, .int v_out, .int v_counted, .ref m_markA, .ref m_markB, .ref m_line, .int v_printed, .int v_questionAt]))] := hW
  refine lv_aload_n S.1 S.2.1 d_M_readToken_0 rfl (lv_at hl 0 rfl) ?_
  refine g_get i_M S hW 0 rfl rfl 13 (by decide) kf_M_114 rfl d_M_readToken_1 ?_
  refine lv_aload_n S.1 S.2.1 d_M_readToken_4 rfl (lv_at hl 0 rfl) ?_
  refine g_get i_M S hW 0 rfl rfl 2 (by decide) kf_M_117 rfl d_M_readToken_5 ?_
  refine lv_icmp_ge (tgt := 38) S.1 S.2.1 d_M_readToken_8 (by decide) (fun _ => ?_) (fun h => absurd h (by decide))
  refine lv_aload_n S.1 S.2.1 d_M_readToken_38 rfl (lv_at hl 0 rfl) ?_
  refine lv_aload_n S.1 S.2.1 d_M_readToken_39 rfl (lv_at hl 0 rfl) ?_
  refine g_get i_M S hW 0 rfl rfl 13 (by decide) kf_M_114 rfl d_M_readToken_40 ?_
  refine g_put (ws2 := [(aM, .inr (10, [.int v_thrown, .ref m_text, .int (nI 0), .int v_came, .int v_fault, .int v_place, .ref m_paper, .int v_papered, .int v_constants, .ref m_firstHalf, .ref m_secondHalf, .ref m_stored, .ref m_proved, .int (nI 0), .int v_token, .int (nI 0), .long v_nameFirst, .long v_nameSecond, .ref m_written, .ref m_places, .int v_end, .int v_second, .int v_ids, .int v_nodes, .int v_opens, .int v_levelOpens, .int v_start, .int v_app, .int v_behind, .ref m_levelKind, .ref m_levelStart, .ref m_levelApp, .ref m_levelHad, .ref m_levelScope, .ref m_levelId, .ref m_levelFirst, .ref m_levelSecond, .int v_level, .ref m_scopeFirst, .ref m_scopeSecond, .ref m_scopeId, .int v_scope, .ref m_made, .int v_top, .ref m_typeOf, .ref m_tasks, .int v_left, .ref m_todo, .int v_waits, .ref m_renamed, .ref m_bound, .int v_fresh, .int v_changed, .int v_changedTo, .int v_out, .int v_counted, .ref m_markA, .ref m_markB, .ref m_line, .int v_printed, .int v_questionAt]))]) i_M ft_M ft_M_ok n_M S hW 0 rfl rfl 15 (by decide) kf_M_129 rfl rfl rfl (Nat.le_of_ble_eq_true rfl) rfl d_M_readToken_43 (fun H locs hW => ?_)
  refine lv_aload_n S.1 S.2.1 d_M_readToken_46 rfl (lv_at hl 0 rfl) ?_
  refine g_get i_M S hW 0 rfl rfl 13 (by decide) kf_M_114 rfl d_M_readToken_47 ?_
  refine lv_aload_n S.1 S.2.1 d_M_readToken_50 rfl (lv_at hl 0 rfl) ?_
  refine g_get i_M S hW 0 rfl rfl 2 (by decide) kf_M_117 rfl d_M_readToken_51 ?_
  refine lv_icmp_ne (tgt := 63) S.1 S.2.1 d_M_readToken_54 (by decide) (fun h => absurd h (by decide)) (fun _ => ?_)
  refine lv_aload_n S.1 S.2.1 d_M_readToken_57 rfl (lv_at hl 0 rfl) ?_
  refine lv_iconst (v := (nI 0)) S.1 S.2.1 d_M_readToken_58 (by decide) ?_
  refine g_put (ws2 := [(aM, .inr (10, [.int v_thrown, .ref m_text, .int (nI 0), .int v_came, .int v_fault, .int v_place, .ref m_paper, .int v_papered, .int v_constants, .ref m_firstHalf, .ref m_secondHalf, .ref m_stored, .ref m_proved, .int (nI 0), .int (nI 0), .int (nI 0), .long v_nameFirst, .long v_nameSecond, .ref m_written, .ref m_places, .int v_end, .int v_second, .int v_ids, .int v_nodes, .int v_opens, .int v_levelOpens, .int v_start, .int v_app, .int v_behind, .ref m_levelKind, .ref m_levelStart, .ref m_levelApp, .ref m_levelHad, .ref m_levelScope, .ref m_levelId, .ref m_levelFirst, .ref m_levelSecond, .int v_level, .ref m_scopeFirst, .ref m_scopeSecond, .ref m_scopeId, .int v_scope, .ref m_made, .int v_top, .ref m_typeOf, .ref m_tasks, .int v_left, .ref m_todo, .int v_waits, .ref m_renamed, .ref m_bound, .int v_fresh, .int v_changed, .int v_changedTo, .int v_out, .int v_counted, .ref m_markA, .ref m_markB, .ref m_line, .int v_printed, .int v_questionAt]))]) i_M ft_M ft_M_ok n_M S hW 0 rfl rfl 14 (by decide) kf_M_126 rfl rfl rfl (Nat.le_of_ble_eq_true rfl) rfl d_M_readToken_59 (fun H locs hW => ?_)
  exact ret _ _ _ _ _ d_M_readToken_62 rfl hW
theorem d_M_read_0 : decode b_M_read 0 = .ok (.aload_n 0, 1) := by decide +kernel
theorem d_M_read_1 : decode b_M_read 1 = .ok (.iconst 0, 1) := by decide +kernel
theorem d_M_read_2 : decode b_M_read 2 = .ok (.putfield 104, 3) := by decide +kernel
theorem d_M_read_5 : decode b_M_read 5 = .ok (.aload_n 0, 1) := by decide +kernel
theorem d_M_read_6 : decode b_M_read 6 = .ok (.iconst 0, 1) := by decide +kernel
theorem d_M_read_7 : decode b_M_read 7 = .ok (.putfield 138, 3) := by decide +kernel
theorem d_M_read_10 : decode b_M_read 10 = .ok (.aload_n 0, 1) := by decide +kernel
theorem d_M_read_11 : decode b_M_read 11 = .ok (.iconst (-1), 1) := by decide +kernel
theorem d_M_read_12 : decode b_M_read 12 = .ok (.putfield 13, 3) := by decide +kernel
theorem d_M_read_15 : decode b_M_read 15 = .ok (.aload_n 0, 1) := by decide +kernel
theorem d_M_read_16 : decode b_M_read 16 = .ok (.iconst 0, 1) := by decide +kernel
theorem d_M_read_17 : decode b_M_read 17 = .ok (.putfield 114, 3) := by decide +kernel
theorem d_M_read_20 : decode b_M_read 20 = .ok (.iconst 0, 1) := by decide +kernel
theorem d_M_read_21 : decode b_M_read 21 = .ok (.istore_n 1, 1) := by decide +kernel
theorem d_M_read_22 : decode b_M_read 22 = .ok (.iconst 1, 1) := by decide +kernel
theorem d_M_read_23 : decode b_M_read 23 = .ok (.istore_n 2, 1) := by decide +kernel
theorem d_M_read_24 : decode b_M_read 24 = .ok (.iconst 1, 1) := by decide +kernel
theorem d_M_read_25 : decode b_M_read 25 = .ok (.istore_n 3, 1) := by decide +kernel
theorem d_M_read_26 : decode b_M_read 26 = .ok (.iload_n 3, 1) := by decide +kernel
theorem d_M_read_27 : decode b_M_read 27 = .ok (.ifCond .eq 77, 3) := by decide +kernel
theorem d_M_read_30 : decode b_M_read 30 = .ok (.aload_n 0, 1) := by decide +kernel
theorem d_M_read_31 : decode b_M_read 31 = .ok (.invokevirtual 145, 3) := by decide +kernel
theorem d_M_read_34 : decode b_M_read 34 = .ok (.aload_n 0, 1) := by decide +kernel
theorem d_M_read_35 : decode b_M_read 35 = .ok (.getfield 126, 3) := by decide +kernel
theorem d_M_read_38 : decode b_M_read 38 = .ok (.ifCond .eq 7, 3) := by decide +kernel
theorem d_M_read_41 : decode b_M_read 41 = .ok (.iconst 1, 1) := by decide +kernel
theorem d_M_read_42 : decode b_M_read 42 = .ok (.goto 4, 3) := by decide +kernel
theorem d_M_read_45 : decode b_M_read 45 = .ok (.iconst 0, 1) := by decide +kernel
theorem d_M_read_46 : decode b_M_read 46 = .ok (.istore_n 3, 1) := by decide +kernel
theorem d_M_read_47 : decode b_M_read 47 = .ok (.iload_n 3, 1) := by decide +kernel
theorem d_M_read_48 : decode b_M_read 48 = .ok (.ifCond .eq (-22), 3) := by decide +kernel
theorem d_M_read_51 : decode b_M_read 51 = .ok (.aload_n 0, 1) := by decide +kernel
theorem d_M_read_52 : decode b_M_read 52 = .ok (.getfield 126, 3) := by decide +kernel
theorem d_M_read_55 : decode b_M_read 55 = .ok (.iconst 1, 1) := by decide +kernel
theorem d_M_read_56 : decode b_M_read 56 = .ok (.if_icmp .ne 10, 3) := by decide +kernel
theorem d_M_read_59 : decode b_M_read 59 = .ok (.aload_n 0, 1) := by decide +kernel
theorem d_M_read_60 : decode b_M_read 60 = .ok (.invokevirtual 358, 3) := by decide +kernel
theorem d_M_read_63 : decode b_M_read 63 = .ok (.goto 23, 3) := by decide +kernel
theorem d_M_read_66 : decode b_M_read 66 = .ok (.aload_n 0, 1) := by decide +kernel
theorem d_M_read_67 : decode b_M_read 67 = .ok (.getfield 126, 3) := by decide +kernel
theorem d_M_read_70 : decode b_M_read 70 = .ok (.bipush 63, 2) := by decide +kernel
theorem d_M_read_72 : decode b_M_read 72 = .ok (.if_icmp .ne 10, 3) := by decide +kernel
theorem d_M_read_75 : decode b_M_read 75 = .ok (.aload_n 0, 1) := by decide +kernel
theorem d_M_read_76 : decode b_M_read 76 = .ok (.invokevirtual 361, 3) := by decide +kernel
theorem d_M_read_79 : decode b_M_read 79 = .ok (.goto 7, 3) := by decide +kernel
theorem d_M_read_82 : decode b_M_read 82 = .ok (.aload_n 0, 1) := by decide +kernel
theorem d_M_read_83 : decode b_M_read 83 = .ok (.invokevirtual 148, 3) := by decide +kernel
theorem d_M_read_86 : decode b_M_read 86 = .ok (.istore_n 2, 1) := by decide +kernel
theorem d_M_read_87 : decode b_M_read 87 = .ok (.iload_n 2, 1) := by decide +kernel
theorem d_M_read_88 : decode b_M_read 88 = .ok (.istore_n 3, 1) := by decide +kernel
theorem d_M_read_89 : decode b_M_read 89 = .ok (.iload_n 2, 1) := by decide +kernel
theorem d_M_read_90 : decode b_M_read 90 = .ok (.ifCond .eq 9, 3) := by decide +kernel
theorem d_M_read_93 : decode b_M_read 93 = .ok (.iload_n 1, 1) := by decide +kernel
theorem d_M_read_94 : decode b_M_read 94 = .ok (.iconst 1, 1) := by decide +kernel
theorem d_M_read_95 : decode b_M_read 95 = .ok (.iadd, 1) := by decide +kernel
theorem d_M_read_96 : decode b_M_read 96 = .ok (.goto 4, 3) := by decide +kernel
theorem d_M_read_99 : decode b_M_read 99 = .ok (.iload_n 1, 1) := by decide +kernel
theorem d_M_read_100 : decode b_M_read 100 = .ok (.istore_n 1, 1) := by decide +kernel
theorem d_M_read_101 : decode b_M_read 101 = .ok (.goto (-75), 3) := by decide +kernel
theorem d_M_read_104 : decode b_M_read 104 = .ok (.aload_n 0, 1) := by decide +kernel
theorem d_M_read_105 : decode b_M_read 105 = .ok (.iconst 0, 1) := by decide +kernel
theorem d_M_read_106 : decode b_M_read 106 = .ok (.putfield 117, 3) := by decide +kernel
theorem d_M_read_109 : decode b_M_read 109 = .ok (.iload_n 2, 1) := by decide +kernel
theorem d_M_read_110 : decode b_M_read 110 = .ok (.ifCond .eq 7, 3) := by decide +kernel
theorem d_M_read_113 : decode b_M_read 113 = .ok (.iload_n 1, 1) := by decide +kernel
theorem d_M_read_114 : decode b_M_read 114 = .ok (.goto 4, 3) := by decide +kernel
theorem d_M_read_117 : decode b_M_read 117 = .ok (.iconst (-1), 1) := by decide +kernel
theorem d_M_read_118 : decode b_M_read 118 = .ok (.ireturn, 1) := by decide +kernel
set_option maxHeartbeats 4000000 in
set_option maxRecDepth 100000 in
theorem c_M_read (l : Launch) (D : va_G) (cI cJ cB cZ : ClassId) (aM m_text m_paper m_firstHalf m_secondHalf m_stored m_proved m_written m_places m_levelKind m_levelStart m_levelApp m_levelHad m_levelScope m_levelId m_levelFirst m_levelSecond m_scopeFirst m_scopeSecond m_scopeId m_made m_typeOf m_tasks m_todo m_renamed m_bound m_markA m_markB m_line : Nat) (v_thrown v_came v_fault v_place v_papered v_constants v_at v_token v_tokenAt v_end v_second v_ids v_nodes v_opens v_levelOpens v_start v_app v_behind v_level v_scope v_top v_left v_waits v_fresh v_changed v_changedTo v_out v_counted v_printed v_questionAt : Int32) (v_nameFirst v_nameSecond : Int64) : Ci l D (tyl cI cJ cB cZ) y_M_read b_M_read 4 (some .int) ({ frames := 1, cells := 0, slots := 0, locals := 21 } : Room) [.ref aM] [(aM, .inr (10, [.int v_thrown, .ref m_text, .int (nI 0), .int v_came, .int v_fault, .int v_place, .ref m_paper, .int v_papered, .int v_constants, .ref m_firstHalf, .ref m_secondHalf, .ref m_stored, .ref m_proved, .int v_at, .int v_token, .int v_tokenAt, .long v_nameFirst, .long v_nameSecond, .ref m_written, .ref m_places, .int v_end, .int v_second, .int v_ids, .int v_nodes, .int v_opens, .int v_levelOpens, .int v_start, .int v_app, .int v_behind, .ref m_levelKind, .ref m_levelStart, .ref m_levelApp, .ref m_levelHad, .ref m_levelScope, .ref m_levelId, .ref m_levelFirst, .ref m_levelSecond, .int v_level, .ref m_scopeFirst, .ref m_scopeSecond, .ref m_scopeId, .int v_scope, .ref m_made, .int v_top, .ref m_typeOf, .ref m_tasks, .int v_left, .ref m_todo, .int v_waits, .ref m_renamed, .ref m_bound, .int v_fresh, .int v_changed, .int v_changedTo, .int v_out, .int v_counted, .ref m_markA, .ref m_markB, .ref m_line, .int v_printed, .int v_questionAt]))] (fun r u => r = (nI 0) ∧ u = [(aM, .inr (10, [.int (nI 0), .ref m_text, .int (nI 0), .int v_came, .int (nI 0), .int (-1), .ref m_paper, .int v_papered, .int v_constants, .ref m_firstHalf, .ref m_secondHalf, .ref m_stored, .ref m_proved, .int (nI 0), .int (nI 0), .int (nI 0), .long v_nameFirst, .long v_nameSecond, .ref m_written, .ref m_places, .int v_end, .int v_second, .int v_ids, .int v_nodes, .int v_opens, .int v_levelOpens, .int v_start, .int v_app, .int v_behind, .ref m_levelKind, .ref m_levelStart, .ref m_levelApp, .ref m_levelHad, .ref m_levelScope, .ref m_levelId, .ref m_levelFirst, .ref m_levelSecond, .int v_level, .ref m_scopeFirst, .ref m_scopeSecond, .ref m_scopeId, .int v_scope, .ref m_made, .int v_top, .ref m_typeOf, .ref m_tasks, .int v_left, .ref m_todo, .int v_waits, .ref m_renamed, .ref m_bound, .int v_fresh, .int v_changed, .int v_changedTo, .int v_out, .int v_counted, .ref m_markA, .ref m_markB, .ref m_line, .int v_printed, .int v_questionAt]))]) := by
  refine met_i (own := "ProofReaderModel") (by decide) rfl (Nat.le_of_ble_eq_true rfl) ?_
  intro p e s m args below meth c A Q S hA ret ls hl hW
  have hl : lv_has ls 4 [(0, .ref aM)] := hl
  have hW : Wd D (tyl cI cJ cB cZ) A s s.heap s.heap [] [(aM, .inr (10, [.int v_thrown, .ref m_text, .int (nI 0), .int v_came, .int v_fault, .int v_place, .ref m_paper, .int v_papered, .int v_constants, .ref m_firstHalf, .ref m_secondHalf, .ref m_stored, .ref m_proved, .int v_at, .int v_token, .int v_tokenAt, .long v_nameFirst, .long v_nameSecond, .ref m_written, .ref m_places, .int v_end, .int v_second, .int v_ids, .int v_nodes, .int v_opens, .int v_levelOpens, .int v_start, .int v_app, .int v_behind, .ref m_levelKind, .ref m_levelStart, .ref m_levelApp, .ref m_levelHad, .ref m_levelScope, .ref m_levelId, .ref m_levelFirst, .ref m_levelSecond, .int v_level, .ref m_scopeFirst, .ref m_scopeSecond, .ref m_scopeId, .int v_scope, .ref m_made, .int v_top, .ref m_typeOf, .ref m_tasks, .int v_left, .ref m_todo, .int v_waits, .ref m_renamed, .ref m_bound, .int v_fresh, .int v_changed, .int v_changedTo, .int v_out, .int v_counted, .ref m_markA, .ref m_markB, .ref m_line, .int v_printed, .int v_questionAt]))] := hW
  refine lv_aload_n S.1 S.2.1 d_M_read_0 rfl (lv_at hl 0 rfl) ?_
  refine lv_iconst (v := (nI 0)) S.1 S.2.1 d_M_read_1 (by decide) ?_
  refine g_put (ws2 := [(aM, .inr (10, [.int (nI 0), .ref m_text, .int (nI 0), .int v_came, .int v_fault, .int v_place, .ref m_paper, .int v_papered, .int v_constants, .ref m_firstHalf, .ref m_secondHalf, .ref m_stored, .ref m_proved, .int v_at, .int v_token, .int v_tokenAt, .long v_nameFirst, .long v_nameSecond, .ref m_written, .ref m_places, .int v_end, .int v_second, .int v_ids, .int v_nodes, .int v_opens, .int v_levelOpens, .int v_start, .int v_app, .int v_behind, .ref m_levelKind, .ref m_levelStart, .ref m_levelApp, .ref m_levelHad, .ref m_levelScope, .ref m_levelId, .ref m_levelFirst, .ref m_levelSecond, .int v_level, .ref m_scopeFirst, .ref m_scopeSecond, .ref m_scopeId, .int v_scope, .ref m_made, .int v_top, .ref m_typeOf, .ref m_tasks, .int v_left, .ref m_todo, .int v_waits, .ref m_renamed, .ref m_bound, .int v_fresh, .int v_changed, .int v_changedTo, .int v_out, .int v_counted, .ref m_markA, .ref m_markB, .ref m_line, .int v_printed, .int v_questionAt]))]) i_M ft_M ft_M_ok n_M S hW 0 rfl rfl 0 (by decide) kf_M_104 rfl rfl rfl (Nat.le_of_ble_eq_true rfl) rfl d_M_read_2 (fun H locs hW => ?_)
  refine lv_aload_n S.1 S.2.1 d_M_read_5 rfl (lv_at hl 0 rfl) ?_
  refine lv_iconst (v := (nI 0)) S.1 S.2.1 d_M_read_6 (by decide) ?_
  refine g_put (ws2 := [(aM, .inr (10, [.int (nI 0), .ref m_text, .int (nI 0), .int v_came, .int (nI 0), .int v_place, .ref m_paper, .int v_papered, .int v_constants, .ref m_firstHalf, .ref m_secondHalf, .ref m_stored, .ref m_proved, .int v_at, .int v_token, .int v_tokenAt, .long v_nameFirst, .long v_nameSecond, .ref m_written, .ref m_places, .int v_end, .int v_second, .int v_ids, .int v_nodes, .int v_opens, .int v_levelOpens, .int v_start, .int v_app, .int v_behind, .ref m_levelKind, .ref m_levelStart, .ref m_levelApp, .ref m_levelHad, .ref m_levelScope, .ref m_levelId, .ref m_levelFirst, .ref m_levelSecond, .int v_level, .ref m_scopeFirst, .ref m_scopeSecond, .ref m_scopeId, .int v_scope, .ref m_made, .int v_top, .ref m_typeOf, .ref m_tasks, .int v_left, .ref m_todo, .int v_waits, .ref m_renamed, .ref m_bound, .int v_fresh, .int v_changed, .int v_changedTo, .int v_out, .int v_counted, .ref m_markA, .ref m_markB, .ref m_line, .int v_printed, .int v_questionAt]))]) i_M ft_M ft_M_ok n_M S hW 0 rfl rfl 4 (by decide) kf_M_138 rfl rfl rfl (Nat.le_of_ble_eq_true rfl) rfl d_M_read_7 (fun H locs hW => ?_)
  refine lv_aload_n S.1 S.2.1 d_M_read_10 rfl (lv_at hl 0 rfl) ?_
  refine lv_iconst (v := (-1)) S.1 S.2.1 d_M_read_11 (by decide) ?_
  refine g_put (ws2 := [(aM, .inr (10, [.int (nI 0), .ref m_text, .int (nI 0), .int v_came, .int (nI 0), .int (-1), .ref m_paper, .int v_papered, .int v_constants, .ref m_firstHalf, .ref m_secondHalf, .ref m_stored, .ref m_proved, .int v_at, .int v_token, .int v_tokenAt, .long v_nameFirst, .long v_nameSecond, .ref m_written, .ref m_places, .int v_end, .int v_second, .int v_ids, .int v_nodes, .int v_opens, .int v_levelOpens, .int v_start, .int v_app, .int v_behind, .ref m_levelKind, .ref m_levelStart, .ref m_levelApp, .ref m_levelHad, .ref m_levelScope, .ref m_levelId, .ref m_levelFirst, .ref m_levelSecond, .int v_level, .ref m_scopeFirst, .ref m_scopeSecond, .ref m_scopeId, .int v_scope, .ref m_made, .int v_top, .ref m_typeOf, .ref m_tasks, .int v_left, .ref m_todo, .int v_waits, .ref m_renamed, .ref m_bound, .int v_fresh, .int v_changed, .int v_changedTo, .int v_out, .int v_counted, .ref m_markA, .ref m_markB, .ref m_line, .int v_printed, .int v_questionAt]))]) i_M ft_M ft_M_ok n_M S hW 0 rfl rfl 5 (by decide) kf_M_13 rfl rfl rfl (Nat.le_of_ble_eq_true rfl) rfl d_M_read_12 (fun H locs hW => ?_)
  refine lv_aload_n S.1 S.2.1 d_M_read_15 rfl (lv_at hl 0 rfl) ?_
  refine lv_iconst (v := (nI 0)) S.1 S.2.1 d_M_read_16 (by decide) ?_
  refine g_put (ws2 := [(aM, .inr (10, [.int (nI 0), .ref m_text, .int (nI 0), .int v_came, .int (nI 0), .int (-1), .ref m_paper, .int v_papered, .int v_constants, .ref m_firstHalf, .ref m_secondHalf, .ref m_stored, .ref m_proved, .int (nI 0), .int v_token, .int v_tokenAt, .long v_nameFirst, .long v_nameSecond, .ref m_written, .ref m_places, .int v_end, .int v_second, .int v_ids, .int v_nodes, .int v_opens, .int v_levelOpens, .int v_start, .int v_app, .int v_behind, .ref m_levelKind, .ref m_levelStart, .ref m_levelApp, .ref m_levelHad, .ref m_levelScope, .ref m_levelId, .ref m_levelFirst, .ref m_levelSecond, .int v_level, .ref m_scopeFirst, .ref m_scopeSecond, .ref m_scopeId, .int v_scope, .ref m_made, .int v_top, .ref m_typeOf, .ref m_tasks, .int v_left, .ref m_todo, .int v_waits, .ref m_renamed, .ref m_bound, .int v_fresh, .int v_changed, .int v_changedTo, .int v_out, .int v_counted, .ref m_markA, .ref m_markB, .ref m_line, .int v_printed, .int v_questionAt]))]) i_M ft_M ft_M_ok n_M S hW 0 rfl rfl 13 (by decide) kf_M_114 rfl rfl rfl (Nat.le_of_ble_eq_true rfl) rfl d_M_read_17 (fun H locs hW => ?_)
  refine lv_iconst (v := (nI 0)) S.1 S.2.1 d_M_read_20 (by decide) ?_
  refine lv_istore_n (lv' := [(1, .int (nI 0)), (0, .ref aM)]) S.1 S.2.1 d_M_read_21 rfl hl (by decide) rfl (fun ls hl => ?_)
  refine lv_iconst (v := (nI 1)) S.1 S.2.1 d_M_read_22 (by decide) ?_
  refine lv_istore_n (lv' := [(2, .int (nI 1)), (1, .int (nI 0)), (0, .ref aM)]) S.1 S.2.1 d_M_read_23 rfl hl (by decide) rfl (fun ls hl => ?_)
  refine lv_iconst (v := (nI 1)) S.1 S.2.1 d_M_read_24 (by decide) ?_
  refine lv_istore_n (lv' := [(3, .int (nI 1)), (2, .int (nI 1)), (1, .int (nI 0)), (0, .ref aM)]) S.1 S.2.1 d_M_read_25 rfl hl (by decide) rfl (fun ls hl => ?_)
  refine lv_iload_n S.1 S.2.1 d_M_read_26 rfl (lv_at hl 0 rfl) ?_
  refine lv_if_eq (tgt := 104) S.1 S.2.1 d_M_read_27 (by decide) (fun h => absurd h (by decide)) (fun _ => ?_)
  refine lv_aload_n S.1 S.2.1 d_M_read_30 rfl (lv_at hl 3 rfl) ?_
  refine callV_v (wr := []) (wc := [(aM, .inr (10, [.int (nI 0), .ref m_text, .int (nI 0), .int v_came, .int (nI 0), .int (-1), .ref m_paper, .int v_papered, .int v_constants, .ref m_firstHalf, .ref m_secondHalf, .ref m_stored, .ref m_proved, .int (nI 0), .int v_token, .int v_tokenAt, .long v_nameFirst, .long v_nameSecond, .ref m_written, .ref m_places, .int v_end, .int v_second, .int v_ids, .int v_nodes, .int v_opens, .int v_levelOpens, .int v_start, .int v_app, .int v_behind, .ref m_levelKind, .ref m_levelStart, .ref m_levelApp, .ref m_levelHad, .ref m_levelScope, .ref m_levelId, .ref m_levelFirst, .ref m_levelSecond, .int v_level, .ref m_scopeFirst, .ref m_scopeSecond, .ref m_scopeId, .int v_scope, .ref m_made, .int v_top, .ref m_typeOf, .ref m_tasks, .int v_left, .ref m_todo, .int v_waits, .ref m_renamed, .ref m_bound, .int v_fresh, .int v_changed, .int v_changedTo, .int v_out, .int v_counted, .ref m_markA, .ref m_markB, .ref m_line, .int v_printed, .int v_questionAt]))]) (np := 0) (As := []) (rest := []) (c_M_readToken l D cI cJ cB cZ aM m_text m_paper m_firstHalf m_secondHalf m_stored m_proved m_written m_places m_levelKind m_levelStart m_levelApp m_levelHad m_levelScope m_levelId m_levelFirst m_levelSecond m_scopeFirst m_scopeSecond m_scopeId m_made m_typeOf m_tasks m_todo m_renamed m_bound m_markA m_markB m_line (nI 0) v_came (nI 0) (-1) v_papered v_constants v_token v_tokenAt v_end v_second v_ids v_nodes v_opens v_levelOpens v_start v_app v_behind v_level v_scope v_top v_left v_waits v_fresh v_changed v_changedTo v_out v_counted v_printed v_questionAt v_nameFirst v_nameSecond ) km_M_145 ki_M_readToken kv_M_readToken kz_M kk_M_readToken (by decide +kernel) S hW hA ⟨Nat.le_of_ble_eq_true rfl, Nat.le_of_ble_eq_true rfl⟩ ⟨Nat.le_of_ble_eq_true rfl, Nat.le_of_ble_eq_true rfl⟩ rfl 0 rfl [0] [] rfl (by decide) rfl (by decide) (by decide) rfl hl.1 rfl (Nat.le_of_ble_eq_true rfl) d_M_read_31 (fun u H locs hp hW => ?_)
  obtain rfl := hp
  have hW : Wd D (tyl cI cJ cB cZ) A s s.heap H locs [(aM, .inr (10, [.int (nI 0), .ref m_text, .int (nI 0), .int v_came, .int (nI 0), .int (-1), .ref m_paper, .int v_papered, .int v_constants, .ref m_firstHalf, .ref m_secondHalf, .ref m_stored, .ref m_proved, .int (nI 0), .int (nI 0), .int (nI 0), .long v_nameFirst, .long v_nameSecond, .ref m_written, .ref m_places, .int v_end, .int v_second, .int v_ids, .int v_nodes, .int v_opens, .int v_levelOpens, .int v_start, .int v_app, .int v_behind, .ref m_levelKind, .ref m_levelStart, .ref m_levelApp, .ref m_levelHad, .ref m_levelScope, .ref m_levelId, .ref m_levelFirst, .ref m_levelSecond, .int v_level, .ref m_scopeFirst, .ref m_scopeSecond, .ref m_scopeId, .int v_scope, .ref m_made, .int v_top, .ref m_typeOf, .ref m_tasks, .int v_left, .ref m_todo, .int v_waits, .ref m_renamed, .ref m_bound, .int v_fresh, .int v_changed, .int v_changedTo, .int v_out, .int v_counted, .ref m_markA, .ref m_markB, .ref m_line, .int v_printed, .int v_questionAt]))] := hW
  refine lv_aload_n S.1 S.2.1 d_M_read_34 rfl (lv_at hl 3 rfl) ?_
  refine g_get i_M S hW 0 rfl rfl 14 (by decide) kf_M_126 rfl d_M_read_35 ?_
  refine lv_if_eq (tgt := 45) S.1 S.2.1 d_M_read_38 (by decide) (fun _ => ?_) (fun h => absurd h (by decide))
  refine lv_iconst (v := (nI 0)) S.1 S.2.1 d_M_read_45 (by decide) ?_
  refine lv_istore_n (lv' := [(3, .int (nI 0)), (2, .int (nI 1)), (1, .int (nI 0)), (0, .ref aM)]) S.1 S.2.1 d_M_read_46 rfl hl (by decide) rfl (fun ls hl => ?_)
  refine lv_iload_n S.1 S.2.1 d_M_read_47 rfl (lv_at hl 0 rfl) ?_
  refine lv_if_eq (tgt := 26) S.1 S.2.1 d_M_read_48 (by decide) (fun _ => ?_) (fun h => absurd h (by decide))
  refine lv_iload_n S.1 S.2.1 d_M_read_26 rfl (lv_at hl 0 rfl) ?_
  refine lv_if_eq (tgt := 104) S.1 S.2.1 d_M_read_27 (by decide) (fun _ => ?_) (fun h => absurd h (by decide))
  refine lv_aload_n S.1 S.2.1 d_M_read_104 rfl (lv_at hl 3 rfl) ?_
  refine lv_iconst (v := (nI 0)) S.1 S.2.1 d_M_read_105 (by decide) ?_
  refine g_put (ws2 := [(aM, .inr (10, [.int (nI 0), .ref m_text, .int (nI 0), .int v_came, .int (nI 0), .int (-1), .ref m_paper, .int v_papered, .int v_constants, .ref m_firstHalf, .ref m_secondHalf, .ref m_stored, .ref m_proved, .int (nI 0), .int (nI 0), .int (nI 0), .long v_nameFirst, .long v_nameSecond, .ref m_written, .ref m_places, .int v_end, .int v_second, .int v_ids, .int v_nodes, .int v_opens, .int v_levelOpens, .int v_start, .int v_app, .int v_behind, .ref m_levelKind, .ref m_levelStart, .ref m_levelApp, .ref m_levelHad, .ref m_levelScope, .ref m_levelId, .ref m_levelFirst, .ref m_levelSecond, .int v_level, .ref m_scopeFirst, .ref m_scopeSecond, .ref m_scopeId, .int v_scope, .ref m_made, .int v_top, .ref m_typeOf, .ref m_tasks, .int v_left, .ref m_todo, .int v_waits, .ref m_renamed, .ref m_bound, .int v_fresh, .int v_changed, .int v_changedTo, .int v_out, .int v_counted, .ref m_markA, .ref m_markB, .ref m_line, .int v_printed, .int v_questionAt]))]) i_M ft_M ft_M_ok n_M S hW 0 rfl rfl 2 (by decide) kf_M_117 rfl rfl rfl (Nat.le_of_ble_eq_true rfl) rfl d_M_read_106 (fun H locs hW => ?_)
  refine lv_iload_n S.1 S.2.1 d_M_read_109 rfl (lv_at hl 1 rfl) ?_
  refine lv_if_eq (tgt := 117) S.1 S.2.1 d_M_read_110 (by decide) (fun h => absurd h (by decide)) (fun _ => ?_)
  refine lv_iload_n S.1 S.2.1 d_M_read_113 rfl (lv_at hl 2 rfl) ?_
  refine lv_goto (tgt := 118) S.1 S.2.1 d_M_read_114 (by decide) ?_
  exact ret _ _ _ _ _ _ d_M_read_118 rfl ⟨rfl, rfl⟩ hW
theorem d_M_paper_0 : decode b_M_paper 0 = .ok (.aload_n 0, 1) := by decide +kernel
theorem d_M_paper_1 : decode b_M_paper 1 = .ok (.iconst 0, 1) := by decide +kernel
theorem d_M_paper_2 : decode b_M_paper 2 = .ok (.putfield 104, 3) := by decide +kernel
theorem d_M_paper_5 : decode b_M_paper 5 = .ok (.lconst 0, 1) := by decide +kernel
theorem d_M_paper_6 : decode b_M_paper 6 = .ok (.lstore_n 2, 1) := by decide +kernel
theorem d_M_paper_7 : decode b_M_paper 7 = .ok (.iconst 0, 1) := by decide +kernel
theorem d_M_paper_8 : decode b_M_paper 8 = .ok (.istore 4, 2) := by decide +kernel
theorem d_M_paper_10 : decode b_M_paper 10 = .ok (.iload 4, 2) := by decide +kernel
theorem d_M_paper_12 : decode b_M_paper 12 = .ok (.bipush 8, 2) := by decide +kernel
theorem d_M_paper_14 : decode b_M_paper 14 = .ok (.if_icmp .ge 57, 3) := by decide +kernel
theorem d_M_paper_17 : decode b_M_paper 17 = .ok (.iload_n 1, 1) := by decide +kernel
theorem d_M_paper_18 : decode b_M_paper 18 = .ok (.i2l, 1) := by decide +kernel
theorem d_M_paper_19 : decode b_M_paper 19 = .ok (.iload 4, 2) := by decide +kernel
theorem d_M_paper_21 : decode b_M_paper 21 = .ok (.i2l, 1) := by decide +kernel
theorem d_M_paper_22 : decode b_M_paper 22 = .ok (.ladd, 1) := by decide +kernel
theorem d_M_paper_23 : decode b_M_paper 23 = .ok (.lstore 5, 2) := by decide +kernel
theorem d_M_paper_25 : decode b_M_paper 25 = .ok (.lload 5, 2) := by decide +kernel
theorem d_M_paper_27 : decode b_M_paper 27 = .ok (.lconst 0, 1) := by decide +kernel
theorem d_M_paper_28 : decode b_M_paper 28 = .ok (.lcmp, 1) := by decide +kernel
theorem d_M_paper_29 : decode b_M_paper 29 = .ok (.ifCond .lt 34, 3) := by decide +kernel
theorem d_M_paper_32 : decode b_M_paper 32 = .ok (.lload 5, 2) := by decide +kernel
theorem d_M_paper_34 : decode b_M_paper 34 = .ok (.aload_n 0, 1) := by decide +kernel
theorem d_M_paper_35 : decode b_M_paper 35 = .ok (.getfield 339, 3) := by decide +kernel
theorem d_M_paper_38 : decode b_M_paper 38 = .ok (.i2l, 1) := by decide +kernel
theorem d_M_paper_39 : decode b_M_paper 39 = .ok (.lcmp, 1) := by decide +kernel
theorem d_M_paper_40 : decode b_M_paper 40 = .ok (.ifCond .ge 23, 3) := by decide +kernel
theorem d_M_paper_43 : decode b_M_paper 43 = .ok (.lload_n 2, 1) := by decide +kernel
theorem d_M_paper_44 : decode b_M_paper 44 = .ok (.aload_n 0, 1) := by decide +kernel
theorem d_M_paper_45 : decode b_M_paper 45 = .ok (.getfield 17, 3) := by decide +kernel
theorem d_M_paper_48 : decode b_M_paper 48 = .ok (.lload 5, 2) := by decide +kernel
theorem d_M_paper_50 : decode b_M_paper 50 = .ok (.l2i, 1) := by decide +kernel
theorem d_M_paper_51 : decode b_M_paper 51 = .ok (.iaload, 1) := by decide +kernel
theorem d_M_paper_52 : decode b_M_paper 52 = .ok (.i2l, 1) := by decide +kernel
theorem d_M_paper_53 : decode b_M_paper 53 = .ok (.bipush 8, 2) := by decide +kernel
theorem d_M_paper_55 : decode b_M_paper 55 = .ok (.iload 4, 2) := by decide +kernel
theorem d_M_paper_57 : decode b_M_paper 57 = .ok (.imul, 1) := by decide +kernel
theorem d_M_paper_58 : decode b_M_paper 58 = .ok (.lshl, 1) := by decide +kernel
theorem d_M_paper_59 : decode b_M_paper 59 = .ok (.lor, 1) := by decide +kernel
theorem d_M_paper_60 : decode b_M_paper 60 = .ok (.goto 4, 3) := by decide +kernel
theorem d_M_paper_63 : decode b_M_paper 63 = .ok (.lload_n 2, 1) := by decide +kernel
theorem d_M_paper_64 : decode b_M_paper 64 = .ok (.lstore_n 2, 1) := by decide +kernel
theorem d_M_paper_65 : decode b_M_paper 65 = .ok (.iinc 4 1, 3) := by decide +kernel
theorem d_M_paper_68 : decode b_M_paper 68 = .ok (.goto (-58), 3) := by decide +kernel
theorem d_M_paper_71 : decode b_M_paper 71 = .ok (.lload_n 2, 1) := by decide +kernel
theorem d_M_paper_72 : decode b_M_paper 72 = .ok (.lreturn, 1) := by decide +kernel
set_option maxHeartbeats 4000000 in
set_option maxRecDepth 100000 in
theorem c_M_paper (l : Launch) (D : va_G) (cI cJ cB cZ : ClassId) (aM m_text m_paper m_firstHalf m_secondHalf m_stored m_proved m_written m_places m_levelKind m_levelStart m_levelApp m_levelHad m_levelScope m_levelId m_levelFirst m_levelSecond m_scopeFirst m_scopeSecond m_scopeId m_made m_typeOf m_tasks m_todo m_renamed m_bound m_markA m_markB m_line : Nat) (v_thrown v_length v_came v_fault v_place v_constants v_at v_token v_tokenAt v_end v_second v_ids v_nodes v_opens v_levelOpens v_start v_app v_behind v_level v_scope v_top v_left v_waits v_fresh v_changed v_changedTo v_out v_counted v_printed v_questionAt : Int32) (v_nameFirst v_nameSecond : Int64) (i : Int32) : Cl l D (tyl cI cJ cB cZ) y_M_paper b_M_paper 7 (some .long) ({ frames := 0, cells := 0, slots := 0, locals := 0 } : Room) [.ref aM, .int i] [(aM, .inr (10, [.int v_thrown, .ref m_text, .int v_length, .int v_came, .int v_fault, .int v_place, .ref m_paper, .int (nI 0), .int v_constants, .ref m_firstHalf, .ref m_secondHalf, .ref m_stored, .ref m_proved, .int v_at, .int v_token, .int v_tokenAt, .long v_nameFirst, .long v_nameSecond, .ref m_written, .ref m_places, .int v_end, .int v_second, .int v_ids, .int v_nodes, .int v_opens, .int v_levelOpens, .int v_start, .int v_app, .int v_behind, .ref m_levelKind, .ref m_levelStart, .ref m_levelApp, .ref m_levelHad, .ref m_levelScope, .ref m_levelId, .ref m_levelFirst, .ref m_levelSecond, .int v_level, .ref m_scopeFirst, .ref m_scopeSecond, .ref m_scopeId, .int v_scope, .ref m_made, .int v_top, .ref m_typeOf, .ref m_tasks, .int v_left, .ref m_todo, .int v_waits, .ref m_renamed, .ref m_bound, .int v_fresh, .int v_changed, .int v_changedTo, .int v_out, .int v_counted, .ref m_markA, .ref m_markB, .ref m_line, .int v_printed, .int v_questionAt]))] (fun r u => r = 0 ∧ u = [(aM, .inr (10, [.int (nI 0), .ref m_text, .int v_length, .int v_came, .int v_fault, .int v_place, .ref m_paper, .int (nI 0), .int v_constants, .ref m_firstHalf, .ref m_secondHalf, .ref m_stored, .ref m_proved, .int v_at, .int v_token, .int v_tokenAt, .long v_nameFirst, .long v_nameSecond, .ref m_written, .ref m_places, .int v_end, .int v_second, .int v_ids, .int v_nodes, .int v_opens, .int v_levelOpens, .int v_start, .int v_app, .int v_behind, .ref m_levelKind, .ref m_levelStart, .ref m_levelApp, .ref m_levelHad, .ref m_levelScope, .ref m_levelId, .ref m_levelFirst, .ref m_levelSecond, .int v_level, .ref m_scopeFirst, .ref m_scopeSecond, .ref m_scopeId, .int v_scope, .ref m_made, .int v_top, .ref m_typeOf, .ref m_tasks, .int v_left, .ref m_todo, .int v_waits, .ref m_renamed, .ref m_bound, .int v_fresh, .int v_changed, .int v_changedTo, .int v_out, .int v_counted, .ref m_markA, .ref m_markB, .ref m_line, .int v_printed, .int v_questionAt]))]) := by
  refine met_l (own := "ProofReaderModel") (by decide) rfl (Nat.le_of_ble_eq_true rfl) ?_
  intro p e s m args below meth c A Q S hA ret ls hl hW
  have hl : lv_has ls 7 [(0, .ref aM), (1, .int i)] := hl
  have hW : Wd D (tyl cI cJ cB cZ) A s s.heap s.heap [] [(aM, .inr (10, [.int v_thrown, .ref m_text, .int v_length, .int v_came, .int v_fault, .int v_place, .ref m_paper, .int (nI 0), .int v_constants, .ref m_firstHalf, .ref m_secondHalf, .ref m_stored, .ref m_proved, .int v_at, .int v_token, .int v_tokenAt, .long v_nameFirst, .long v_nameSecond, .ref m_written, .ref m_places, .int v_end, .int v_second, .int v_ids, .int v_nodes, .int v_opens, .int v_levelOpens, .int v_start, .int v_app, .int v_behind, .ref m_levelKind, .ref m_levelStart, .ref m_levelApp, .ref m_levelHad, .ref m_levelScope, .ref m_levelId, .ref m_levelFirst, .ref m_levelSecond, .int v_level, .ref m_scopeFirst, .ref m_scopeSecond, .ref m_scopeId, .int v_scope, .ref m_made, .int v_top, .ref m_typeOf, .ref m_tasks, .int v_left, .ref m_todo, .int v_waits, .ref m_renamed, .ref m_bound, .int v_fresh, .int v_changed, .int v_changedTo, .int v_out, .int v_counted, .ref m_markA, .ref m_markB, .ref m_line, .int v_printed, .int v_questionAt]))] := hW
  refine lv_aload_n S.1 S.2.1 d_M_paper_0 rfl (lv_at hl 0 rfl) ?_
  refine lv_iconst (v := (nI 0)) S.1 S.2.1 d_M_paper_1 (by decide) ?_
  refine g_put (ws2 := [(aM, .inr (10, [.int (nI 0), .ref m_text, .int v_length, .int v_came, .int v_fault, .int v_place, .ref m_paper, .int (nI 0), .int v_constants, .ref m_firstHalf, .ref m_secondHalf, .ref m_stored, .ref m_proved, .int v_at, .int v_token, .int v_tokenAt, .long v_nameFirst, .long v_nameSecond, .ref m_written, .ref m_places, .int v_end, .int v_second, .int v_ids, .int v_nodes, .int v_opens, .int v_levelOpens, .int v_start, .int v_app, .int v_behind, .ref m_levelKind, .ref m_levelStart, .ref m_levelApp, .ref m_levelHad, .ref m_levelScope, .ref m_levelId, .ref m_levelFirst, .ref m_levelSecond, .int v_level, .ref m_scopeFirst, .ref m_scopeSecond, .ref m_scopeId, .int v_scope, .ref m_made, .int v_top, .ref m_typeOf, .ref m_tasks, .int v_left, .ref m_todo, .int v_waits, .ref m_renamed, .ref m_bound, .int v_fresh, .int v_changed, .int v_changedTo, .int v_out, .int v_counted, .ref m_markA, .ref m_markB, .ref m_line, .int v_printed, .int v_questionAt]))]) i_M ft_M ft_M_ok n_M S hW 0 rfl rfl 0 (by decide) kf_M_104 rfl rfl rfl (Nat.le_of_ble_eq_true rfl) rfl d_M_paper_2 (fun H locs hW => ?_)
  refine lv_lconst (v := 0) S.1 S.2.1 d_M_paper_5 rfl ?_
  refine lv_lstore_n (lv' := [(2, .long 0), (0, .ref aM), (1, .int i)]) S.1 S.2.1 d_M_paper_6 rfl hl (by decide) rfl (fun ls hl => ?_)
  refine lv_iconst (v := (nI 0)) S.1 S.2.1 d_M_paper_7 (by decide) ?_
  refine lv_istore (lv' := [(4, .int (nI 0)), (2, .long 0), (0, .ref aM), (1, .int i)]) S.1 S.2.1 d_M_paper_8 hl (by decide) rfl (fun ls hl => ?_)
  have loop_10 : ∀ (nf : Nat) (n : Nat), 8 - n < nf → (n ≤ 8) → ∀ (H : Heap) (locs : List Loc), Wd D (tyl cI cJ cB cZ) A s s.heap H locs [(aM, .inr (10, [.int (nI 0), .ref m_text, .int v_length, .int v_came, .int v_fault, .int v_place, .ref m_paper, .int (nI 0), .int v_constants, .ref m_firstHalf, .ref m_secondHalf, .ref m_stored, .ref m_proved, .int v_at, .int v_token, .int v_tokenAt, .long v_nameFirst, .long v_nameSecond, .ref m_written, .ref m_places, .int v_end, .int v_second, .int v_ids, .int v_nodes, .int v_opens, .int v_levelOpens, .int v_start, .int v_app, .int v_behind, .ref m_levelKind, .ref m_levelStart, .ref m_levelApp, .ref m_levelHad, .ref m_levelScope, .ref m_levelId, .ref m_levelFirst, .ref m_levelSecond, .int v_level, .ref m_scopeFirst, .ref m_scopeSecond, .ref m_scopeId, .int v_scope, .ref m_made, .int v_top, .ref m_typeOf, .ref m_tasks, .int v_left, .ref m_todo, .int v_waits, .ref m_renamed, .ref m_bound, .int v_fresh, .int v_changed, .int v_changedTo, .int v_out, .int v_counted, .ref m_markA, .ref m_markB, .ref m_line, .int v_printed, .int v_questionAt]))] → ∀ (ls : Array Slot), lv_has ls 7 [(4, .int (nI n)), (2, .long 0), (0, .ref aM), (1, .int i)] → W p l e ({ frames := 0, cells := 0, slots := 0, locals := 0 } : Room) s m args below meth c H locs 0 0 Q (F0 m 10 ls []) := by
    intro nf
    induction nf with
    | zero =>
      intros
      omega
    | succ nf ih =>
      intro n hnf hn H locs hW ls hl
      refine lv_iload S.1 S.2.1 d_M_paper_10 (lv_at hl 0 rfl) ?_
      refine lv_bipush (v := (nI 8)) S.1 S.2.1 d_M_paper_12 (by decide) ?_
      refine n_icmp_ge (tgt := 71) S (by omega) (by omega) d_M_paper_14 (by decide) (fun c_14 => ?_) (fun c_14 => ?_)
      · refine lv_lload_n S.1 S.2.1 d_M_paper_71 rfl (lv_at hl 1 rfl) ?_
        exact ret _ _ _ _ _ _ d_M_paper_72 ⟨rfl, rfl⟩ hW
      · refine lv_iload_n S.1 S.2.1 d_M_paper_17 rfl (lv_at hl 3 rfl) ?_
        refine lv_i2l (v := i.toInt64) S.1 S.2.1 d_M_paper_18 rfl ?_
        refine lv_iload S.1 S.2.1 d_M_paper_19 (lv_at hl 0 rfl) ?_
        refine lv_i2l (v := (nI n).toInt64) S.1 S.2.1 d_M_paper_21 rfl ?_
        refine lv_ladd S.1 S.2.1 d_M_paper_22 ?_
        refine lv_lstore (lv' := [(5, .long (i.toInt64 + ((nI n).toInt64))), (4, .int (nI n)), (2, .long 0), (0, .ref aM), (1, .int i)]) S.1 S.2.1 d_M_paper_23 hl (by decide) rfl (fun ls hl => ?_)
        refine lv_lload S.1 S.2.1 d_M_paper_25 (lv_at hl 0 rfl) ?_
        refine lv_lconst (v := 0) S.1 S.2.1 d_M_paper_27 rfl ?_
        refine W.lcmp S.1 S.2.1 d_M_paper_28 ?_
        refine lv_if_lt (tgt := 63) S.1 S.2.1 d_M_paper_29 (by decide) (fun c_29 => ?_) (fun c_29 => ?_)
        · refine lv_lload_n S.1 S.2.1 d_M_paper_63 rfl (lv_at hl 2 rfl) ?_
          refine lv_lstore_n (lv' := [(2, .long 0), (5, .long (i.toInt64 + ((nI n).toInt64))), (4, .int (nI n)), (0, .ref aM), (1, .int i)]) S.1 S.2.1 d_M_paper_64 rfl hl (by decide) rfl (fun ls hl => ?_)
          refine lv_iinc (v := (nI (n + 1))) (lv' := [(4, .int (nI (n + 1))), (2, .long 0), (5, .long (i.toInt64 + ((nI n).toInt64))), (0, .ref aM), (1, .int i)]) S.1 S.2.1 d_M_paper_65 hl (k := 2) rfl (inc_eq _ 1 _ (by decide)) (by decide) rfl (fun ls hl => ?_)
          refine lv_goto (tgt := 10) S.1 S.2.1 d_M_paper_68 (by decide) ?_
          exact ih (n + 1) (by omega) (by omega) _ _ hW _ (lv_sub hl [0, 1, 3, 4] rfl)
        · refine lv_lload S.1 S.2.1 d_M_paper_32 (lv_at hl 0 rfl) ?_
          refine lv_aload_n S.1 S.2.1 d_M_paper_34 rfl (lv_at hl 3 rfl) ?_
          refine g_get i_M S hW 0 rfl rfl 7 (by decide) kf_M_339 rfl d_M_paper_35 ?_
          refine lv_i2l (v := (nI 0).toInt64) S.1 S.2.1 d_M_paper_38 rfl ?_
          refine W.lcmp S.1 S.2.1 d_M_paper_39 ?_
          refine lv_if_ge (tgt := 63) S.1 S.2.1 d_M_paper_40 (by decide) (fun c_40 => ?_) (fun c_40 => absurd c_40 (fun z => z (by rw [(show (nI 0).toInt64 = 0 by decide)]; exact Int32.not_lt.mp c_29)))
          refine lv_lload_n S.1 S.2.1 d_M_paper_63 rfl (lv_at hl 2 rfl) ?_
          refine lv_lstore_n (lv' := [(2, .long 0), (5, .long (i.toInt64 + ((nI n).toInt64))), (4, .int (nI n)), (0, .ref aM), (1, .int i)]) S.1 S.2.1 d_M_paper_64 rfl hl (by decide) rfl (fun ls hl => ?_)
          refine lv_iinc (v := (nI (n + 1))) (lv' := [(4, .int (nI (n + 1))), (2, .long 0), (5, .long (i.toInt64 + ((nI n).toInt64))), (0, .ref aM), (1, .int i)]) S.1 S.2.1 d_M_paper_65 hl (k := 2) rfl (inc_eq _ 1 _ (by decide)) (by decide) rfl (fun ls hl => ?_)
          refine lv_goto (tgt := 10) S.1 S.2.1 d_M_paper_68 (by decide) ?_
          exact ih (n + 1) (by omega) (by omega) _ _ hW _ (lv_sub hl [0, 1, 3, 4] rfl)
  exact loop_10 (8 - 0 + 1) 0 (Nat.lt_succ_self _) (by omega) _ _ hW _ (lv_sub hl [0, 1, 2, 3] rfl)
theorem d_M_feed_0 : decode b_M_feed 0 = .ok (.aload_n 0, 1) := by decide +kernel
theorem d_M_feed_1 : decode b_M_feed 1 = .ok (.iload_n 1, 1) := by decide +kernel
theorem d_M_feed_2 : decode b_M_feed 2 = .ok (.iconst 1, 1) := by decide +kernel
theorem d_M_feed_3 : decode b_M_feed 3 = .ok (.if_icmp .lt 9, 3) := by decide +kernel
theorem d_M_feed_6 : decode b_M_feed 6 = .ok (.iload_n 1, 1) := by decide +kernel
theorem d_M_feed_7 : decode b_M_feed 7 = .ok (.bipush 8, 2) := by decide +kernel
theorem d_M_feed_9 : decode b_M_feed 9 = .ok (.if_icmp .le 7, 3) := by decide +kernel
theorem d_M_feed_12 : decode b_M_feed 12 = .ok (.iconst 1, 1) := by decide +kernel
theorem d_M_feed_13 : decode b_M_feed 13 = .ok (.goto 4, 3) := by decide +kernel
theorem d_M_feed_16 : decode b_M_feed 16 = .ok (.iconst 0, 1) := by decide +kernel
theorem d_M_feed_17 : decode b_M_feed 17 = .ok (.putfield 104, 3) := by decide +kernel
theorem d_M_feed_20 : decode b_M_feed 20 = .ok (.aload_n 0, 1) := by decide +kernel
theorem d_M_feed_21 : decode b_M_feed 21 = .ok (.getfield 104, 3) := by decide +kernel
theorem d_M_feed_24 : decode b_M_feed 24 = .ok (.ifCond .le 5, 3) := by decide +kernel
theorem d_M_feed_27 : decode b_M_feed 27 = .ok (.iconst 0, 1) := by decide +kernel
theorem d_M_feed_28 : decode b_M_feed 28 = .ok (.ireturn, 1) := by decide +kernel
theorem d_M_feed_29 : decode b_M_feed 29 = .ok (.aload_n 0, 1) := by decide +kernel
theorem d_M_feed_30 : decode b_M_feed 30 = .ok (.getfield 364, 3) := by decide +kernel
theorem d_M_feed_33 : decode b_M_feed 33 = .ok (.iload_n 1, 1) := by decide +kernel
theorem d_M_feed_34 : decode b_M_feed 34 = .ok (.iadd, 1) := by decide +kernel
theorem d_M_feed_35 : decode b_M_feed 35 = .ok (.sipush 8192, 3) := by decide +kernel
theorem d_M_feed_38 : decode b_M_feed 38 = .ok (.if_icmp .le 5, 3) := by decide +kernel
theorem d_M_feed_41 : decode b_M_feed 41 = .ok (.iconst (-1), 1) := by decide +kernel
theorem d_M_feed_42 : decode b_M_feed 42 = .ok (.ireturn, 1) := by decide +kernel
theorem d_M_feed_43 : decode b_M_feed 43 = .ok (.iconst 0, 1) := by decide +kernel
theorem d_M_feed_44 : decode b_M_feed 44 = .ok (.istore 4, 2) := by decide +kernel
theorem d_M_feed_46 : decode b_M_feed 46 = .ok (.iload 4, 2) := by decide +kernel
theorem d_M_feed_48 : decode b_M_feed 48 = .ok (.iload_n 1, 1) := by decide +kernel
theorem d_M_feed_49 : decode b_M_feed 49 = .ok (.if_icmp .ge 40, 3) := by decide +kernel
theorem d_M_feed_52 : decode b_M_feed 52 = .ok (.aload_n 0, 1) := by decide +kernel
theorem d_M_feed_53 : decode b_M_feed 53 = .ok (.getfield 7, 3) := by decide +kernel
theorem d_M_feed_56 : decode b_M_feed 56 = .ok (.aload_n 0, 1) := by decide +kernel
theorem d_M_feed_57 : decode b_M_feed 57 = .ok (.getfield 117, 3) := by decide +kernel
theorem d_M_feed_60 : decode b_M_feed 60 = .ok (.lload_n 2, 1) := by decide +kernel
theorem d_M_feed_61 : decode b_M_feed 61 = .ok (.bipush 8, 2) := by decide +kernel
theorem d_M_feed_63 : decode b_M_feed 63 = .ok (.iload 4, 2) := by decide +kernel
theorem d_M_feed_65 : decode b_M_feed 65 = .ok (.imul, 1) := by decide +kernel
theorem d_M_feed_66 : decode b_M_feed 66 = .ok (.lshr, 1) := by decide +kernel
theorem d_M_feed_67 : decode b_M_feed 67 = .ok (.ldc2_w 324, 3) := by decide +kernel
theorem d_M_feed_70 : decode b_M_feed 70 = .ok (.land, 1) := by decide +kernel
theorem d_M_feed_71 : decode b_M_feed 71 = .ok (.l2i, 1) := by decide +kernel
theorem d_M_feed_72 : decode b_M_feed 72 = .ok (.iastore, 1) := by decide +kernel
theorem d_M_feed_73 : decode b_M_feed 73 = .ok (.aload_n 0, 1) := by decide +kernel
theorem d_M_feed_74 : decode b_M_feed 74 = .ok (.dup, 1) := by decide +kernel
theorem d_M_feed_75 : decode b_M_feed 75 = .ok (.getfield 117, 3) := by decide +kernel
theorem d_M_feed_78 : decode b_M_feed 78 = .ok (.iconst 1, 1) := by decide +kernel
theorem d_M_feed_79 : decode b_M_feed 79 = .ok (.iadd, 1) := by decide +kernel
theorem d_M_feed_80 : decode b_M_feed 80 = .ok (.putfield 117, 3) := by decide +kernel
theorem d_M_feed_83 : decode b_M_feed 83 = .ok (.iinc 4 1, 3) := by decide +kernel
theorem d_M_feed_86 : decode b_M_feed 86 = .ok (.goto (-40), 3) := by decide +kernel
theorem d_M_feed_89 : decode b_M_feed 89 = .ok (.aload_n 0, 1) := by decide +kernel
theorem d_M_feed_90 : decode b_M_feed 90 = .ok (.dup, 1) := by decide +kernel
theorem d_M_feed_91 : decode b_M_feed 91 = .ok (.getfield 364, 3) := by decide +kernel
theorem d_M_feed_94 : decode b_M_feed 94 = .ok (.iload_n 1, 1) := by decide +kernel
theorem d_M_feed_95 : decode b_M_feed 95 = .ok (.iadd, 1) := by decide +kernel
theorem d_M_feed_96 : decode b_M_feed 96 = .ok (.putfield 364, 3) := by decide +kernel
theorem d_M_feed_99 : decode b_M_feed 99 = .ok (.aload_n 0, 1) := by decide +kernel
theorem d_M_feed_100 : decode b_M_feed 100 = .ok (.getfield 117, 3) := by decide +kernel
theorem d_M_feed_103 : decode b_M_feed 103 = .ok (.ireturn, 1) := by decide +kernel
set_option maxHeartbeats 4000000 in
set_option maxRecDepth 100000 in
theorem c_M_feed (l : Launch) (D : va_G) (cI cJ cB cZ : ClassId) (aM m_text m_paper m_firstHalf m_secondHalf m_stored m_proved m_written m_places m_levelKind m_levelStart m_levelApp m_levelHad m_levelScope m_levelId m_levelFirst m_levelSecond m_scopeFirst m_scopeSecond m_scopeId m_made m_typeOf m_tasks m_todo m_renamed m_bound m_markA m_markB m_line : Nat) (v_thrown v_fault v_place v_papered v_constants v_at v_token v_tokenAt v_end v_second v_ids v_nodes v_opens v_levelOpens v_start v_app v_behind v_level v_scope v_top v_left v_waits v_fresh v_changed v_changedTo v_out v_counted v_printed v_questionAt : Int32) (v_nameFirst v_nameSecond : Int64) (f : Nat → Int32) (k : Nat) (v : Int64) (h1 : 1 ≤ k) (h8 : k ≤ 8) : Ci l D (tyl cI cJ cB cZ) y_M_feed b_M_feed 5 (some .int) ({ frames := 0, cells := 0, slots := 0, locals := 0 } : Room) [.ref aM, .int (nI k), .long v] [(aM, .inr (10, [.int v_thrown, .ref m_text, .int (nI 0), .int (nI 0), .int v_fault, .int v_place, .ref m_paper, .int v_papered, .int v_constants, .ref m_firstHalf, .ref m_secondHalf, .ref m_stored, .ref m_proved, .int v_at, .int v_token, .int v_tokenAt, .long v_nameFirst, .long v_nameSecond, .ref m_written, .ref m_places, .int v_end, .int v_second, .int v_ids, .int v_nodes, .int v_opens, .int v_levelOpens, .int v_start, .int v_app, .int v_behind, .ref m_levelKind, .ref m_levelStart, .ref m_levelApp, .ref m_levelHad, .ref m_levelScope, .ref m_levelId, .ref m_levelFirst, .ref m_levelSecond, .int v_level, .ref m_scopeFirst, .ref m_scopeSecond, .ref m_scopeId, .int v_scope, .ref m_made, .int v_top, .ref m_typeOf, .ref m_tasks, .int v_left, .ref m_todo, .int v_waits, .ref m_renamed, .ref m_bound, .int v_fresh, .int v_changed, .int v_changedTo, .int v_out, .int v_counted, .ref m_markA, .ref m_markB, .ref m_line, .int v_printed, .int v_questionAt])), (m_text, .inl (cI, 8192, .inl f))] (fun r u => ∃ (f2 : Nat → Int32), r = (nI k) ∧ u = [(aM, .inr (10, [.int (nI 0), .ref m_text, .int (nI k), .int (nI (0 + k)), .int v_fault, .int v_place, .ref m_paper, .int v_papered, .int v_constants, .ref m_firstHalf, .ref m_secondHalf, .ref m_stored, .ref m_proved, .int v_at, .int v_token, .int v_tokenAt, .long v_nameFirst, .long v_nameSecond, .ref m_written, .ref m_places, .int v_end, .int v_second, .int v_ids, .int v_nodes, .int v_opens, .int v_levelOpens, .int v_start, .int v_app, .int v_behind, .ref m_levelKind, .ref m_levelStart, .ref m_levelApp, .ref m_levelHad, .ref m_levelScope, .ref m_levelId, .ref m_levelFirst, .ref m_levelSecond, .int v_level, .ref m_scopeFirst, .ref m_scopeSecond, .ref m_scopeId, .int v_scope, .ref m_made, .int v_top, .ref m_typeOf, .ref m_tasks, .int v_left, .ref m_todo, .int v_waits, .ref m_renamed, .ref m_bound, .int v_fresh, .int v_changed, .int v_changedTo, .int v_out, .int v_counted, .ref m_markA, .ref m_markB, .ref m_line, .int v_printed, .int v_questionAt])), (m_text, .inl (cI, 8192, .inl f2))]) := by
  refine met_i (own := "ProofReaderModel") (by decide) rfl (Nat.le_of_ble_eq_true rfl) ?_
  intro p e s m args below meth c A Q S hA ret ls hl hW
  have hl : lv_has ls 5 [(0, .ref aM), (1, .int (nI k)), (2, .long v)] := hl
  have hW : Wd D (tyl cI cJ cB cZ) A s s.heap s.heap [] [(aM, .inr (10, [.int v_thrown, .ref m_text, .int (nI 0), .int (nI 0), .int v_fault, .int v_place, .ref m_paper, .int v_papered, .int v_constants, .ref m_firstHalf, .ref m_secondHalf, .ref m_stored, .ref m_proved, .int v_at, .int v_token, .int v_tokenAt, .long v_nameFirst, .long v_nameSecond, .ref m_written, .ref m_places, .int v_end, .int v_second, .int v_ids, .int v_nodes, .int v_opens, .int v_levelOpens, .int v_start, .int v_app, .int v_behind, .ref m_levelKind, .ref m_levelStart, .ref m_levelApp, .ref m_levelHad, .ref m_levelScope, .ref m_levelId, .ref m_levelFirst, .ref m_levelSecond, .int v_level, .ref m_scopeFirst, .ref m_scopeSecond, .ref m_scopeId, .int v_scope, .ref m_made, .int v_top, .ref m_typeOf, .ref m_tasks, .int v_left, .ref m_todo, .int v_waits, .ref m_renamed, .ref m_bound, .int v_fresh, .int v_changed, .int v_changedTo, .int v_out, .int v_counted, .ref m_markA, .ref m_markB, .ref m_line, .int v_printed, .int v_questionAt])), (m_text, .inl (cI, 8192, .inl f))] := hW
  refine lv_aload_n S.1 S.2.1 d_M_feed_0 rfl (lv_at hl 0 rfl) ?_
  refine lv_iload_n S.1 S.2.1 d_M_feed_1 rfl (lv_at hl 1 rfl) ?_
  refine lv_iconst (v := (nI 1)) S.1 S.2.1 d_M_feed_2 (by decide) ?_
  refine n_icmp_lt (tgt := 12) S (by omega) (by omega) d_M_feed_3 (by decide) (fun c_3 => absurd c_3 (by omega)) (fun c_3 => ?_)
  refine lv_iload_n S.1 S.2.1 d_M_feed_6 rfl (lv_at hl 1 rfl) ?_
  refine lv_bipush (v := (nI 8)) S.1 S.2.1 d_M_feed_7 (by decide) ?_
  refine n_icmp_le (tgt := 16) S (by omega) (by omega) d_M_feed_9 (by decide) (fun c_9 => ?_) (fun c_9 => absurd c_9 (by omega))
  refine lv_iconst (v := (nI 0)) S.1 S.2.1 d_M_feed_16 (by decide) ?_
  refine g_put (ws2 := [(aM, .inr (10, [.int (nI 0), .ref m_text, .int (nI 0), .int (nI 0), .int v_fault, .int v_place, .ref m_paper, .int v_papered, .int v_constants, .ref m_firstHalf, .ref m_secondHalf, .ref m_stored, .ref m_proved, .int v_at, .int v_token, .int v_tokenAt, .long v_nameFirst, .long v_nameSecond, .ref m_written, .ref m_places, .int v_end, .int v_second, .int v_ids, .int v_nodes, .int v_opens, .int v_levelOpens, .int v_start, .int v_app, .int v_behind, .ref m_levelKind, .ref m_levelStart, .ref m_levelApp, .ref m_levelHad, .ref m_levelScope, .ref m_levelId, .ref m_levelFirst, .ref m_levelSecond, .int v_level, .ref m_scopeFirst, .ref m_scopeSecond, .ref m_scopeId, .int v_scope, .ref m_made, .int v_top, .ref m_typeOf, .ref m_tasks, .int v_left, .ref m_todo, .int v_waits, .ref m_renamed, .ref m_bound, .int v_fresh, .int v_changed, .int v_changedTo, .int v_out, .int v_counted, .ref m_markA, .ref m_markB, .ref m_line, .int v_printed, .int v_questionAt])), (m_text, .inl (cI, 8192, .inl f))]) i_M ft_M ft_M_ok n_M S hW 0 rfl rfl 0 (by decide) kf_M_104 rfl rfl rfl (Nat.le_of_ble_eq_true rfl) rfl d_M_feed_17 (fun H locs hW => ?_)
  refine lv_aload_n S.1 S.2.1 d_M_feed_20 rfl (lv_at hl 0 rfl) ?_
  refine g_get i_M S hW 0 rfl rfl 0 (by decide) kf_M_104 rfl d_M_feed_21 ?_
  refine lv_if_le (tgt := 29) S.1 S.2.1 d_M_feed_24 (by decide) (fun _ => ?_) (fun h => absurd h (by decide))
  refine lv_aload_n S.1 S.2.1 d_M_feed_29 rfl (lv_at hl 0 rfl) ?_
  refine g_get i_M S hW 0 rfl rfl 3 (by decide) kf_M_364 rfl d_M_feed_30 ?_
  refine lv_iload_n S.1 S.2.1 d_M_feed_33 rfl (lv_at hl 1 rfl) ?_
  refine n_iadd S d_M_feed_34 ?_
  refine lv_sipush (v := (nI 8192)) S.1 S.2.1 d_M_feed_35 (by decide) ?_
  refine n_icmp_le (tgt := 43) S (by omega) (by omega) d_M_feed_38 (by decide) (fun c_38 => ?_) (fun c_38 => absurd c_38 (by omega))
  refine lv_iconst (v := (nI 0)) S.1 S.2.1 d_M_feed_43 (by decide) ?_
  refine lv_istore (lv' := [(4, .int (nI 0)), (0, .ref aM), (1, .int (nI k)), (2, .long v)]) S.1 S.2.1 d_M_feed_44 hl (by decide) rfl (fun ls hl => ?_)
  have loop_46 : ∀ (nf : Nat) (i : Nat) (f1 : Nat → Int32), k - i < nf → (i ≤ k) → ∀ (H : Heap) (locs : List Loc), Wd D (tyl cI cJ cB cZ) A s s.heap H locs [(aM, .inr (10, [.int (nI 0), .ref m_text, .int (nI i), .int (nI 0), .int v_fault, .int v_place, .ref m_paper, .int v_papered, .int v_constants, .ref m_firstHalf, .ref m_secondHalf, .ref m_stored, .ref m_proved, .int v_at, .int v_token, .int v_tokenAt, .long v_nameFirst, .long v_nameSecond, .ref m_written, .ref m_places, .int v_end, .int v_second, .int v_ids, .int v_nodes, .int v_opens, .int v_levelOpens, .int v_start, .int v_app, .int v_behind, .ref m_levelKind, .ref m_levelStart, .ref m_levelApp, .ref m_levelHad, .ref m_levelScope, .ref m_levelId, .ref m_levelFirst, .ref m_levelSecond, .int v_level, .ref m_scopeFirst, .ref m_scopeSecond, .ref m_scopeId, .int v_scope, .ref m_made, .int v_top, .ref m_typeOf, .ref m_tasks, .int v_left, .ref m_todo, .int v_waits, .ref m_renamed, .ref m_bound, .int v_fresh, .int v_changed, .int v_changedTo, .int v_out, .int v_counted, .ref m_markA, .ref m_markB, .ref m_line, .int v_printed, .int v_questionAt])), (m_text, .inl (cI, 8192, .inl f1))] → ∀ (ls : Array Slot), lv_has ls 5 [(4, .int (nI i)), (0, .ref aM), (1, .int (nI k)), (2, .long v)] → W p l e ({ frames := 0, cells := 0, slots := 0, locals := 0 } : Room) s m args below meth c H locs 0 0 Q (F0 m 46 ls []) := by
    intro nf
    induction nf with
    | zero =>
      intros
      omega
    | succ nf ih =>
      intro i f1 hnf hi H locs hW ls hl
      refine lv_iload S.1 S.2.1 d_M_feed_46 (lv_at hl 0 rfl) ?_
      refine lv_iload_n S.1 S.2.1 d_M_feed_48 rfl (lv_at hl 2 rfl) ?_
      refine n_icmp_ge (tgt := 89) S (by omega) (by omega) d_M_feed_49 (by decide) (fun c_49 => ?_) (fun c_49 => ?_)
      · refine lv_aload_n S.1 S.2.1 d_M_feed_89 rfl (lv_at hl 1 rfl) ?_
        refine lv_dup S.1 S.2.1 d_M_feed_90 rfl ?_
        refine g_get i_M S hW 0 rfl rfl 3 (by decide) kf_M_364 rfl d_M_feed_91 ?_
        refine lv_iload_n S.1 S.2.1 d_M_feed_94 rfl (lv_at hl 2 rfl) ?_
        refine n_iadd S d_M_feed_95 ?_
        refine g_put (ws2 := [(aM, .inr (10, [.int (nI 0), .ref m_text, .int (nI i), .int (nI (0 + k)), .int v_fault, .int v_place, .ref m_paper, .int v_papered, .int v_constants, .ref m_firstHalf, .ref m_secondHalf, .ref m_stored, .ref m_proved, .int v_at, .int v_token, .int v_tokenAt, .long v_nameFirst, .long v_nameSecond, .ref m_written, .ref m_places, .int v_end, .int v_second, .int v_ids, .int v_nodes, .int v_opens, .int v_levelOpens, .int v_start, .int v_app, .int v_behind, .ref m_levelKind, .ref m_levelStart, .ref m_levelApp, .ref m_levelHad, .ref m_levelScope, .ref m_levelId, .ref m_levelFirst, .ref m_levelSecond, .int v_level, .ref m_scopeFirst, .ref m_scopeSecond, .ref m_scopeId, .int v_scope, .ref m_made, .int v_top, .ref m_typeOf, .ref m_tasks, .int v_left, .ref m_todo, .int v_waits, .ref m_renamed, .ref m_bound, .int v_fresh, .int v_changed, .int v_changedTo, .int v_out, .int v_counted, .ref m_markA, .ref m_markB, .ref m_line, .int v_printed, .int v_questionAt])), (m_text, .inl (cI, 8192, .inl f1))]) i_M ft_M ft_M_ok n_M S hW 0 rfl rfl 3 (by decide) kf_M_364 rfl rfl rfl (Nat.le_of_ble_eq_true rfl) rfl d_M_feed_96 (fun H locs hW => ?_)
        refine lv_aload_n S.1 S.2.1 d_M_feed_99 rfl (lv_at hl 1 rfl) ?_
        refine g_get i_M S hW 0 rfl rfl 2 (by decide) kf_M_117 rfl d_M_feed_100 ?_
        exact ret _ _ _ _ _ _ d_M_feed_103 rfl ⟨f1, (by rw [show i = k by omega]), (by rw [show i = k by omega])⟩ hW
      · refine lv_aload_n S.1 S.2.1 d_M_feed_52 rfl (lv_at hl 1 rfl) ?_
        refine g_get i_M S hW 0 rfl rfl 1 (by decide) kf_M_7 rfl d_M_feed_53 ?_
        refine lv_aload_n S.1 S.2.1 d_M_feed_56 rfl (lv_at hl 1 rfl) ?_
        refine g_get i_M S hW 0 rfl rfl 2 (by decide) kf_M_117 rfl d_M_feed_57 ?_
        refine lv_lload_n S.1 S.2.1 d_M_feed_60 rfl (lv_at hl 3 rfl) ?_
        refine lv_bipush (v := (nI 8)) S.1 S.2.1 d_M_feed_61 (by decide) ?_
        refine lv_iload S.1 S.2.1 d_M_feed_63 (lv_at hl 0 rfl) ?_
        refine n_imul S d_M_feed_65 ?_
        refine lv_lshr (v := v >>> ((nI (8 * i)).toInt64 &&& 63)) S.1 S.2.1 d_M_feed_66 rfl ?_
        refine lv_ldc2 (v := 255) S.1 S.2.1 S.2.2.2.1 (S.2.2.2.2 _ kq_M_324) d_M_feed_67 ?_
        refine lv_land S.1 S.2.1 d_M_feed_70 ?_
        refine lv_l2i (v := ((v >>> ((nI (8 * i)).toInt64 &&& 63)) &&& 255).toInt32) S.1 S.2.1 d_M_feed_71 rfl ?_
        refine n_iast (ws2 := [(aM, .inr (10, [.int (nI 0), .ref m_text, .int (nI i), .int (nI 0), .int v_fault, .int v_place, .ref m_paper, .int v_papered, .int v_constants, .ref m_firstHalf, .ref m_secondHalf, .ref m_stored, .ref m_proved, .int v_at, .int v_token, .int v_tokenAt, .long v_nameFirst, .long v_nameSecond, .ref m_written, .ref m_places, .int v_end, .int v_second, .int v_ids, .int v_nodes, .int v_opens, .int v_levelOpens, .int v_start, .int v_app, .int v_behind, .ref m_levelKind, .ref m_levelStart, .ref m_levelApp, .ref m_levelHad, .ref m_levelScope, .ref m_levelId, .ref m_levelFirst, .ref m_levelSecond, .int v_level, .ref m_scopeFirst, .ref m_scopeSecond, .ref m_scopeId, .int v_scope, .ref m_made, .int v_top, .ref m_typeOf, .ref m_tasks, .int v_left, .ref m_todo, .int v_waits, .ref m_renamed, .ref m_bound, .int v_fresh, .int v_changed, .int v_changedTo, .int v_out, .int v_counted, .ref m_markA, .ref m_markB, .ref m_line, .int v_printed, .int v_questionAt])), (m_text, .inl (cI, 8192, .inl (upd f1 i (((v >>> ((nI (8 * i)).toInt64 &&& 63)) &&& 255).toInt32))))]) S hW 1 0 rfl rfl (by decide) (by omega) rfl d_M_feed_72 (fun H locs hW => ?_)
        refine lv_aload_n S.1 S.2.1 d_M_feed_73 rfl (lv_at hl 1 rfl) ?_
        refine lv_dup S.1 S.2.1 d_M_feed_74 rfl ?_
        refine g_get i_M S hW 0 rfl rfl 2 (by decide) kf_M_117 rfl d_M_feed_75 ?_
        refine lv_iconst (v := (nI 1)) S.1 S.2.1 d_M_feed_78 (by decide) ?_
        refine n_iadd S d_M_feed_79 ?_
        refine g_put (ws2 := [(aM, .inr (10, [.int (nI 0), .ref m_text, .int (nI (i + 1)), .int (nI 0), .int v_fault, .int v_place, .ref m_paper, .int v_papered, .int v_constants, .ref m_firstHalf, .ref m_secondHalf, .ref m_stored, .ref m_proved, .int v_at, .int v_token, .int v_tokenAt, .long v_nameFirst, .long v_nameSecond, .ref m_written, .ref m_places, .int v_end, .int v_second, .int v_ids, .int v_nodes, .int v_opens, .int v_levelOpens, .int v_start, .int v_app, .int v_behind, .ref m_levelKind, .ref m_levelStart, .ref m_levelApp, .ref m_levelHad, .ref m_levelScope, .ref m_levelId, .ref m_levelFirst, .ref m_levelSecond, .int v_level, .ref m_scopeFirst, .ref m_scopeSecond, .ref m_scopeId, .int v_scope, .ref m_made, .int v_top, .ref m_typeOf, .ref m_tasks, .int v_left, .ref m_todo, .int v_waits, .ref m_renamed, .ref m_bound, .int v_fresh, .int v_changed, .int v_changedTo, .int v_out, .int v_counted, .ref m_markA, .ref m_markB, .ref m_line, .int v_printed, .int v_questionAt])), (m_text, .inl (cI, 8192, .inl (upd f1 i (((v >>> ((nI (8 * i)).toInt64 &&& 63)) &&& 255).toInt32))))]) i_M ft_M ft_M_ok n_M S hW 0 rfl rfl 2 (by decide) kf_M_117 rfl rfl rfl (Nat.le_of_ble_eq_true rfl) rfl d_M_feed_80 (fun H locs hW => ?_)
        refine lv_iinc (v := (nI (i + 1))) (lv' := [(4, .int (nI (i + 1))), (0, .ref aM), (1, .int (nI k)), (2, .long v)]) S.1 S.2.1 d_M_feed_83 hl (k := 0) rfl (inc_eq _ 1 _ (by decide)) (by decide) rfl (fun ls hl => ?_)
        refine lv_goto (tgt := 46) S.1 S.2.1 d_M_feed_86 (by decide) ?_
        exact ih (i + 1) (upd f1 i (((v >>> ((nI (8 * i)).toInt64 &&& 63)) &&& 255).toInt32)) (by omega) (by omega) _ _ hW _ (lv_sub hl [0, 1, 2, 3] rfl)
  exact loop_46 (k - 0 + 1) 0 f (Nat.lt_succ_self _) (by omega) _ _ hW _ (lv_sub hl [0, 1, 2, 3] rfl)
set_option maxHeartbeats 4000000 in
set_option maxRecDepth 100000 in
theorem c_M_feedT (l : Launch) (D : va_G) (cI cJ cB cZ : ClassId) (aM m_text m_paper m_firstHalf m_secondHalf m_stored m_proved m_written m_places m_levelKind m_levelStart m_levelApp m_levelHad m_levelScope m_levelId m_levelFirst m_levelSecond m_scopeFirst m_scopeSecond m_scopeId m_made m_typeOf m_tasks m_todo m_renamed m_bound m_markA m_markB m_line : Nat) (v_thrown v_length v_came v_fault v_place v_papered v_constants v_at v_token v_tokenAt v_end v_second v_ids v_nodes v_opens v_levelOpens v_start v_app v_behind v_level v_scope v_top v_left v_waits v_fresh v_changed v_changedTo v_out v_counted v_printed v_questionAt : Int32) (v_nameFirst v_nameSecond : Int64) (n : Int32) (v : Int64) (hb : ¬ (¬ n < nI 1 ∧ n ≤ nI 8)) : Ci l D (tyl cI cJ cB cZ) y_M_feed b_M_feed 5 (some .int) ({ frames := 0, cells := 0, slots := 0, locals := 0 } : Room) [.ref aM, .int n, .long v] [(aM, .inr (10, [.int v_thrown, .ref m_text, .int v_length, .int v_came, .int v_fault, .int v_place, .ref m_paper, .int v_papered, .int v_constants, .ref m_firstHalf, .ref m_secondHalf, .ref m_stored, .ref m_proved, .int v_at, .int v_token, .int v_tokenAt, .long v_nameFirst, .long v_nameSecond, .ref m_written, .ref m_places, .int v_end, .int v_second, .int v_ids, .int v_nodes, .int v_opens, .int v_levelOpens, .int v_start, .int v_app, .int v_behind, .ref m_levelKind, .ref m_levelStart, .ref m_levelApp, .ref m_levelHad, .ref m_levelScope, .ref m_levelId, .ref m_levelFirst, .ref m_levelSecond, .int v_level, .ref m_scopeFirst, .ref m_scopeSecond, .ref m_scopeId, .int v_scope, .ref m_made, .int v_top, .ref m_typeOf, .ref m_tasks, .int v_left, .ref m_todo, .int v_waits, .ref m_renamed, .ref m_bound, .int v_fresh, .int v_changed, .int v_changedTo, .int v_out, .int v_counted, .ref m_markA, .ref m_markB, .ref m_line, .int v_printed, .int v_questionAt]))] (fun r u => r = (nI 0) ∧ u = [(aM, .inr (10, [.int (nI 1), .ref m_text, .int v_length, .int v_came, .int v_fault, .int v_place, .ref m_paper, .int v_papered, .int v_constants, .ref m_firstHalf, .ref m_secondHalf, .ref m_stored, .ref m_proved, .int v_at, .int v_token, .int v_tokenAt, .long v_nameFirst, .long v_nameSecond, .ref m_written, .ref m_places, .int v_end, .int v_second, .int v_ids, .int v_nodes, .int v_opens, .int v_levelOpens, .int v_start, .int v_app, .int v_behind, .ref m_levelKind, .ref m_levelStart, .ref m_levelApp, .ref m_levelHad, .ref m_levelScope, .ref m_levelId, .ref m_levelFirst, .ref m_levelSecond, .int v_level, .ref m_scopeFirst, .ref m_scopeSecond, .ref m_scopeId, .int v_scope, .ref m_made, .int v_top, .ref m_typeOf, .ref m_tasks, .int v_left, .ref m_todo, .int v_waits, .ref m_renamed, .ref m_bound, .int v_fresh, .int v_changed, .int v_changedTo, .int v_out, .int v_counted, .ref m_markA, .ref m_markB, .ref m_line, .int v_printed, .int v_questionAt]))]) := by
  refine met_i (own := "ProofReaderModel") (by decide) rfl (Nat.le_of_ble_eq_true rfl) ?_
  intro p e s m args below meth c A Q S hA ret ls hl hW
  have hl : lv_has ls 5 [(0, .ref aM), (1, .int n), (2, .long v)] := hl
  have hW : Wd D (tyl cI cJ cB cZ) A s s.heap s.heap [] [(aM, .inr (10, [.int v_thrown, .ref m_text, .int v_length, .int v_came, .int v_fault, .int v_place, .ref m_paper, .int v_papered, .int v_constants, .ref m_firstHalf, .ref m_secondHalf, .ref m_stored, .ref m_proved, .int v_at, .int v_token, .int v_tokenAt, .long v_nameFirst, .long v_nameSecond, .ref m_written, .ref m_places, .int v_end, .int v_second, .int v_ids, .int v_nodes, .int v_opens, .int v_levelOpens, .int v_start, .int v_app, .int v_behind, .ref m_levelKind, .ref m_levelStart, .ref m_levelApp, .ref m_levelHad, .ref m_levelScope, .ref m_levelId, .ref m_levelFirst, .ref m_levelSecond, .int v_level, .ref m_scopeFirst, .ref m_scopeSecond, .ref m_scopeId, .int v_scope, .ref m_made, .int v_top, .ref m_typeOf, .ref m_tasks, .int v_left, .ref m_todo, .int v_waits, .ref m_renamed, .ref m_bound, .int v_fresh, .int v_changed, .int v_changedTo, .int v_out, .int v_counted, .ref m_markA, .ref m_markB, .ref m_line, .int v_printed, .int v_questionAt]))] := hW
  refine lv_aload_n S.1 S.2.1 d_M_feed_0 rfl (lv_at hl 0 rfl) ?_
  refine lv_iload_n S.1 S.2.1 d_M_feed_1 rfl (lv_at hl 1 rfl) ?_
  refine lv_iconst (v := (nI 1)) S.1 S.2.1 d_M_feed_2 (by decide) ?_
  refine lv_icmp_lt (tgt := 12) S.1 S.2.1 d_M_feed_3 (by decide) (fun c_3 => ?_) (fun c_3 => ?_)
  · refine lv_iconst (v := (nI 1)) S.1 S.2.1 d_M_feed_12 (by decide) ?_
    refine lv_goto (tgt := 17) S.1 S.2.1 d_M_feed_13 (by decide) ?_
    refine g_put (ws2 := [(aM, .inr (10, [.int (nI 1), .ref m_text, .int v_length, .int v_came, .int v_fault, .int v_place, .ref m_paper, .int v_papered, .int v_constants, .ref m_firstHalf, .ref m_secondHalf, .ref m_stored, .ref m_proved, .int v_at, .int v_token, .int v_tokenAt, .long v_nameFirst, .long v_nameSecond, .ref m_written, .ref m_places, .int v_end, .int v_second, .int v_ids, .int v_nodes, .int v_opens, .int v_levelOpens, .int v_start, .int v_app, .int v_behind, .ref m_levelKind, .ref m_levelStart, .ref m_levelApp, .ref m_levelHad, .ref m_levelScope, .ref m_levelId, .ref m_levelFirst, .ref m_levelSecond, .int v_level, .ref m_scopeFirst, .ref m_scopeSecond, .ref m_scopeId, .int v_scope, .ref m_made, .int v_top, .ref m_typeOf, .ref m_tasks, .int v_left, .ref m_todo, .int v_waits, .ref m_renamed, .ref m_bound, .int v_fresh, .int v_changed, .int v_changedTo, .int v_out, .int v_counted, .ref m_markA, .ref m_markB, .ref m_line, .int v_printed, .int v_questionAt]))]) i_M ft_M ft_M_ok n_M S hW 0 rfl rfl 0 (by decide) kf_M_104 rfl rfl rfl (Nat.le_of_ble_eq_true rfl) rfl d_M_feed_17 (fun H locs hW => ?_)
    refine lv_aload_n S.1 S.2.1 d_M_feed_20 rfl (lv_at hl 0 rfl) ?_
    refine g_get i_M S hW 0 rfl rfl 0 (by decide) kf_M_104 rfl d_M_feed_21 ?_
    refine lv_if_le (tgt := 29) S.1 S.2.1 d_M_feed_24 (by decide) (fun h => absurd h (by decide)) (fun _ => ?_)
    refine lv_iconst (v := (nI 0)) S.1 S.2.1 d_M_feed_27 (by decide) ?_
    exact ret _ _ _ _ _ _ d_M_feed_28 rfl ⟨rfl, rfl⟩ hW
  · refine lv_iload_n S.1 S.2.1 d_M_feed_6 rfl (lv_at hl 1 rfl) ?_
    refine lv_bipush (v := (nI 8)) S.1 S.2.1 d_M_feed_7 (by decide) ?_
    refine lv_icmp_le (tgt := 16) S.1 S.2.1 d_M_feed_9 (by decide) (fun c_9 => absurd c_9 (fun z => hb ⟨c_3, z⟩)) (fun c_9 => ?_)
    refine lv_iconst (v := (nI 1)) S.1 S.2.1 d_M_feed_12 (by decide) ?_
    refine lv_goto (tgt := 17) S.1 S.2.1 d_M_feed_13 (by decide) ?_
    refine g_put (ws2 := [(aM, .inr (10, [.int (nI 1), .ref m_text, .int v_length, .int v_came, .int v_fault, .int v_place, .ref m_paper, .int v_papered, .int v_constants, .ref m_firstHalf, .ref m_secondHalf, .ref m_stored, .ref m_proved, .int v_at, .int v_token, .int v_tokenAt, .long v_nameFirst, .long v_nameSecond, .ref m_written, .ref m_places, .int v_end, .int v_second, .int v_ids, .int v_nodes, .int v_opens, .int v_levelOpens, .int v_start, .int v_app, .int v_behind, .ref m_levelKind, .ref m_levelStart, .ref m_levelApp, .ref m_levelHad, .ref m_levelScope, .ref m_levelId, .ref m_levelFirst, .ref m_levelSecond, .int v_level, .ref m_scopeFirst, .ref m_scopeSecond, .ref m_scopeId, .int v_scope, .ref m_made, .int v_top, .ref m_typeOf, .ref m_tasks, .int v_left, .ref m_todo, .int v_waits, .ref m_renamed, .ref m_bound, .int v_fresh, .int v_changed, .int v_changedTo, .int v_out, .int v_counted, .ref m_markA, .ref m_markB, .ref m_line, .int v_printed, .int v_questionAt]))]) i_M ft_M ft_M_ok n_M S hW 0 rfl rfl 0 (by decide) kf_M_104 rfl rfl rfl (Nat.le_of_ble_eq_true rfl) rfl d_M_feed_17 (fun H locs hW => ?_)
    refine lv_aload_n S.1 S.2.1 d_M_feed_20 rfl (lv_at hl 0 rfl) ?_
    refine g_get i_M S hW 0 rfl rfl 0 (by decide) kf_M_104 rfl d_M_feed_21 ?_
    refine lv_if_le (tgt := 29) S.1 S.2.1 d_M_feed_24 (by decide) (fun h => absurd h (by decide)) (fun _ => ?_)
    refine lv_iconst (v := (nI 0)) S.1 S.2.1 d_M_feed_27 (by decide) ?_
    exact ret _ _ _ _ _ _ d_M_feed_28 rfl ⟨rfl, rfl⟩ hW
theorem d_M_constant_0 : decode b_M_constant 0 = .ok (.aload_n 0, 1) := by decide +kernel
theorem d_M_constant_1 : decode b_M_constant 1 = .ok (.iload_n 2, 1) := by decide +kernel
theorem d_M_constant_2 : decode b_M_constant 2 = .ok (.ifCond .lt 8, 3) := by decide +kernel
theorem d_M_constant_5 : decode b_M_constant 5 = .ok (.iload_n 2, 1) := by decide +kernel
theorem d_M_constant_6 : decode b_M_constant 6 = .ok (.iconst 5, 1) := by decide +kernel
theorem d_M_constant_7 : decode b_M_constant 7 = .ok (.if_icmp .le 7, 3) := by decide +kernel
theorem d_M_constant_10 : decode b_M_constant 10 = .ok (.iconst 1, 1) := by decide +kernel
theorem d_M_constant_11 : decode b_M_constant 11 = .ok (.goto 20, 3) := by decide +kernel
theorem d_M_constant_14 : decode b_M_constant 14 = .ok (.iload_n 1, 1) := by decide +kernel
theorem d_M_constant_15 : decode b_M_constant 15 = .ok (.ifCond .lt 11, 3) := by decide +kernel
theorem d_M_constant_18 : decode b_M_constant 18 = .ok (.iload_n 1, 1) := by decide +kernel
theorem d_M_constant_19 : decode b_M_constant 19 = .ok (.aload_n 0, 1) := by decide +kernel
theorem d_M_constant_20 : decode b_M_constant 20 = .ok (.getfield 162, 3) := by decide +kernel
theorem d_M_constant_23 : decode b_M_constant 23 = .ok (.if_icmp .lt 7, 3) := by decide +kernel
theorem d_M_constant_26 : decode b_M_constant 26 = .ok (.iconst 2, 1) := by decide +kernel
theorem d_M_constant_27 : decode b_M_constant 27 = .ok (.goto 4, 3) := by decide +kernel
theorem d_M_constant_30 : decode b_M_constant 30 = .ok (.iconst 0, 1) := by decide +kernel
theorem d_M_constant_31 : decode b_M_constant 31 = .ok (.putfield 104, 3) := by decide +kernel
theorem d_M_constant_34 : decode b_M_constant 34 = .ok (.aload_n 0, 1) := by decide +kernel
theorem d_M_constant_35 : decode b_M_constant 35 = .ok (.getfield 104, 3) := by decide +kernel
theorem d_M_constant_38 : decode b_M_constant 38 = .ok (.ifCond .le 5, 3) := by decide +kernel
theorem d_M_constant_41 : decode b_M_constant 41 = .ok (.iconst 0, 1) := by decide +kernel
theorem d_M_constant_42 : decode b_M_constant 42 = .ok (.ireturn, 1) := by decide +kernel
theorem d_M_constant_43 : decode b_M_constant 43 = .ok (.aload_n 0, 1) := by decide +kernel
theorem d_M_constant_44 : decode b_M_constant 44 = .ok (.iload_n 1, 1) := by decide +kernel
theorem d_M_constant_45 : decode b_M_constant 45 = .ok (.invokevirtual 367, 3) := by decide +kernel
theorem d_M_constant_48 : decode b_M_constant 48 = .ok (.istore_n 3, 1) := by decide +kernel
theorem d_M_constant_49 : decode b_M_constant 49 = .ok (.iload_n 2, 1) := by decide +kernel
theorem d_M_constant_50 : decode b_M_constant 50 = .ok (.tableswitch 74 0 4 #[34, 49, 55, 61, 67], 34) := by decide +kernel
theorem d_M_constant_84 : decode b_M_constant 84 = .ok (.aload_n 0, 1) := by decide +kernel
theorem d_M_constant_85 : decode b_M_constant 85 = .ok (.getfield 28, 3) := by decide +kernel
theorem d_M_constant_88 : decode b_M_constant 88 = .ok (.iload_n 3, 1) := by decide +kernel
theorem d_M_constant_89 : decode b_M_constant 89 = .ok (.iaload, 1) := by decide +kernel
theorem d_M_constant_90 : decode b_M_constant 90 = .ok (.ifCond .ne 7, 3) := by decide +kernel
theorem d_M_constant_93 : decode b_M_constant 93 = .ok (.iconst 1, 1) := by decide +kernel
theorem d_M_constant_94 : decode b_M_constant 94 = .ok (.goto 4, 3) := by decide +kernel
theorem d_M_constant_97 : decode b_M_constant 97 = .ok (.iconst 0, 1) := by decide +kernel
theorem d_M_constant_98 : decode b_M_constant 98 = .ok (.ireturn, 1) := by decide +kernel
theorem d_M_constant_99 : decode b_M_constant 99 = .ok (.aload_n 0, 1) := by decide +kernel
theorem d_M_constant_100 : decode b_M_constant 100 = .ok (.iload_n 1, 1) := by decide +kernel
theorem d_M_constant_101 : decode b_M_constant 101 = .ok (.invokevirtual 371, 3) := by decide +kernel
theorem d_M_constant_104 : decode b_M_constant 104 = .ok (.ireturn, 1) := by decide +kernel
theorem d_M_constant_105 : decode b_M_constant 105 = .ok (.aload_n 0, 1) := by decide +kernel
theorem d_M_constant_106 : decode b_M_constant 106 = .ok (.iload_n 1, 1) := by decide +kernel
theorem d_M_constant_107 : decode b_M_constant 107 = .ok (.invokevirtual 374, 3) := by decide +kernel
theorem d_M_constant_110 : decode b_M_constant 110 = .ok (.ireturn, 1) := by decide +kernel
theorem d_M_constant_111 : decode b_M_constant 111 = .ok (.aload_n 0, 1) := by decide +kernel
theorem d_M_constant_112 : decode b_M_constant 112 = .ok (.iload_n 1, 1) := by decide +kernel
theorem d_M_constant_113 : decode b_M_constant 113 = .ok (.invokevirtual 377, 3) := by decide +kernel
theorem d_M_constant_116 : decode b_M_constant 116 = .ok (.ireturn, 1) := by decide +kernel
theorem d_M_constant_117 : decode b_M_constant 117 = .ok (.aload_n 0, 1) := by decide +kernel
theorem d_M_constant_118 : decode b_M_constant 118 = .ok (.getfield 31, 3) := by decide +kernel
theorem d_M_constant_121 : decode b_M_constant 121 = .ok (.iload_n 1, 1) := by decide +kernel
theorem d_M_constant_122 : decode b_M_constant 122 = .ok (.iaload, 1) := by decide +kernel
theorem d_M_constant_123 : decode b_M_constant 123 = .ok (.ireturn, 1) := by decide +kernel
theorem d_M_constant_124 : decode b_M_constant 124 = .ok (.aload_n 0, 1) := by decide +kernel
theorem d_M_constant_125 : decode b_M_constant 125 = .ok (.getfield 28, 3) := by decide +kernel
theorem d_M_constant_128 : decode b_M_constant 128 = .ok (.iload_n 3, 1) := by decide +kernel
theorem d_M_constant_129 : decode b_M_constant 129 = .ok (.iaload, 1) := by decide +kernel
theorem d_M_constant_130 : decode b_M_constant 130 = .ok (.ifCond .ne 7, 3) := by decide +kernel
theorem d_M_constant_133 : decode b_M_constant 133 = .ok (.iconst (-1), 1) := by decide +kernel
theorem d_M_constant_134 : decode b_M_constant 134 = .ok (.goto 11, 3) := by decide +kernel
theorem d_M_constant_137 : decode b_M_constant 137 = .ok (.aload_n 0, 1) := by decide +kernel
theorem d_M_constant_138 : decode b_M_constant 138 = .ok (.getfield 28, 3) := by decide +kernel
theorem d_M_constant_141 : decode b_M_constant 141 = .ok (.iload_n 3, 1) := by decide +kernel
theorem d_M_constant_142 : decode b_M_constant 142 = .ok (.iconst 1, 1) := by decide +kernel
theorem d_M_constant_143 : decode b_M_constant 143 = .ok (.iadd, 1) := by decide +kernel
theorem d_M_constant_144 : decode b_M_constant 144 = .ok (.iaload, 1) := by decide +kernel
theorem d_M_constant_145 : decode b_M_constant 145 = .ok (.ireturn, 1) := by decide +kernel
set_option maxHeartbeats 4000000 in
set_option maxRecDepth 100000 in
theorem c_M_constantA (l : Launch) (D : va_G) (cI cJ cB cZ : ClassId) (aM m_text m_paper m_firstHalf m_secondHalf m_stored m_proved m_written m_places m_levelKind m_levelStart m_levelApp m_levelHad m_levelScope m_levelId m_levelFirst m_levelSecond m_scopeFirst m_scopeSecond m_scopeId m_made m_typeOf m_tasks m_todo m_renamed m_bound m_markA m_markB m_line : Nat) (v_thrown v_length v_came v_fault v_place v_papered v_constants v_at v_token v_tokenAt v_end v_second v_ids v_nodes v_opens v_levelOpens v_start v_app v_behind v_level v_scope v_top v_left v_waits v_fresh v_changed v_changedTo v_out v_counted v_printed v_questionAt : Int32) (v_nameFirst v_nameSecond : Int64) (k w : Int32) (hb : ¬ (¬ w < 0 ∧ w ≤ nI 5)) : Ci l D (tyl cI cJ cB cZ) y_M_constant b_M_constant 4 (some .int) ({ frames := 0, cells := 0, slots := 0, locals := 0 } : Room) [.ref aM, .int k, .int w] [(aM, .inr (10, [.int v_thrown, .ref m_text, .int v_length, .int v_came, .int v_fault, .int v_place, .ref m_paper, .int v_papered, .int v_constants, .ref m_firstHalf, .ref m_secondHalf, .ref m_stored, .ref m_proved, .int v_at, .int v_token, .int v_tokenAt, .long v_nameFirst, .long v_nameSecond, .ref m_written, .ref m_places, .int v_end, .int v_second, .int v_ids, .int v_nodes, .int v_opens, .int v_levelOpens, .int v_start, .int v_app, .int v_behind, .ref m_levelKind, .ref m_levelStart, .ref m_levelApp, .ref m_levelHad, .ref m_levelScope, .ref m_levelId, .ref m_levelFirst, .ref m_levelSecond, .int v_level, .ref m_scopeFirst, .ref m_scopeSecond, .ref m_scopeId, .int v_scope, .ref m_made, .int v_top, .ref m_typeOf, .ref m_tasks, .int v_left, .ref m_todo, .int v_waits, .ref m_renamed, .ref m_bound, .int v_fresh, .int v_changed, .int v_changedTo, .int v_out, .int v_counted, .ref m_markA, .ref m_markB, .ref m_line, .int v_printed, .int v_questionAt]))] (fun r u => r = (nI 0) ∧ u = [(aM, .inr (10, [.int (nI 1), .ref m_text, .int v_length, .int v_came, .int v_fault, .int v_place, .ref m_paper, .int v_papered, .int v_constants, .ref m_firstHalf, .ref m_secondHalf, .ref m_stored, .ref m_proved, .int v_at, .int v_token, .int v_tokenAt, .long v_nameFirst, .long v_nameSecond, .ref m_written, .ref m_places, .int v_end, .int v_second, .int v_ids, .int v_nodes, .int v_opens, .int v_levelOpens, .int v_start, .int v_app, .int v_behind, .ref m_levelKind, .ref m_levelStart, .ref m_levelApp, .ref m_levelHad, .ref m_levelScope, .ref m_levelId, .ref m_levelFirst, .ref m_levelSecond, .int v_level, .ref m_scopeFirst, .ref m_scopeSecond, .ref m_scopeId, .int v_scope, .ref m_made, .int v_top, .ref m_typeOf, .ref m_tasks, .int v_left, .ref m_todo, .int v_waits, .ref m_renamed, .ref m_bound, .int v_fresh, .int v_changed, .int v_changedTo, .int v_out, .int v_counted, .ref m_markA, .ref m_markB, .ref m_line, .int v_printed, .int v_questionAt]))]) := by
  refine met_i (own := "ProofReaderModel") (by decide) rfl (Nat.le_of_ble_eq_true rfl) ?_
  intro p e s m args below meth c A Q S hA ret ls hl hW
  have hl : lv_has ls 4 [(0, .ref aM), (1, .int k), (2, .int w)] := hl
  have hW : Wd D (tyl cI cJ cB cZ) A s s.heap s.heap [] [(aM, .inr (10, [.int v_thrown, .ref m_text, .int v_length, .int v_came, .int v_fault, .int v_place, .ref m_paper, .int v_papered, .int v_constants, .ref m_firstHalf, .ref m_secondHalf, .ref m_stored, .ref m_proved, .int v_at, .int v_token, .int v_tokenAt, .long v_nameFirst, .long v_nameSecond, .ref m_written, .ref m_places, .int v_end, .int v_second, .int v_ids, .int v_nodes, .int v_opens, .int v_levelOpens, .int v_start, .int v_app, .int v_behind, .ref m_levelKind, .ref m_levelStart, .ref m_levelApp, .ref m_levelHad, .ref m_levelScope, .ref m_levelId, .ref m_levelFirst, .ref m_levelSecond, .int v_level, .ref m_scopeFirst, .ref m_scopeSecond, .ref m_scopeId, .int v_scope, .ref m_made, .int v_top, .ref m_typeOf, .ref m_tasks, .int v_left, .ref m_todo, .int v_waits, .ref m_renamed, .ref m_bound, .int v_fresh, .int v_changed, .int v_changedTo, .int v_out, .int v_counted, .ref m_markA, .ref m_markB, .ref m_line, .int v_printed, .int v_questionAt]))] := hW
  refine lv_aload_n S.1 S.2.1 d_M_constant_0 rfl (lv_at hl 0 rfl) ?_
  refine lv_iload_n S.1 S.2.1 d_M_constant_1 rfl (lv_at hl 2 rfl) ?_
  refine lv_if_lt (tgt := 10) S.1 S.2.1 d_M_constant_2 (by decide) (fun c_2 => ?_) (fun c_2 => ?_)
  · refine lv_iconst (v := (nI 1)) S.1 S.2.1 d_M_constant_10 (by decide) ?_
    refine lv_goto (tgt := 31) S.1 S.2.1 d_M_constant_11 (by decide) ?_
    refine g_put (ws2 := [(aM, .inr (10, [.int (nI 1), .ref m_text, .int v_length, .int v_came, .int v_fault, .int v_place, .ref m_paper, .int v_papered, .int v_constants, .ref m_firstHalf, .ref m_secondHalf, .ref m_stored, .ref m_proved, .int v_at, .int v_token, .int v_tokenAt, .long v_nameFirst, .long v_nameSecond, .ref m_written, .ref m_places, .int v_end, .int v_second, .int v_ids, .int v_nodes, .int v_opens, .int v_levelOpens, .int v_start, .int v_app, .int v_behind, .ref m_levelKind, .ref m_levelStart, .ref m_levelApp, .ref m_levelHad, .ref m_levelScope, .ref m_levelId, .ref m_levelFirst, .ref m_levelSecond, .int v_level, .ref m_scopeFirst, .ref m_scopeSecond, .ref m_scopeId, .int v_scope, .ref m_made, .int v_top, .ref m_typeOf, .ref m_tasks, .int v_left, .ref m_todo, .int v_waits, .ref m_renamed, .ref m_bound, .int v_fresh, .int v_changed, .int v_changedTo, .int v_out, .int v_counted, .ref m_markA, .ref m_markB, .ref m_line, .int v_printed, .int v_questionAt]))]) i_M ft_M ft_M_ok n_M S hW 0 rfl rfl 0 (by decide) kf_M_104 rfl rfl rfl (Nat.le_of_ble_eq_true rfl) rfl d_M_constant_31 (fun H locs hW => ?_)
    refine lv_aload_n S.1 S.2.1 d_M_constant_34 rfl (lv_at hl 0 rfl) ?_
    refine g_get i_M S hW 0 rfl rfl 0 (by decide) kf_M_104 rfl d_M_constant_35 ?_
    refine lv_if_le (tgt := 43) S.1 S.2.1 d_M_constant_38 (by decide) (fun h => absurd h (by decide)) (fun _ => ?_)
    refine lv_iconst (v := (nI 0)) S.1 S.2.1 d_M_constant_41 (by decide) ?_
    exact ret _ _ _ _ _ _ d_M_constant_42 rfl ⟨rfl, rfl⟩ hW
  · refine lv_iload_n S.1 S.2.1 d_M_constant_5 rfl (lv_at hl 2 rfl) ?_
    refine lv_iconst (v := (nI 5)) S.1 S.2.1 d_M_constant_6 (by decide) ?_
    refine lv_icmp_le (tgt := 14) S.1 S.2.1 d_M_constant_7 (by decide) (fun c_7 => absurd c_7 (fun z => hb ⟨c_2, z⟩)) (fun c_7 => ?_)
    refine lv_iconst (v := (nI 1)) S.1 S.2.1 d_M_constant_10 (by decide) ?_
    refine lv_goto (tgt := 31) S.1 S.2.1 d_M_constant_11 (by decide) ?_
    refine g_put (ws2 := [(aM, .inr (10, [.int (nI 1), .ref m_text, .int v_length, .int v_came, .int v_fault, .int v_place, .ref m_paper, .int v_papered, .int v_constants, .ref m_firstHalf, .ref m_secondHalf, .ref m_stored, .ref m_proved, .int v_at, .int v_token, .int v_tokenAt, .long v_nameFirst, .long v_nameSecond, .ref m_written, .ref m_places, .int v_end, .int v_second, .int v_ids, .int v_nodes, .int v_opens, .int v_levelOpens, .int v_start, .int v_app, .int v_behind, .ref m_levelKind, .ref m_levelStart, .ref m_levelApp, .ref m_levelHad, .ref m_levelScope, .ref m_levelId, .ref m_levelFirst, .ref m_levelSecond, .int v_level, .ref m_scopeFirst, .ref m_scopeSecond, .ref m_scopeId, .int v_scope, .ref m_made, .int v_top, .ref m_typeOf, .ref m_tasks, .int v_left, .ref m_todo, .int v_waits, .ref m_renamed, .ref m_bound, .int v_fresh, .int v_changed, .int v_changedTo, .int v_out, .int v_counted, .ref m_markA, .ref m_markB, .ref m_line, .int v_printed, .int v_questionAt]))]) i_M ft_M ft_M_ok n_M S hW 0 rfl rfl 0 (by decide) kf_M_104 rfl rfl rfl (Nat.le_of_ble_eq_true rfl) rfl d_M_constant_31 (fun H locs hW => ?_)
    refine lv_aload_n S.1 S.2.1 d_M_constant_34 rfl (lv_at hl 0 rfl) ?_
    refine g_get i_M S hW 0 rfl rfl 0 (by decide) kf_M_104 rfl d_M_constant_35 ?_
    refine lv_if_le (tgt := 43) S.1 S.2.1 d_M_constant_38 (by decide) (fun h => absurd h (by decide)) (fun _ => ?_)
    refine lv_iconst (v := (nI 0)) S.1 S.2.1 d_M_constant_41 (by decide) ?_
    exact ret _ _ _ _ _ _ d_M_constant_42 rfl ⟨rfl, rfl⟩ hW
set_option maxHeartbeats 4000000 in
set_option maxRecDepth 100000 in
theorem c_M_constantB (l : Launch) (D : va_G) (cI cJ cB cZ : ClassId) (aM m_text m_paper m_firstHalf m_secondHalf m_stored m_proved m_written m_places m_levelKind m_levelStart m_levelApp m_levelHad m_levelScope m_levelId m_levelFirst m_levelSecond m_scopeFirst m_scopeSecond m_scopeId m_made m_typeOf m_tasks m_todo m_renamed m_bound m_markA m_markB m_line : Nat) (v_thrown v_length v_came v_fault v_place v_papered v_at v_token v_tokenAt v_end v_second v_ids v_nodes v_opens v_levelOpens v_start v_app v_behind v_level v_scope v_top v_left v_waits v_fresh v_changed v_changedTo v_out v_counted v_printed v_questionAt : Int32) (v_nameFirst v_nameSecond : Int64) (k w : Int32) (hb : ¬ w < 0 ∧ w ≤ nI 5) : Ci l D (tyl cI cJ cB cZ) y_M_constant b_M_constant 4 (some .int) ({ frames := 0, cells := 0, slots := 0, locals := 0 } : Room) [.ref aM, .int k, .int w] [(aM, .inr (10, [.int v_thrown, .ref m_text, .int v_length, .int v_came, .int v_fault, .int v_place, .ref m_paper, .int v_papered, .int (nI 0), .ref m_firstHalf, .ref m_secondHalf, .ref m_stored, .ref m_proved, .int v_at, .int v_token, .int v_tokenAt, .long v_nameFirst, .long v_nameSecond, .ref m_written, .ref m_places, .int v_end, .int v_second, .int v_ids, .int v_nodes, .int v_opens, .int v_levelOpens, .int v_start, .int v_app, .int v_behind, .ref m_levelKind, .ref m_levelStart, .ref m_levelApp, .ref m_levelHad, .ref m_levelScope, .ref m_levelId, .ref m_levelFirst, .ref m_levelSecond, .int v_level, .ref m_scopeFirst, .ref m_scopeSecond, .ref m_scopeId, .int v_scope, .ref m_made, .int v_top, .ref m_typeOf, .ref m_tasks, .int v_left, .ref m_todo, .int v_waits, .ref m_renamed, .ref m_bound, .int v_fresh, .int v_changed, .int v_changedTo, .int v_out, .int v_counted, .ref m_markA, .ref m_markB, .ref m_line, .int v_printed, .int v_questionAt]))] (fun r u => r = (nI 0) ∧ u = [(aM, .inr (10, [.int (nI 2), .ref m_text, .int v_length, .int v_came, .int v_fault, .int v_place, .ref m_paper, .int v_papered, .int (nI 0), .ref m_firstHalf, .ref m_secondHalf, .ref m_stored, .ref m_proved, .int v_at, .int v_token, .int v_tokenAt, .long v_nameFirst, .long v_nameSecond, .ref m_written, .ref m_places, .int v_end, .int v_second, .int v_ids, .int v_nodes, .int v_opens, .int v_levelOpens, .int v_start, .int v_app, .int v_behind, .ref m_levelKind, .ref m_levelStart, .ref m_levelApp, .ref m_levelHad, .ref m_levelScope, .ref m_levelId, .ref m_levelFirst, .ref m_levelSecond, .int v_level, .ref m_scopeFirst, .ref m_scopeSecond, .ref m_scopeId, .int v_scope, .ref m_made, .int v_top, .ref m_typeOf, .ref m_tasks, .int v_left, .ref m_todo, .int v_waits, .ref m_renamed, .ref m_bound, .int v_fresh, .int v_changed, .int v_changedTo, .int v_out, .int v_counted, .ref m_markA, .ref m_markB, .ref m_line, .int v_printed, .int v_questionAt]))]) := by
  refine met_i (own := "ProofReaderModel") (by decide) rfl (Nat.le_of_ble_eq_true rfl) ?_
  intro p e s m args below meth c A Q S hA ret ls hl hW
  have hl : lv_has ls 4 [(0, .ref aM), (1, .int k), (2, .int w)] := hl
  have hW : Wd D (tyl cI cJ cB cZ) A s s.heap s.heap [] [(aM, .inr (10, [.int v_thrown, .ref m_text, .int v_length, .int v_came, .int v_fault, .int v_place, .ref m_paper, .int v_papered, .int (nI 0), .ref m_firstHalf, .ref m_secondHalf, .ref m_stored, .ref m_proved, .int v_at, .int v_token, .int v_tokenAt, .long v_nameFirst, .long v_nameSecond, .ref m_written, .ref m_places, .int v_end, .int v_second, .int v_ids, .int v_nodes, .int v_opens, .int v_levelOpens, .int v_start, .int v_app, .int v_behind, .ref m_levelKind, .ref m_levelStart, .ref m_levelApp, .ref m_levelHad, .ref m_levelScope, .ref m_levelId, .ref m_levelFirst, .ref m_levelSecond, .int v_level, .ref m_scopeFirst, .ref m_scopeSecond, .ref m_scopeId, .int v_scope, .ref m_made, .int v_top, .ref m_typeOf, .ref m_tasks, .int v_left, .ref m_todo, .int v_waits, .ref m_renamed, .ref m_bound, .int v_fresh, .int v_changed, .int v_changedTo, .int v_out, .int v_counted, .ref m_markA, .ref m_markB, .ref m_line, .int v_printed, .int v_questionAt]))] := hW
  refine lv_aload_n S.1 S.2.1 d_M_constant_0 rfl (lv_at hl 0 rfl) ?_
  refine lv_iload_n S.1 S.2.1 d_M_constant_1 rfl (lv_at hl 2 rfl) ?_
  refine lv_if_lt (tgt := 10) S.1 S.2.1 d_M_constant_2 (by decide) (fun c_2 => absurd c_2 hb.1) (fun c_2 => ?_)
  refine lv_iload_n S.1 S.2.1 d_M_constant_5 rfl (lv_at hl 2 rfl) ?_
  refine lv_iconst (v := (nI 5)) S.1 S.2.1 d_M_constant_6 (by decide) ?_
  refine lv_icmp_le (tgt := 14) S.1 S.2.1 d_M_constant_7 (by decide) (fun c_7 => ?_) (fun c_7 => absurd c_7 (fun z => z hb.2))
  refine lv_iload_n S.1 S.2.1 d_M_constant_14 rfl (lv_at hl 1 rfl) ?_
  refine lv_if_lt (tgt := 26) S.1 S.2.1 d_M_constant_15 (by decide) (fun c_15 => ?_) (fun c_15 => ?_)
  · refine lv_iconst (v := (nI 2)) S.1 S.2.1 d_M_constant_26 (by decide) ?_
    refine lv_goto (tgt := 31) S.1 S.2.1 d_M_constant_27 (by decide) ?_
    refine g_put (ws2 := [(aM, .inr (10, [.int (nI 2), .ref m_text, .int v_length, .int v_came, .int v_fault, .int v_place, .ref m_paper, .int v_papered, .int (nI 0), .ref m_firstHalf, .ref m_secondHalf, .ref m_stored, .ref m_proved, .int v_at, .int v_token, .int v_tokenAt, .long v_nameFirst, .long v_nameSecond, .ref m_written, .ref m_places, .int v_end, .int v_second, .int v_ids, .int v_nodes, .int v_opens, .int v_levelOpens, .int v_start, .int v_app, .int v_behind, .ref m_levelKind, .ref m_levelStart, .ref m_levelApp, .ref m_levelHad, .ref m_levelScope, .ref m_levelId, .ref m_levelFirst, .ref m_levelSecond, .int v_level, .ref m_scopeFirst, .ref m_scopeSecond, .ref m_scopeId, .int v_scope, .ref m_made, .int v_top, .ref m_typeOf, .ref m_tasks, .int v_left, .ref m_todo, .int v_waits, .ref m_renamed, .ref m_bound, .int v_fresh, .int v_changed, .int v_changedTo, .int v_out, .int v_counted, .ref m_markA, .ref m_markB, .ref m_line, .int v_printed, .int v_questionAt]))]) i_M ft_M ft_M_ok n_M S hW 0 rfl rfl 0 (by decide) kf_M_104 rfl rfl rfl (Nat.le_of_ble_eq_true rfl) rfl d_M_constant_31 (fun H locs hW => ?_)
    refine lv_aload_n S.1 S.2.1 d_M_constant_34 rfl (lv_at hl 0 rfl) ?_
    refine g_get i_M S hW 0 rfl rfl 0 (by decide) kf_M_104 rfl d_M_constant_35 ?_
    refine lv_if_le (tgt := 43) S.1 S.2.1 d_M_constant_38 (by decide) (fun h => absurd h (by decide)) (fun _ => ?_)
    refine lv_iconst (v := (nI 0)) S.1 S.2.1 d_M_constant_41 (by decide) ?_
    exact ret _ _ _ _ _ _ d_M_constant_42 rfl ⟨rfl, rfl⟩ hW
  · refine lv_iload_n S.1 S.2.1 d_M_constant_18 rfl (lv_at hl 1 rfl) ?_
    refine lv_aload_n S.1 S.2.1 d_M_constant_19 rfl (lv_at hl 0 rfl) ?_
    refine g_get i_M S hW 0 rfl rfl 8 (by decide) kf_M_162 rfl d_M_constant_20 ?_
    refine lv_icmp_lt (tgt := 30) S.1 S.2.1 d_M_constant_23 (by decide) (fun c_23 => absurd c_23 c_15) (fun c_23 => ?_)
    refine lv_iconst (v := (nI 2)) S.1 S.2.1 d_M_constant_26 (by decide) ?_
    refine lv_goto (tgt := 31) S.1 S.2.1 d_M_constant_27 (by decide) ?_
    refine g_put (ws2 := [(aM, .inr (10, [.int (nI 2), .ref m_text, .int v_length, .int v_came, .int v_fault, .int v_place, .ref m_paper, .int v_papered, .int (nI 0), .ref m_firstHalf, .ref m_secondHalf, .ref m_stored, .ref m_proved, .int v_at, .int v_token, .int v_tokenAt, .long v_nameFirst, .long v_nameSecond, .ref m_written, .ref m_places, .int v_end, .int v_second, .int v_ids, .int v_nodes, .int v_opens, .int v_levelOpens, .int v_start, .int v_app, .int v_behind, .ref m_levelKind, .ref m_levelStart, .ref m_levelApp, .ref m_levelHad, .ref m_levelScope, .ref m_levelId, .ref m_levelFirst, .ref m_levelSecond, .int v_level, .ref m_scopeFirst, .ref m_scopeSecond, .ref m_scopeId, .int v_scope, .ref m_made, .int v_top, .ref m_typeOf, .ref m_tasks, .int v_left, .ref m_todo, .int v_waits, .ref m_renamed, .ref m_bound, .int v_fresh, .int v_changed, .int v_changedTo, .int v_out, .int v_counted, .ref m_markA, .ref m_markB, .ref m_line, .int v_printed, .int v_questionAt]))]) i_M ft_M ft_M_ok n_M S hW 0 rfl rfl 0 (by decide) kf_M_104 rfl rfl rfl (Nat.le_of_ble_eq_true rfl) rfl d_M_constant_31 (fun H locs hW => ?_)
    refine lv_aload_n S.1 S.2.1 d_M_constant_34 rfl (lv_at hl 0 rfl) ?_
    refine g_get i_M S hW 0 rfl rfl 0 (by decide) kf_M_104 rfl d_M_constant_35 ?_
    refine lv_if_le (tgt := 43) S.1 S.2.1 d_M_constant_38 (by decide) (fun h => absurd h (by decide)) (fun _ => ?_)
    refine lv_iconst (v := (nI 0)) S.1 S.2.1 d_M_constant_41 (by decide) ?_
    exact ret _ _ _ _ _ _ d_M_constant_42 rfl ⟨rfl, rfl⟩ hW
end
section
theorem tk_tab1 {L : List ExceptionTableEntry} {a b c d : Nat} (h : L.map (fun h => (h.startPc, h.endPc, h.handlerPc, h.catchType)) = [(a, b, c, d)]) : ∃ x0 : ExceptionTableEntry, L = [x0] ∧ x0.startPc = a ∧ x0.endPc = b ∧ x0.handlerPc = c ∧ x0.catchType = d := by
  match L, h with
  | [x0], h => simp at h; exact ⟨x0, rfl, h.1, h.2.1, h.2.2.1, h.2.2.2⟩
  | [], h => simp at h
  | _ :: _ :: _, h => simp at h
theorem tk_tab2 {L : List ExceptionTableEntry} {a b c d a' b' c' d' : Nat} (h : L.map (fun h => (h.startPc, h.endPc, h.handlerPc, h.catchType)) = [(a, b, c, d), (a', b', c', d')]) : ∃ x0 x1 : ExceptionTableEntry, L = [x0, x1] ∧ x0.startPc = a ∧ x0.endPc = b ∧ x0.handlerPc = c ∧ x0.catchType = d ∧ x1.startPc = a' ∧ x1.endPc = b' ∧ x1.handlerPc = c' ∧ x1.catchType = d' := by
  match L, h with
  | [x0, x1], h =>
    simp at h
    obtain ⟨⟨q1, q2, q3, q4⟩, q5, q6, q7, q8⟩ := h
    exact ⟨x0, x1, rfl, q1, q2, q3, q4, q5, q6, q7, q8⟩
  | [], h => simp at h
  | [_], h => simp at h
  | _ :: _ :: _ :: _, h => simp at h
theorem Wd.grow {D : va_G} {tys : Tys} {A : Nat → Prop} {s : State} {H0 H H1 : Heap} {locs : List Loc} {ws : va_W} (h : Wd D tys A s H0 H locs ws) (hz : H.size ≤ H1.size) (hk : ∀ q, q < H.size → H1[q]? = H[q]?) : Wd D tys A s H0 H1 locs ws :=
  ⟨h.1, fun k q hq => (h.2.1 k q hq).kept (hk q.1 (h.2.1 k q hq).lt), h.2.2.1, Nat.le_trans h.2.2.2.1 hz, fun q g1 g2 => (hk q (Nat.lt_of_lt_of_le g1 h.2.2.2.1)).trans (h.2.2.2.2.1 q g1 g2), h.2.2.2.2.2⟩
theorem nI_range {n : Int32} (h : ¬ n < nI 1 ∧ n ≤ nI 8) : ∃ k : Nat, 1 ≤ k ∧ k ≤ 8 ∧ n = nI k := by
  have a1 : ¬ n.toInt < (nI 1).toInt := fun q => h.1 (Int32.lt_iff_toInt_lt.mpr q)
  have a2 := Int32.le_iff_toInt_le.mp h.2
  rw [nI_toInt (by decide)] at a1 a2
  refine ⟨n.toInt.toNat, by omega, by omega, Int32.toInt_inj.mp ?_⟩
  rw [nI_toInt (by omega)]
  omega
theorem d_L_feed_0 : decode b_L_feed 0 = .ok (.aload 4, 2) := by decide +kernel
theorem d_L_feed_2 : decode b_L_feed 2 = .ok (.iconst 0, 1) := by decide +kernel
theorem d_L_feed_3 : decode b_L_feed 3 = .ok (.aload_n 0, 1) := by decide +kernel
theorem d_L_feed_4 : decode b_L_feed 4 = .ok (.iload_n 1, 1) := by decide +kernel
theorem d_L_feed_5 : decode b_L_feed 5 = .ok (.lload_n 2, 1) := by decide +kernel
theorem d_L_feed_6 : decode b_L_feed 6 = .ok (.invokevirtual 7, 3) := by decide +kernel
theorem d_L_feed_9 : decode b_L_feed 9 = .ok (.i2l, 1) := by decide +kernel
theorem d_L_feed_10 : decode b_L_feed 10 = .ok (.lastore, 1) := by decide +kernel
theorem d_L_feed_11 : decode b_L_feed 11 = .ok (.goto 7, 3) := by decide +kernel
theorem d_L_feed_14 : decode b_L_feed 14 = .ok (.astore 5, 2) := by decide +kernel
theorem d_L_feed_16 : decode b_L_feed 16 = .ok (.iconst 1, 1) := by decide +kernel
theorem d_L_feed_17 : decode b_L_feed 17 = .ok (.ireturn, 1) := by decide +kernel
theorem d_L_feed_18 : decode b_L_feed 18 = .ok (.iconst 0, 1) := by decide +kernel
theorem d_L_feed_19 : decode b_L_feed 19 = .ok (.ireturn, 1) := by decide +kernel
set_option maxHeartbeats 4000000 in
set_option maxRecDepth 100000 in
theorem c_L_feed (l : Launch) (D : va_G) (cI cJ cB cZ : ClassId) (htr : l.stackTraces = false) (aX aF aC aP aT aK aR aH aI aTb aO : Nat) (f : Nat → Int32) (g : Nat → Int64) (n : Int32) (v : Int64) : CiW l D (tyl cI cJ cB cZ) y_L_feed b_L_feed 6 (some .int) [(0, 11, 14, 13)] ({ frames := 8, cells := 1, slots := 6, locals := 200 } : Room) [.ref aX, .int n, .long v, .ref aO] [(aX, .inr (9, [.ref aF, .ref aC, .ref aP, .ref aT, .ref aK, .ref aR, .ref aH, .ref aI, .int (nI 0)])), (aT, .inr (3, [.ref aF, .ref aTb, .int (nI 0), .int (nI 0), .int (nI 0), .int (nI 0), .long 0, .long 0])), (aTb, .inl (cB, 8192, .inl f)), (aO, .inl (cJ, 1, .inr (.inl g)))] (fun r u => (∃ (k : Nat) (f2 : Nat → Int32), (1 ≤ k) ∧ (k ≤ 8) ∧ (n = nI k) ∧ r = (nI 0) ∧ u = [(aX, .inr (9, [.ref aF, .ref aC, .ref aP, .ref aT, .ref aK, .ref aR, .ref aH, .ref aI, .int (nI (0 + k))])), (aT, .inr (3, [.ref aF, .ref aTb, .int (nI 0), .int (nI k), .int (nI 0), .int (nI 0), .long 0, .long 0])), (aTb, .inl (cB, 8192, .inl f2)), (aO, .inl (cJ, 1, .inr (.inl (vp_updL g 0 (nI k).toInt64))))]) ∨ ((¬ (¬ n < nI 1 ∧ n ≤ nI 8)) ∧ r = (nI 1) ∧ u = [(aX, .inr (9, [.ref aF, .ref aC, .ref aP, .ref aT, .ref aK, .ref aR, .ref aH, .ref aI, .int (nI 0)])), (aT, .inr (3, [.ref aF, .ref aTb, .int (nI 0), .int (nI 0), .int (nI 0), .int (nI 0), .long 0, .long 0])), (aTb, .inl (cB, 8192, .inl f)), (aO, .inl (cJ, 1, .inr (.inl g)))])) := by
  refine met_iW (own := "ProofReaderLaw") (by decide) rfl (Nat.le_of_ble_eq_true rfl) ?_
  intro p e s m args below meth c A Q S hTw htb hA ret ls hl hW
  have hl : lv_has ls 6 [(0, .ref aX), (1, .int n), (2, .long v), (4, .ref aO)] := hl
  have hW : Wd D (tyl cI cJ cB cZ) A s s.heap s.heap [] [(aX, .inr (9, [.ref aF, .ref aC, .ref aP, .ref aT, .ref aK, .ref aR, .ref aH, .ref aI, .int (nI 0)])), (aT, .inr (3, [.ref aF, .ref aTb, .int (nI 0), .int (nI 0), .int (nI 0), .int (nI 0), .long 0, .long 0])), (aTb, .inl (cB, 8192, .inl f)), (aO, .inl (cJ, 1, .inr (.inl g)))] := hW
  by_cases hb : ¬ n < nI 1 ∧ n ≤ nI 8
  · obtain ⟨k, h1, h8, rfl⟩ := nI_range hb
    refine lv_aload S.1 S.2.1 d_L_feed_0 (lv_at hl 3 rfl) ?_
    refine lv_iconst (v := (nI 0)) S.1 S.2.1 d_L_feed_2 (by decide) ?_
    refine lv_aload_n S.1 S.2.1 d_L_feed_3 rfl (lv_at hl 0 rfl) ?_
    refine lv_iload_n S.1 S.2.1 d_L_feed_4 rfl (lv_at hl 1 rfl) ?_
    refine lv_lload_n S.1 S.2.1 d_L_feed_5 rfl (lv_at hl 2 rfl) ?_
    refine callV_i (wr := [(aO, .inl (cJ, 1, .inr (.inl g)))]) (wc := [(aX, .inr (9, [.ref aF, .ref aC, .ref aP, .ref aT, .ref aK, .ref aR, .ref aH, .ref aI, .int (nI 0)])), (aT, .inr (3, [.ref aF, .ref aTb, .int (nI 0), .int (nI 0), .int (nI 0), .int (nI 0), .long 0, .long 0])), (aTb, .inl (cB, 8192, .inl f))]) (np := 2) (As := [.int (nI k), .long v]) (rest := [.int (nI 0), .ref aO]) (c_X_feed l D cI cJ cB cZ aX aF aC aP aT aK aR aH aI aTb f k v (by first | omega | assumption | simp_all) (by first | omega | assumption | simp_all)) km_L_7 ki_X_feed kv_X_feed kz_X kk_X_feed (by decide +kernel) S hW hA ⟨Nat.le_of_ble_eq_true rfl, Nat.le_of_ble_eq_true rfl⟩ ⟨Nat.le_of_ble_eq_true rfl, Nat.le_of_ble_eq_true rfl⟩ rfl 0 rfl [0, 1, 2] [3] rfl (by decide) rfl (by decide) (by decide) rfl hl.1 rfl (Nat.le_of_ble_eq_true rfl) d_L_feed_6 (fun r u H locs hp hW => ?_)
    obtain ⟨f2_1, rfl, rfl⟩ := hp
    have hW : Wd D (tyl cI cJ cB cZ) A s s.heap H locs [(aX, .inr (9, [.ref aF, .ref aC, .ref aP, .ref aT, .ref aK, .ref aR, .ref aH, .ref aI, .int (nI (0 + k))])), (aT, .inr (3, [.ref aF, .ref aTb, .int (nI 0), .int (nI k), .int (nI 0), .int (nI 0), .long 0, .long 0])), (aTb, .inl (cB, 8192, .inl f2_1)), (aO, .inl (cJ, 1, .inr (.inl g)))] := hW.sub [1, 2, 3, 0] (by decide) rfl
    refine lv_i2l (v := (nI k).toInt64) S.1 S.2.1 d_L_feed_9 rfl ?_
    refine n_last (ws2 := [(aX, .inr (9, [.ref aF, .ref aC, .ref aP, .ref aT, .ref aK, .ref aR, .ref aH, .ref aI, .int (nI (0 + k))])), (aT, .inr (3, [.ref aF, .ref aTb, .int (nI 0), .int (nI k), .int (nI 0), .int (nI 0), .long 0, .long 0])), (aTb, .inl (cB, 8192, .inl f2_1)), (aO, .inl (cJ, 1, .inr (.inl (vp_updL g 0 ((nI k).toInt64)))))]) S hW 3 1 rfl rfl (by decide) (by omega) rfl d_L_feed_10 (fun H locs hW => ?_)
    refine lv_goto (tgt := 18) S.1 S.2.1 d_L_feed_11 (by decide) ?_
    refine lv_iconst (v := (nI 0)) S.1 S.2.1 d_L_feed_18 (by decide) ?_
    refine W.widen (k := 1) (n := 6) (Nat.le_of_ble_eq_true rfl) (Nat.le_of_ble_eq_true rfl) ?_
    exact ret _ _ _ _ _ _ d_L_feed_19 rfl (Or.inl ⟨k, f2_1, h1, h8, rfl, rfl, rfl⟩) hW
  · refine lv_aload S.1 S.2.1 d_L_feed_0 (lv_at hl 3 rfl) ?_
    refine lv_iconst (v := (nI 0)) S.1 S.2.1 d_L_feed_2 (by decide) ?_
    refine lv_aload_n S.1 S.2.1 d_L_feed_3 rfl (lv_at hl 0 rfl) ?_
    refine lv_iload_n S.1 S.2.1 d_L_feed_4 rfl (lv_at hl 1 rfl) ?_
    refine lv_lload_n S.1 S.2.1 d_L_feed_5 rfl (lv_at hl 2 rfl) ?_
    refine callV_t (wc := [(aX, .inr (9, [.ref aF, .ref aC, .ref aP, .ref aT, .ref aK, .ref aR, .ref aH, .ref aI, .int (nI 0)]))]) (np := 2) (As := [.int n, .long v]) (rest := [.int (nI 0), .ref aO]) (t_X_feed l D cI cJ cB cZ aX aF aC aP aT aK aR aH aI (nI 0) n v htr hb) km_L_7 ki_X_feed kv_X_feed kz_X kk_X_feed (by decide +kernel) S hW (fun U hU hw => Tw.move hw (fun q _ => by rw [hU]) hTw) ⟨Nat.le_of_ble_eq_true rfl, Nat.le_of_ble_eq_true rfl⟩ ⟨Nat.le_of_ble_eq_true rfl, Nat.le_of_ble_eq_true rfl⟩ rfl 0 rfl [0] rfl (by decide) rfl hl.1 rfl (Nat.le_of_ble_eq_true rfl) d_L_feed_6 (fun x ce T1 XX hz hk hce hcl hob => ?_)
    obtain ⟨x0, hx0, e1, e2, e3, e4⟩ := tk_tab1 htb
    refine tk_catch1 (n := "java/lang/IllegalArgumentException") XX S hx0 (by simp [covers, e1, e2]) (by rw [e4]; decide) (by rw [e4]; exact kc_L_13) hce hob hcl (hTw.1 (.castable "java/lang/IllegalArgumentException" "java/lang/IllegalArgumentException") (by decide +kernel)) ?_
    rw [e3]
    have hW : Wd D (tyl cI cJ cB cZ) A s s.heap T1.heap [] [(aX, .inr (9, [.ref aF, .ref aC, .ref aP, .ref aT, .ref aK, .ref aR, .ref aH, .ref aI, .int (nI 0)])), (aT, .inr (3, [.ref aF, .ref aTb, .int (nI 0), .int (nI 0), .int (nI 0), .int (nI 0), .long 0, .long 0])), (aTb, .inl (cB, 8192, .inl f)), (aO, .inl (cJ, 1, .inr (.inl g)))] := hW.grow hz hk
    refine lv_astore (lv' := [(5, .ref x), (0, .ref aX), (1, .int n), (2, .long v), (4, .ref aO)]) S.1 S.2.1 d_L_feed_14 hl (by decide) rfl (fun ls hl => ?_)
    refine lv_iconst (v := (nI 1)) S.1 S.2.1 d_L_feed_16 (by decide) ?_
    exact ret _ _ _ _ _ _ d_L_feed_17 rfl (Or.inr ⟨hb, rfl, rfl⟩) hW
theorem d_L_constant_0 : decode b_L_constant 0 = .ok (.aload_n 3, 1) := by decide +kernel
theorem d_L_constant_1 : decode b_L_constant 1 = .ok (.iconst 0, 1) := by decide +kernel
theorem d_L_constant_2 : decode b_L_constant 2 = .ok (.aload_n 0, 1) := by decide +kernel
theorem d_L_constant_3 : decode b_L_constant 3 = .ok (.iload_n 1, 1) := by decide +kernel
theorem d_L_constant_4 : decode b_L_constant 4 = .ok (.iload_n 2, 1) := by decide +kernel
theorem d_L_constant_5 : decode b_L_constant 5 = .ok (.invokevirtual 15, 3) := by decide +kernel
theorem d_L_constant_8 : decode b_L_constant 8 = .ok (.i2l, 1) := by decide +kernel
theorem d_L_constant_9 : decode b_L_constant 9 = .ok (.lastore, 1) := by decide +kernel
theorem d_L_constant_10 : decode b_L_constant 10 = .ok (.goto 11, 3) := by decide +kernel
theorem d_L_constant_13 : decode b_L_constant 13 = .ok (.astore 4, 2) := by decide +kernel
theorem d_L_constant_15 : decode b_L_constant 15 = .ok (.iconst 1, 1) := by decide +kernel
theorem d_L_constant_16 : decode b_L_constant 16 = .ok (.ireturn, 1) := by decide +kernel
theorem d_L_constant_17 : decode b_L_constant 17 = .ok (.astore 4, 2) := by decide +kernel
theorem d_L_constant_19 : decode b_L_constant 19 = .ok (.iconst 2, 1) := by decide +kernel
theorem d_L_constant_20 : decode b_L_constant 20 = .ok (.ireturn, 1) := by decide +kernel
theorem d_L_constant_21 : decode b_L_constant 21 = .ok (.iconst 0, 1) := by decide +kernel
theorem d_L_constant_22 : decode b_L_constant 22 = .ok (.ireturn, 1) := by decide +kernel
set_option maxHeartbeats 4000000 in
set_option maxRecDepth 100000 in
theorem c_L_constant (l : Launch) (D : va_G) (cI cJ cB cZ : ClassId) (htr : l.stackTraces = false) (aX aF aC aP aT aK aR aH aI aK0 aK1 aK2 aK3 aK4 aO : Nat) (k w : Int32) : CiW l D (tyl cI cJ cB cZ) y_L_constant b_L_constant 5 (some .int) [(0, 10, 13, 13), (0, 10, 17, 19)] ({ frames := 8, cells := 1, slots := 6, locals := 200 } : Room) [.ref aX, .int k, .int w, .ref aO] [(aX, .inr (9, [.ref aF, .ref aC, .ref aP, .ref aT, .ref aK, .ref aR, .ref aH, .ref aI, .int (nI 0)])), (aK, .inr (4, [.ref aC, .ref aK0, .ref aK1, .ref aK2, .ref aK3, .ref aK4, .int (nI 0), .int (nI 0)]))] (fun r u => ((¬ (¬ w < 0 ∧ w ≤ nI 5)) ∧ r = (nI 1) ∧ u = [(aX, .inr (9, [.ref aF, .ref aC, .ref aP, .ref aT, .ref aK, .ref aR, .ref aH, .ref aI, .int (nI 0)])), (aK, .inr (4, [.ref aC, .ref aK0, .ref aK1, .ref aK2, .ref aK3, .ref aK4, .int (nI 0), .int (nI 0)]))]) ∨ ((¬ w < 0 ∧ w ≤ nI 5) ∧ r = (nI 2) ∧ u = [(aX, .inr (9, [.ref aF, .ref aC, .ref aP, .ref aT, .ref aK, .ref aR, .ref aH, .ref aI, .int (nI 0)])), (aK, .inr (4, [.ref aC, .ref aK0, .ref aK1, .ref aK2, .ref aK3, .ref aK4, .int (nI 0), .int (nI 0)]))])) := by
  refine met_iW (own := "ProofReaderLaw") (by decide) rfl (Nat.le_of_ble_eq_true rfl) ?_
  intro p e s m args below meth c A Q S hTw htb hA ret ls hl hW
  have hl : lv_has ls 5 [(0, .ref aX), (1, .int k), (2, .int w), (3, .ref aO)] := hl
  have hW : Wd D (tyl cI cJ cB cZ) A s s.heap s.heap [] [(aX, .inr (9, [.ref aF, .ref aC, .ref aP, .ref aT, .ref aK, .ref aR, .ref aH, .ref aI, .int (nI 0)])), (aK, .inr (4, [.ref aC, .ref aK0, .ref aK1, .ref aK2, .ref aK3, .ref aK4, .int (nI 0), .int (nI 0)]))] := hW
  by_cases hb : ¬ w < 0 ∧ w ≤ nI 5
  · refine lv_aload_n S.1 S.2.1 d_L_constant_0 rfl (lv_at hl 3 rfl) ?_
    refine lv_iconst (v := (nI 0)) S.1 S.2.1 d_L_constant_1 (by decide) ?_
    refine lv_aload_n S.1 S.2.1 d_L_constant_2 rfl (lv_at hl 0 rfl) ?_
    refine lv_iload_n S.1 S.2.1 d_L_constant_3 rfl (lv_at hl 1 rfl) ?_
    refine lv_iload_n S.1 S.2.1 d_L_constant_4 rfl (lv_at hl 2 rfl) ?_
    refine callV_t (wc := [(aX, .inr (9, [.ref aF, .ref aC, .ref aP, .ref aT, .ref aK, .ref aR, .ref aH, .ref aI, .int (nI 0)])), (aK, .inr (4, [.ref aC, .ref aK0, .ref aK1, .ref aK2, .ref aK3, .ref aK4, .int (nI 0), .int (nI 0)]))]) (np := 2) (As := [.int k, .int w]) (rest := [.int (nI 0), .ref aO]) (t_X_constantB l D cI cJ cB cZ aX aF aC aP aT aK aR aH aI aK0 aK1 aK2 aK3 aK4 (nI 0) k w (nI 0) htr hb) km_L_15 ki_X_constant kv_X_constant kz_X kk_X_constant (by decide +kernel) S hW (fun U hU hw => Tw.move hw (fun q _ => by rw [hU]) hTw) ⟨Nat.le_of_ble_eq_true rfl, Nat.le_of_ble_eq_true rfl⟩ ⟨Nat.le_of_ble_eq_true rfl, Nat.le_of_ble_eq_true rfl⟩ rfl 0 rfl [0, 1] rfl (by decide) rfl hl.1 rfl (Nat.le_of_ble_eq_true rfl) d_L_constant_5 (fun x ce T1 XX hz hk hce hcl hob => ?_)
    obtain ⟨x0, x1, hx0, e1, e2, e3, e4, g1, g2, g3, g4⟩ := tk_tab2 htb
    refine tk_catch2 (n := "java/lang/IllegalArgumentException") (n1 := "java/lang/IndexOutOfBoundsException") XX S hx0 (by simp [covers, e1, e2]) (by simp [covers, g1, g2]) (by rw [e4]; decide) (by rw [g4]; decide) (by rw [e4]; exact kc_L_13) (by rw [g4]; exact kc_L_19) hce hob hcl (hTw.1 (.castable "java/lang/IndexOutOfBoundsException" "java/lang/IndexOutOfBoundsException") (by decide +kernel)) hTw.2.2 ?_
    rw [g3]
    have hW : Wd D (tyl cI cJ cB cZ) A s s.heap T1.heap [] [(aX, .inr (9, [.ref aF, .ref aC, .ref aP, .ref aT, .ref aK, .ref aR, .ref aH, .ref aI, .int (nI 0)])), (aK, .inr (4, [.ref aC, .ref aK0, .ref aK1, .ref aK2, .ref aK3, .ref aK4, .int (nI 0), .int (nI 0)]))] := hW.grow hz hk
    refine lv_astore (lv' := [(4, .ref x), (0, .ref aX), (1, .int k), (2, .int w), (3, .ref aO)]) S.1 S.2.1 d_L_constant_17 hl (by decide) rfl (fun ls hl => ?_)
    refine lv_iconst (v := (nI 2)) S.1 S.2.1 d_L_constant_19 (by decide) ?_
    exact ret _ _ _ _ _ _ d_L_constant_20 rfl (Or.inr ⟨hb, rfl, rfl⟩) hW
  · refine lv_aload_n S.1 S.2.1 d_L_constant_0 rfl (lv_at hl 3 rfl) ?_
    refine lv_iconst (v := (nI 0)) S.1 S.2.1 d_L_constant_1 (by decide) ?_
    refine lv_aload_n S.1 S.2.1 d_L_constant_2 rfl (lv_at hl 0 rfl) ?_
    refine lv_iload_n S.1 S.2.1 d_L_constant_3 rfl (lv_at hl 1 rfl) ?_
    refine lv_iload_n S.1 S.2.1 d_L_constant_4 rfl (lv_at hl 2 rfl) ?_
    refine callV_t (wc := [(aX, .inr (9, [.ref aF, .ref aC, .ref aP, .ref aT, .ref aK, .ref aR, .ref aH, .ref aI, .int (nI 0)]))]) (np := 2) (As := [.int k, .int w]) (rest := [.int (nI 0), .ref aO]) (t_X_constantA l D cI cJ cB cZ aX aF aC aP aT aK aR aH aI (nI 0) k w htr hb) km_L_15 ki_X_constant kv_X_constant kz_X kk_X_constant (by decide +kernel) S hW (fun U hU hw => Tw.move hw (fun q _ => by rw [hU]) hTw) ⟨Nat.le_of_ble_eq_true rfl, Nat.le_of_ble_eq_true rfl⟩ ⟨Nat.le_of_ble_eq_true rfl, Nat.le_of_ble_eq_true rfl⟩ rfl 0 rfl [0] rfl (by decide) rfl hl.1 rfl (Nat.le_of_ble_eq_true rfl) d_L_constant_5 (fun x ce T1 XX hz hk hce hcl hob => ?_)
    obtain ⟨x0, x1, hx0, e1, e2, e3, e4, g1, g2, g3, g4⟩ := tk_tab2 htb
    refine tk_catch1 (n := "java/lang/IllegalArgumentException") XX S hx0 (by simp [covers, e1, e2]) (by rw [e4]; decide) (by rw [e4]; exact kc_L_13) hce hob hcl (hTw.1 (.castable "java/lang/IllegalArgumentException" "java/lang/IllegalArgumentException") (by decide +kernel)) ?_
    rw [e3]
    have hW : Wd D (tyl cI cJ cB cZ) A s s.heap T1.heap [] [(aX, .inr (9, [.ref aF, .ref aC, .ref aP, .ref aT, .ref aK, .ref aR, .ref aH, .ref aI, .int (nI 0)])), (aK, .inr (4, [.ref aC, .ref aK0, .ref aK1, .ref aK2, .ref aK3, .ref aK4, .int (nI 0), .int (nI 0)]))] := hW.grow hz hk
    refine lv_astore (lv' := [(4, .ref x), (0, .ref aX), (1, .int k), (2, .int w), (3, .ref aO)]) S.1 S.2.1 d_L_constant_13 hl (by decide) rfl (fun ls hl => ?_)
    refine lv_iconst (v := (nI 1)) S.1 S.2.1 d_L_constant_15 (by decide) ?_
    exact ret _ _ _ _ _ _ d_L_constant_16 rfl (Or.inl ⟨hb, rfl, rfl⟩) hW
end
section
def R_law : String := "ProofReaderLaw"
def lw_P (b : Addr) (xs : List Int32) (args : Array Value) (s : State) : Prop := args = #[.ref b] ∧ s.IntsAt b xs ∧ xs.length ≤ 4 ∧ (Jvm.Cond.and given_1 narrow_1).before args s = true
def lw_Q (_ : Array Value) (s : State) (o : Outcome) (t : State) : Prop := o = .returned (some (.int 1)) ∧ Framed s o t [] 600002 7302232
def lw_Z (below : List Frame) (a : Array Value) (s : State) : State → Prop := fun t => ∃ o, t.status = .running ∧ Ended t below o ∧ lw_Q a s o t
/-- the law's own end, with 1 on the stack, nothing written that was there before, its room as the claim has it -/
theorem lw_ret {p : Program} {l : Launch} {e : Env} {s : State} {m : MethodId} {below : List Frame} {meth : Method} {c : Code} {b : Nat} (hx : p.tables.exec = Jvm.exec) (hb : c.code = code) (hr : meth.sig.returnType = ret) (hlocks : meth.locks = false) {pc : Nat} {H : Heap} {ls : Array Slot} (hdg : decode code pc = .ok (.ireturn, 1)) : W p l e room_1 s m #[Value.ref b] below meth c H [] 600002 7302232 (lw_Z below #[Value.ref b] s) (F0 m pc ls [.int 1]) := by
  intro T hT X
  obtain ⟨fs, hret, hrun, hended, hW, hframe⟩ := X.leave (v := some (.int 1)) (hlocks := hlocks) (fun h => by rw [hr] at h; cases h)
  have hmeth' : T.vm.method? m = some meth := X.method'
  refine ⟨T.setFrames fs, ?_, .returned (some (.int 1)), hrun, hended, rfl, ⟨_, rfl⟩, hW, hframe⟩
  jvm_step X.here [X.here.top, hx, hb, hdg, hmeth', hr, ret, narrow_b1]
  (try refine ⟨rfl, ?_⟩); (try refine ⟨rfl, ?_⟩)
  first | (intro acts; rw [hret _ acts rfl rfl rfl]) | rw [hret _ _ rfl rfl rfl]
  exact Steps.refl _
/-- what holds at the law's entry: the machine, the code, the tables' words (any of lw_tbl by 'hts w (by decide +kernel)'), the script of L ints xs at the cell b, what the Statement gives of the start (any of its parts by flat_of_before) -/
def lw_At (p : Program) (s : State) (m : MethodId) (meth : Method) (c : Code) (b L : Nat) (xs : Nat → Int32) : Prop :=
  p.tables.exec = Jvm.exec ∧ c.code = code ∧ meth.sig.returnType = ret ∧ c.maxLocals = 7 ∧ s.vm.findClass R_law = some m.cls ∧ (∀ w ∈ lw_tbl, w.before #[Value.ref b] s = true) ∧ va_X b L xs s s.heap ∧ b < s.heap.size ∧ meth.locks = false ∧ (Jvm.Cond.and given_1 narrow_1).before #[Value.ref b] s = true
/-! the law -/
abbrev b_L_law : ByteArray := code
/-- what stands while the law runs -/
def LawC (p : Program) (l : Launch) (s : State) (m : MethodId) (meth : Method) (c : Code) (b L : Nat) (xs : Nat → Int32) (A : Nat → Prop) : Prop := CallFix p m c b_L_law 7 s #[Value.ref b] tb "ProofReaderLaw" ∧ va_X b L xs s s.heap ∧ b < s.heap.size ∧ ¬ A b ∧ (∀ q, s.heap.size ≤ q → A q) ∧ (∀ q, A q → s.heap.size ≤ q) ∧ meth.sig.returnType = ret ∧ meth.locks = false ∧ Tw s ∧ l.stackTraces = false
theorem d_L_law_0 : decode b_L_law 0 = .ok (.new 8, 3) := by decide +kernel
theorem d_L_law_3 : decode b_L_law 3 = .ok (.dup, 1) := by decide +kernel
theorem d_L_law_4 : decode b_L_law 4 = .ok (.invokespecial 21, 3) := by decide +kernel
theorem d_L_law_7 : decode b_L_law 7 = .ok (.astore_n 1, 1) := by decide +kernel
theorem d_L_law_8 : decode b_L_law 8 = .ok (.new 22, 3) := by decide +kernel
theorem d_L_law_11 : decode b_L_law 11 = .ok (.dup, 1) := by decide +kernel
theorem d_L_law_12 : decode b_L_law 12 = .ok (.invokespecial 24, 3) := by decide +kernel
theorem d_L_law_15 : decode b_L_law 15 = .ok (.astore_n 2, 1) := by decide +kernel
theorem d_L_law_16 : decode b_L_law 16 = .ok (.iconst 1, 1) := by decide +kernel
theorem d_L_law_17 : decode b_L_law 17 = .ok (.newarray .long, 2) := by decide +kernel
theorem d_L_law_19 : decode b_L_law 19 = .ok (.astore_n 3, 1) := by decide +kernel
theorem d_L_law_20 : decode b_L_law 20 = .ok (.iconst 0, 1) := by decide +kernel
theorem d_L_law_21 : decode b_L_law 21 = .ok (.istore 4, 2) := by decide +kernel
theorem d_L_law_23 : decode b_L_law 23 = .ok (.iload 4, 2) := by decide +kernel
theorem d_L_law_25 : decode b_L_law 25 = .ok (.aload_n 0, 1) := by decide +kernel
theorem d_L_law_26 : decode b_L_law 26 = .ok (.arraylength, 1) := by decide +kernel
theorem d_L_law_27 : decode b_L_law 27 = .ok (.iconst 4, 1) := by decide +kernel
theorem d_L_law_28 : decode b_L_law 28 = .ok (.isub, 1) := by decide +kernel
theorem d_L_law_29 : decode b_L_law 29 = .ok (.if_icmp .gt 354, 3) := by decide +kernel
theorem d_L_law_32 : decode b_L_law 32 = .ok (.aload_n 0, 1) := by decide +kernel
theorem d_L_law_33 : decode b_L_law 33 = .ok (.iload 4, 2) := by decide +kernel
theorem d_L_law_35 : decode b_L_law 35 = .ok (.iaload, 1) := by decide +kernel
theorem d_L_law_36 : decode b_L_law 36 = .ok (.bipush 15, 2) := by decide +kernel
theorem d_L_law_38 : decode b_L_law 38 = .ok (.iand, 1) := by decide +kernel
theorem d_L_law_39 : decode b_L_law 39 = .ok (.tableswitch 338 0 9 #[53, 153, 166, 179, 192, 205, 218, 286, 299, 325], 53) := by decide +kernel
theorem d_L_law_92 : decode b_L_law 92 = .ok (.aload_n 1, 1) := by decide +kernel
theorem d_L_law_93 : decode b_L_law 93 = .ok (.aload_n 0, 1) := by decide +kernel
theorem d_L_law_94 : decode b_L_law 94 = .ok (.iload 4, 2) := by decide +kernel
theorem d_L_law_96 : decode b_L_law 96 = .ok (.iconst 1, 1) := by decide +kernel
theorem d_L_law_97 : decode b_L_law 97 = .ok (.iadd, 1) := by decide +kernel
theorem d_L_law_98 : decode b_L_law 98 = .ok (.iaload, 1) := by decide +kernel
theorem d_L_law_99 : decode b_L_law 99 = .ok (.aload_n 0, 1) := by decide +kernel
theorem d_L_law_100 : decode b_L_law 100 = .ok (.iload 4, 2) := by decide +kernel
theorem d_L_law_102 : decode b_L_law 102 = .ok (.iconst 2, 1) := by decide +kernel
theorem d_L_law_103 : decode b_L_law 103 = .ok (.iadd, 1) := by decide +kernel
theorem d_L_law_104 : decode b_L_law 104 = .ok (.iaload, 1) := by decide +kernel
theorem d_L_law_105 : decode b_L_law 105 = .ok (.i2l, 1) := by decide +kernel
theorem d_L_law_106 : decode b_L_law 106 = .ok (.bipush 32, 2) := by decide +kernel
theorem d_L_law_108 : decode b_L_law 108 = .ok (.lshl, 1) := by decide +kernel
theorem d_L_law_109 : decode b_L_law 109 = .ok (.aload_n 0, 1) := by decide +kernel
theorem d_L_law_110 : decode b_L_law 110 = .ok (.iload 4, 2) := by decide +kernel
theorem d_L_law_112 : decode b_L_law 112 = .ok (.iconst 3, 1) := by decide +kernel
theorem d_L_law_113 : decode b_L_law 113 = .ok (.iadd, 1) := by decide +kernel
theorem d_L_law_114 : decode b_L_law 114 = .ok (.iaload, 1) := by decide +kernel
theorem d_L_law_115 : decode b_L_law 115 = .ok (.i2l, 1) := by decide +kernel
theorem d_L_law_116 : decode b_L_law 116 = .ok (.ldc2_w 25, 3) := by decide +kernel
theorem d_L_law_119 : decode b_L_law 119 = .ok (.land, 1) := by decide +kernel
theorem d_L_law_120 : decode b_L_law 120 = .ok (.lor, 1) := by decide +kernel
theorem d_L_law_121 : decode b_L_law 121 = .ok (.aload_n 3, 1) := by decide +kernel
theorem d_L_law_122 : decode b_L_law 122 = .ok (.invokestatic 27, 3) := by decide +kernel
theorem d_L_law_125 : decode b_L_law 125 = .ok (.istore 5, 2) := by decide +kernel
theorem d_L_law_127 : decode b_L_law 127 = .ok (.aload_n 2, 1) := by decide +kernel
theorem d_L_law_128 : decode b_L_law 128 = .ok (.aload_n 0, 1) := by decide +kernel
theorem d_L_law_129 : decode b_L_law 129 = .ok (.iload 4, 2) := by decide +kernel
theorem d_L_law_131 : decode b_L_law 131 = .ok (.iconst 1, 1) := by decide +kernel
theorem d_L_law_132 : decode b_L_law 132 = .ok (.iadd, 1) := by decide +kernel
theorem d_L_law_133 : decode b_L_law 133 = .ok (.iaload, 1) := by decide +kernel
theorem d_L_law_134 : decode b_L_law 134 = .ok (.aload_n 0, 1) := by decide +kernel
theorem d_L_law_135 : decode b_L_law 135 = .ok (.iload 4, 2) := by decide +kernel
theorem d_L_law_137 : decode b_L_law 137 = .ok (.iconst 2, 1) := by decide +kernel
theorem d_L_law_138 : decode b_L_law 138 = .ok (.iadd, 1) := by decide +kernel
theorem d_L_law_139 : decode b_L_law 139 = .ok (.iaload, 1) := by decide +kernel
theorem d_L_law_140 : decode b_L_law 140 = .ok (.i2l, 1) := by decide +kernel
theorem d_L_law_141 : decode b_L_law 141 = .ok (.bipush 32, 2) := by decide +kernel
theorem d_L_law_143 : decode b_L_law 143 = .ok (.lshl, 1) := by decide +kernel
theorem d_L_law_144 : decode b_L_law 144 = .ok (.aload_n 0, 1) := by decide +kernel
theorem d_L_law_145 : decode b_L_law 145 = .ok (.iload 4, 2) := by decide +kernel
theorem d_L_law_147 : decode b_L_law 147 = .ok (.iconst 3, 1) := by decide +kernel
theorem d_L_law_148 : decode b_L_law 148 = .ok (.iadd, 1) := by decide +kernel
theorem d_L_law_149 : decode b_L_law 149 = .ok (.iaload, 1) := by decide +kernel
theorem d_L_law_150 : decode b_L_law 150 = .ok (.i2l, 1) := by decide +kernel
theorem d_L_law_151 : decode b_L_law 151 = .ok (.ldc2_w 25, 3) := by decide +kernel
theorem d_L_law_154 : decode b_L_law 154 = .ok (.land, 1) := by decide +kernel
theorem d_L_law_155 : decode b_L_law 155 = .ok (.lor, 1) := by decide +kernel
theorem d_L_law_156 : decode b_L_law 156 = .ok (.invokevirtual 32, 3) := by decide +kernel
theorem d_L_law_159 : decode b_L_law 159 = .ok (.istore 6, 2) := by decide +kernel
theorem d_L_law_161 : decode b_L_law 161 = .ok (.aload_n 2, 1) := by decide +kernel
theorem d_L_law_162 : decode b_L_law 162 = .ok (.invokevirtual 33, 3) := by decide +kernel
theorem d_L_law_165 : decode b_L_law 165 = .ok (.iload 5, 2) := by decide +kernel
theorem d_L_law_167 : decode b_L_law 167 = .ok (.if_icmp .eq 5, 3) := by decide +kernel
theorem d_L_law_170 : decode b_L_law 170 = .ok (.iconst 0, 1) := by decide +kernel
theorem d_L_law_171 : decode b_L_law 171 = .ok (.ireturn, 1) := by decide +kernel
theorem d_L_law_172 : decode b_L_law 172 = .ok (.iload 5, 2) := by decide +kernel
theorem d_L_law_174 : decode b_L_law 174 = .ok (.ifCond .ne 15, 3) := by decide +kernel
theorem d_L_law_177 : decode b_L_law 177 = .ok (.aload_n 3, 1) := by decide +kernel
theorem d_L_law_178 : decode b_L_law 178 = .ok (.iconst 0, 1) := by decide +kernel
theorem d_L_law_179 : decode b_L_law 179 = .ok (.laload, 1) := by decide +kernel
theorem d_L_law_180 : decode b_L_law 180 = .ok (.iload 6, 2) := by decide +kernel
theorem d_L_law_182 : decode b_L_law 182 = .ok (.i2l, 1) := by decide +kernel
theorem d_L_law_183 : decode b_L_law 183 = .ok (.lcmp, 1) := by decide +kernel
theorem d_L_law_184 : decode b_L_law 184 = .ok (.ifCond .eq 5, 3) := by decide +kernel
theorem d_L_law_187 : decode b_L_law 187 = .ok (.iconst 0, 1) := by decide +kernel
theorem d_L_law_188 : decode b_L_law 188 = .ok (.ireturn, 1) := by decide +kernel
theorem d_L_law_189 : decode b_L_law 189 = .ok (.goto 188, 3) := by decide +kernel
theorem d_L_law_192 : decode b_L_law 192 = .ok (.aload_n 1, 1) := by decide +kernel
theorem d_L_law_193 : decode b_L_law 193 = .ok (.invokevirtual 37, 3) := by decide +kernel
theorem d_L_law_196 : decode b_L_law 196 = .ok (.aload_n 2, 1) := by decide +kernel
theorem d_L_law_197 : decode b_L_law 197 = .ok (.invokevirtual 40, 3) := by decide +kernel
theorem d_L_law_200 : decode b_L_law 200 = .ok (.if_icmp .eq 177, 3) := by decide +kernel
theorem d_L_law_203 : decode b_L_law 203 = .ok (.iconst 0, 1) := by decide +kernel
theorem d_L_law_204 : decode b_L_law 204 = .ok (.ireturn, 1) := by decide +kernel
theorem d_L_law_205 : decode b_L_law 205 = .ok (.aload_n 1, 1) := by decide +kernel
theorem d_L_law_206 : decode b_L_law 206 = .ok (.invokevirtual 41, 3) := by decide +kernel
theorem d_L_law_209 : decode b_L_law 209 = .ok (.aload_n 2, 1) := by decide +kernel
theorem d_L_law_210 : decode b_L_law 210 = .ok (.invokevirtual 44, 3) := by decide +kernel
theorem d_L_law_213 : decode b_L_law 213 = .ok (.if_icmp .eq 164, 3) := by decide +kernel
theorem d_L_law_216 : decode b_L_law 216 = .ok (.iconst 0, 1) := by decide +kernel
theorem d_L_law_217 : decode b_L_law 217 = .ok (.ireturn, 1) := by decide +kernel
theorem d_L_law_218 : decode b_L_law 218 = .ok (.aload_n 1, 1) := by decide +kernel
theorem d_L_law_219 : decode b_L_law 219 = .ok (.invokevirtual 45, 3) := by decide +kernel
theorem d_L_law_222 : decode b_L_law 222 = .ok (.aload_n 2, 1) := by decide +kernel
theorem d_L_law_223 : decode b_L_law 223 = .ok (.invokevirtual 48, 3) := by decide +kernel
theorem d_L_law_226 : decode b_L_law 226 = .ok (.if_icmp .eq 151, 3) := by decide +kernel
theorem d_L_law_229 : decode b_L_law 229 = .ok (.iconst 0, 1) := by decide +kernel
theorem d_L_law_230 : decode b_L_law 230 = .ok (.ireturn, 1) := by decide +kernel
theorem d_L_law_231 : decode b_L_law 231 = .ok (.aload_n 1, 1) := by decide +kernel
theorem d_L_law_232 : decode b_L_law 232 = .ok (.invokevirtual 49, 3) := by decide +kernel
theorem d_L_law_235 : decode b_L_law 235 = .ok (.aload_n 2, 1) := by decide +kernel
theorem d_L_law_236 : decode b_L_law 236 = .ok (.invokevirtual 52, 3) := by decide +kernel
theorem d_L_law_239 : decode b_L_law 239 = .ok (.if_icmp .eq 138, 3) := by decide +kernel
theorem d_L_law_242 : decode b_L_law 242 = .ok (.iconst 0, 1) := by decide +kernel
theorem d_L_law_243 : decode b_L_law 243 = .ok (.ireturn, 1) := by decide +kernel
theorem d_L_law_244 : decode b_L_law 244 = .ok (.aload_n 1, 1) := by decide +kernel
theorem d_L_law_245 : decode b_L_law 245 = .ok (.invokevirtual 53, 3) := by decide +kernel
theorem d_L_law_248 : decode b_L_law 248 = .ok (.aload_n 2, 1) := by decide +kernel
theorem d_L_law_249 : decode b_L_law 249 = .ok (.invokevirtual 56, 3) := by decide +kernel
theorem d_L_law_252 : decode b_L_law 252 = .ok (.if_icmp .eq 125, 3) := by decide +kernel
theorem d_L_law_255 : decode b_L_law 255 = .ok (.iconst 0, 1) := by decide +kernel
theorem d_L_law_256 : decode b_L_law 256 = .ok (.ireturn, 1) := by decide +kernel
theorem d_L_law_257 : decode b_L_law 257 = .ok (.aload_n 1, 1) := by decide +kernel
theorem d_L_law_258 : decode b_L_law 258 = .ok (.aload_n 0, 1) := by decide +kernel
theorem d_L_law_259 : decode b_L_law 259 = .ok (.iload 4, 2) := by decide +kernel
theorem d_L_law_261 : decode b_L_law 261 = .ok (.iconst 1, 1) := by decide +kernel
theorem d_L_law_262 : decode b_L_law 262 = .ok (.iadd, 1) := by decide +kernel
theorem d_L_law_263 : decode b_L_law 263 = .ok (.iaload, 1) := by decide +kernel
theorem d_L_law_264 : decode b_L_law 264 = .ok (.aload_n 0, 1) := by decide +kernel
theorem d_L_law_265 : decode b_L_law 265 = .ok (.iload 4, 2) := by decide +kernel
theorem d_L_law_267 : decode b_L_law 267 = .ok (.iconst 2, 1) := by decide +kernel
theorem d_L_law_268 : decode b_L_law 268 = .ok (.iadd, 1) := by decide +kernel
theorem d_L_law_269 : decode b_L_law 269 = .ok (.iaload, 1) := by decide +kernel
theorem d_L_law_270 : decode b_L_law 270 = .ok (.aload_n 3, 1) := by decide +kernel
theorem d_L_law_271 : decode b_L_law 271 = .ok (.invokestatic 57, 3) := by decide +kernel
theorem d_L_law_274 : decode b_L_law 274 = .ok (.istore 5, 2) := by decide +kernel
theorem d_L_law_276 : decode b_L_law 276 = .ok (.aload_n 2, 1) := by decide +kernel
theorem d_L_law_277 : decode b_L_law 277 = .ok (.aload_n 0, 1) := by decide +kernel
theorem d_L_law_278 : decode b_L_law 278 = .ok (.iload 4, 2) := by decide +kernel
theorem d_L_law_280 : decode b_L_law 280 = .ok (.iconst 1, 1) := by decide +kernel
theorem d_L_law_281 : decode b_L_law 281 = .ok (.iadd, 1) := by decide +kernel
theorem d_L_law_282 : decode b_L_law 282 = .ok (.iaload, 1) := by decide +kernel
theorem d_L_law_283 : decode b_L_law 283 = .ok (.aload_n 0, 1) := by decide +kernel
theorem d_L_law_284 : decode b_L_law 284 = .ok (.iload 4, 2) := by decide +kernel
theorem d_L_law_286 : decode b_L_law 286 = .ok (.iconst 2, 1) := by decide +kernel
theorem d_L_law_287 : decode b_L_law 287 = .ok (.iadd, 1) := by decide +kernel
theorem d_L_law_288 : decode b_L_law 288 = .ok (.iaload, 1) := by decide +kernel
theorem d_L_law_289 : decode b_L_law 289 = .ok (.invokevirtual 60, 3) := by decide +kernel
theorem d_L_law_292 : decode b_L_law 292 = .ok (.istore 6, 2) := by decide +kernel
theorem d_L_law_294 : decode b_L_law 294 = .ok (.aload_n 2, 1) := by decide +kernel
theorem d_L_law_295 : decode b_L_law 295 = .ok (.invokevirtual 33, 3) := by decide +kernel
theorem d_L_law_298 : decode b_L_law 298 = .ok (.iload 5, 2) := by decide +kernel
theorem d_L_law_300 : decode b_L_law 300 = .ok (.if_icmp .eq 5, 3) := by decide +kernel
theorem d_L_law_303 : decode b_L_law 303 = .ok (.iconst 0, 1) := by decide +kernel
theorem d_L_law_304 : decode b_L_law 304 = .ok (.ireturn, 1) := by decide +kernel
theorem d_L_law_305 : decode b_L_law 305 = .ok (.iload 5, 2) := by decide +kernel
theorem d_L_law_307 : decode b_L_law 307 = .ok (.ifCond .ne 15, 3) := by decide +kernel
theorem d_L_law_310 : decode b_L_law 310 = .ok (.aload_n 3, 1) := by decide +kernel
theorem d_L_law_311 : decode b_L_law 311 = .ok (.iconst 0, 1) := by decide +kernel
theorem d_L_law_312 : decode b_L_law 312 = .ok (.laload, 1) := by decide +kernel
theorem d_L_law_313 : decode b_L_law 313 = .ok (.iload 6, 2) := by decide +kernel
theorem d_L_law_315 : decode b_L_law 315 = .ok (.i2l, 1) := by decide +kernel
theorem d_L_law_316 : decode b_L_law 316 = .ok (.lcmp, 1) := by decide +kernel
theorem d_L_law_317 : decode b_L_law 317 = .ok (.ifCond .eq 5, 3) := by decide +kernel
theorem d_L_law_320 : decode b_L_law 320 = .ok (.iconst 0, 1) := by decide +kernel
theorem d_L_law_321 : decode b_L_law 321 = .ok (.ireturn, 1) := by decide +kernel
theorem d_L_law_322 : decode b_L_law 322 = .ok (.goto 55, 3) := by decide +kernel
theorem d_L_law_325 : decode b_L_law 325 = .ok (.aload_n 1, 1) := by decide +kernel
theorem d_L_law_326 : decode b_L_law 326 = .ok (.invokevirtual 61, 3) := by decide +kernel
theorem d_L_law_329 : decode b_L_law 329 = .ok (.aload_n 2, 1) := by decide +kernel
theorem d_L_law_330 : decode b_L_law 330 = .ok (.invokevirtual 64, 3) := by decide +kernel
theorem d_L_law_333 : decode b_L_law 333 = .ok (.if_icmp .eq 44, 3) := by decide +kernel
theorem d_L_law_336 : decode b_L_law 336 = .ok (.iconst 0, 1) := by decide +kernel
theorem d_L_law_337 : decode b_L_law 337 = .ok (.ireturn, 1) := by decide +kernel
theorem d_L_law_338 : decode b_L_law 338 = .ok (.aload_n 1, 1) := by decide +kernel
theorem d_L_law_339 : decode b_L_law 339 = .ok (.aload_n 0, 1) := by decide +kernel
theorem d_L_law_340 : decode b_L_law 340 = .ok (.iload 4, 2) := by decide +kernel
theorem d_L_law_342 : decode b_L_law 342 = .ok (.iconst 1, 1) := by decide +kernel
theorem d_L_law_343 : decode b_L_law 343 = .ok (.iadd, 1) := by decide +kernel
theorem d_L_law_344 : decode b_L_law 344 = .ok (.iaload, 1) := by decide +kernel
theorem d_L_law_345 : decode b_L_law 345 = .ok (.invokevirtual 65, 3) := by decide +kernel
theorem d_L_law_348 : decode b_L_law 348 = .ok (.aload_n 2, 1) := by decide +kernel
theorem d_L_law_349 : decode b_L_law 349 = .ok (.aload_n 0, 1) := by decide +kernel
theorem d_L_law_350 : decode b_L_law 350 = .ok (.iload 4, 2) := by decide +kernel
theorem d_L_law_352 : decode b_L_law 352 = .ok (.iconst 1, 1) := by decide +kernel
theorem d_L_law_353 : decode b_L_law 353 = .ok (.iadd, 1) := by decide +kernel
theorem d_L_law_354 : decode b_L_law 354 = .ok (.iaload, 1) := by decide +kernel
theorem d_L_law_355 : decode b_L_law 355 = .ok (.invokevirtual 69, 3) := by decide +kernel
theorem d_L_law_358 : decode b_L_law 358 = .ok (.lcmp, 1) := by decide +kernel
theorem d_L_law_359 : decode b_L_law 359 = .ok (.ifCond .eq 18, 3) := by decide +kernel
theorem d_L_law_362 : decode b_L_law 362 = .ok (.iconst 0, 1) := by decide +kernel
theorem d_L_law_363 : decode b_L_law 363 = .ok (.ireturn, 1) := by decide +kernel
theorem d_L_law_364 : decode b_L_law 364 = .ok (.aload_n 1, 1) := by decide +kernel
theorem d_L_law_365 : decode b_L_law 365 = .ok (.invokevirtual 70, 3) := by decide +kernel
theorem d_L_law_368 : decode b_L_law 368 = .ok (.aload_n 2, 1) := by decide +kernel
theorem d_L_law_369 : decode b_L_law 369 = .ok (.invokevirtual 73, 3) := by decide +kernel
theorem d_L_law_372 : decode b_L_law 372 = .ok (.if_icmp .eq 5, 3) := by decide +kernel
theorem d_L_law_375 : decode b_L_law 375 = .ok (.iconst 0, 1) := by decide +kernel
theorem d_L_law_376 : decode b_L_law 376 = .ok (.ireturn, 1) := by decide +kernel
theorem d_L_law_377 : decode b_L_law 377 = .ok (.iinc 4 4, 3) := by decide +kernel
theorem d_L_law_380 : decode b_L_law 380 = .ok (.goto (-357), 3) := by decide +kernel
theorem d_L_law_383 : decode b_L_law 383 = .ok (.iconst 1, 1) := by decide +kernel
theorem d_L_law_384 : decode b_L_law 384 = .ok (.ireturn, 1) := by decide +kernel
theorem law_out {p : Program} {l : Launch} {e : Env} {s : State} {m : MethodId} {below : List Frame} {meth : Method} {c : Code} {b L : Nat} {xs : Nat → Int32} {D : va_G} {cI cJ cB cZ : ClassId} {A : Nat → Prop} {ws : va_W} {H : Heap} {locs : List Loc} {ls : Array Slot} {cells slots : Nat} (C : LawC p l s m meth c b L xs A) (hc : cells ≤ 600002) (hs : slots ≤ 7302232) (hW : Wd D (tyl cI cJ cB cZ) A s s.heap H locs ws) : W p l e room_1 s m #[Value.ref b] below meth c H locs cells slots (lw_Z below #[Value.ref b] s) (F0 m 383 ls []) := by
  obtain ⟨S, hX, hbl, hbA, hA, hAq, hr, hlk, hTw, htr⟩ := id C
  refine lv_iconst (v := 1) S.1 S.2.1 d_L_law_383 (by decide) ?_
  refine va_forget (fun q hq => hAq _ (hW.2.2.2.2.2 q hq)) ?_
  refine W.widen (k := 600002) (n := 7302232) hc hs ?_
  exact lw_ret S.1 S.2.1 hr hlk d_L_law_384
theorem law_end {p : Program} {l : Launch} {e : Env} {s : State} {m : MethodId} {below : List Frame} {meth : Method} {c : Code} {b : Nat} {xs : Nat → Int32} {D : va_G} {cI cJ cB cZ : ClassId} {A : Nat → Prop} {ws : va_W} {H : Heap} {locs : List Loc} {ls : Array Slot} {cells slots : Nat} (C : LawC p l s m meth c b 4 xs A) (hc : cells ≤ 600002) (hs : slots ≤ 7302232) (hW : Wd D (tyl cI cJ cB cZ) A s s.heap H locs ws) (hl : lv_has ls 7 [(4, .int (nI 0)), (0, .ref b)]) : W p l e room_1 s m #[Value.ref b] below meth c H locs cells slots (lw_Z below #[Value.ref b] s) (F0 m 377 ls []) := by
  obtain ⟨S, hX, hbl, hbA, hA, hAq, hr, hlk, hTw, htr⟩ := id C
  refine lv_iinc (v := (nI (0 + 4))) (lv' := [(4, .int (nI (0 + 4))), (0, .ref b)]) S.1 S.2.1 d_L_law_377 hl (k := 0) rfl (inc_eq _ 4 _ (by decide)) (by decide) rfl (fun ls hl => ?_)
  refine lv_goto (tgt := 23) S.1 S.2.1 d_L_law_380 (by decide) ?_
  refine lv_iload S.1 S.2.1 d_L_law_23 (lv_at hl 0 rfl) ?_
  refine lv_aload_n S.1 S.2.1 d_L_law_25 rfl (lv_at hl 1 rfl) ?_
  refine va_slen S.1 S.2.1 hX hbl hbA hW.2.2.2 d_L_law_26 ?_
  refine lv_iconst (v := (nI 4)) S.1 S.2.1 d_L_law_27 (by decide) ?_
  refine lv_isub S.1 S.2.1 d_L_law_28 ?_
  refine lv_icmp_gt (tgt := 383) S.1 S.2.1 d_L_law_29 (by decide) (fun c_29 => ?_) (fun c_29 => absurd c_29 (by decide))
  exact law_out C hc hs hW
set_option maxHeartbeats 4000000 in
set_option maxRecDepth 100000 in
theorem law_0 {p : Program} {l : Launch} {e : Env} {s : State} {m : MethodId} {below : List Frame} {meth : Method} {c : Code} {b : Nat} {xs : Nat → Int32} {D : va_G} {cI cJ cB cZ : ClassId} {A : Nat → Prop} (aX aF aC aP aT aK aR aH aI aK0 aK1 aK2 aK3 aK4 aTb aPb aM m_text m_paper m_firstHalf m_secondHalf m_stored m_proved m_written m_places m_levelKind m_levelStart m_levelApp m_levelHad m_levelScope m_levelId m_levelFirst m_levelSecond m_scopeFirst m_scopeSecond m_scopeId m_made m_typeOf m_tasks m_todo m_renamed m_bound m_markA m_markB m_line aO : Nat) {H : Heap} {locs : List Loc} {ls : Array Slot} (C : LawC p l s m meth c b 4 xs A) (hW : Wd D (tyl cI cJ cB cZ) A s s.heap H locs [(aX, .inr (9, [.ref aF, .ref aC, .ref aP, .ref aT, .ref aK, .ref aR, .ref aH, .ref aI, .int (nI 0)])), (aF, .inr (0, [.int (nI 0), .int (-1)])), (aT, .inr (3, [.ref aF, .ref aTb, .int (nI 0), .int (nI 0), .int (nI 0), .int (nI 0), .long 0, .long 0])), (aTb, .inl (cB, 8192, .inl (fun _ => 0))), (aK, .inr (4, [.ref aC, .ref aK0, .ref aK1, .ref aK2, .ref aK3, .ref aK4, .int (nI 0), .int (nI 0)])), (aP, .inr (2, [.ref aPb, .int (nI 0), .int (nI 0)])), (aM, .inr (10, [.int 0, .ref m_text, .int 0, .int 0, .int 0, .int (-1), .ref m_paper, .int 0, .int 0, .ref m_firstHalf, .ref m_secondHalf, .ref m_stored, .ref m_proved, .int 0, .int 0, .int 0, .long 0, .long 0, .ref m_written, .ref m_places, .int 0, .int 0, .int 0, .int 0, .int 0, .int 0, .int 0, .int 0, .int 0, .ref m_levelKind, .ref m_levelStart, .ref m_levelApp, .ref m_levelHad, .ref m_levelScope, .ref m_levelId, .ref m_levelFirst, .ref m_levelSecond, .int 0, .ref m_scopeFirst, .ref m_scopeSecond, .ref m_scopeId, .int 0, .ref m_made, .int 0, .ref m_typeOf, .ref m_tasks, .int 0, .ref m_todo, .int 0, .ref m_renamed, .ref m_bound, .int 0, .int (-1), .int 0, .int 0, .int 0, .ref m_markA, .ref m_markB, .ref m_line, .int 0, .int 0])), (m_text, .inl (cI, 8192, .inl (fun _ => 0))), (aO, .inl (cJ, 1, .inr (.inl (fun _ => 0))))]) (hl : lv_has ls 7 [(4, .int (nI 0)), (3, .ref aO), (2, .ref aM), (1, .ref aX), (0, .ref b)]) : W p l e room_1 s m #[Value.ref b] below meth c H locs 100 400000 (lw_Z below #[Value.ref b] s) (F0 m 92 ls []) := by
  obtain ⟨S, hX, hbl, hbA, hA, hAq, hr, hlk, hTw, htr⟩ := id C
  refine lv_aload_n S.1 S.2.1 d_L_law_92 rfl (lv_at hl 3 rfl) ?_
  refine lv_aload_n S.1 S.2.1 d_L_law_93 rfl (lv_at hl 4 rfl) ?_
  refine lv_iload S.1 S.2.1 d_L_law_94 (lv_at hl 0 rfl) ?_
  refine lv_iconst (v := (nI 1)) S.1 S.2.1 d_L_law_96 (by decide) ?_
  refine n_iadd S d_L_law_97 ?_
  refine va_sld S.1 S.2.1 hX hbl hbA hW.2.2.2 (vp_in_nI (by decide) (by decide)) d_L_law_98 ?_
  refine top_eq (y := xs 1) (congrArg xs (by decide)) ?_
  refine lv_aload_n S.1 S.2.1 d_L_law_99 rfl (lv_at hl 4 rfl) ?_
  refine lv_iload S.1 S.2.1 d_L_law_100 (lv_at hl 0 rfl) ?_
  refine lv_iconst (v := (nI 2)) S.1 S.2.1 d_L_law_102 (by decide) ?_
  refine n_iadd S d_L_law_103 ?_
  refine va_sld S.1 S.2.1 hX hbl hbA hW.2.2.2 (vp_in_nI (by decide) (by decide)) d_L_law_104 ?_
  refine top_eq (y := xs 2) (congrArg xs (by decide)) ?_
  refine lv_i2l (v := (xs 2).toInt64) S.1 S.2.1 d_L_law_105 rfl ?_
  refine lv_bipush (v := (nI 32)) S.1 S.2.1 d_L_law_106 (by decide) ?_
  refine lv_lshl (v := ((xs 2).toInt64) <<< ((nI 32).toInt64 &&& 63)) S.1 S.2.1 d_L_law_108 rfl ?_
  refine lv_aload_n S.1 S.2.1 d_L_law_109 rfl (lv_at hl 4 rfl) ?_
  refine lv_iload S.1 S.2.1 d_L_law_110 (lv_at hl 0 rfl) ?_
  refine lv_iconst (v := (nI 3)) S.1 S.2.1 d_L_law_112 (by decide) ?_
  refine n_iadd S d_L_law_113 ?_
  refine va_sld S.1 S.2.1 hX hbl hbA hW.2.2.2 (vp_in_nI (by decide) (by decide)) d_L_law_114 ?_
  refine top_eq (y := xs 3) (congrArg xs (by decide)) ?_
  refine lv_i2l (v := (xs 3).toInt64) S.1 S.2.1 d_L_law_115 rfl ?_
  refine lv_ldc2 (v := 4294967295) S.1 S.2.1 S.2.2.2.1 (S.2.2.2.2 _ kq_L_25) d_L_law_116 ?_
  refine lv_land S.1 S.2.1 d_L_law_119 ?_
  refine lv_lor S.1 S.2.1 d_L_law_120 ?_
  refine lv_aload_n S.1 S.2.1 d_L_law_121 rfl (lv_at hl 1 rfl) ?_
  refine callSW_i (wr := [(aF, .inr (0, [.int (nI 0), .int (-1)])), (aK, .inr (4, [.ref aC, .ref aK0, .ref aK1, .ref aK2, .ref aK3, .ref aK4, .int (nI 0), .int (nI 0)])), (aP, .inr (2, [.ref aPb, .int (nI 0), .int (nI 0)])), (aM, .inr (10, [.int 0, .ref m_text, .int 0, .int 0, .int 0, .int (-1), .ref m_paper, .int 0, .int 0, .ref m_firstHalf, .ref m_secondHalf, .ref m_stored, .ref m_proved, .int 0, .int 0, .int 0, .long 0, .long 0, .ref m_written, .ref m_places, .int 0, .int 0, .int 0, .int 0, .int 0, .int 0, .int 0, .int 0, .int 0, .ref m_levelKind, .ref m_levelStart, .ref m_levelApp, .ref m_levelHad, .ref m_levelScope, .ref m_levelId, .ref m_levelFirst, .ref m_levelSecond, .int 0, .ref m_scopeFirst, .ref m_scopeSecond, .ref m_scopeId, .int 0, .ref m_made, .int 0, .ref m_typeOf, .ref m_tasks, .int 0, .ref m_todo, .int 0, .ref m_renamed, .ref m_bound, .int 0, .int (-1), .int 0, .int 0, .int 0, .ref m_markA, .ref m_markB, .ref m_line, .int 0, .int 0])), (m_text, .inl (cI, 8192, .inl (fun _ => 0)))]) (wc := [(aX, .inr (9, [.ref aF, .ref aC, .ref aP, .ref aT, .ref aK, .ref aR, .ref aH, .ref aI, .int (nI 0)])), (aT, .inr (3, [.ref aF, .ref aTb, .int (nI 0), .int (nI 0), .int (nI 0), .int (nI 0), .long 0, .long 0])), (aTb, .inl (cB, 8192, .inl (fun _ => 0))), (aO, .inl (cJ, 1, .inr (.inl (fun _ => 0))))]) (np := 4) (As := [.ref aX, .int (xs 1), .long ((((xs 2).toInt64) <<< ((nI 32).toInt64 &&& 63)) ||| (((xs 3).toInt64) &&& 4294967295)), .ref aO]) (rest := []) (c_L_feed l D cI cJ cB cZ htr aX aF aC aP aT aK aR aH aI aTb aO (fun _ => 0) (fun _ => 0) (xs 1) ((((xs 2).toInt64) <<< ((nI 32).toInt64 &&& 63)) ||| (((xs 3).toInt64) &&& 4294967295)) ) km_L_27 ks_L_feed kz_L kw_L_feed (by decide +kernel) S hW (fun U hU hw => Tw.move hw (fun q hq => by rw [hU]; exact hW.2.2.2.2.1 q hq (fun z => absurd (hAq q z) (Nat.not_le.mpr hq))) hTw) hA ⟨Nat.le_of_ble_eq_true rfl, Nat.le_of_ble_eq_true rfl⟩ ⟨Nat.le_of_ble_eq_true rfl, Nat.le_of_ble_eq_true rfl⟩ [0, 2, 3, 8] [1, 4, 5, 6, 7] rfl (by decide) rfl (by decide) (by decide) rfl hl.1 rfl (Nat.le_of_ble_eq_true rfl) d_L_law_122 (fun r u H locs hp hW => ?_)
  rcases hp with ⟨k_1, f2_2, h_3, h_4, h_5, rfl, rfl⟩ | ⟨h_6, rfl, rfl⟩
  · have hW : Wd D (tyl cI cJ cB cZ) A s s.heap H locs [(aX, .inr (9, [.ref aF, .ref aC, .ref aP, .ref aT, .ref aK, .ref aR, .ref aH, .ref aI, .int (nI (0 + k_1))])), (aF, .inr (0, [.int (nI 0), .int (-1)])), (aT, .inr (3, [.ref aF, .ref aTb, .int (nI 0), .int (nI k_1), .int (nI 0), .int (nI 0), .long 0, .long 0])), (aTb, .inl (cB, 8192, .inl f2_2)), (aK, .inr (4, [.ref aC, .ref aK0, .ref aK1, .ref aK2, .ref aK3, .ref aK4, .int (nI 0), .int (nI 0)])), (aP, .inr (2, [.ref aPb, .int (nI 0), .int (nI 0)])), (aM, .inr (10, [.int 0, .ref m_text, .int 0, .int 0, .int 0, .int (-1), .ref m_paper, .int 0, .int 0, .ref m_firstHalf, .ref m_secondHalf, .ref m_stored, .ref m_proved, .int 0, .int 0, .int 0, .long 0, .long 0, .ref m_written, .ref m_places, .int 0, .int 0, .int 0, .int 0, .int 0, .int 0, .int 0, .int 0, .int 0, .ref m_levelKind, .ref m_levelStart, .ref m_levelApp, .ref m_levelHad, .ref m_levelScope, .ref m_levelId, .ref m_levelFirst, .ref m_levelSecond, .int 0, .ref m_scopeFirst, .ref m_scopeSecond, .ref m_scopeId, .int 0, .ref m_made, .int 0, .ref m_typeOf, .ref m_tasks, .int 0, .ref m_todo, .int 0, .ref m_renamed, .ref m_bound, .int 0, .int (-1), .int 0, .int 0, .int 0, .ref m_markA, .ref m_markB, .ref m_line, .int 0, .int 0])), (m_text, .inl (cI, 8192, .inl (fun _ => 0))), (aO, .inl (cJ, 1, .inr (.inl (vp_updL (fun _ => 0) 0 (nI k_1).toInt64))))] := hW.sub [5, 0, 6, 7, 1, 2, 3, 4, 8] (by decide) rfl
    refine lv_istore (lv' := [(5, .int (nI 0)), (4, .int (nI 0)), (3, .ref aO), (2, .ref aM), (1, .ref aX), (0, .ref b)]) S.1 S.2.1 d_L_law_125 hl (by decide) rfl (fun ls hl => ?_)
    refine lv_aload_n S.1 S.2.1 d_L_law_127 rfl (lv_at hl 3 rfl) ?_
    refine lv_aload_n S.1 S.2.1 d_L_law_128 rfl (lv_at hl 5 rfl) ?_
    refine lv_iload S.1 S.2.1 d_L_law_129 (lv_at hl 1 rfl) ?_
    refine lv_iconst (v := (nI 1)) S.1 S.2.1 d_L_law_131 (by decide) ?_
    refine n_iadd S d_L_law_132 ?_
    refine va_sld S.1 S.2.1 hX hbl hbA hW.2.2.2 (vp_in_nI (by decide) (by decide)) d_L_law_133 ?_
    refine top_eq (y := xs 1) (congrArg xs (by decide)) ?_
    refine top_eq (y := (nI k_1)) h_5 ?_
    refine lv_aload_n S.1 S.2.1 d_L_law_134 rfl (lv_at hl 5 rfl) ?_
    refine lv_iload S.1 S.2.1 d_L_law_135 (lv_at hl 1 rfl) ?_
    refine lv_iconst (v := (nI 2)) S.1 S.2.1 d_L_law_137 (by decide) ?_
    refine n_iadd S d_L_law_138 ?_
    refine va_sld S.1 S.2.1 hX hbl hbA hW.2.2.2 (vp_in_nI (by decide) (by decide)) d_L_law_139 ?_
    refine top_eq (y := xs 2) (congrArg xs (by decide)) ?_
    refine lv_i2l (v := (xs 2).toInt64) S.1 S.2.1 d_L_law_140 rfl ?_
    refine lv_bipush (v := (nI 32)) S.1 S.2.1 d_L_law_141 (by decide) ?_
    refine lv_lshl (v := ((xs 2).toInt64) <<< ((nI 32).toInt64 &&& 63)) S.1 S.2.1 d_L_law_143 rfl ?_
    refine lv_aload_n S.1 S.2.1 d_L_law_144 rfl (lv_at hl 5 rfl) ?_
    refine lv_iload S.1 S.2.1 d_L_law_145 (lv_at hl 1 rfl) ?_
    refine lv_iconst (v := (nI 3)) S.1 S.2.1 d_L_law_147 (by decide) ?_
    refine n_iadd S d_L_law_148 ?_
    refine va_sld S.1 S.2.1 hX hbl hbA hW.2.2.2 (vp_in_nI (by decide) (by decide)) d_L_law_149 ?_
    refine top_eq (y := xs 3) (congrArg xs (by decide)) ?_
    refine lv_i2l (v := (xs 3).toInt64) S.1 S.2.1 d_L_law_150 rfl ?_
    refine lv_ldc2 (v := 4294967295) S.1 S.2.1 S.2.2.2.1 (S.2.2.2.2 _ kq_L_25) d_L_law_151 ?_
    refine lv_land S.1 S.2.1 d_L_law_154 ?_
    refine lv_lor S.1 S.2.1 d_L_law_155 ?_
    refine callV_i (wr := [(aX, .inr (9, [.ref aF, .ref aC, .ref aP, .ref aT, .ref aK, .ref aR, .ref aH, .ref aI, .int (nI (0 + k_1))])), (aF, .inr (0, [.int (nI 0), .int (-1)])), (aT, .inr (3, [.ref aF, .ref aTb, .int (nI 0), .int (nI k_1), .int (nI 0), .int (nI 0), .long 0, .long 0])), (aTb, .inl (cB, 8192, .inl f2_2)), (aK, .inr (4, [.ref aC, .ref aK0, .ref aK1, .ref aK2, .ref aK3, .ref aK4, .int (nI 0), .int (nI 0)])), (aP, .inr (2, [.ref aPb, .int (nI 0), .int (nI 0)])), (aO, .inl (cJ, 1, .inr (.inl (vp_updL (fun _ => 0) 0 (nI k_1).toInt64))))]) (wc := [(aM, .inr (10, [.int 0, .ref m_text, .int (nI 0), .int (nI 0), .int 0, .int (-1), .ref m_paper, .int 0, .int 0, .ref m_firstHalf, .ref m_secondHalf, .ref m_stored, .ref m_proved, .int 0, .int 0, .int 0, .long 0, .long 0, .ref m_written, .ref m_places, .int 0, .int 0, .int 0, .int 0, .int 0, .int 0, .int 0, .int 0, .int 0, .ref m_levelKind, .ref m_levelStart, .ref m_levelApp, .ref m_levelHad, .ref m_levelScope, .ref m_levelId, .ref m_levelFirst, .ref m_levelSecond, .int 0, .ref m_scopeFirst, .ref m_scopeSecond, .ref m_scopeId, .int 0, .ref m_made, .int 0, .ref m_typeOf, .ref m_tasks, .int 0, .ref m_todo, .int 0, .ref m_renamed, .ref m_bound, .int 0, .int (-1), .int 0, .int 0, .int 0, .ref m_markA, .ref m_markB, .ref m_line, .int 0, .int 0])), (m_text, .inl (cI, 8192, .inl (fun _ => 0)))]) (np := 2) (As := [.int (nI k_1), .long ((((xs 2).toInt64) <<< ((nI 32).toInt64 &&& 63)) ||| (((xs 3).toInt64) &&& 4294967295))]) (rest := []) (c_M_feed l D cI cJ cB cZ aM m_text m_paper m_firstHalf m_secondHalf m_stored m_proved m_written m_places m_levelKind m_levelStart m_levelApp m_levelHad m_levelScope m_levelId m_levelFirst m_levelSecond m_scopeFirst m_scopeSecond m_scopeId m_made m_typeOf m_tasks m_todo m_renamed m_bound m_markA m_markB m_line 0 0 (-1) 0 0 0 0 0 0 0 0 0 0 0 0 0 0 0 0 0 0 0 0 (-1) 0 0 0 0 0 0 0 (fun _ => 0) k_1 ((((xs 2).toInt64) <<< ((nI 32).toInt64 &&& 63)) ||| (((xs 3).toInt64) &&& 4294967295)) h_3 h_4) km_L_32 ki_M_feed kv_M_feed kz_M kk_M_feed (by decide +kernel) S hW hA ⟨Nat.le_of_ble_eq_true rfl, Nat.le_of_ble_eq_true rfl⟩ ⟨Nat.le_of_ble_eq_true rfl, Nat.le_of_ble_eq_true rfl⟩ rfl 0 rfl [6, 7] [0, 1, 2, 3, 4, 5, 8] rfl (by decide) rfl (by decide) (by decide) rfl hl.1 rfl (Nat.le_of_ble_eq_true rfl) d_L_law_156 (fun r u H locs hp hW => ?_)
    obtain ⟨f2_7, rfl, rfl⟩ := hp
    have hW : Wd D (tyl cI cJ cB cZ) A s s.heap H locs [(aX, .inr (9, [.ref aF, .ref aC, .ref aP, .ref aT, .ref aK, .ref aR, .ref aH, .ref aI, .int (nI (0 + k_1))])), (aF, .inr (0, [.int (nI 0), .int (-1)])), (aT, .inr (3, [.ref aF, .ref aTb, .int (nI 0), .int (nI k_1), .int (nI 0), .int (nI 0), .long 0, .long 0])), (aTb, .inl (cB, 8192, .inl f2_2)), (aK, .inr (4, [.ref aC, .ref aK0, .ref aK1, .ref aK2, .ref aK3, .ref aK4, .int (nI 0), .int (nI 0)])), (aP, .inr (2, [.ref aPb, .int (nI 0), .int (nI 0)])), (aM, .inr (10, [.int (nI 0), .ref m_text, .int (nI k_1), .int (nI (0 + k_1)), .int 0, .int (-1), .ref m_paper, .int 0, .int 0, .ref m_firstHalf, .ref m_secondHalf, .ref m_stored, .ref m_proved, .int 0, .int 0, .int 0, .long 0, .long 0, .ref m_written, .ref m_places, .int 0, .int 0, .int 0, .int 0, .int 0, .int 0, .int 0, .int 0, .int 0, .ref m_levelKind, .ref m_levelStart, .ref m_levelApp, .ref m_levelHad, .ref m_levelScope, .ref m_levelId, .ref m_levelFirst, .ref m_levelSecond, .int 0, .ref m_scopeFirst, .ref m_scopeSecond, .ref m_scopeId, .int 0, .ref m_made, .int 0, .ref m_typeOf, .ref m_tasks, .int 0, .ref m_todo, .int 0, .ref m_renamed, .ref m_bound, .int 0, .int (-1), .int 0, .int 0, .int 0, .ref m_markA, .ref m_markB, .ref m_line, .int 0, .int 0])), (m_text, .inl (cI, 8192, .inl f2_7)), (aO, .inl (cJ, 1, .inr (.inl (vp_updL (fun _ => 0) 0 (nI k_1).toInt64))))] := hW.sub [0, 1, 2, 3, 4, 5, 7, 8, 6] (by decide) rfl
    refine lv_istore (lv' := [(6, .int (nI k_1)), (5, .int (nI 0)), (4, .int (nI 0)), (3, .ref aO), (2, .ref aM), (1, .ref aX), (0, .ref b)]) S.1 S.2.1 d_L_law_159 hl (by decide) rfl (fun ls hl => ?_)
    refine lv_aload_n S.1 S.2.1 d_L_law_161 rfl (lv_at hl 4 rfl) ?_
    refine callV_i (wr := [(aX, .inr (9, [.ref aF, .ref aC, .ref aP, .ref aT, .ref aK, .ref aR, .ref aH, .ref aI, .int (nI (0 + k_1))])), (aF, .inr (0, [.int (nI 0), .int (-1)])), (aT, .inr (3, [.ref aF, .ref aTb, .int (nI 0), .int (nI k_1), .int (nI 0), .int (nI 0), .long 0, .long 0])), (aTb, .inl (cB, 8192, .inl f2_2)), (aK, .inr (4, [.ref aC, .ref aK0, .ref aK1, .ref aK2, .ref aK3, .ref aK4, .int (nI 0), .int (nI 0)])), (aP, .inr (2, [.ref aPb, .int (nI 0), .int (nI 0)])), (m_text, .inl (cI, 8192, .inl f2_7)), (aO, .inl (cJ, 1, .inr (.inl (vp_updL (fun _ => 0) 0 (nI k_1).toInt64))))]) (wc := [(aM, .inr (10, [.int (nI 0), .ref m_text, .int (nI k_1), .int (nI (0 + k_1)), .int 0, .int (-1), .ref m_paper, .int 0, .int 0, .ref m_firstHalf, .ref m_secondHalf, .ref m_stored, .ref m_proved, .int 0, .int 0, .int 0, .long 0, .long 0, .ref m_written, .ref m_places, .int 0, .int 0, .int 0, .int 0, .int 0, .int 0, .int 0, .int 0, .int 0, .ref m_levelKind, .ref m_levelStart, .ref m_levelApp, .ref m_levelHad, .ref m_levelScope, .ref m_levelId, .ref m_levelFirst, .ref m_levelSecond, .int 0, .ref m_scopeFirst, .ref m_scopeSecond, .ref m_scopeId, .int 0, .ref m_made, .int 0, .ref m_typeOf, .ref m_tasks, .int 0, .ref m_todo, .int 0, .ref m_renamed, .ref m_bound, .int 0, .int (-1), .int 0, .int 0, .int 0, .ref m_markA, .ref m_markB, .ref m_line, .int 0, .int 0]))]) (np := 0) (As := []) (rest := []) (c_M_thrown l D cI cJ cB cZ aM m_text m_paper m_firstHalf m_secondHalf m_stored m_proved m_written m_places m_levelKind m_levelStart m_levelApp m_levelHad m_levelScope m_levelId m_levelFirst m_levelSecond m_scopeFirst m_scopeSecond m_scopeId m_made m_typeOf m_tasks m_todo m_renamed m_bound m_markA m_markB m_line (nI 0) (nI k_1) (nI (0 + k_1)) 0 (-1) 0 0 0 0 0 0 0 0 0 0 0 0 0 0 0 0 0 0 0 0 (-1) 0 0 0 0 0 0 0 ) km_L_33 ki_M_thrown kv_M_thrown kz_M kk_M_thrown (by decide +kernel) S hW hA ⟨Nat.le_of_ble_eq_true rfl, Nat.le_of_ble_eq_true rfl⟩ ⟨Nat.le_of_ble_eq_true rfl, Nat.le_of_ble_eq_true rfl⟩ rfl 0 rfl [6] [0, 1, 2, 3, 4, 5, 7, 8] rfl (by decide) rfl (by decide) (by decide) rfl hl.1 rfl (Nat.le_of_ble_eq_true rfl) d_L_law_162 (fun r u H locs hp hW => ?_)
    obtain ⟨rfl, rfl⟩ := hp
    have hW : Wd D (tyl cI cJ cB cZ) A s s.heap H locs [(aX, .inr (9, [.ref aF, .ref aC, .ref aP, .ref aT, .ref aK, .ref aR, .ref aH, .ref aI, .int (nI (0 + k_1))])), (aF, .inr (0, [.int (nI 0), .int (-1)])), (aT, .inr (3, [.ref aF, .ref aTb, .int (nI 0), .int (nI k_1), .int (nI 0), .int (nI 0), .long 0, .long 0])), (aTb, .inl (cB, 8192, .inl f2_2)), (aK, .inr (4, [.ref aC, .ref aK0, .ref aK1, .ref aK2, .ref aK3, .ref aK4, .int (nI 0), .int (nI 0)])), (aP, .inr (2, [.ref aPb, .int (nI 0), .int (nI 0)])), (aM, .inr (10, [.int (nI 0), .ref m_text, .int (nI k_1), .int (nI (0 + k_1)), .int 0, .int (-1), .ref m_paper, .int 0, .int 0, .ref m_firstHalf, .ref m_secondHalf, .ref m_stored, .ref m_proved, .int 0, .int 0, .int 0, .long 0, .long 0, .ref m_written, .ref m_places, .int 0, .int 0, .int 0, .int 0, .int 0, .int 0, .int 0, .int 0, .int 0, .ref m_levelKind, .ref m_levelStart, .ref m_levelApp, .ref m_levelHad, .ref m_levelScope, .ref m_levelId, .ref m_levelFirst, .ref m_levelSecond, .int 0, .ref m_scopeFirst, .ref m_scopeSecond, .ref m_scopeId, .int 0, .ref m_made, .int 0, .ref m_typeOf, .ref m_tasks, .int 0, .ref m_todo, .int 0, .ref m_renamed, .ref m_bound, .int 0, .int (-1), .int 0, .int 0, .int 0, .ref m_markA, .ref m_markB, .ref m_line, .int 0, .int 0])), (m_text, .inl (cI, 8192, .inl f2_7)), (aO, .inl (cJ, 1, .inr (.inl (vp_updL (fun _ => 0) 0 (nI k_1).toInt64))))] := hW.sub [0, 1, 2, 3, 4, 5, 8, 6, 7] (by decide) rfl
    refine lv_iload S.1 S.2.1 d_L_law_165 (lv_at hl 1 rfl) ?_
    refine lv_icmp_eq (tgt := 172) S.1 S.2.1 d_L_law_167 (by decide) (fun _ => ?_) (fun h => absurd h (by decide))
    refine lv_iload S.1 S.2.1 d_L_law_172 (lv_at hl 1 rfl) ?_
    refine lv_if_ne (tgt := 189) S.1 S.2.1 d_L_law_174 (by decide) (fun h => absurd h (by decide)) (fun _ => ?_)
    refine lv_aload_n S.1 S.2.1 d_L_law_177 rfl (lv_at hl 3 rfl) ?_
    refine lv_iconst (v := (nI 0)) S.1 S.2.1 d_L_law_178 (by decide) ?_
    refine n_lald S hW 8 1 rfl rfl (by decide) (by omega) d_L_law_179 ?_
    refine topl_eq (y := ((nI k_1).toInt64)) (by simp [vp_updL]) ?_
    refine lv_iload S.1 S.2.1 d_L_law_180 (lv_at hl 0 rfl) ?_
    refine lv_i2l (v := (nI k_1).toInt64) S.1 S.2.1 d_L_law_182 rfl ?_
    refine W.lcmp S.1 S.2.1 d_L_law_183 ?_
    refine lv_if_eq (tgt := 189) S.1 S.2.1 d_L_law_184 (by decide) (fun c_184 => ?_) (fun c_184 => absurd c_184 (fun z => z ((lg_cmp_eq _ _).mpr rfl)))
    refine lv_goto (tgt := 377) S.1 S.2.1 d_L_law_189 (by decide) ?_
    exact law_end C (Nat.le_of_ble_eq_true rfl) (Nat.le_of_ble_eq_true rfl) hW (lv_sub hl [2, 6] rfl)
  · have hW : Wd D (tyl cI cJ cB cZ) A s s.heap H locs [(aX, .inr (9, [.ref aF, .ref aC, .ref aP, .ref aT, .ref aK, .ref aR, .ref aH, .ref aI, .int (nI 0)])), (aF, .inr (0, [.int (nI 0), .int (-1)])), (aT, .inr (3, [.ref aF, .ref aTb, .int (nI 0), .int (nI 0), .int (nI 0), .int (nI 0), .long 0, .long 0])), (aTb, .inl (cB, 8192, .inl (fun _ => 0))), (aK, .inr (4, [.ref aC, .ref aK0, .ref aK1, .ref aK2, .ref aK3, .ref aK4, .int (nI 0), .int (nI 0)])), (aP, .inr (2, [.ref aPb, .int (nI 0), .int (nI 0)])), (aM, .inr (10, [.int 0, .ref m_text, .int 0, .int 0, .int 0, .int (-1), .ref m_paper, .int 0, .int 0, .ref m_firstHalf, .ref m_secondHalf, .ref m_stored, .ref m_proved, .int 0, .int 0, .int 0, .long 0, .long 0, .ref m_written, .ref m_places, .int 0, .int 0, .int 0, .int 0, .int 0, .int 0, .int 0, .int 0, .int 0, .ref m_levelKind, .ref m_levelStart, .ref m_levelApp, .ref m_levelHad, .ref m_levelScope, .ref m_levelId, .ref m_levelFirst, .ref m_levelSecond, .int 0, .ref m_scopeFirst, .ref m_scopeSecond, .ref m_scopeId, .int 0, .ref m_made, .int 0, .ref m_typeOf, .ref m_tasks, .int 0, .ref m_todo, .int 0, .ref m_renamed, .ref m_bound, .int 0, .int (-1), .int 0, .int 0, .int 0, .ref m_markA, .ref m_markB, .ref m_line, .int 0, .int 0])), (m_text, .inl (cI, 8192, .inl (fun _ => 0))), (aO, .inl (cJ, 1, .inr (.inl (fun _ => 0))))] := hW.sub [5, 0, 6, 7, 1, 2, 3, 4, 8] (by decide) rfl
    refine lv_istore (lv' := [(5, .int (nI 1)), (4, .int (nI 0)), (3, .ref aO), (2, .ref aM), (1, .ref aX), (0, .ref b)]) S.1 S.2.1 d_L_law_125 hl (by decide) rfl (fun ls hl => ?_)
    refine lv_aload_n S.1 S.2.1 d_L_law_127 rfl (lv_at hl 3 rfl) ?_
    refine lv_aload_n S.1 S.2.1 d_L_law_128 rfl (lv_at hl 5 rfl) ?_
    refine lv_iload S.1 S.2.1 d_L_law_129 (lv_at hl 1 rfl) ?_
    refine lv_iconst (v := (nI 1)) S.1 S.2.1 d_L_law_131 (by decide) ?_
    refine n_iadd S d_L_law_132 ?_
    refine va_sld S.1 S.2.1 hX hbl hbA hW.2.2.2 (vp_in_nI (by decide) (by decide)) d_L_law_133 ?_
    refine top_eq (y := xs 1) (congrArg xs (by decide)) ?_
    refine top_eq (y := (xs 1)) rfl ?_
    refine lv_aload_n S.1 S.2.1 d_L_law_134 rfl (lv_at hl 5 rfl) ?_
    refine lv_iload S.1 S.2.1 d_L_law_135 (lv_at hl 1 rfl) ?_
    refine lv_iconst (v := (nI 2)) S.1 S.2.1 d_L_law_137 (by decide) ?_
    refine n_iadd S d_L_law_138 ?_
    refine va_sld S.1 S.2.1 hX hbl hbA hW.2.2.2 (vp_in_nI (by decide) (by decide)) d_L_law_139 ?_
    refine top_eq (y := xs 2) (congrArg xs (by decide)) ?_
    refine lv_i2l (v := (xs 2).toInt64) S.1 S.2.1 d_L_law_140 rfl ?_
    refine lv_bipush (v := (nI 32)) S.1 S.2.1 d_L_law_141 (by decide) ?_
    refine lv_lshl (v := ((xs 2).toInt64) <<< ((nI 32).toInt64 &&& 63)) S.1 S.2.1 d_L_law_143 rfl ?_
    refine lv_aload_n S.1 S.2.1 d_L_law_144 rfl (lv_at hl 5 rfl) ?_
    refine lv_iload S.1 S.2.1 d_L_law_145 (lv_at hl 1 rfl) ?_
    refine lv_iconst (v := (nI 3)) S.1 S.2.1 d_L_law_147 (by decide) ?_
    refine n_iadd S d_L_law_148 ?_
    refine va_sld S.1 S.2.1 hX hbl hbA hW.2.2.2 (vp_in_nI (by decide) (by decide)) d_L_law_149 ?_
    refine top_eq (y := xs 3) (congrArg xs (by decide)) ?_
    refine lv_i2l (v := (xs 3).toInt64) S.1 S.2.1 d_L_law_150 rfl ?_
    refine lv_ldc2 (v := 4294967295) S.1 S.2.1 S.2.2.2.1 (S.2.2.2.2 _ kq_L_25) d_L_law_151 ?_
    refine lv_land S.1 S.2.1 d_L_law_154 ?_
    refine lv_lor S.1 S.2.1 d_L_law_155 ?_
    refine callV_i (wr := [(aX, .inr (9, [.ref aF, .ref aC, .ref aP, .ref aT, .ref aK, .ref aR, .ref aH, .ref aI, .int (nI 0)])), (aF, .inr (0, [.int (nI 0), .int (-1)])), (aT, .inr (3, [.ref aF, .ref aTb, .int (nI 0), .int (nI 0), .int (nI 0), .int (nI 0), .long 0, .long 0])), (aTb, .inl (cB, 8192, .inl (fun _ => 0))), (aK, .inr (4, [.ref aC, .ref aK0, .ref aK1, .ref aK2, .ref aK3, .ref aK4, .int (nI 0), .int (nI 0)])), (aP, .inr (2, [.ref aPb, .int (nI 0), .int (nI 0)])), (m_text, .inl (cI, 8192, .inl (fun _ => 0))), (aO, .inl (cJ, 1, .inr (.inl (fun _ => 0))))]) (wc := [(aM, .inr (10, [.int 0, .ref m_text, .int 0, .int 0, .int 0, .int (-1), .ref m_paper, .int 0, .int 0, .ref m_firstHalf, .ref m_secondHalf, .ref m_stored, .ref m_proved, .int 0, .int 0, .int 0, .long 0, .long 0, .ref m_written, .ref m_places, .int 0, .int 0, .int 0, .int 0, .int 0, .int 0, .int 0, .int 0, .int 0, .ref m_levelKind, .ref m_levelStart, .ref m_levelApp, .ref m_levelHad, .ref m_levelScope, .ref m_levelId, .ref m_levelFirst, .ref m_levelSecond, .int 0, .ref m_scopeFirst, .ref m_scopeSecond, .ref m_scopeId, .int 0, .ref m_made, .int 0, .ref m_typeOf, .ref m_tasks, .int 0, .ref m_todo, .int 0, .ref m_renamed, .ref m_bound, .int 0, .int (-1), .int 0, .int 0, .int 0, .ref m_markA, .ref m_markB, .ref m_line, .int 0, .int 0]))]) (np := 2) (As := [.int (xs 1), .long ((((xs 2).toInt64) <<< ((nI 32).toInt64 &&& 63)) ||| (((xs 3).toInt64) &&& 4294967295))]) (rest := []) (c_M_feedT l D cI cJ cB cZ aM m_text m_paper m_firstHalf m_secondHalf m_stored m_proved m_written m_places m_levelKind m_levelStart m_levelApp m_levelHad m_levelScope m_levelId m_levelFirst m_levelSecond m_scopeFirst m_scopeSecond m_scopeId m_made m_typeOf m_tasks m_todo m_renamed m_bound m_markA m_markB m_line 0 0 0 0 (-1) 0 0 0 0 0 0 0 0 0 0 0 0 0 0 0 0 0 0 0 0 (-1) 0 0 0 0 0 0 0 (xs 1) ((((xs 2).toInt64) <<< ((nI 32).toInt64 &&& 63)) ||| (((xs 3).toInt64) &&& 4294967295)) h_6) km_L_32 ki_M_feed kv_M_feed kz_M kk_M_feed (by decide +kernel) S hW hA ⟨Nat.le_of_ble_eq_true rfl, Nat.le_of_ble_eq_true rfl⟩ ⟨Nat.le_of_ble_eq_true rfl, Nat.le_of_ble_eq_true rfl⟩ rfl 0 rfl [6] [0, 1, 2, 3, 4, 5, 7, 8] rfl (by decide) rfl (by decide) (by decide) rfl hl.1 rfl (Nat.le_of_ble_eq_true rfl) d_L_law_156 (fun r u H locs hp hW => ?_)
    obtain ⟨rfl, rfl⟩ := hp
    have hW : Wd D (tyl cI cJ cB cZ) A s s.heap H locs [(aX, .inr (9, [.ref aF, .ref aC, .ref aP, .ref aT, .ref aK, .ref aR, .ref aH, .ref aI, .int (nI 0)])), (aF, .inr (0, [.int (nI 0), .int (-1)])), (aT, .inr (3, [.ref aF, .ref aTb, .int (nI 0), .int (nI 0), .int (nI 0), .int (nI 0), .long 0, .long 0])), (aTb, .inl (cB, 8192, .inl (fun _ => 0))), (aK, .inr (4, [.ref aC, .ref aK0, .ref aK1, .ref aK2, .ref aK3, .ref aK4, .int (nI 0), .int (nI 0)])), (aP, .inr (2, [.ref aPb, .int (nI 0), .int (nI 0)])), (aM, .inr (10, [.int (nI 1), .ref m_text, .int 0, .int 0, .int 0, .int (-1), .ref m_paper, .int 0, .int 0, .ref m_firstHalf, .ref m_secondHalf, .ref m_stored, .ref m_proved, .int 0, .int 0, .int 0, .long 0, .long 0, .ref m_written, .ref m_places, .int 0, .int 0, .int 0, .int 0, .int 0, .int 0, .int 0, .int 0, .int 0, .ref m_levelKind, .ref m_levelStart, .ref m_levelApp, .ref m_levelHad, .ref m_levelScope, .ref m_levelId, .ref m_levelFirst, .ref m_levelSecond, .int 0, .ref m_scopeFirst, .ref m_scopeSecond, .ref m_scopeId, .int 0, .ref m_made, .int 0, .ref m_typeOf, .ref m_tasks, .int 0, .ref m_todo, .int 0, .ref m_renamed, .ref m_bound, .int 0, .int (-1), .int 0, .int 0, .int 0, .ref m_markA, .ref m_markB, .ref m_line, .int 0, .int 0])), (m_text, .inl (cI, 8192, .inl (fun _ => 0))), (aO, .inl (cJ, 1, .inr (.inl (fun _ => 0))))] := hW.sub [0, 1, 2, 3, 4, 5, 8, 6, 7] (by decide) rfl
    refine lv_istore (lv' := [(6, .int (nI 0)), (5, .int (nI 1)), (4, .int (nI 0)), (3, .ref aO), (2, .ref aM), (1, .ref aX), (0, .ref b)]) S.1 S.2.1 d_L_law_159 hl (by decide) rfl (fun ls hl => ?_)
    refine lv_aload_n S.1 S.2.1 d_L_law_161 rfl (lv_at hl 4 rfl) ?_
    refine callV_i (wr := [(aX, .inr (9, [.ref aF, .ref aC, .ref aP, .ref aT, .ref aK, .ref aR, .ref aH, .ref aI, .int (nI 0)])), (aF, .inr (0, [.int (nI 0), .int (-1)])), (aT, .inr (3, [.ref aF, .ref aTb, .int (nI 0), .int (nI 0), .int (nI 0), .int (nI 0), .long 0, .long 0])), (aTb, .inl (cB, 8192, .inl (fun _ => 0))), (aK, .inr (4, [.ref aC, .ref aK0, .ref aK1, .ref aK2, .ref aK3, .ref aK4, .int (nI 0), .int (nI 0)])), (aP, .inr (2, [.ref aPb, .int (nI 0), .int (nI 0)])), (m_text, .inl (cI, 8192, .inl (fun _ => 0))), (aO, .inl (cJ, 1, .inr (.inl (fun _ => 0))))]) (wc := [(aM, .inr (10, [.int (nI 1), .ref m_text, .int 0, .int 0, .int 0, .int (-1), .ref m_paper, .int 0, .int 0, .ref m_firstHalf, .ref m_secondHalf, .ref m_stored, .ref m_proved, .int 0, .int 0, .int 0, .long 0, .long 0, .ref m_written, .ref m_places, .int 0, .int 0, .int 0, .int 0, .int 0, .int 0, .int 0, .int 0, .int 0, .ref m_levelKind, .ref m_levelStart, .ref m_levelApp, .ref m_levelHad, .ref m_levelScope, .ref m_levelId, .ref m_levelFirst, .ref m_levelSecond, .int 0, .ref m_scopeFirst, .ref m_scopeSecond, .ref m_scopeId, .int 0, .ref m_made, .int 0, .ref m_typeOf, .ref m_tasks, .int 0, .ref m_todo, .int 0, .ref m_renamed, .ref m_bound, .int 0, .int (-1), .int 0, .int 0, .int 0, .ref m_markA, .ref m_markB, .ref m_line, .int 0, .int 0]))]) (np := 0) (As := []) (rest := []) (c_M_thrown l D cI cJ cB cZ aM m_text m_paper m_firstHalf m_secondHalf m_stored m_proved m_written m_places m_levelKind m_levelStart m_levelApp m_levelHad m_levelScope m_levelId m_levelFirst m_levelSecond m_scopeFirst m_scopeSecond m_scopeId m_made m_typeOf m_tasks m_todo m_renamed m_bound m_markA m_markB m_line (nI 1) 0 0 0 (-1) 0 0 0 0 0 0 0 0 0 0 0 0 0 0 0 0 0 0 0 0 (-1) 0 0 0 0 0 0 0 ) km_L_33 ki_M_thrown kv_M_thrown kz_M kk_M_thrown (by decide +kernel) S hW hA ⟨Nat.le_of_ble_eq_true rfl, Nat.le_of_ble_eq_true rfl⟩ ⟨Nat.le_of_ble_eq_true rfl, Nat.le_of_ble_eq_true rfl⟩ rfl 0 rfl [6] [0, 1, 2, 3, 4, 5, 7, 8] rfl (by decide) rfl (by decide) (by decide) rfl hl.1 rfl (Nat.le_of_ble_eq_true rfl) d_L_law_162 (fun r u H locs hp hW => ?_)
    obtain ⟨rfl, rfl⟩ := hp
    have hW : Wd D (tyl cI cJ cB cZ) A s s.heap H locs [(aX, .inr (9, [.ref aF, .ref aC, .ref aP, .ref aT, .ref aK, .ref aR, .ref aH, .ref aI, .int (nI 0)])), (aF, .inr (0, [.int (nI 0), .int (-1)])), (aT, .inr (3, [.ref aF, .ref aTb, .int (nI 0), .int (nI 0), .int (nI 0), .int (nI 0), .long 0, .long 0])), (aTb, .inl (cB, 8192, .inl (fun _ => 0))), (aK, .inr (4, [.ref aC, .ref aK0, .ref aK1, .ref aK2, .ref aK3, .ref aK4, .int (nI 0), .int (nI 0)])), (aP, .inr (2, [.ref aPb, .int (nI 0), .int (nI 0)])), (aM, .inr (10, [.int (nI 1), .ref m_text, .int 0, .int 0, .int 0, .int (-1), .ref m_paper, .int 0, .int 0, .ref m_firstHalf, .ref m_secondHalf, .ref m_stored, .ref m_proved, .int 0, .int 0, .int 0, .long 0, .long 0, .ref m_written, .ref m_places, .int 0, .int 0, .int 0, .int 0, .int 0, .int 0, .int 0, .int 0, .int 0, .ref m_levelKind, .ref m_levelStart, .ref m_levelApp, .ref m_levelHad, .ref m_levelScope, .ref m_levelId, .ref m_levelFirst, .ref m_levelSecond, .int 0, .ref m_scopeFirst, .ref m_scopeSecond, .ref m_scopeId, .int 0, .ref m_made, .int 0, .ref m_typeOf, .ref m_tasks, .int 0, .ref m_todo, .int 0, .ref m_renamed, .ref m_bound, .int 0, .int (-1), .int 0, .int 0, .int 0, .ref m_markA, .ref m_markB, .ref m_line, .int 0, .int 0])), (m_text, .inl (cI, 8192, .inl (fun _ => 0))), (aO, .inl (cJ, 1, .inr (.inl (fun _ => 0))))] := hW.sub [0, 1, 2, 3, 4, 5, 8, 6, 7] (by decide) rfl
    refine lv_iload S.1 S.2.1 d_L_law_165 (lv_at hl 1 rfl) ?_
    refine lv_icmp_eq (tgt := 172) S.1 S.2.1 d_L_law_167 (by decide) (fun _ => ?_) (fun h => absurd h (by decide))
    refine lv_iload S.1 S.2.1 d_L_law_172 (lv_at hl 1 rfl) ?_
    refine lv_if_ne (tgt := 189) S.1 S.2.1 d_L_law_174 (by decide) (fun _ => ?_) (fun h => absurd h (by decide))
    refine lv_goto (tgt := 377) S.1 S.2.1 d_L_law_189 (by decide) ?_
    exact law_end C (Nat.le_of_ble_eq_true rfl) (Nat.le_of_ble_eq_true rfl) hW (lv_sub hl [2, 6] rfl)
set_option maxHeartbeats 4000000 in
set_option maxRecDepth 100000 in
theorem law_1 {p : Program} {l : Launch} {e : Env} {s : State} {m : MethodId} {below : List Frame} {meth : Method} {c : Code} {b : Nat} {xs : Nat → Int32} {D : va_G} {cI cJ cB cZ : ClassId} {A : Nat → Prop} (aX aF aC aP aT aK aR aH aI aK0 aK1 aK2 aK3 aK4 aTb aPb aM m_text m_paper m_firstHalf m_secondHalf m_stored m_proved m_written m_places m_levelKind m_levelStart m_levelApp m_levelHad m_levelScope m_levelId m_levelFirst m_levelSecond m_scopeFirst m_scopeSecond m_scopeId m_made m_typeOf m_tasks m_todo m_renamed m_bound m_markA m_markB m_line aO : Nat) {H : Heap} {locs : List Loc} {ls : Array Slot} (C : LawC p l s m meth c b 4 xs A) (hW : Wd D (tyl cI cJ cB cZ) A s s.heap H locs [(aX, .inr (9, [.ref aF, .ref aC, .ref aP, .ref aT, .ref aK, .ref aR, .ref aH, .ref aI, .int (nI 0)])), (aF, .inr (0, [.int (nI 0), .int (-1)])), (aT, .inr (3, [.ref aF, .ref aTb, .int (nI 0), .int (nI 0), .int (nI 0), .int (nI 0), .long 0, .long 0])), (aTb, .inl (cB, 8192, .inl (fun _ => 0))), (aK, .inr (4, [.ref aC, .ref aK0, .ref aK1, .ref aK2, .ref aK3, .ref aK4, .int (nI 0), .int (nI 0)])), (aP, .inr (2, [.ref aPb, .int (nI 0), .int (nI 0)])), (aM, .inr (10, [.int 0, .ref m_text, .int 0, .int 0, .int 0, .int (-1), .ref m_paper, .int 0, .int 0, .ref m_firstHalf, .ref m_secondHalf, .ref m_stored, .ref m_proved, .int 0, .int 0, .int 0, .long 0, .long 0, .ref m_written, .ref m_places, .int 0, .int 0, .int 0, .int 0, .int 0, .int 0, .int 0, .int 0, .int 0, .ref m_levelKind, .ref m_levelStart, .ref m_levelApp, .ref m_levelHad, .ref m_levelScope, .ref m_levelId, .ref m_levelFirst, .ref m_levelSecond, .int 0, .ref m_scopeFirst, .ref m_scopeSecond, .ref m_scopeId, .int 0, .ref m_made, .int 0, .ref m_typeOf, .ref m_tasks, .int 0, .ref m_todo, .int 0, .ref m_renamed, .ref m_bound, .int 0, .int (-1), .int 0, .int 0, .int 0, .ref m_markA, .ref m_markB, .ref m_line, .int 0, .int 0])), (m_text, .inl (cI, 8192, .inl (fun _ => 0))), (aO, .inl (cJ, 1, .inr (.inl (fun _ => 0))))]) (hl : lv_has ls 7 [(4, .int (nI 0)), (3, .ref aO), (2, .ref aM), (1, .ref aX), (0, .ref b)]) : W p l e room_1 s m #[Value.ref b] below meth c H locs 100 400000 (lw_Z below #[Value.ref b] s) (F0 m 192 ls []) := by
  obtain ⟨S, hX, hbl, hbA, hA, hAq, hr, hlk, hTw, htr⟩ := id C
  refine lv_aload_n S.1 S.2.1 d_L_law_192 rfl (lv_at hl 3 rfl) ?_
  refine callV_i (wr := [(aTb, .inl (cB, 8192, .inl (fun _ => 0))), (aK, .inr (4, [.ref aC, .ref aK0, .ref aK1, .ref aK2, .ref aK3, .ref aK4, .int (nI 0), .int (nI 0)])), (aP, .inr (2, [.ref aPb, .int (nI 0), .int (nI 0)])), (aM, .inr (10, [.int 0, .ref m_text, .int 0, .int 0, .int 0, .int (-1), .ref m_paper, .int 0, .int 0, .ref m_firstHalf, .ref m_secondHalf, .ref m_stored, .ref m_proved, .int 0, .int 0, .int 0, .long 0, .long 0, .ref m_written, .ref m_places, .int 0, .int 0, .int 0, .int 0, .int 0, .int 0, .int 0, .int 0, .int 0, .ref m_levelKind, .ref m_levelStart, .ref m_levelApp, .ref m_levelHad, .ref m_levelScope, .ref m_levelId, .ref m_levelFirst, .ref m_levelSecond, .int 0, .ref m_scopeFirst, .ref m_scopeSecond, .ref m_scopeId, .int 0, .ref m_made, .int 0, .ref m_typeOf, .ref m_tasks, .int 0, .ref m_todo, .int 0, .ref m_renamed, .ref m_bound, .int 0, .int (-1), .int 0, .int 0, .int 0, .ref m_markA, .ref m_markB, .ref m_line, .int 0, .int 0])), (m_text, .inl (cI, 8192, .inl (fun _ => 0))), (aO, .inl (cJ, 1, .inr (.inl (fun _ => 0))))]) (wc := [(aX, .inr (9, [.ref aF, .ref aC, .ref aP, .ref aT, .ref aK, .ref aR, .ref aH, .ref aI, .int (nI 0)])), (aF, .inr (0, [.int (nI 0), .int (-1)])), (aT, .inr (3, [.ref aF, .ref aTb, .int (nI 0), .int (nI 0), .int (nI 0), .int (nI 0), .long 0, .long 0]))]) (np := 0) (As := []) (rest := []) (c_X_read l D cI cJ cB cZ aX aF aC aP aT aK aR aH aI aTb (nI 0) (-1) (nI 0) ) km_L_37 ki_X_read kv_X_read kz_X kk_X_read (by decide +kernel) S hW hA ⟨Nat.le_of_ble_eq_true rfl, Nat.le_of_ble_eq_true rfl⟩ ⟨Nat.le_of_ble_eq_true rfl, Nat.le_of_ble_eq_true rfl⟩ rfl 0 rfl [0, 1, 2] [3, 4, 5, 6, 7, 8] rfl (by decide) rfl (by decide) (by decide) rfl hl.1 rfl (Nat.le_of_ble_eq_true rfl) d_L_law_193 (fun r u H locs hp hW => ?_)
  obtain ⟨rfl, rfl⟩ := hp
  have hW : Wd D (tyl cI cJ cB cZ) A s s.heap H locs [(aX, .inr (9, [.ref aF, .ref aC, .ref aP, .ref aT, .ref aK, .ref aR, .ref aH, .ref aI, .int (nI 0)])), (aF, .inr (0, [.int (nI 0), .int (-1)])), (aT, .inr (3, [.ref aF, .ref aTb, .int (nI 0), .int (nI 0), .int (nI 0), .int (nI 0), .long 0, .long 0])), (aTb, .inl (cB, 8192, .inl (fun _ => 0))), (aK, .inr (4, [.ref aC, .ref aK0, .ref aK1, .ref aK2, .ref aK3, .ref aK4, .int (nI 0), .int (nI 0)])), (aP, .inr (2, [.ref aPb, .int (nI 0), .int (nI 0)])), (aM, .inr (10, [.int 0, .ref m_text, .int 0, .int 0, .int 0, .int (-1), .ref m_paper, .int 0, .int 0, .ref m_firstHalf, .ref m_secondHalf, .ref m_stored, .ref m_proved, .int 0, .int 0, .int 0, .long 0, .long 0, .ref m_written, .ref m_places, .int 0, .int 0, .int 0, .int 0, .int 0, .int 0, .int 0, .int 0, .int 0, .ref m_levelKind, .ref m_levelStart, .ref m_levelApp, .ref m_levelHad, .ref m_levelScope, .ref m_levelId, .ref m_levelFirst, .ref m_levelSecond, .int 0, .ref m_scopeFirst, .ref m_scopeSecond, .ref m_scopeId, .int 0, .ref m_made, .int 0, .ref m_typeOf, .ref m_tasks, .int 0, .ref m_todo, .int 0, .ref m_renamed, .ref m_bound, .int 0, .int (-1), .int 0, .int 0, .int 0, .ref m_markA, .ref m_markB, .ref m_line, .int 0, .int 0])), (m_text, .inl (cI, 8192, .inl (fun _ => 0))), (aO, .inl (cJ, 1, .inr (.inl (fun _ => 0))))] := hW.sub [6, 7, 8, 0, 1, 2, 3, 4, 5] (by decide) rfl
  refine lv_aload_n S.1 S.2.1 d_L_law_196 rfl (lv_at hl 2 rfl) ?_
  refine callV_i (wr := [(aX, .inr (9, [.ref aF, .ref aC, .ref aP, .ref aT, .ref aK, .ref aR, .ref aH, .ref aI, .int (nI 0)])), (aF, .inr (0, [.int (nI 0), .int (-1)])), (aT, .inr (3, [.ref aF, .ref aTb, .int (nI 0), .int (nI 0), .int (nI 0), .int (nI 0), .long 0, .long 0])), (aTb, .inl (cB, 8192, .inl (fun _ => 0))), (aK, .inr (4, [.ref aC, .ref aK0, .ref aK1, .ref aK2, .ref aK3, .ref aK4, .int (nI 0), .int (nI 0)])), (aP, .inr (2, [.ref aPb, .int (nI 0), .int (nI 0)])), (m_text, .inl (cI, 8192, .inl (fun _ => 0))), (aO, .inl (cJ, 1, .inr (.inl (fun _ => 0))))]) (wc := [(aM, .inr (10, [.int 0, .ref m_text, .int (nI 0), .int 0, .int 0, .int (-1), .ref m_paper, .int 0, .int 0, .ref m_firstHalf, .ref m_secondHalf, .ref m_stored, .ref m_proved, .int 0, .int 0, .int 0, .long 0, .long 0, .ref m_written, .ref m_places, .int 0, .int 0, .int 0, .int 0, .int 0, .int 0, .int 0, .int 0, .int 0, .ref m_levelKind, .ref m_levelStart, .ref m_levelApp, .ref m_levelHad, .ref m_levelScope, .ref m_levelId, .ref m_levelFirst, .ref m_levelSecond, .int 0, .ref m_scopeFirst, .ref m_scopeSecond, .ref m_scopeId, .int 0, .ref m_made, .int 0, .ref m_typeOf, .ref m_tasks, .int 0, .ref m_todo, .int 0, .ref m_renamed, .ref m_bound, .int 0, .int (-1), .int 0, .int 0, .int 0, .ref m_markA, .ref m_markB, .ref m_line, .int 0, .int 0]))]) (np := 0) (As := []) (rest := [.int (nI 0)]) (c_M_read l D cI cJ cB cZ aM m_text m_paper m_firstHalf m_secondHalf m_stored m_proved m_written m_places m_levelKind m_levelStart m_levelApp m_levelHad m_levelScope m_levelId m_levelFirst m_levelSecond m_scopeFirst m_scopeSecond m_scopeId m_made m_typeOf m_tasks m_todo m_renamed m_bound m_markA m_markB m_line 0 0 0 (-1) 0 0 0 0 0 0 0 0 0 0 0 0 0 0 0 0 0 0 0 0 (-1) 0 0 0 0 0 0 0 ) km_L_40 ki_M_read kv_M_read kz_M kk_M_read (by decide +kernel) S hW hA ⟨Nat.le_of_ble_eq_true rfl, Nat.le_of_ble_eq_true rfl⟩ ⟨Nat.le_of_ble_eq_true rfl, Nat.le_of_ble_eq_true rfl⟩ rfl 0 rfl [6] [0, 1, 2, 3, 4, 5, 7, 8] rfl (by decide) rfl (by decide) (by decide) rfl hl.1 rfl (Nat.le_of_ble_eq_true rfl) d_L_law_197 (fun r u H locs hp hW => ?_)
  obtain ⟨rfl, rfl⟩ := hp
  have hW : Wd D (tyl cI cJ cB cZ) A s s.heap H locs [(aX, .inr (9, [.ref aF, .ref aC, .ref aP, .ref aT, .ref aK, .ref aR, .ref aH, .ref aI, .int (nI 0)])), (aF, .inr (0, [.int (nI 0), .int (-1)])), (aT, .inr (3, [.ref aF, .ref aTb, .int (nI 0), .int (nI 0), .int (nI 0), .int (nI 0), .long 0, .long 0])), (aTb, .inl (cB, 8192, .inl (fun _ => 0))), (aK, .inr (4, [.ref aC, .ref aK0, .ref aK1, .ref aK2, .ref aK3, .ref aK4, .int (nI 0), .int (nI 0)])), (aP, .inr (2, [.ref aPb, .int (nI 0), .int (nI 0)])), (aM, .inr (10, [.int (nI 0), .ref m_text, .int (nI 0), .int 0, .int (nI 0), .int (-1), .ref m_paper, .int 0, .int 0, .ref m_firstHalf, .ref m_secondHalf, .ref m_stored, .ref m_proved, .int (nI 0), .int (nI 0), .int (nI 0), .long 0, .long 0, .ref m_written, .ref m_places, .int 0, .int 0, .int 0, .int 0, .int 0, .int 0, .int 0, .int 0, .int 0, .ref m_levelKind, .ref m_levelStart, .ref m_levelApp, .ref m_levelHad, .ref m_levelScope, .ref m_levelId, .ref m_levelFirst, .ref m_levelSecond, .int 0, .ref m_scopeFirst, .ref m_scopeSecond, .ref m_scopeId, .int 0, .ref m_made, .int 0, .ref m_typeOf, .ref m_tasks, .int 0, .ref m_todo, .int 0, .ref m_renamed, .ref m_bound, .int 0, .int (-1), .int 0, .int 0, .int 0, .ref m_markA, .ref m_markB, .ref m_line, .int 0, .int 0])), (m_text, .inl (cI, 8192, .inl (fun _ => 0))), (aO, .inl (cJ, 1, .inr (.inl (fun _ => 0))))] := hW.sub [0, 1, 2, 3, 4, 5, 8, 6, 7] (by decide) rfl
  refine lv_icmp_eq (tgt := 377) S.1 S.2.1 d_L_law_200 (by decide) (fun _ => ?_) (fun h => absurd h (by decide))
  exact law_end C (Nat.le_of_ble_eq_true rfl) (Nat.le_of_ble_eq_true rfl) hW (lv_sub hl [0, 4] rfl)
set_option maxHeartbeats 4000000 in
set_option maxRecDepth 100000 in
theorem law_2 {p : Program} {l : Launch} {e : Env} {s : State} {m : MethodId} {below : List Frame} {meth : Method} {c : Code} {b : Nat} {xs : Nat → Int32} {D : va_G} {cI cJ cB cZ : ClassId} {A : Nat → Prop} (aX aF aC aP aT aK aR aH aI aK0 aK1 aK2 aK3 aK4 aTb aPb aM m_text m_paper m_firstHalf m_secondHalf m_stored m_proved m_written m_places m_levelKind m_levelStart m_levelApp m_levelHad m_levelScope m_levelId m_levelFirst m_levelSecond m_scopeFirst m_scopeSecond m_scopeId m_made m_typeOf m_tasks m_todo m_renamed m_bound m_markA m_markB m_line aO : Nat) {H : Heap} {locs : List Loc} {ls : Array Slot} (C : LawC p l s m meth c b 4 xs A) (hW : Wd D (tyl cI cJ cB cZ) A s s.heap H locs [(aX, .inr (9, [.ref aF, .ref aC, .ref aP, .ref aT, .ref aK, .ref aR, .ref aH, .ref aI, .int (nI 0)])), (aF, .inr (0, [.int (nI 0), .int (-1)])), (aT, .inr (3, [.ref aF, .ref aTb, .int (nI 0), .int (nI 0), .int (nI 0), .int (nI 0), .long 0, .long 0])), (aTb, .inl (cB, 8192, .inl (fun _ => 0))), (aK, .inr (4, [.ref aC, .ref aK0, .ref aK1, .ref aK2, .ref aK3, .ref aK4, .int (nI 0), .int (nI 0)])), (aP, .inr (2, [.ref aPb, .int (nI 0), .int (nI 0)])), (aM, .inr (10, [.int 0, .ref m_text, .int 0, .int 0, .int 0, .int (-1), .ref m_paper, .int 0, .int 0, .ref m_firstHalf, .ref m_secondHalf, .ref m_stored, .ref m_proved, .int 0, .int 0, .int 0, .long 0, .long 0, .ref m_written, .ref m_places, .int 0, .int 0, .int 0, .int 0, .int 0, .int 0, .int 0, .int 0, .int 0, .ref m_levelKind, .ref m_levelStart, .ref m_levelApp, .ref m_levelHad, .ref m_levelScope, .ref m_levelId, .ref m_levelFirst, .ref m_levelSecond, .int 0, .ref m_scopeFirst, .ref m_scopeSecond, .ref m_scopeId, .int 0, .ref m_made, .int 0, .ref m_typeOf, .ref m_tasks, .int 0, .ref m_todo, .int 0, .ref m_renamed, .ref m_bound, .int 0, .int (-1), .int 0, .int 0, .int 0, .ref m_markA, .ref m_markB, .ref m_line, .int 0, .int 0])), (m_text, .inl (cI, 8192, .inl (fun _ => 0))), (aO, .inl (cJ, 1, .inr (.inl (fun _ => 0))))]) (hl : lv_has ls 7 [(4, .int (nI 0)), (3, .ref aO), (2, .ref aM), (1, .ref aX), (0, .ref b)]) : W p l e room_1 s m #[Value.ref b] below meth c H locs 100 400000 (lw_Z below #[Value.ref b] s) (F0 m 205 ls []) := by
  obtain ⟨S, hX, hbl, hbA, hA, hAq, hr, hlk, hTw, htr⟩ := id C
  refine lv_aload_n S.1 S.2.1 d_L_law_205 rfl (lv_at hl 3 rfl) ?_
  refine callV_i (wr := [(aT, .inr (3, [.ref aF, .ref aTb, .int (nI 0), .int (nI 0), .int (nI 0), .int (nI 0), .long 0, .long 0])), (aTb, .inl (cB, 8192, .inl (fun _ => 0))), (aK, .inr (4, [.ref aC, .ref aK0, .ref aK1, .ref aK2, .ref aK3, .ref aK4, .int (nI 0), .int (nI 0)])), (aP, .inr (2, [.ref aPb, .int (nI 0), .int (nI 0)])), (aM, .inr (10, [.int 0, .ref m_text, .int 0, .int 0, .int 0, .int (-1), .ref m_paper, .int 0, .int 0, .ref m_firstHalf, .ref m_secondHalf, .ref m_stored, .ref m_proved, .int 0, .int 0, .int 0, .long 0, .long 0, .ref m_written, .ref m_places, .int 0, .int 0, .int 0, .int 0, .int 0, .int 0, .int 0, .int 0, .int 0, .ref m_levelKind, .ref m_levelStart, .ref m_levelApp, .ref m_levelHad, .ref m_levelScope, .ref m_levelId, .ref m_levelFirst, .ref m_levelSecond, .int 0, .ref m_scopeFirst, .ref m_scopeSecond, .ref m_scopeId, .int 0, .ref m_made, .int 0, .ref m_typeOf, .ref m_tasks, .int 0, .ref m_todo, .int 0, .ref m_renamed, .ref m_bound, .int 0, .int (-1), .int 0, .int 0, .int 0, .ref m_markA, .ref m_markB, .ref m_line, .int 0, .int 0])), (m_text, .inl (cI, 8192, .inl (fun _ => 0))), (aO, .inl (cJ, 1, .inr (.inl (fun _ => 0))))]) (wc := [(aX, .inr (9, [.ref aF, .ref aC, .ref aP, .ref aT, .ref aK, .ref aR, .ref aH, .ref aI, .int (nI 0)])), (aF, .inr (0, [.int (nI 0), .int (-1)]))]) (np := 0) (As := []) (rest := []) (c_X_fault l D cI cJ cB cZ aX aF aC aP aT aK aR aH aI (nI 0) (-1) (nI 0) ) km_L_41 ki_X_fault kv_X_fault kz_X kk_X_fault (by decide +kernel) S hW hA ⟨Nat.le_of_ble_eq_true rfl, Nat.le_of_ble_eq_true rfl⟩ ⟨Nat.le_of_ble_eq_true rfl, Nat.le_of_ble_eq_true rfl⟩ rfl 0 rfl [0, 1] [2, 3, 4, 5, 6, 7, 8] rfl (by decide) rfl (by decide) (by decide) rfl hl.1 rfl (Nat.le_of_ble_eq_true rfl) d_L_law_206 (fun r u H locs hp hW => ?_)
  obtain ⟨rfl, rfl⟩ := hp
  have hW : Wd D (tyl cI cJ cB cZ) A s s.heap H locs [(aX, .inr (9, [.ref aF, .ref aC, .ref aP, .ref aT, .ref aK, .ref aR, .ref aH, .ref aI, .int (nI 0)])), (aF, .inr (0, [.int (nI 0), .int (-1)])), (aT, .inr (3, [.ref aF, .ref aTb, .int (nI 0), .int (nI 0), .int (nI 0), .int (nI 0), .long 0, .long 0])), (aTb, .inl (cB, 8192, .inl (fun _ => 0))), (aK, .inr (4, [.ref aC, .ref aK0, .ref aK1, .ref aK2, .ref aK3, .ref aK4, .int (nI 0), .int (nI 0)])), (aP, .inr (2, [.ref aPb, .int (nI 0), .int (nI 0)])), (aM, .inr (10, [.int 0, .ref m_text, .int 0, .int 0, .int 0, .int (-1), .ref m_paper, .int 0, .int 0, .ref m_firstHalf, .ref m_secondHalf, .ref m_stored, .ref m_proved, .int 0, .int 0, .int 0, .long 0, .long 0, .ref m_written, .ref m_places, .int 0, .int 0, .int 0, .int 0, .int 0, .int 0, .int 0, .int 0, .int 0, .ref m_levelKind, .ref m_levelStart, .ref m_levelApp, .ref m_levelHad, .ref m_levelScope, .ref m_levelId, .ref m_levelFirst, .ref m_levelSecond, .int 0, .ref m_scopeFirst, .ref m_scopeSecond, .ref m_scopeId, .int 0, .ref m_made, .int 0, .ref m_typeOf, .ref m_tasks, .int 0, .ref m_todo, .int 0, .ref m_renamed, .ref m_bound, .int 0, .int (-1), .int 0, .int 0, .int 0, .ref m_markA, .ref m_markB, .ref m_line, .int 0, .int 0])), (m_text, .inl (cI, 8192, .inl (fun _ => 0))), (aO, .inl (cJ, 1, .inr (.inl (fun _ => 0))))] := hW.sub [7, 8, 0, 1, 2, 3, 4, 5, 6] (by decide) rfl
  refine lv_aload_n S.1 S.2.1 d_L_law_209 rfl (lv_at hl 2 rfl) ?_
  refine callV_i (wr := [(aX, .inr (9, [.ref aF, .ref aC, .ref aP, .ref aT, .ref aK, .ref aR, .ref aH, .ref aI, .int (nI 0)])), (aF, .inr (0, [.int (nI 0), .int (-1)])), (aT, .inr (3, [.ref aF, .ref aTb, .int (nI 0), .int (nI 0), .int (nI 0), .int (nI 0), .long 0, .long 0])), (aTb, .inl (cB, 8192, .inl (fun _ => 0))), (aK, .inr (4, [.ref aC, .ref aK0, .ref aK1, .ref aK2, .ref aK3, .ref aK4, .int (nI 0), .int (nI 0)])), (aP, .inr (2, [.ref aPb, .int (nI 0), .int (nI 0)])), (m_text, .inl (cI, 8192, .inl (fun _ => 0))), (aO, .inl (cJ, 1, .inr (.inl (fun _ => 0))))]) (wc := [(aM, .inr (10, [.int 0, .ref m_text, .int 0, .int 0, .int 0, .int (-1), .ref m_paper, .int 0, .int 0, .ref m_firstHalf, .ref m_secondHalf, .ref m_stored, .ref m_proved, .int 0, .int 0, .int 0, .long 0, .long 0, .ref m_written, .ref m_places, .int 0, .int 0, .int 0, .int 0, .int 0, .int 0, .int 0, .int 0, .int 0, .ref m_levelKind, .ref m_levelStart, .ref m_levelApp, .ref m_levelHad, .ref m_levelScope, .ref m_levelId, .ref m_levelFirst, .ref m_levelSecond, .int 0, .ref m_scopeFirst, .ref m_scopeSecond, .ref m_scopeId, .int 0, .ref m_made, .int 0, .ref m_typeOf, .ref m_tasks, .int 0, .ref m_todo, .int 0, .ref m_renamed, .ref m_bound, .int 0, .int (-1), .int 0, .int 0, .int 0, .ref m_markA, .ref m_markB, .ref m_line, .int 0, .int 0]))]) (np := 0) (As := []) (rest := [.int (nI 0)]) (c_M_fault l D cI cJ cB cZ aM m_text m_paper m_firstHalf m_secondHalf m_stored m_proved m_written m_places m_levelKind m_levelStart m_levelApp m_levelHad m_levelScope m_levelId m_levelFirst m_levelSecond m_scopeFirst m_scopeSecond m_scopeId m_made m_typeOf m_tasks m_todo m_renamed m_bound m_markA m_markB m_line 0 0 0 0 (-1) 0 0 0 0 0 0 0 0 0 0 0 0 0 0 0 0 0 0 0 0 (-1) 0 0 0 0 0 0 0 ) km_L_44 ki_M_fault kv_M_fault kz_M kk_M_fault (by decide +kernel) S hW hA ⟨Nat.le_of_ble_eq_true rfl, Nat.le_of_ble_eq_true rfl⟩ ⟨Nat.le_of_ble_eq_true rfl, Nat.le_of_ble_eq_true rfl⟩ rfl 0 rfl [6] [0, 1, 2, 3, 4, 5, 7, 8] rfl (by decide) rfl (by decide) (by decide) rfl hl.1 rfl (Nat.le_of_ble_eq_true rfl) d_L_law_210 (fun r u H locs hp hW => ?_)
  obtain ⟨rfl, rfl⟩ := hp
  have hW : Wd D (tyl cI cJ cB cZ) A s s.heap H locs [(aX, .inr (9, [.ref aF, .ref aC, .ref aP, .ref aT, .ref aK, .ref aR, .ref aH, .ref aI, .int (nI 0)])), (aF, .inr (0, [.int (nI 0), .int (-1)])), (aT, .inr (3, [.ref aF, .ref aTb, .int (nI 0), .int (nI 0), .int (nI 0), .int (nI 0), .long 0, .long 0])), (aTb, .inl (cB, 8192, .inl (fun _ => 0))), (aK, .inr (4, [.ref aC, .ref aK0, .ref aK1, .ref aK2, .ref aK3, .ref aK4, .int (nI 0), .int (nI 0)])), (aP, .inr (2, [.ref aPb, .int (nI 0), .int (nI 0)])), (aM, .inr (10, [.int (nI 0), .ref m_text, .int 0, .int 0, .int 0, .int (-1), .ref m_paper, .int 0, .int 0, .ref m_firstHalf, .ref m_secondHalf, .ref m_stored, .ref m_proved, .int 0, .int 0, .int 0, .long 0, .long 0, .ref m_written, .ref m_places, .int 0, .int 0, .int 0, .int 0, .int 0, .int 0, .int 0, .int 0, .int 0, .ref m_levelKind, .ref m_levelStart, .ref m_levelApp, .ref m_levelHad, .ref m_levelScope, .ref m_levelId, .ref m_levelFirst, .ref m_levelSecond, .int 0, .ref m_scopeFirst, .ref m_scopeSecond, .ref m_scopeId, .int 0, .ref m_made, .int 0, .ref m_typeOf, .ref m_tasks, .int 0, .ref m_todo, .int 0, .ref m_renamed, .ref m_bound, .int 0, .int (-1), .int 0, .int 0, .int 0, .ref m_markA, .ref m_markB, .ref m_line, .int 0, .int 0])), (m_text, .inl (cI, 8192, .inl (fun _ => 0))), (aO, .inl (cJ, 1, .inr (.inl (fun _ => 0))))] := hW.sub [0, 1, 2, 3, 4, 5, 8, 6, 7] (by decide) rfl
  refine lv_icmp_eq (tgt := 377) S.1 S.2.1 d_L_law_213 (by decide) (fun _ => ?_) (fun h => absurd h (by decide))
  exact law_end C (Nat.le_of_ble_eq_true rfl) (Nat.le_of_ble_eq_true rfl) hW (lv_sub hl [0, 4] rfl)
set_option maxHeartbeats 4000000 in
set_option maxRecDepth 100000 in
theorem law_3 {p : Program} {l : Launch} {e : Env} {s : State} {m : MethodId} {below : List Frame} {meth : Method} {c : Code} {b : Nat} {xs : Nat → Int32} {D : va_G} {cI cJ cB cZ : ClassId} {A : Nat → Prop} (aX aF aC aP aT aK aR aH aI aK0 aK1 aK2 aK3 aK4 aTb aPb aM m_text m_paper m_firstHalf m_secondHalf m_stored m_proved m_written m_places m_levelKind m_levelStart m_levelApp m_levelHad m_levelScope m_levelId m_levelFirst m_levelSecond m_scopeFirst m_scopeSecond m_scopeId m_made m_typeOf m_tasks m_todo m_renamed m_bound m_markA m_markB m_line aO : Nat) {H : Heap} {locs : List Loc} {ls : Array Slot} (C : LawC p l s m meth c b 4 xs A) (hW : Wd D (tyl cI cJ cB cZ) A s s.heap H locs [(aX, .inr (9, [.ref aF, .ref aC, .ref aP, .ref aT, .ref aK, .ref aR, .ref aH, .ref aI, .int (nI 0)])), (aF, .inr (0, [.int (nI 0), .int (-1)])), (aT, .inr (3, [.ref aF, .ref aTb, .int (nI 0), .int (nI 0), .int (nI 0), .int (nI 0), .long 0, .long 0])), (aTb, .inl (cB, 8192, .inl (fun _ => 0))), (aK, .inr (4, [.ref aC, .ref aK0, .ref aK1, .ref aK2, .ref aK3, .ref aK4, .int (nI 0), .int (nI 0)])), (aP, .inr (2, [.ref aPb, .int (nI 0), .int (nI 0)])), (aM, .inr (10, [.int 0, .ref m_text, .int 0, .int 0, .int 0, .int (-1), .ref m_paper, .int 0, .int 0, .ref m_firstHalf, .ref m_secondHalf, .ref m_stored, .ref m_proved, .int 0, .int 0, .int 0, .long 0, .long 0, .ref m_written, .ref m_places, .int 0, .int 0, .int 0, .int 0, .int 0, .int 0, .int 0, .int 0, .int 0, .ref m_levelKind, .ref m_levelStart, .ref m_levelApp, .ref m_levelHad, .ref m_levelScope, .ref m_levelId, .ref m_levelFirst, .ref m_levelSecond, .int 0, .ref m_scopeFirst, .ref m_scopeSecond, .ref m_scopeId, .int 0, .ref m_made, .int 0, .ref m_typeOf, .ref m_tasks, .int 0, .ref m_todo, .int 0, .ref m_renamed, .ref m_bound, .int 0, .int (-1), .int 0, .int 0, .int 0, .ref m_markA, .ref m_markB, .ref m_line, .int 0, .int 0])), (m_text, .inl (cI, 8192, .inl (fun _ => 0))), (aO, .inl (cJ, 1, .inr (.inl (fun _ => 0))))]) (hl : lv_has ls 7 [(4, .int (nI 0)), (3, .ref aO), (2, .ref aM), (1, .ref aX), (0, .ref b)]) : W p l e room_1 s m #[Value.ref b] below meth c H locs 100 400000 (lw_Z below #[Value.ref b] s) (F0 m 218 ls []) := by
  obtain ⟨S, hX, hbl, hbA, hA, hAq, hr, hlk, hTw, htr⟩ := id C
  refine lv_aload_n S.1 S.2.1 d_L_law_218 rfl (lv_at hl 3 rfl) ?_
  refine callV_i (wr := [(aT, .inr (3, [.ref aF, .ref aTb, .int (nI 0), .int (nI 0), .int (nI 0), .int (nI 0), .long 0, .long 0])), (aTb, .inl (cB, 8192, .inl (fun _ => 0))), (aK, .inr (4, [.ref aC, .ref aK0, .ref aK1, .ref aK2, .ref aK3, .ref aK4, .int (nI 0), .int (nI 0)])), (aP, .inr (2, [.ref aPb, .int (nI 0), .int (nI 0)])), (aM, .inr (10, [.int 0, .ref m_text, .int 0, .int 0, .int 0, .int (-1), .ref m_paper, .int 0, .int 0, .ref m_firstHalf, .ref m_secondHalf, .ref m_stored, .ref m_proved, .int 0, .int 0, .int 0, .long 0, .long 0, .ref m_written, .ref m_places, .int 0, .int 0, .int 0, .int 0, .int 0, .int 0, .int 0, .int 0, .int 0, .ref m_levelKind, .ref m_levelStart, .ref m_levelApp, .ref m_levelHad, .ref m_levelScope, .ref m_levelId, .ref m_levelFirst, .ref m_levelSecond, .int 0, .ref m_scopeFirst, .ref m_scopeSecond, .ref m_scopeId, .int 0, .ref m_made, .int 0, .ref m_typeOf, .ref m_tasks, .int 0, .ref m_todo, .int 0, .ref m_renamed, .ref m_bound, .int 0, .int (-1), .int 0, .int 0, .int 0, .ref m_markA, .ref m_markB, .ref m_line, .int 0, .int 0])), (m_text, .inl (cI, 8192, .inl (fun _ => 0))), (aO, .inl (cJ, 1, .inr (.inl (fun _ => 0))))]) (wc := [(aX, .inr (9, [.ref aF, .ref aC, .ref aP, .ref aT, .ref aK, .ref aR, .ref aH, .ref aI, .int (nI 0)])), (aF, .inr (0, [.int (nI 0), .int (-1)]))]) (np := 0) (As := []) (rest := []) (c_X_place l D cI cJ cB cZ aX aF aC aP aT aK aR aH aI (nI 0) (-1) (nI 0) ) km_L_45 ki_X_place kv_X_place kz_X kk_X_place (by decide +kernel) S hW hA ⟨Nat.le_of_ble_eq_true rfl, Nat.le_of_ble_eq_true rfl⟩ ⟨Nat.le_of_ble_eq_true rfl, Nat.le_of_ble_eq_true rfl⟩ rfl 0 rfl [0, 1] [2, 3, 4, 5, 6, 7, 8] rfl (by decide) rfl (by decide) (by decide) rfl hl.1 rfl (Nat.le_of_ble_eq_true rfl) d_L_law_219 (fun r u H locs hp hW => ?_)
  obtain ⟨rfl, rfl⟩ := hp
  have hW : Wd D (tyl cI cJ cB cZ) A s s.heap H locs [(aX, .inr (9, [.ref aF, .ref aC, .ref aP, .ref aT, .ref aK, .ref aR, .ref aH, .ref aI, .int (nI 0)])), (aF, .inr (0, [.int (nI 0), .int (-1)])), (aT, .inr (3, [.ref aF, .ref aTb, .int (nI 0), .int (nI 0), .int (nI 0), .int (nI 0), .long 0, .long 0])), (aTb, .inl (cB, 8192, .inl (fun _ => 0))), (aK, .inr (4, [.ref aC, .ref aK0, .ref aK1, .ref aK2, .ref aK3, .ref aK4, .int (nI 0), .int (nI 0)])), (aP, .inr (2, [.ref aPb, .int (nI 0), .int (nI 0)])), (aM, .inr (10, [.int 0, .ref m_text, .int 0, .int 0, .int 0, .int (-1), .ref m_paper, .int 0, .int 0, .ref m_firstHalf, .ref m_secondHalf, .ref m_stored, .ref m_proved, .int 0, .int 0, .int 0, .long 0, .long 0, .ref m_written, .ref m_places, .int 0, .int 0, .int 0, .int 0, .int 0, .int 0, .int 0, .int 0, .int 0, .ref m_levelKind, .ref m_levelStart, .ref m_levelApp, .ref m_levelHad, .ref m_levelScope, .ref m_levelId, .ref m_levelFirst, .ref m_levelSecond, .int 0, .ref m_scopeFirst, .ref m_scopeSecond, .ref m_scopeId, .int 0, .ref m_made, .int 0, .ref m_typeOf, .ref m_tasks, .int 0, .ref m_todo, .int 0, .ref m_renamed, .ref m_bound, .int 0, .int (-1), .int 0, .int 0, .int 0, .ref m_markA, .ref m_markB, .ref m_line, .int 0, .int 0])), (m_text, .inl (cI, 8192, .inl (fun _ => 0))), (aO, .inl (cJ, 1, .inr (.inl (fun _ => 0))))] := hW.sub [7, 8, 0, 1, 2, 3, 4, 5, 6] (by decide) rfl
  refine lv_aload_n S.1 S.2.1 d_L_law_222 rfl (lv_at hl 2 rfl) ?_
  refine callV_i (wr := [(aX, .inr (9, [.ref aF, .ref aC, .ref aP, .ref aT, .ref aK, .ref aR, .ref aH, .ref aI, .int (nI 0)])), (aF, .inr (0, [.int (nI 0), .int (-1)])), (aT, .inr (3, [.ref aF, .ref aTb, .int (nI 0), .int (nI 0), .int (nI 0), .int (nI 0), .long 0, .long 0])), (aTb, .inl (cB, 8192, .inl (fun _ => 0))), (aK, .inr (4, [.ref aC, .ref aK0, .ref aK1, .ref aK2, .ref aK3, .ref aK4, .int (nI 0), .int (nI 0)])), (aP, .inr (2, [.ref aPb, .int (nI 0), .int (nI 0)])), (m_text, .inl (cI, 8192, .inl (fun _ => 0))), (aO, .inl (cJ, 1, .inr (.inl (fun _ => 0))))]) (wc := [(aM, .inr (10, [.int 0, .ref m_text, .int 0, .int 0, .int 0, .int (-1), .ref m_paper, .int 0, .int 0, .ref m_firstHalf, .ref m_secondHalf, .ref m_stored, .ref m_proved, .int 0, .int 0, .int 0, .long 0, .long 0, .ref m_written, .ref m_places, .int 0, .int 0, .int 0, .int 0, .int 0, .int 0, .int 0, .int 0, .int 0, .ref m_levelKind, .ref m_levelStart, .ref m_levelApp, .ref m_levelHad, .ref m_levelScope, .ref m_levelId, .ref m_levelFirst, .ref m_levelSecond, .int 0, .ref m_scopeFirst, .ref m_scopeSecond, .ref m_scopeId, .int 0, .ref m_made, .int 0, .ref m_typeOf, .ref m_tasks, .int 0, .ref m_todo, .int 0, .ref m_renamed, .ref m_bound, .int 0, .int (-1), .int 0, .int 0, .int 0, .ref m_markA, .ref m_markB, .ref m_line, .int 0, .int 0]))]) (np := 0) (As := []) (rest := [.int (-1)]) (c_M_place l D cI cJ cB cZ aM m_text m_paper m_firstHalf m_secondHalf m_stored m_proved m_written m_places m_levelKind m_levelStart m_levelApp m_levelHad m_levelScope m_levelId m_levelFirst m_levelSecond m_scopeFirst m_scopeSecond m_scopeId m_made m_typeOf m_tasks m_todo m_renamed m_bound m_markA m_markB m_line 0 0 0 0 (-1) 0 0 0 0 0 0 0 0 0 0 0 0 0 0 0 0 0 0 0 0 (-1) 0 0 0 0 0 0 0 ) km_L_48 ki_M_place kv_M_place kz_M kk_M_place (by decide +kernel) S hW hA ⟨Nat.le_of_ble_eq_true rfl, Nat.le_of_ble_eq_true rfl⟩ ⟨Nat.le_of_ble_eq_true rfl, Nat.le_of_ble_eq_true rfl⟩ rfl 0 rfl [6] [0, 1, 2, 3, 4, 5, 7, 8] rfl (by decide) rfl (by decide) (by decide) rfl hl.1 rfl (Nat.le_of_ble_eq_true rfl) d_L_law_223 (fun r u H locs hp hW => ?_)
  obtain ⟨rfl, rfl⟩ := hp
  have hW : Wd D (tyl cI cJ cB cZ) A s s.heap H locs [(aX, .inr (9, [.ref aF, .ref aC, .ref aP, .ref aT, .ref aK, .ref aR, .ref aH, .ref aI, .int (nI 0)])), (aF, .inr (0, [.int (nI 0), .int (-1)])), (aT, .inr (3, [.ref aF, .ref aTb, .int (nI 0), .int (nI 0), .int (nI 0), .int (nI 0), .long 0, .long 0])), (aTb, .inl (cB, 8192, .inl (fun _ => 0))), (aK, .inr (4, [.ref aC, .ref aK0, .ref aK1, .ref aK2, .ref aK3, .ref aK4, .int (nI 0), .int (nI 0)])), (aP, .inr (2, [.ref aPb, .int (nI 0), .int (nI 0)])), (aM, .inr (10, [.int (nI 0), .ref m_text, .int 0, .int 0, .int 0, .int (-1), .ref m_paper, .int 0, .int 0, .ref m_firstHalf, .ref m_secondHalf, .ref m_stored, .ref m_proved, .int 0, .int 0, .int 0, .long 0, .long 0, .ref m_written, .ref m_places, .int 0, .int 0, .int 0, .int 0, .int 0, .int 0, .int 0, .int 0, .int 0, .ref m_levelKind, .ref m_levelStart, .ref m_levelApp, .ref m_levelHad, .ref m_levelScope, .ref m_levelId, .ref m_levelFirst, .ref m_levelSecond, .int 0, .ref m_scopeFirst, .ref m_scopeSecond, .ref m_scopeId, .int 0, .ref m_made, .int 0, .ref m_typeOf, .ref m_tasks, .int 0, .ref m_todo, .int 0, .ref m_renamed, .ref m_bound, .int 0, .int (-1), .int 0, .int 0, .int 0, .ref m_markA, .ref m_markB, .ref m_line, .int 0, .int 0])), (m_text, .inl (cI, 8192, .inl (fun _ => 0))), (aO, .inl (cJ, 1, .inr (.inl (fun _ => 0))))] := hW.sub [0, 1, 2, 3, 4, 5, 8, 6, 7] (by decide) rfl
  refine lv_icmp_eq (tgt := 377) S.1 S.2.1 d_L_law_226 (by decide) (fun _ => ?_) (fun h => absurd h (by decide))
  exact law_end C (Nat.le_of_ble_eq_true rfl) (Nat.le_of_ble_eq_true rfl) hW (lv_sub hl [0, 4] rfl)
set_option maxHeartbeats 4000000 in
set_option maxRecDepth 100000 in
theorem law_4 {p : Program} {l : Launch} {e : Env} {s : State} {m : MethodId} {below : List Frame} {meth : Method} {c : Code} {b : Nat} {xs : Nat → Int32} {D : va_G} {cI cJ cB cZ : ClassId} {A : Nat → Prop} (aX aF aC aP aT aK aR aH aI aK0 aK1 aK2 aK3 aK4 aTb aPb aM m_text m_paper m_firstHalf m_secondHalf m_stored m_proved m_written m_places m_levelKind m_levelStart m_levelApp m_levelHad m_levelScope m_levelId m_levelFirst m_levelSecond m_scopeFirst m_scopeSecond m_scopeId m_made m_typeOf m_tasks m_todo m_renamed m_bound m_markA m_markB m_line aO : Nat) {H : Heap} {locs : List Loc} {ls : Array Slot} (C : LawC p l s m meth c b 4 xs A) (hW : Wd D (tyl cI cJ cB cZ) A s s.heap H locs [(aX, .inr (9, [.ref aF, .ref aC, .ref aP, .ref aT, .ref aK, .ref aR, .ref aH, .ref aI, .int (nI 0)])), (aF, .inr (0, [.int (nI 0), .int (-1)])), (aT, .inr (3, [.ref aF, .ref aTb, .int (nI 0), .int (nI 0), .int (nI 0), .int (nI 0), .long 0, .long 0])), (aTb, .inl (cB, 8192, .inl (fun _ => 0))), (aK, .inr (4, [.ref aC, .ref aK0, .ref aK1, .ref aK2, .ref aK3, .ref aK4, .int (nI 0), .int (nI 0)])), (aP, .inr (2, [.ref aPb, .int (nI 0), .int (nI 0)])), (aM, .inr (10, [.int 0, .ref m_text, .int 0, .int 0, .int 0, .int (-1), .ref m_paper, .int 0, .int 0, .ref m_firstHalf, .ref m_secondHalf, .ref m_stored, .ref m_proved, .int 0, .int 0, .int 0, .long 0, .long 0, .ref m_written, .ref m_places, .int 0, .int 0, .int 0, .int 0, .int 0, .int 0, .int 0, .int 0, .int 0, .ref m_levelKind, .ref m_levelStart, .ref m_levelApp, .ref m_levelHad, .ref m_levelScope, .ref m_levelId, .ref m_levelFirst, .ref m_levelSecond, .int 0, .ref m_scopeFirst, .ref m_scopeSecond, .ref m_scopeId, .int 0, .ref m_made, .int 0, .ref m_typeOf, .ref m_tasks, .int 0, .ref m_todo, .int 0, .ref m_renamed, .ref m_bound, .int 0, .int (-1), .int 0, .int 0, .int 0, .ref m_markA, .ref m_markB, .ref m_line, .int 0, .int 0])), (m_text, .inl (cI, 8192, .inl (fun _ => 0))), (aO, .inl (cJ, 1, .inr (.inl (fun _ => 0))))]) (hl : lv_has ls 7 [(4, .int (nI 0)), (3, .ref aO), (2, .ref aM), (1, .ref aX), (0, .ref b)]) : W p l e room_1 s m #[Value.ref b] below meth c H locs 100 400000 (lw_Z below #[Value.ref b] s) (F0 m 231 ls []) := by
  obtain ⟨S, hX, hbl, hbA, hA, hAq, hr, hlk, hTw, htr⟩ := id C
  refine lv_aload_n S.1 S.2.1 d_L_law_231 rfl (lv_at hl 3 rfl) ?_
  refine callV_i (wr := [(aF, .inr (0, [.int (nI 0), .int (-1)])), (aTb, .inl (cB, 8192, .inl (fun _ => 0))), (aM, .inr (10, [.int 0, .ref m_text, .int 0, .int 0, .int 0, .int (-1), .ref m_paper, .int 0, .int 0, .ref m_firstHalf, .ref m_secondHalf, .ref m_stored, .ref m_proved, .int 0, .int 0, .int 0, .long 0, .long 0, .ref m_written, .ref m_places, .int 0, .int 0, .int 0, .int 0, .int 0, .int 0, .int 0, .int 0, .int 0, .ref m_levelKind, .ref m_levelStart, .ref m_levelApp, .ref m_levelHad, .ref m_levelScope, .ref m_levelId, .ref m_levelFirst, .ref m_levelSecond, .int 0, .ref m_scopeFirst, .ref m_scopeSecond, .ref m_scopeId, .int 0, .ref m_made, .int 0, .ref m_typeOf, .ref m_tasks, .int 0, .ref m_todo, .int 0, .ref m_renamed, .ref m_bound, .int 0, .int (-1), .int 0, .int 0, .int 0, .ref m_markA, .ref m_markB, .ref m_line, .int 0, .int 0])), (m_text, .inl (cI, 8192, .inl (fun _ => 0))), (aO, .inl (cJ, 1, .inr (.inl (fun _ => 0))))]) (wc := [(aX, .inr (9, [.ref aF, .ref aC, .ref aP, .ref aT, .ref aK, .ref aR, .ref aH, .ref aI, .int (nI 0)])), (aK, .inr (4, [.ref aC, .ref aK0, .ref aK1, .ref aK2, .ref aK3, .ref aK4, .int (nI 0), .int (nI 0)])), (aT, .inr (3, [.ref aF, .ref aTb, .int (nI 0), .int (nI 0), .int (nI 0), .int (nI 0), .long 0, .long 0])), (aP, .inr (2, [.ref aPb, .int (nI 0), .int (nI 0)]))]) (np := 0) (As := []) (rest := []) (c_X_clear l D cI cJ cB cZ aX aF aC aP aT aK aR aH aI aK0 aK1 aK2 aK3 aK4 aTb aPb (nI 0) (nI 0) (nI 0) (nI 0) (nI 0) (nI 0) (nI 0) (nI 0) (nI 0) 0 0 ) km_L_49 ki_X_clear kv_X_clear kz_X kk_X_clear (by decide +kernel) S hW hA ⟨Nat.le_of_ble_eq_true rfl, Nat.le_of_ble_eq_true rfl⟩ ⟨Nat.le_of_ble_eq_true rfl, Nat.le_of_ble_eq_true rfl⟩ rfl 0 rfl [0, 4, 2, 5] [1, 3, 6, 7, 8] rfl (by decide) rfl (by decide) (by decide) rfl hl.1 rfl (Nat.le_of_ble_eq_true rfl) d_L_law_232 (fun r u H locs hp hW => ?_)
  obtain ⟨rfl, rfl⟩ := hp
  have hW : Wd D (tyl cI cJ cB cZ) A s s.heap H locs [(aX, .inr (9, [.ref aF, .ref aC, .ref aP, .ref aT, .ref aK, .ref aR, .ref aH, .ref aI, .int (nI 0)])), (aF, .inr (0, [.int (nI 0), .int (-1)])), (aT, .inr (3, [.ref aF, .ref aTb, .int (nI 0), .int (nI 0), .int (nI 0), .int (nI 0), .long 0, .long 0])), (aTb, .inl (cB, 8192, .inl (fun _ => 0))), (aK, .inr (4, [.ref aC, .ref aK0, .ref aK1, .ref aK2, .ref aK3, .ref aK4, .int (nI 0), .int (nI 0)])), (aP, .inr (2, [.ref aPb, .int (nI 0), .int (nI 0)])), (aM, .inr (10, [.int 0, .ref m_text, .int 0, .int 0, .int 0, .int (-1), .ref m_paper, .int 0, .int 0, .ref m_firstHalf, .ref m_secondHalf, .ref m_stored, .ref m_proved, .int 0, .int 0, .int 0, .long 0, .long 0, .ref m_written, .ref m_places, .int 0, .int 0, .int 0, .int 0, .int 0, .int 0, .int 0, .int 0, .int 0, .ref m_levelKind, .ref m_levelStart, .ref m_levelApp, .ref m_levelHad, .ref m_levelScope, .ref m_levelId, .ref m_levelFirst, .ref m_levelSecond, .int 0, .ref m_scopeFirst, .ref m_scopeSecond, .ref m_scopeId, .int 0, .ref m_made, .int 0, .ref m_typeOf, .ref m_tasks, .int 0, .ref m_todo, .int 0, .ref m_renamed, .ref m_bound, .int 0, .int (-1), .int 0, .int 0, .int 0, .ref m_markA, .ref m_markB, .ref m_line, .int 0, .int 0])), (m_text, .inl (cI, 8192, .inl (fun _ => 0))), (aO, .inl (cJ, 1, .inr (.inl (fun _ => 0))))] := hW.sub [5, 0, 7, 1, 6, 8, 2, 3, 4] (by decide) rfl
  refine lv_aload_n S.1 S.2.1 d_L_law_235 rfl (lv_at hl 2 rfl) ?_
  refine callV_i (wr := [(aX, .inr (9, [.ref aF, .ref aC, .ref aP, .ref aT, .ref aK, .ref aR, .ref aH, .ref aI, .int (nI 0)])), (aF, .inr (0, [.int (nI 0), .int (-1)])), (aT, .inr (3, [.ref aF, .ref aTb, .int (nI 0), .int (nI 0), .int (nI 0), .int (nI 0), .long 0, .long 0])), (aTb, .inl (cB, 8192, .inl (fun _ => 0))), (aK, .inr (4, [.ref aC, .ref aK0, .ref aK1, .ref aK2, .ref aK3, .ref aK4, .int (nI 0), .int (nI 0)])), (aP, .inr (2, [.ref aPb, .int (nI 0), .int (nI 0)])), (m_text, .inl (cI, 8192, .inl (fun _ => 0))), (aO, .inl (cJ, 1, .inr (.inl (fun _ => 0))))]) (wc := [(aM, .inr (10, [.int 0, .ref m_text, .int 0, .int 0, .int 0, .int (-1), .ref m_paper, .int 0, .int 0, .ref m_firstHalf, .ref m_secondHalf, .ref m_stored, .ref m_proved, .int 0, .int 0, .int 0, .long 0, .long 0, .ref m_written, .ref m_places, .int 0, .int 0, .int 0, .int 0, .int 0, .int 0, .int 0, .int 0, .int 0, .ref m_levelKind, .ref m_levelStart, .ref m_levelApp, .ref m_levelHad, .ref m_levelScope, .ref m_levelId, .ref m_levelFirst, .ref m_levelSecond, .int 0, .ref m_scopeFirst, .ref m_scopeSecond, .ref m_scopeId, .int 0, .ref m_made, .int 0, .ref m_typeOf, .ref m_tasks, .int 0, .ref m_todo, .int 0, .ref m_renamed, .ref m_bound, .int 0, .int (-1), .int 0, .int 0, .int 0, .ref m_markA, .ref m_markB, .ref m_line, .int 0, .int 0]))]) (np := 0) (As := []) (rest := [.int (nI 0)]) (c_M_clear l D cI cJ cB cZ aM m_text m_paper m_firstHalf m_secondHalf m_stored m_proved m_written m_places m_levelKind m_levelStart m_levelApp m_levelHad m_levelScope m_levelId m_levelFirst m_levelSecond m_scopeFirst m_scopeSecond m_scopeId m_made m_typeOf m_tasks m_todo m_renamed m_bound m_markA m_markB m_line 0 0 0 0 (-1) 0 0 0 0 0 0 0 0 0 0 0 0 0 0 0 0 0 0 0 0 (-1) 0 0 0 0 0 0 0 ) km_L_52 ki_M_clear kv_M_clear kz_M kk_M_clear (by decide +kernel) S hW hA ⟨Nat.le_of_ble_eq_true rfl, Nat.le_of_ble_eq_true rfl⟩ ⟨Nat.le_of_ble_eq_true rfl, Nat.le_of_ble_eq_true rfl⟩ rfl 0 rfl [6] [0, 1, 2, 3, 4, 5, 7, 8] rfl (by decide) rfl (by decide) (by decide) rfl hl.1 rfl (Nat.le_of_ble_eq_true rfl) d_L_law_236 (fun r u H locs hp hW => ?_)
  obtain ⟨rfl, rfl⟩ := hp
  have hW : Wd D (tyl cI cJ cB cZ) A s s.heap H locs [(aX, .inr (9, [.ref aF, .ref aC, .ref aP, .ref aT, .ref aK, .ref aR, .ref aH, .ref aI, .int (nI 0)])), (aF, .inr (0, [.int (nI 0), .int (-1)])), (aT, .inr (3, [.ref aF, .ref aTb, .int (nI 0), .int (nI 0), .int (nI 0), .int (nI 0), .long 0, .long 0])), (aTb, .inl (cB, 8192, .inl (fun _ => 0))), (aK, .inr (4, [.ref aC, .ref aK0, .ref aK1, .ref aK2, .ref aK3, .ref aK4, .int (nI 0), .int (nI 0)])), (aP, .inr (2, [.ref aPb, .int (nI 0), .int (nI 0)])), (aM, .inr (10, [.int (nI 0), .ref m_text, .int (nI 0), .int (nI 0), .int 0, .int (-1), .ref m_paper, .int (nI 0), .int (nI 0), .ref m_firstHalf, .ref m_secondHalf, .ref m_stored, .ref m_proved, .int 0, .int 0, .int 0, .long 0, .long 0, .ref m_written, .ref m_places, .int 0, .int 0, .int 0, .int 0, .int 0, .int 0, .int 0, .int 0, .int 0, .ref m_levelKind, .ref m_levelStart, .ref m_levelApp, .ref m_levelHad, .ref m_levelScope, .ref m_levelId, .ref m_levelFirst, .ref m_levelSecond, .int 0, .ref m_scopeFirst, .ref m_scopeSecond, .ref m_scopeId, .int 0, .ref m_made, .int 0, .ref m_typeOf, .ref m_tasks, .int 0, .ref m_todo, .int 0, .ref m_renamed, .ref m_bound, .int 0, .int (-1), .int 0, .int 0, .int 0, .ref m_markA, .ref m_markB, .ref m_line, .int 0, .int 0])), (m_text, .inl (cI, 8192, .inl (fun _ => 0))), (aO, .inl (cJ, 1, .inr (.inl (fun _ => 0))))] := hW.sub [0, 1, 2, 3, 4, 5, 8, 6, 7] (by decide) rfl
  refine lv_icmp_eq (tgt := 377) S.1 S.2.1 d_L_law_239 (by decide) (fun _ => ?_) (fun h => absurd h (by decide))
  exact law_end C (Nat.le_of_ble_eq_true rfl) (Nat.le_of_ble_eq_true rfl) hW (lv_sub hl [0, 4] rfl)
set_option maxHeartbeats 4000000 in
set_option maxRecDepth 100000 in
theorem law_5 {p : Program} {l : Launch} {e : Env} {s : State} {m : MethodId} {below : List Frame} {meth : Method} {c : Code} {b : Nat} {xs : Nat → Int32} {D : va_G} {cI cJ cB cZ : ClassId} {A : Nat → Prop} (aX aF aC aP aT aK aR aH aI aK0 aK1 aK2 aK3 aK4 aTb aPb aM m_text m_paper m_firstHalf m_secondHalf m_stored m_proved m_written m_places m_levelKind m_levelStart m_levelApp m_levelHad m_levelScope m_levelId m_levelFirst m_levelSecond m_scopeFirst m_scopeSecond m_scopeId m_made m_typeOf m_tasks m_todo m_renamed m_bound m_markA m_markB m_line aO : Nat) {H : Heap} {locs : List Loc} {ls : Array Slot} (C : LawC p l s m meth c b 4 xs A) (hW : Wd D (tyl cI cJ cB cZ) A s s.heap H locs [(aX, .inr (9, [.ref aF, .ref aC, .ref aP, .ref aT, .ref aK, .ref aR, .ref aH, .ref aI, .int (nI 0)])), (aF, .inr (0, [.int (nI 0), .int (-1)])), (aT, .inr (3, [.ref aF, .ref aTb, .int (nI 0), .int (nI 0), .int (nI 0), .int (nI 0), .long 0, .long 0])), (aTb, .inl (cB, 8192, .inl (fun _ => 0))), (aK, .inr (4, [.ref aC, .ref aK0, .ref aK1, .ref aK2, .ref aK3, .ref aK4, .int (nI 0), .int (nI 0)])), (aP, .inr (2, [.ref aPb, .int (nI 0), .int (nI 0)])), (aM, .inr (10, [.int 0, .ref m_text, .int 0, .int 0, .int 0, .int (-1), .ref m_paper, .int 0, .int 0, .ref m_firstHalf, .ref m_secondHalf, .ref m_stored, .ref m_proved, .int 0, .int 0, .int 0, .long 0, .long 0, .ref m_written, .ref m_places, .int 0, .int 0, .int 0, .int 0, .int 0, .int 0, .int 0, .int 0, .int 0, .ref m_levelKind, .ref m_levelStart, .ref m_levelApp, .ref m_levelHad, .ref m_levelScope, .ref m_levelId, .ref m_levelFirst, .ref m_levelSecond, .int 0, .ref m_scopeFirst, .ref m_scopeSecond, .ref m_scopeId, .int 0, .ref m_made, .int 0, .ref m_typeOf, .ref m_tasks, .int 0, .ref m_todo, .int 0, .ref m_renamed, .ref m_bound, .int 0, .int (-1), .int 0, .int 0, .int 0, .ref m_markA, .ref m_markB, .ref m_line, .int 0, .int 0])), (m_text, .inl (cI, 8192, .inl (fun _ => 0))), (aO, .inl (cJ, 1, .inr (.inl (fun _ => 0))))]) (hl : lv_has ls 7 [(4, .int (nI 0)), (3, .ref aO), (2, .ref aM), (1, .ref aX), (0, .ref b)]) : W p l e room_1 s m #[Value.ref b] below meth c H locs 100 400000 (lw_Z below #[Value.ref b] s) (F0 m 244 ls []) := by
  obtain ⟨S, hX, hbl, hbA, hA, hAq, hr, hlk, hTw, htr⟩ := id C
  refine lv_aload_n S.1 S.2.1 d_L_law_244 rfl (lv_at hl 3 rfl) ?_
  refine callV_i (wr := [(aF, .inr (0, [.int (nI 0), .int (-1)])), (aT, .inr (3, [.ref aF, .ref aTb, .int (nI 0), .int (nI 0), .int (nI 0), .int (nI 0), .long 0, .long 0])), (aTb, .inl (cB, 8192, .inl (fun _ => 0))), (aP, .inr (2, [.ref aPb, .int (nI 0), .int (nI 0)])), (aM, .inr (10, [.int 0, .ref m_text, .int 0, .int 0, .int 0, .int (-1), .ref m_paper, .int 0, .int 0, .ref m_firstHalf, .ref m_secondHalf, .ref m_stored, .ref m_proved, .int 0, .int 0, .int 0, .long 0, .long 0, .ref m_written, .ref m_places, .int 0, .int 0, .int 0, .int 0, .int 0, .int 0, .int 0, .int 0, .int 0, .ref m_levelKind, .ref m_levelStart, .ref m_levelApp, .ref m_levelHad, .ref m_levelScope, .ref m_levelId, .ref m_levelFirst, .ref m_levelSecond, .int 0, .ref m_scopeFirst, .ref m_scopeSecond, .ref m_scopeId, .int 0, .ref m_made, .int 0, .ref m_typeOf, .ref m_tasks, .int 0, .ref m_todo, .int 0, .ref m_renamed, .ref m_bound, .int 0, .int (-1), .int 0, .int 0, .int 0, .ref m_markA, .ref m_markB, .ref m_line, .int 0, .int 0])), (m_text, .inl (cI, 8192, .inl (fun _ => 0))), (aO, .inl (cJ, 1, .inr (.inl (fun _ => 0))))]) (wc := [(aX, .inr (9, [.ref aF, .ref aC, .ref aP, .ref aT, .ref aK, .ref aR, .ref aH, .ref aI, .int (nI 0)])), (aK, .inr (4, [.ref aC, .ref aK0, .ref aK1, .ref aK2, .ref aK3, .ref aK4, .int (nI 0), .int (nI 0)]))]) (np := 0) (As := []) (rest := []) (c_X_constants l D cI cJ cB cZ aX aF aC aP aT aK aR aH aI aK0 aK1 aK2 aK3 aK4 (nI 0) (nI 0) (nI 0) ) km_L_53 ki_X_constants kv_X_constants kz_X kk_X_constants (by decide +kernel) S hW hA ⟨Nat.le_of_ble_eq_true rfl, Nat.le_of_ble_eq_true rfl⟩ ⟨Nat.le_of_ble_eq_true rfl, Nat.le_of_ble_eq_true rfl⟩ rfl 0 rfl [0, 4] [1, 2, 3, 5, 6, 7, 8] rfl (by decide) rfl (by decide) (by decide) rfl hl.1 rfl (Nat.le_of_ble_eq_true rfl) d_L_law_245 (fun r u H locs hp hW => ?_)
  obtain ⟨rfl, rfl⟩ := hp
  have hW : Wd D (tyl cI cJ cB cZ) A s s.heap H locs [(aX, .inr (9, [.ref aF, .ref aC, .ref aP, .ref aT, .ref aK, .ref aR, .ref aH, .ref aI, .int (nI 0)])), (aF, .inr (0, [.int (nI 0), .int (-1)])), (aT, .inr (3, [.ref aF, .ref aTb, .int (nI 0), .int (nI 0), .int (nI 0), .int (nI 0), .long 0, .long 0])), (aTb, .inl (cB, 8192, .inl (fun _ => 0))), (aK, .inr (4, [.ref aC, .ref aK0, .ref aK1, .ref aK2, .ref aK3, .ref aK4, .int (nI 0), .int (nI 0)])), (aP, .inr (2, [.ref aPb, .int (nI 0), .int (nI 0)])), (aM, .inr (10, [.int 0, .ref m_text, .int 0, .int 0, .int 0, .int (-1), .ref m_paper, .int 0, .int 0, .ref m_firstHalf, .ref m_secondHalf, .ref m_stored, .ref m_proved, .int 0, .int 0, .int 0, .long 0, .long 0, .ref m_written, .ref m_places, .int 0, .int 0, .int 0, .int 0, .int 0, .int 0, .int 0, .int 0, .int 0, .ref m_levelKind, .ref m_levelStart, .ref m_levelApp, .ref m_levelHad, .ref m_levelScope, .ref m_levelId, .ref m_levelFirst, .ref m_levelSecond, .int 0, .ref m_scopeFirst, .ref m_scopeSecond, .ref m_scopeId, .int 0, .ref m_made, .int 0, .ref m_typeOf, .ref m_tasks, .int 0, .ref m_todo, .int 0, .ref m_renamed, .ref m_bound, .int 0, .int (-1), .int 0, .int 0, .int 0, .ref m_markA, .ref m_markB, .ref m_line, .int 0, .int 0])), (m_text, .inl (cI, 8192, .inl (fun _ => 0))), (aO, .inl (cJ, 1, .inr (.inl (fun _ => 0))))] := hW.sub [7, 0, 1, 2, 8, 3, 4, 5, 6] (by decide) rfl
  refine lv_aload_n S.1 S.2.1 d_L_law_248 rfl (lv_at hl 2 rfl) ?_
  refine callV_i (wr := [(aX, .inr (9, [.ref aF, .ref aC, .ref aP, .ref aT, .ref aK, .ref aR, .ref aH, .ref aI, .int (nI 0)])), (aF, .inr (0, [.int (nI 0), .int (-1)])), (aT, .inr (3, [.ref aF, .ref aTb, .int (nI 0), .int (nI 0), .int (nI 0), .int (nI 0), .long 0, .long 0])), (aTb, .inl (cB, 8192, .inl (fun _ => 0))), (aK, .inr (4, [.ref aC, .ref aK0, .ref aK1, .ref aK2, .ref aK3, .ref aK4, .int (nI 0), .int (nI 0)])), (aP, .inr (2, [.ref aPb, .int (nI 0), .int (nI 0)])), (m_text, .inl (cI, 8192, .inl (fun _ => 0))), (aO, .inl (cJ, 1, .inr (.inl (fun _ => 0))))]) (wc := [(aM, .inr (10, [.int 0, .ref m_text, .int 0, .int 0, .int 0, .int (-1), .ref m_paper, .int 0, .int 0, .ref m_firstHalf, .ref m_secondHalf, .ref m_stored, .ref m_proved, .int 0, .int 0, .int 0, .long 0, .long 0, .ref m_written, .ref m_places, .int 0, .int 0, .int 0, .int 0, .int 0, .int 0, .int 0, .int 0, .int 0, .ref m_levelKind, .ref m_levelStart, .ref m_levelApp, .ref m_levelHad, .ref m_levelScope, .ref m_levelId, .ref m_levelFirst, .ref m_levelSecond, .int 0, .ref m_scopeFirst, .ref m_scopeSecond, .ref m_scopeId, .int 0, .ref m_made, .int 0, .ref m_typeOf, .ref m_tasks, .int 0, .ref m_todo, .int 0, .ref m_renamed, .ref m_bound, .int 0, .int (-1), .int 0, .int 0, .int 0, .ref m_markA, .ref m_markB, .ref m_line, .int 0, .int 0]))]) (np := 0) (As := []) (rest := [.int (nI 0)]) (c_M_constants l D cI cJ cB cZ aM m_text m_paper m_firstHalf m_secondHalf m_stored m_proved m_written m_places m_levelKind m_levelStart m_levelApp m_levelHad m_levelScope m_levelId m_levelFirst m_levelSecond m_scopeFirst m_scopeSecond m_scopeId m_made m_typeOf m_tasks m_todo m_renamed m_bound m_markA m_markB m_line 0 0 0 0 (-1) 0 0 0 0 0 0 0 0 0 0 0 0 0 0 0 0 0 0 0 0 (-1) 0 0 0 0 0 0 0 ) km_L_56 ki_M_constants kv_M_constants kz_M kk_M_constants (by decide +kernel) S hW hA ⟨Nat.le_of_ble_eq_true rfl, Nat.le_of_ble_eq_true rfl⟩ ⟨Nat.le_of_ble_eq_true rfl, Nat.le_of_ble_eq_true rfl⟩ rfl 0 rfl [6] [0, 1, 2, 3, 4, 5, 7, 8] rfl (by decide) rfl (by decide) (by decide) rfl hl.1 rfl (Nat.le_of_ble_eq_true rfl) d_L_law_249 (fun r u H locs hp hW => ?_)
  obtain ⟨rfl, rfl⟩ := hp
  have hW : Wd D (tyl cI cJ cB cZ) A s s.heap H locs [(aX, .inr (9, [.ref aF, .ref aC, .ref aP, .ref aT, .ref aK, .ref aR, .ref aH, .ref aI, .int (nI 0)])), (aF, .inr (0, [.int (nI 0), .int (-1)])), (aT, .inr (3, [.ref aF, .ref aTb, .int (nI 0), .int (nI 0), .int (nI 0), .int (nI 0), .long 0, .long 0])), (aTb, .inl (cB, 8192, .inl (fun _ => 0))), (aK, .inr (4, [.ref aC, .ref aK0, .ref aK1, .ref aK2, .ref aK3, .ref aK4, .int (nI 0), .int (nI 0)])), (aP, .inr (2, [.ref aPb, .int (nI 0), .int (nI 0)])), (aM, .inr (10, [.int (nI 0), .ref m_text, .int 0, .int 0, .int 0, .int (-1), .ref m_paper, .int 0, .int 0, .ref m_firstHalf, .ref m_secondHalf, .ref m_stored, .ref m_proved, .int 0, .int 0, .int 0, .long 0, .long 0, .ref m_written, .ref m_places, .int 0, .int 0, .int 0, .int 0, .int 0, .int 0, .int 0, .int 0, .int 0, .ref m_levelKind, .ref m_levelStart, .ref m_levelApp, .ref m_levelHad, .ref m_levelScope, .ref m_levelId, .ref m_levelFirst, .ref m_levelSecond, .int 0, .ref m_scopeFirst, .ref m_scopeSecond, .ref m_scopeId, .int 0, .ref m_made, .int 0, .ref m_typeOf, .ref m_tasks, .int 0, .ref m_todo, .int 0, .ref m_renamed, .ref m_bound, .int 0, .int (-1), .int 0, .int 0, .int 0, .ref m_markA, .ref m_markB, .ref m_line, .int 0, .int 0])), (m_text, .inl (cI, 8192, .inl (fun _ => 0))), (aO, .inl (cJ, 1, .inr (.inl (fun _ => 0))))] := hW.sub [0, 1, 2, 3, 4, 5, 8, 6, 7] (by decide) rfl
  refine lv_icmp_eq (tgt := 377) S.1 S.2.1 d_L_law_252 (by decide) (fun _ => ?_) (fun h => absurd h (by decide))
  exact law_end C (Nat.le_of_ble_eq_true rfl) (Nat.le_of_ble_eq_true rfl) hW (lv_sub hl [0, 4] rfl)
set_option maxHeartbeats 4000000 in
set_option maxRecDepth 100000 in
theorem law_6 {p : Program} {l : Launch} {e : Env} {s : State} {m : MethodId} {below : List Frame} {meth : Method} {c : Code} {b : Nat} {xs : Nat → Int32} {D : va_G} {cI cJ cB cZ : ClassId} {A : Nat → Prop} (aX aF aC aP aT aK aR aH aI aK0 aK1 aK2 aK3 aK4 aTb aPb aM m_text m_paper m_firstHalf m_secondHalf m_stored m_proved m_written m_places m_levelKind m_levelStart m_levelApp m_levelHad m_levelScope m_levelId m_levelFirst m_levelSecond m_scopeFirst m_scopeSecond m_scopeId m_made m_typeOf m_tasks m_todo m_renamed m_bound m_markA m_markB m_line aO : Nat) {H : Heap} {locs : List Loc} {ls : Array Slot} (C : LawC p l s m meth c b 4 xs A) (hW : Wd D (tyl cI cJ cB cZ) A s s.heap H locs [(aX, .inr (9, [.ref aF, .ref aC, .ref aP, .ref aT, .ref aK, .ref aR, .ref aH, .ref aI, .int (nI 0)])), (aF, .inr (0, [.int (nI 0), .int (-1)])), (aT, .inr (3, [.ref aF, .ref aTb, .int (nI 0), .int (nI 0), .int (nI 0), .int (nI 0), .long 0, .long 0])), (aTb, .inl (cB, 8192, .inl (fun _ => 0))), (aK, .inr (4, [.ref aC, .ref aK0, .ref aK1, .ref aK2, .ref aK3, .ref aK4, .int (nI 0), .int (nI 0)])), (aP, .inr (2, [.ref aPb, .int (nI 0), .int (nI 0)])), (aM, .inr (10, [.int 0, .ref m_text, .int 0, .int 0, .int 0, .int (-1), .ref m_paper, .int 0, .int 0, .ref m_firstHalf, .ref m_secondHalf, .ref m_stored, .ref m_proved, .int 0, .int 0, .int 0, .long 0, .long 0, .ref m_written, .ref m_places, .int 0, .int 0, .int 0, .int 0, .int 0, .int 0, .int 0, .int 0, .int 0, .ref m_levelKind, .ref m_levelStart, .ref m_levelApp, .ref m_levelHad, .ref m_levelScope, .ref m_levelId, .ref m_levelFirst, .ref m_levelSecond, .int 0, .ref m_scopeFirst, .ref m_scopeSecond, .ref m_scopeId, .int 0, .ref m_made, .int 0, .ref m_typeOf, .ref m_tasks, .int 0, .ref m_todo, .int 0, .ref m_renamed, .ref m_bound, .int 0, .int (-1), .int 0, .int 0, .int 0, .ref m_markA, .ref m_markB, .ref m_line, .int 0, .int 0])), (m_text, .inl (cI, 8192, .inl (fun _ => 0))), (aO, .inl (cJ, 1, .inr (.inl (fun _ => 0))))]) (hl : lv_has ls 7 [(4, .int (nI 0)), (3, .ref aO), (2, .ref aM), (1, .ref aX), (0, .ref b)]) : W p l e room_1 s m #[Value.ref b] below meth c H locs 100 400000 (lw_Z below #[Value.ref b] s) (F0 m 257 ls []) := by
  obtain ⟨S, hX, hbl, hbA, hA, hAq, hr, hlk, hTw, htr⟩ := id C
  refine lv_aload_n S.1 S.2.1 d_L_law_257 rfl (lv_at hl 3 rfl) ?_
  refine lv_aload_n S.1 S.2.1 d_L_law_258 rfl (lv_at hl 4 rfl) ?_
  refine lv_iload S.1 S.2.1 d_L_law_259 (lv_at hl 0 rfl) ?_
  refine lv_iconst (v := (nI 1)) S.1 S.2.1 d_L_law_261 (by decide) ?_
  refine n_iadd S d_L_law_262 ?_
  refine va_sld S.1 S.2.1 hX hbl hbA hW.2.2.2 (vp_in_nI (by decide) (by decide)) d_L_law_263 ?_
  refine top_eq (y := xs 1) (congrArg xs (by decide)) ?_
  refine lv_aload_n S.1 S.2.1 d_L_law_264 rfl (lv_at hl 4 rfl) ?_
  refine lv_iload S.1 S.2.1 d_L_law_265 (lv_at hl 0 rfl) ?_
  refine lv_iconst (v := (nI 2)) S.1 S.2.1 d_L_law_267 (by decide) ?_
  refine n_iadd S d_L_law_268 ?_
  refine va_sld S.1 S.2.1 hX hbl hbA hW.2.2.2 (vp_in_nI (by decide) (by decide)) d_L_law_269 ?_
  refine top_eq (y := xs 2) (congrArg xs (by decide)) ?_
  refine lv_aload_n S.1 S.2.1 d_L_law_270 rfl (lv_at hl 1 rfl) ?_
  refine callSW_i (wr := [(aF, .inr (0, [.int (nI 0), .int (-1)])), (aT, .inr (3, [.ref aF, .ref aTb, .int (nI 0), .int (nI 0), .int (nI 0), .int (nI 0), .long 0, .long 0])), (aTb, .inl (cB, 8192, .inl (fun _ => 0))), (aP, .inr (2, [.ref aPb, .int (nI 0), .int (nI 0)])), (aM, .inr (10, [.int 0, .ref m_text, .int 0, .int 0, .int 0, .int (-1), .ref m_paper, .int 0, .int 0, .ref m_firstHalf, .ref m_secondHalf, .ref m_stored, .ref m_proved, .int 0, .int 0, .int 0, .long 0, .long 0, .ref m_written, .ref m_places, .int 0, .int 0, .int 0, .int 0, .int 0, .int 0, .int 0, .int 0, .int 0, .ref m_levelKind, .ref m_levelStart, .ref m_levelApp, .ref m_levelHad, .ref m_levelScope, .ref m_levelId, .ref m_levelFirst, .ref m_levelSecond, .int 0, .ref m_scopeFirst, .ref m_scopeSecond, .ref m_scopeId, .int 0, .ref m_made, .int 0, .ref m_typeOf, .ref m_tasks, .int 0, .ref m_todo, .int 0, .ref m_renamed, .ref m_bound, .int 0, .int (-1), .int 0, .int 0, .int 0, .ref m_markA, .ref m_markB, .ref m_line, .int 0, .int 0])), (m_text, .inl (cI, 8192, .inl (fun _ => 0))), (aO, .inl (cJ, 1, .inr (.inl (fun _ => 0))))]) (wc := [(aX, .inr (9, [.ref aF, .ref aC, .ref aP, .ref aT, .ref aK, .ref aR, .ref aH, .ref aI, .int (nI 0)])), (aK, .inr (4, [.ref aC, .ref aK0, .ref aK1, .ref aK2, .ref aK3, .ref aK4, .int (nI 0), .int (nI 0)]))]) (np := 4) (As := [.ref aX, .int (xs 1), .int (xs 2), .ref aO]) (rest := []) (c_L_constant l D cI cJ cB cZ htr aX aF aC aP aT aK aR aH aI aK0 aK1 aK2 aK3 aK4 aO (xs 1) (xs 2) ) km_L_57 ks_L_constant kz_L kw_L_constant (by decide +kernel) S hW (fun U hU hw => Tw.move hw (fun q hq => by rw [hU]; exact hW.2.2.2.2.1 q hq (fun z => absurd (hAq q z) (Nat.not_le.mpr hq))) hTw) hA ⟨Nat.le_of_ble_eq_true rfl, Nat.le_of_ble_eq_true rfl⟩ ⟨Nat.le_of_ble_eq_true rfl, Nat.le_of_ble_eq_true rfl⟩ [0, 4] [1, 2, 3, 5, 6, 7, 8] rfl (by decide) rfl (by decide) (by decide) rfl hl.1 rfl (Nat.le_of_ble_eq_true rfl) d_L_law_271 (fun r u H locs hp hW => ?_)
  rcases hp with ⟨h_1, rfl, rfl⟩ | ⟨h_2, rfl, rfl⟩
  · have hW : Wd D (tyl cI cJ cB cZ) A s s.heap H locs [(aX, .inr (9, [.ref aF, .ref aC, .ref aP, .ref aT, .ref aK, .ref aR, .ref aH, .ref aI, .int (nI 0)])), (aF, .inr (0, [.int (nI 0), .int (-1)])), (aT, .inr (3, [.ref aF, .ref aTb, .int (nI 0), .int (nI 0), .int (nI 0), .int (nI 0), .long 0, .long 0])), (aTb, .inl (cB, 8192, .inl (fun _ => 0))), (aK, .inr (4, [.ref aC, .ref aK0, .ref aK1, .ref aK2, .ref aK3, .ref aK4, .int (nI 0), .int (nI 0)])), (aP, .inr (2, [.ref aPb, .int (nI 0), .int (nI 0)])), (aM, .inr (10, [.int 0, .ref m_text, .int 0, .int 0, .int 0, .int (-1), .ref m_paper, .int 0, .int 0, .ref m_firstHalf, .ref m_secondHalf, .ref m_stored, .ref m_proved, .int 0, .int 0, .int 0, .long 0, .long 0, .ref m_written, .ref m_places, .int 0, .int 0, .int 0, .int 0, .int 0, .int 0, .int 0, .int 0, .int 0, .ref m_levelKind, .ref m_levelStart, .ref m_levelApp, .ref m_levelHad, .ref m_levelScope, .ref m_levelId, .ref m_levelFirst, .ref m_levelSecond, .int 0, .ref m_scopeFirst, .ref m_scopeSecond, .ref m_scopeId, .int 0, .ref m_made, .int 0, .ref m_typeOf, .ref m_tasks, .int 0, .ref m_todo, .int 0, .ref m_renamed, .ref m_bound, .int 0, .int (-1), .int 0, .int 0, .int 0, .ref m_markA, .ref m_markB, .ref m_line, .int 0, .int 0])), (m_text, .inl (cI, 8192, .inl (fun _ => 0))), (aO, .inl (cJ, 1, .inr (.inl (fun _ => 0))))] := hW.sub [7, 0, 1, 2, 8, 3, 4, 5, 6] (by decide) rfl
    refine lv_istore (lv' := [(5, .int (nI 1)), (4, .int (nI 0)), (3, .ref aO), (2, .ref aM), (1, .ref aX), (0, .ref b)]) S.1 S.2.1 d_L_law_274 hl (by decide) rfl (fun ls hl => ?_)
    refine lv_aload_n S.1 S.2.1 d_L_law_276 rfl (lv_at hl 3 rfl) ?_
    refine lv_aload_n S.1 S.2.1 d_L_law_277 rfl (lv_at hl 5 rfl) ?_
    refine lv_iload S.1 S.2.1 d_L_law_278 (lv_at hl 1 rfl) ?_
    refine lv_iconst (v := (nI 1)) S.1 S.2.1 d_L_law_280 (by decide) ?_
    refine n_iadd S d_L_law_281 ?_
    refine va_sld S.1 S.2.1 hX hbl hbA hW.2.2.2 (vp_in_nI (by decide) (by decide)) d_L_law_282 ?_
    refine top_eq (y := xs 1) (congrArg xs (by decide)) ?_
    refine lv_aload_n S.1 S.2.1 d_L_law_283 rfl (lv_at hl 5 rfl) ?_
    refine lv_iload S.1 S.2.1 d_L_law_284 (lv_at hl 1 rfl) ?_
    refine lv_iconst (v := (nI 2)) S.1 S.2.1 d_L_law_286 (by decide) ?_
    refine n_iadd S d_L_law_287 ?_
    refine va_sld S.1 S.2.1 hX hbl hbA hW.2.2.2 (vp_in_nI (by decide) (by decide)) d_L_law_288 ?_
    refine top_eq (y := xs 2) (congrArg xs (by decide)) ?_
    refine callV_i (wr := [(aX, .inr (9, [.ref aF, .ref aC, .ref aP, .ref aT, .ref aK, .ref aR, .ref aH, .ref aI, .int (nI 0)])), (aF, .inr (0, [.int (nI 0), .int (-1)])), (aT, .inr (3, [.ref aF, .ref aTb, .int (nI 0), .int (nI 0), .int (nI 0), .int (nI 0), .long 0, .long 0])), (aTb, .inl (cB, 8192, .inl (fun _ => 0))), (aK, .inr (4, [.ref aC, .ref aK0, .ref aK1, .ref aK2, .ref aK3, .ref aK4, .int (nI 0), .int (nI 0)])), (aP, .inr (2, [.ref aPb, .int (nI 0), .int (nI 0)])), (m_text, .inl (cI, 8192, .inl (fun _ => 0))), (aO, .inl (cJ, 1, .inr (.inl (fun _ => 0))))]) (wc := [(aM, .inr (10, [.int 0, .ref m_text, .int 0, .int 0, .int 0, .int (-1), .ref m_paper, .int 0, .int 0, .ref m_firstHalf, .ref m_secondHalf, .ref m_stored, .ref m_proved, .int 0, .int 0, .int 0, .long 0, .long 0, .ref m_written, .ref m_places, .int 0, .int 0, .int 0, .int 0, .int 0, .int 0, .int 0, .int 0, .int 0, .ref m_levelKind, .ref m_levelStart, .ref m_levelApp, .ref m_levelHad, .ref m_levelScope, .ref m_levelId, .ref m_levelFirst, .ref m_levelSecond, .int 0, .ref m_scopeFirst, .ref m_scopeSecond, .ref m_scopeId, .int 0, .ref m_made, .int 0, .ref m_typeOf, .ref m_tasks, .int 0, .ref m_todo, .int 0, .ref m_renamed, .ref m_bound, .int 0, .int (-1), .int 0, .int 0, .int 0, .ref m_markA, .ref m_markB, .ref m_line, .int 0, .int 0]))]) (np := 2) (As := [.int (xs 1), .int (xs 2)]) (rest := []) (c_M_constantA l D cI cJ cB cZ aM m_text m_paper m_firstHalf m_secondHalf m_stored m_proved m_written m_places m_levelKind m_levelStart m_levelApp m_levelHad m_levelScope m_levelId m_levelFirst m_levelSecond m_scopeFirst m_scopeSecond m_scopeId m_made m_typeOf m_tasks m_todo m_renamed m_bound m_markA m_markB m_line 0 0 0 0 (-1) 0 0 0 0 0 0 0 0 0 0 0 0 0 0 0 0 0 0 0 0 (-1) 0 0 0 0 0 0 0 (xs 1) (xs 2) h_1) km_L_60 ki_M_constant kv_M_constant kz_M kk_M_constant (by decide +kernel) S hW hA ⟨Nat.le_of_ble_eq_true rfl, Nat.le_of_ble_eq_true rfl⟩ ⟨Nat.le_of_ble_eq_true rfl, Nat.le_of_ble_eq_true rfl⟩ rfl 0 rfl [6] [0, 1, 2, 3, 4, 5, 7, 8] rfl (by decide) rfl (by decide) (by decide) rfl hl.1 rfl (Nat.le_of_ble_eq_true rfl) d_L_law_289 (fun r u H locs hp hW => ?_)
    obtain ⟨rfl, rfl⟩ := hp
    have hW : Wd D (tyl cI cJ cB cZ) A s s.heap H locs [(aX, .inr (9, [.ref aF, .ref aC, .ref aP, .ref aT, .ref aK, .ref aR, .ref aH, .ref aI, .int (nI 0)])), (aF, .inr (0, [.int (nI 0), .int (-1)])), (aT, .inr (3, [.ref aF, .ref aTb, .int (nI 0), .int (nI 0), .int (nI 0), .int (nI 0), .long 0, .long 0])), (aTb, .inl (cB, 8192, .inl (fun _ => 0))), (aK, .inr (4, [.ref aC, .ref aK0, .ref aK1, .ref aK2, .ref aK3, .ref aK4, .int (nI 0), .int (nI 0)])), (aP, .inr (2, [.ref aPb, .int (nI 0), .int (nI 0)])), (aM, .inr (10, [.int (nI 1), .ref m_text, .int 0, .int 0, .int 0, .int (-1), .ref m_paper, .int 0, .int 0, .ref m_firstHalf, .ref m_secondHalf, .ref m_stored, .ref m_proved, .int 0, .int 0, .int 0, .long 0, .long 0, .ref m_written, .ref m_places, .int 0, .int 0, .int 0, .int 0, .int 0, .int 0, .int 0, .int 0, .int 0, .ref m_levelKind, .ref m_levelStart, .ref m_levelApp, .ref m_levelHad, .ref m_levelScope, .ref m_levelId, .ref m_levelFirst, .ref m_levelSecond, .int 0, .ref m_scopeFirst, .ref m_scopeSecond, .ref m_scopeId, .int 0, .ref m_made, .int 0, .ref m_typeOf, .ref m_tasks, .int 0, .ref m_todo, .int 0, .ref m_renamed, .ref m_bound, .int 0, .int (-1), .int 0, .int 0, .int 0, .ref m_markA, .ref m_markB, .ref m_line, .int 0, .int 0])), (m_text, .inl (cI, 8192, .inl (fun _ => 0))), (aO, .inl (cJ, 1, .inr (.inl (fun _ => 0))))] := hW.sub [0, 1, 2, 3, 4, 5, 8, 6, 7] (by decide) rfl
    refine lv_istore (lv' := [(6, .int (nI 0)), (5, .int (nI 1)), (4, .int (nI 0)), (3, .ref aO), (2, .ref aM), (1, .ref aX), (0, .ref b)]) S.1 S.2.1 d_L_law_292 hl (by decide) rfl (fun ls hl => ?_)
    refine lv_aload_n S.1 S.2.1 d_L_law_294 rfl (lv_at hl 4 rfl) ?_
    refine callV_i (wr := [(aX, .inr (9, [.ref aF, .ref aC, .ref aP, .ref aT, .ref aK, .ref aR, .ref aH, .ref aI, .int (nI 0)])), (aF, .inr (0, [.int (nI 0), .int (-1)])), (aT, .inr (3, [.ref aF, .ref aTb, .int (nI 0), .int (nI 0), .int (nI 0), .int (nI 0), .long 0, .long 0])), (aTb, .inl (cB, 8192, .inl (fun _ => 0))), (aK, .inr (4, [.ref aC, .ref aK0, .ref aK1, .ref aK2, .ref aK3, .ref aK4, .int (nI 0), .int (nI 0)])), (aP, .inr (2, [.ref aPb, .int (nI 0), .int (nI 0)])), (m_text, .inl (cI, 8192, .inl (fun _ => 0))), (aO, .inl (cJ, 1, .inr (.inl (fun _ => 0))))]) (wc := [(aM, .inr (10, [.int (nI 1), .ref m_text, .int 0, .int 0, .int 0, .int (-1), .ref m_paper, .int 0, .int 0, .ref m_firstHalf, .ref m_secondHalf, .ref m_stored, .ref m_proved, .int 0, .int 0, .int 0, .long 0, .long 0, .ref m_written, .ref m_places, .int 0, .int 0, .int 0, .int 0, .int 0, .int 0, .int 0, .int 0, .int 0, .ref m_levelKind, .ref m_levelStart, .ref m_levelApp, .ref m_levelHad, .ref m_levelScope, .ref m_levelId, .ref m_levelFirst, .ref m_levelSecond, .int 0, .ref m_scopeFirst, .ref m_scopeSecond, .ref m_scopeId, .int 0, .ref m_made, .int 0, .ref m_typeOf, .ref m_tasks, .int 0, .ref m_todo, .int 0, .ref m_renamed, .ref m_bound, .int 0, .int (-1), .int 0, .int 0, .int 0, .ref m_markA, .ref m_markB, .ref m_line, .int 0, .int 0]))]) (np := 0) (As := []) (rest := []) (c_M_thrown l D cI cJ cB cZ aM m_text m_paper m_firstHalf m_secondHalf m_stored m_proved m_written m_places m_levelKind m_levelStart m_levelApp m_levelHad m_levelScope m_levelId m_levelFirst m_levelSecond m_scopeFirst m_scopeSecond m_scopeId m_made m_typeOf m_tasks m_todo m_renamed m_bound m_markA m_markB m_line (nI 1) 0 0 0 (-1) 0 0 0 0 0 0 0 0 0 0 0 0 0 0 0 0 0 0 0 0 (-1) 0 0 0 0 0 0 0 ) km_L_33 ki_M_thrown kv_M_thrown kz_M kk_M_thrown (by decide +kernel) S hW hA ⟨Nat.le_of_ble_eq_true rfl, Nat.le_of_ble_eq_true rfl⟩ ⟨Nat.le_of_ble_eq_true rfl, Nat.le_of_ble_eq_true rfl⟩ rfl 0 rfl [6] [0, 1, 2, 3, 4, 5, 7, 8] rfl (by decide) rfl (by decide) (by decide) rfl hl.1 rfl (Nat.le_of_ble_eq_true rfl) d_L_law_295 (fun r u H locs hp hW => ?_)
    obtain ⟨rfl, rfl⟩ := hp
    have hW : Wd D (tyl cI cJ cB cZ) A s s.heap H locs [(aX, .inr (9, [.ref aF, .ref aC, .ref aP, .ref aT, .ref aK, .ref aR, .ref aH, .ref aI, .int (nI 0)])), (aF, .inr (0, [.int (nI 0), .int (-1)])), (aT, .inr (3, [.ref aF, .ref aTb, .int (nI 0), .int (nI 0), .int (nI 0), .int (nI 0), .long 0, .long 0])), (aTb, .inl (cB, 8192, .inl (fun _ => 0))), (aK, .inr (4, [.ref aC, .ref aK0, .ref aK1, .ref aK2, .ref aK3, .ref aK4, .int (nI 0), .int (nI 0)])), (aP, .inr (2, [.ref aPb, .int (nI 0), .int (nI 0)])), (aM, .inr (10, [.int (nI 1), .ref m_text, .int 0, .int 0, .int 0, .int (-1), .ref m_paper, .int 0, .int 0, .ref m_firstHalf, .ref m_secondHalf, .ref m_stored, .ref m_proved, .int 0, .int 0, .int 0, .long 0, .long 0, .ref m_written, .ref m_places, .int 0, .int 0, .int 0, .int 0, .int 0, .int 0, .int 0, .int 0, .int 0, .ref m_levelKind, .ref m_levelStart, .ref m_levelApp, .ref m_levelHad, .ref m_levelScope, .ref m_levelId, .ref m_levelFirst, .ref m_levelSecond, .int 0, .ref m_scopeFirst, .ref m_scopeSecond, .ref m_scopeId, .int 0, .ref m_made, .int 0, .ref m_typeOf, .ref m_tasks, .int 0, .ref m_todo, .int 0, .ref m_renamed, .ref m_bound, .int 0, .int (-1), .int 0, .int 0, .int 0, .ref m_markA, .ref m_markB, .ref m_line, .int 0, .int 0])), (m_text, .inl (cI, 8192, .inl (fun _ => 0))), (aO, .inl (cJ, 1, .inr (.inl (fun _ => 0))))] := hW.sub [0, 1, 2, 3, 4, 5, 8, 6, 7] (by decide) rfl
    refine lv_iload S.1 S.2.1 d_L_law_298 (lv_at hl 1 rfl) ?_
    refine lv_icmp_eq (tgt := 305) S.1 S.2.1 d_L_law_300 (by decide) (fun _ => ?_) (fun h => absurd h (by decide))
    refine lv_iload S.1 S.2.1 d_L_law_305 (lv_at hl 1 rfl) ?_
    refine lv_if_ne (tgt := 322) S.1 S.2.1 d_L_law_307 (by decide) (fun _ => ?_) (fun h => absurd h (by decide))
    refine lv_goto (tgt := 377) S.1 S.2.1 d_L_law_322 (by decide) ?_
    exact law_end C (Nat.le_of_ble_eq_true rfl) (Nat.le_of_ble_eq_true rfl) hW (lv_sub hl [2, 6] rfl)
  · have hW : Wd D (tyl cI cJ cB cZ) A s s.heap H locs [(aX, .inr (9, [.ref aF, .ref aC, .ref aP, .ref aT, .ref aK, .ref aR, .ref aH, .ref aI, .int (nI 0)])), (aF, .inr (0, [.int (nI 0), .int (-1)])), (aT, .inr (3, [.ref aF, .ref aTb, .int (nI 0), .int (nI 0), .int (nI 0), .int (nI 0), .long 0, .long 0])), (aTb, .inl (cB, 8192, .inl (fun _ => 0))), (aK, .inr (4, [.ref aC, .ref aK0, .ref aK1, .ref aK2, .ref aK3, .ref aK4, .int (nI 0), .int (nI 0)])), (aP, .inr (2, [.ref aPb, .int (nI 0), .int (nI 0)])), (aM, .inr (10, [.int 0, .ref m_text, .int 0, .int 0, .int 0, .int (-1), .ref m_paper, .int 0, .int 0, .ref m_firstHalf, .ref m_secondHalf, .ref m_stored, .ref m_proved, .int 0, .int 0, .int 0, .long 0, .long 0, .ref m_written, .ref m_places, .int 0, .int 0, .int 0, .int 0, .int 0, .int 0, .int 0, .int 0, .int 0, .ref m_levelKind, .ref m_levelStart, .ref m_levelApp, .ref m_levelHad, .ref m_levelScope, .ref m_levelId, .ref m_levelFirst, .ref m_levelSecond, .int 0, .ref m_scopeFirst, .ref m_scopeSecond, .ref m_scopeId, .int 0, .ref m_made, .int 0, .ref m_typeOf, .ref m_tasks, .int 0, .ref m_todo, .int 0, .ref m_renamed, .ref m_bound, .int 0, .int (-1), .int 0, .int 0, .int 0, .ref m_markA, .ref m_markB, .ref m_line, .int 0, .int 0])), (m_text, .inl (cI, 8192, .inl (fun _ => 0))), (aO, .inl (cJ, 1, .inr (.inl (fun _ => 0))))] := hW.sub [7, 0, 1, 2, 8, 3, 4, 5, 6] (by decide) rfl
    refine lv_istore (lv' := [(5, .int (nI 2)), (4, .int (nI 0)), (3, .ref aO), (2, .ref aM), (1, .ref aX), (0, .ref b)]) S.1 S.2.1 d_L_law_274 hl (by decide) rfl (fun ls hl => ?_)
    refine lv_aload_n S.1 S.2.1 d_L_law_276 rfl (lv_at hl 3 rfl) ?_
    refine lv_aload_n S.1 S.2.1 d_L_law_277 rfl (lv_at hl 5 rfl) ?_
    refine lv_iload S.1 S.2.1 d_L_law_278 (lv_at hl 1 rfl) ?_
    refine lv_iconst (v := (nI 1)) S.1 S.2.1 d_L_law_280 (by decide) ?_
    refine n_iadd S d_L_law_281 ?_
    refine va_sld S.1 S.2.1 hX hbl hbA hW.2.2.2 (vp_in_nI (by decide) (by decide)) d_L_law_282 ?_
    refine top_eq (y := xs 1) (congrArg xs (by decide)) ?_
    refine lv_aload_n S.1 S.2.1 d_L_law_283 rfl (lv_at hl 5 rfl) ?_
    refine lv_iload S.1 S.2.1 d_L_law_284 (lv_at hl 1 rfl) ?_
    refine lv_iconst (v := (nI 2)) S.1 S.2.1 d_L_law_286 (by decide) ?_
    refine n_iadd S d_L_law_287 ?_
    refine va_sld S.1 S.2.1 hX hbl hbA hW.2.2.2 (vp_in_nI (by decide) (by decide)) d_L_law_288 ?_
    refine top_eq (y := xs 2) (congrArg xs (by decide)) ?_
    refine callV_i (wr := [(aX, .inr (9, [.ref aF, .ref aC, .ref aP, .ref aT, .ref aK, .ref aR, .ref aH, .ref aI, .int (nI 0)])), (aF, .inr (0, [.int (nI 0), .int (-1)])), (aT, .inr (3, [.ref aF, .ref aTb, .int (nI 0), .int (nI 0), .int (nI 0), .int (nI 0), .long 0, .long 0])), (aTb, .inl (cB, 8192, .inl (fun _ => 0))), (aK, .inr (4, [.ref aC, .ref aK0, .ref aK1, .ref aK2, .ref aK3, .ref aK4, .int (nI 0), .int (nI 0)])), (aP, .inr (2, [.ref aPb, .int (nI 0), .int (nI 0)])), (m_text, .inl (cI, 8192, .inl (fun _ => 0))), (aO, .inl (cJ, 1, .inr (.inl (fun _ => 0))))]) (wc := [(aM, .inr (10, [.int 0, .ref m_text, .int 0, .int 0, .int 0, .int (-1), .ref m_paper, .int 0, .int (nI 0), .ref m_firstHalf, .ref m_secondHalf, .ref m_stored, .ref m_proved, .int 0, .int 0, .int 0, .long 0, .long 0, .ref m_written, .ref m_places, .int 0, .int 0, .int 0, .int 0, .int 0, .int 0, .int 0, .int 0, .int 0, .ref m_levelKind, .ref m_levelStart, .ref m_levelApp, .ref m_levelHad, .ref m_levelScope, .ref m_levelId, .ref m_levelFirst, .ref m_levelSecond, .int 0, .ref m_scopeFirst, .ref m_scopeSecond, .ref m_scopeId, .int 0, .ref m_made, .int 0, .ref m_typeOf, .ref m_tasks, .int 0, .ref m_todo, .int 0, .ref m_renamed, .ref m_bound, .int 0, .int (-1), .int 0, .int 0, .int 0, .ref m_markA, .ref m_markB, .ref m_line, .int 0, .int 0]))]) (np := 2) (As := [.int (xs 1), .int (xs 2)]) (rest := []) (c_M_constantB l D cI cJ cB cZ aM m_text m_paper m_firstHalf m_secondHalf m_stored m_proved m_written m_places m_levelKind m_levelStart m_levelApp m_levelHad m_levelScope m_levelId m_levelFirst m_levelSecond m_scopeFirst m_scopeSecond m_scopeId m_made m_typeOf m_tasks m_todo m_renamed m_bound m_markA m_markB m_line 0 0 0 0 (-1) 0 0 0 0 0 0 0 0 0 0 0 0 0 0 0 0 0 0 0 (-1) 0 0 0 0 0 0 0 (xs 1) (xs 2) h_2) km_L_60 ki_M_constant kv_M_constant kz_M kk_M_constant (by decide +kernel) S hW hA ⟨Nat.le_of_ble_eq_true rfl, Nat.le_of_ble_eq_true rfl⟩ ⟨Nat.le_of_ble_eq_true rfl, Nat.le_of_ble_eq_true rfl⟩ rfl 0 rfl [6] [0, 1, 2, 3, 4, 5, 7, 8] rfl (by decide) rfl (by decide) (by decide) rfl hl.1 rfl (Nat.le_of_ble_eq_true rfl) d_L_law_289 (fun r u H locs hp hW => ?_)
    obtain ⟨rfl, rfl⟩ := hp
    have hW : Wd D (tyl cI cJ cB cZ) A s s.heap H locs [(aX, .inr (9, [.ref aF, .ref aC, .ref aP, .ref aT, .ref aK, .ref aR, .ref aH, .ref aI, .int (nI 0)])), (aF, .inr (0, [.int (nI 0), .int (-1)])), (aT, .inr (3, [.ref aF, .ref aTb, .int (nI 0), .int (nI 0), .int (nI 0), .int (nI 0), .long 0, .long 0])), (aTb, .inl (cB, 8192, .inl (fun _ => 0))), (aK, .inr (4, [.ref aC, .ref aK0, .ref aK1, .ref aK2, .ref aK3, .ref aK4, .int (nI 0), .int (nI 0)])), (aP, .inr (2, [.ref aPb, .int (nI 0), .int (nI 0)])), (aM, .inr (10, [.int (nI 2), .ref m_text, .int 0, .int 0, .int 0, .int (-1), .ref m_paper, .int 0, .int (nI 0), .ref m_firstHalf, .ref m_secondHalf, .ref m_stored, .ref m_proved, .int 0, .int 0, .int 0, .long 0, .long 0, .ref m_written, .ref m_places, .int 0, .int 0, .int 0, .int 0, .int 0, .int 0, .int 0, .int 0, .int 0, .ref m_levelKind, .ref m_levelStart, .ref m_levelApp, .ref m_levelHad, .ref m_levelScope, .ref m_levelId, .ref m_levelFirst, .ref m_levelSecond, .int 0, .ref m_scopeFirst, .ref m_scopeSecond, .ref m_scopeId, .int 0, .ref m_made, .int 0, .ref m_typeOf, .ref m_tasks, .int 0, .ref m_todo, .int 0, .ref m_renamed, .ref m_bound, .int 0, .int (-1), .int 0, .int 0, .int 0, .ref m_markA, .ref m_markB, .ref m_line, .int 0, .int 0])), (m_text, .inl (cI, 8192, .inl (fun _ => 0))), (aO, .inl (cJ, 1, .inr (.inl (fun _ => 0))))] := hW.sub [0, 1, 2, 3, 4, 5, 8, 6, 7] (by decide) rfl
    refine lv_istore (lv' := [(6, .int (nI 0)), (5, .int (nI 2)), (4, .int (nI 0)), (3, .ref aO), (2, .ref aM), (1, .ref aX), (0, .ref b)]) S.1 S.2.1 d_L_law_292 hl (by decide) rfl (fun ls hl => ?_)
    refine lv_aload_n S.1 S.2.1 d_L_law_294 rfl (lv_at hl 4 rfl) ?_
    refine callV_i (wr := [(aX, .inr (9, [.ref aF, .ref aC, .ref aP, .ref aT, .ref aK, .ref aR, .ref aH, .ref aI, .int (nI 0)])), (aF, .inr (0, [.int (nI 0), .int (-1)])), (aT, .inr (3, [.ref aF, .ref aTb, .int (nI 0), .int (nI 0), .int (nI 0), .int (nI 0), .long 0, .long 0])), (aTb, .inl (cB, 8192, .inl (fun _ => 0))), (aK, .inr (4, [.ref aC, .ref aK0, .ref aK1, .ref aK2, .ref aK3, .ref aK4, .int (nI 0), .int (nI 0)])), (aP, .inr (2, [.ref aPb, .int (nI 0), .int (nI 0)])), (m_text, .inl (cI, 8192, .inl (fun _ => 0))), (aO, .inl (cJ, 1, .inr (.inl (fun _ => 0))))]) (wc := [(aM, .inr (10, [.int (nI 2), .ref m_text, .int 0, .int 0, .int 0, .int (-1), .ref m_paper, .int 0, .int (nI 0), .ref m_firstHalf, .ref m_secondHalf, .ref m_stored, .ref m_proved, .int 0, .int 0, .int 0, .long 0, .long 0, .ref m_written, .ref m_places, .int 0, .int 0, .int 0, .int 0, .int 0, .int 0, .int 0, .int 0, .int 0, .ref m_levelKind, .ref m_levelStart, .ref m_levelApp, .ref m_levelHad, .ref m_levelScope, .ref m_levelId, .ref m_levelFirst, .ref m_levelSecond, .int 0, .ref m_scopeFirst, .ref m_scopeSecond, .ref m_scopeId, .int 0, .ref m_made, .int 0, .ref m_typeOf, .ref m_tasks, .int 0, .ref m_todo, .int 0, .ref m_renamed, .ref m_bound, .int 0, .int (-1), .int 0, .int 0, .int 0, .ref m_markA, .ref m_markB, .ref m_line, .int 0, .int 0]))]) (np := 0) (As := []) (rest := []) (c_M_thrown l D cI cJ cB cZ aM m_text m_paper m_firstHalf m_secondHalf m_stored m_proved m_written m_places m_levelKind m_levelStart m_levelApp m_levelHad m_levelScope m_levelId m_levelFirst m_levelSecond m_scopeFirst m_scopeSecond m_scopeId m_made m_typeOf m_tasks m_todo m_renamed m_bound m_markA m_markB m_line (nI 2) 0 0 0 (-1) 0 (nI 0) 0 0 0 0 0 0 0 0 0 0 0 0 0 0 0 0 0 0 (-1) 0 0 0 0 0 0 0 ) km_L_33 ki_M_thrown kv_M_thrown kz_M kk_M_thrown (by decide +kernel) S hW hA ⟨Nat.le_of_ble_eq_true rfl, Nat.le_of_ble_eq_true rfl⟩ ⟨Nat.le_of_ble_eq_true rfl, Nat.le_of_ble_eq_true rfl⟩ rfl 0 rfl [6] [0, 1, 2, 3, 4, 5, 7, 8] rfl (by decide) rfl (by decide) (by decide) rfl hl.1 rfl (Nat.le_of_ble_eq_true rfl) d_L_law_295 (fun r u H locs hp hW => ?_)
    obtain ⟨rfl, rfl⟩ := hp
    have hW : Wd D (tyl cI cJ cB cZ) A s s.heap H locs [(aX, .inr (9, [.ref aF, .ref aC, .ref aP, .ref aT, .ref aK, .ref aR, .ref aH, .ref aI, .int (nI 0)])), (aF, .inr (0, [.int (nI 0), .int (-1)])), (aT, .inr (3, [.ref aF, .ref aTb, .int (nI 0), .int (nI 0), .int (nI 0), .int (nI 0), .long 0, .long 0])), (aTb, .inl (cB, 8192, .inl (fun _ => 0))), (aK, .inr (4, [.ref aC, .ref aK0, .ref aK1, .ref aK2, .ref aK3, .ref aK4, .int (nI 0), .int (nI 0)])), (aP, .inr (2, [.ref aPb, .int (nI 0), .int (nI 0)])), (aM, .inr (10, [.int (nI 2), .ref m_text, .int 0, .int 0, .int 0, .int (-1), .ref m_paper, .int 0, .int (nI 0), .ref m_firstHalf, .ref m_secondHalf, .ref m_stored, .ref m_proved, .int 0, .int 0, .int 0, .long 0, .long 0, .ref m_written, .ref m_places, .int 0, .int 0, .int 0, .int 0, .int 0, .int 0, .int 0, .int 0, .int 0, .ref m_levelKind, .ref m_levelStart, .ref m_levelApp, .ref m_levelHad, .ref m_levelScope, .ref m_levelId, .ref m_levelFirst, .ref m_levelSecond, .int 0, .ref m_scopeFirst, .ref m_scopeSecond, .ref m_scopeId, .int 0, .ref m_made, .int 0, .ref m_typeOf, .ref m_tasks, .int 0, .ref m_todo, .int 0, .ref m_renamed, .ref m_bound, .int 0, .int (-1), .int 0, .int 0, .int 0, .ref m_markA, .ref m_markB, .ref m_line, .int 0, .int 0])), (m_text, .inl (cI, 8192, .inl (fun _ => 0))), (aO, .inl (cJ, 1, .inr (.inl (fun _ => 0))))] := hW.sub [0, 1, 2, 3, 4, 5, 8, 6, 7] (by decide) rfl
    refine lv_iload S.1 S.2.1 d_L_law_298 (lv_at hl 1 rfl) ?_
    refine lv_icmp_eq (tgt := 305) S.1 S.2.1 d_L_law_300 (by decide) (fun _ => ?_) (fun h => absurd h (by decide))
    refine lv_iload S.1 S.2.1 d_L_law_305 (lv_at hl 1 rfl) ?_
    refine lv_if_ne (tgt := 322) S.1 S.2.1 d_L_law_307 (by decide) (fun _ => ?_) (fun h => absurd h (by decide))
    refine lv_goto (tgt := 377) S.1 S.2.1 d_L_law_322 (by decide) ?_
    exact law_end C (Nat.le_of_ble_eq_true rfl) (Nat.le_of_ble_eq_true rfl) hW (lv_sub hl [2, 6] rfl)
set_option maxHeartbeats 4000000 in
set_option maxRecDepth 100000 in
theorem law_7 {p : Program} {l : Launch} {e : Env} {s : State} {m : MethodId} {below : List Frame} {meth : Method} {c : Code} {b : Nat} {xs : Nat → Int32} {D : va_G} {cI cJ cB cZ : ClassId} {A : Nat → Prop} (aX aF aC aP aT aK aR aH aI aK0 aK1 aK2 aK3 aK4 aTb aPb aM m_text m_paper m_firstHalf m_secondHalf m_stored m_proved m_written m_places m_levelKind m_levelStart m_levelApp m_levelHad m_levelScope m_levelId m_levelFirst m_levelSecond m_scopeFirst m_scopeSecond m_scopeId m_made m_typeOf m_tasks m_todo m_renamed m_bound m_markA m_markB m_line aO : Nat) {H : Heap} {locs : List Loc} {ls : Array Slot} (C : LawC p l s m meth c b 4 xs A) (hW : Wd D (tyl cI cJ cB cZ) A s s.heap H locs [(aX, .inr (9, [.ref aF, .ref aC, .ref aP, .ref aT, .ref aK, .ref aR, .ref aH, .ref aI, .int (nI 0)])), (aF, .inr (0, [.int (nI 0), .int (-1)])), (aT, .inr (3, [.ref aF, .ref aTb, .int (nI 0), .int (nI 0), .int (nI 0), .int (nI 0), .long 0, .long 0])), (aTb, .inl (cB, 8192, .inl (fun _ => 0))), (aK, .inr (4, [.ref aC, .ref aK0, .ref aK1, .ref aK2, .ref aK3, .ref aK4, .int (nI 0), .int (nI 0)])), (aP, .inr (2, [.ref aPb, .int (nI 0), .int (nI 0)])), (aM, .inr (10, [.int 0, .ref m_text, .int 0, .int 0, .int 0, .int (-1), .ref m_paper, .int 0, .int 0, .ref m_firstHalf, .ref m_secondHalf, .ref m_stored, .ref m_proved, .int 0, .int 0, .int 0, .long 0, .long 0, .ref m_written, .ref m_places, .int 0, .int 0, .int 0, .int 0, .int 0, .int 0, .int 0, .int 0, .int 0, .ref m_levelKind, .ref m_levelStart, .ref m_levelApp, .ref m_levelHad, .ref m_levelScope, .ref m_levelId, .ref m_levelFirst, .ref m_levelSecond, .int 0, .ref m_scopeFirst, .ref m_scopeSecond, .ref m_scopeId, .int 0, .ref m_made, .int 0, .ref m_typeOf, .ref m_tasks, .int 0, .ref m_todo, .int 0, .ref m_renamed, .ref m_bound, .int 0, .int (-1), .int 0, .int 0, .int 0, .ref m_markA, .ref m_markB, .ref m_line, .int 0, .int 0])), (m_text, .inl (cI, 8192, .inl (fun _ => 0))), (aO, .inl (cJ, 1, .inr (.inl (fun _ => 0))))]) (hl : lv_has ls 7 [(4, .int (nI 0)), (3, .ref aO), (2, .ref aM), (1, .ref aX), (0, .ref b)]) : W p l e room_1 s m #[Value.ref b] below meth c H locs 100 400000 (lw_Z below #[Value.ref b] s) (F0 m 325 ls []) := by
  obtain ⟨S, hX, hbl, hbA, hA, hAq, hr, hlk, hTw, htr⟩ := id C
  refine lv_aload_n S.1 S.2.1 d_L_law_325 rfl (lv_at hl 3 rfl) ?_
  refine callV_i (wr := [(aF, .inr (0, [.int (nI 0), .int (-1)])), (aT, .inr (3, [.ref aF, .ref aTb, .int (nI 0), .int (nI 0), .int (nI 0), .int (nI 0), .long 0, .long 0])), (aTb, .inl (cB, 8192, .inl (fun _ => 0))), (aK, .inr (4, [.ref aC, .ref aK0, .ref aK1, .ref aK2, .ref aK3, .ref aK4, .int (nI 0), .int (nI 0)])), (aM, .inr (10, [.int 0, .ref m_text, .int 0, .int 0, .int 0, .int (-1), .ref m_paper, .int 0, .int 0, .ref m_firstHalf, .ref m_secondHalf, .ref m_stored, .ref m_proved, .int 0, .int 0, .int 0, .long 0, .long 0, .ref m_written, .ref m_places, .int 0, .int 0, .int 0, .int 0, .int 0, .int 0, .int 0, .int 0, .int 0, .ref m_levelKind, .ref m_levelStart, .ref m_levelApp, .ref m_levelHad, .ref m_levelScope, .ref m_levelId, .ref m_levelFirst, .ref m_levelSecond, .int 0, .ref m_scopeFirst, .ref m_scopeSecond, .ref m_scopeId, .int 0, .ref m_made, .int 0, .ref m_typeOf, .ref m_tasks, .int 0, .ref m_todo, .int 0, .ref m_renamed, .ref m_bound, .int 0, .int (-1), .int 0, .int 0, .int 0, .ref m_markA, .ref m_markB, .ref m_line, .int 0, .int 0])), (m_text, .inl (cI, 8192, .inl (fun _ => 0))), (aO, .inl (cJ, 1, .inr (.inl (fun _ => 0))))]) (wc := [(aX, .inr (9, [.ref aF, .ref aC, .ref aP, .ref aT, .ref aK, .ref aR, .ref aH, .ref aI, .int (nI 0)])), (aP, .inr (2, [.ref aPb, .int (nI 0), .int (nI 0)]))]) (np := 0) (As := []) (rest := []) (c_X_printed l D cI cJ cB cZ aX aF aC aP aT aK aR aH aI aPb (nI 0) (nI 0) (nI 0) ) km_L_61 ki_X_printed kv_X_printed kz_X kk_X_printed (by decide +kernel) S hW hA ⟨Nat.le_of_ble_eq_true rfl, Nat.le_of_ble_eq_true rfl⟩ ⟨Nat.le_of_ble_eq_true rfl, Nat.le_of_ble_eq_true rfl⟩ rfl 0 rfl [0, 5] [1, 2, 3, 4, 6, 7, 8] rfl (by decide) rfl (by decide) (by decide) rfl hl.1 rfl (Nat.le_of_ble_eq_true rfl) d_L_law_326 (fun r u H locs hp hW => ?_)
  obtain ⟨rfl, rfl⟩ := hp
  have hW : Wd D (tyl cI cJ cB cZ) A s s.heap H locs [(aX, .inr (9, [.ref aF, .ref aC, .ref aP, .ref aT, .ref aK, .ref aR, .ref aH, .ref aI, .int (nI 0)])), (aF, .inr (0, [.int (nI 0), .int (-1)])), (aT, .inr (3, [.ref aF, .ref aTb, .int (nI 0), .int (nI 0), .int (nI 0), .int (nI 0), .long 0, .long 0])), (aTb, .inl (cB, 8192, .inl (fun _ => 0))), (aK, .inr (4, [.ref aC, .ref aK0, .ref aK1, .ref aK2, .ref aK3, .ref aK4, .int (nI 0), .int (nI 0)])), (aP, .inr (2, [.ref aPb, .int (nI 0), .int (nI 0)])), (aM, .inr (10, [.int 0, .ref m_text, .int 0, .int 0, .int 0, .int (-1), .ref m_paper, .int 0, .int 0, .ref m_firstHalf, .ref m_secondHalf, .ref m_stored, .ref m_proved, .int 0, .int 0, .int 0, .long 0, .long 0, .ref m_written, .ref m_places, .int 0, .int 0, .int 0, .int 0, .int 0, .int 0, .int 0, .int 0, .int 0, .ref m_levelKind, .ref m_levelStart, .ref m_levelApp, .ref m_levelHad, .ref m_levelScope, .ref m_levelId, .ref m_levelFirst, .ref m_levelSecond, .int 0, .ref m_scopeFirst, .ref m_scopeSecond, .ref m_scopeId, .int 0, .ref m_made, .int 0, .ref m_typeOf, .ref m_tasks, .int 0, .ref m_todo, .int 0, .ref m_renamed, .ref m_bound, .int 0, .int (-1), .int 0, .int 0, .int 0, .ref m_markA, .ref m_markB, .ref m_line, .int 0, .int 0])), (m_text, .inl (cI, 8192, .inl (fun _ => 0))), (aO, .inl (cJ, 1, .inr (.inl (fun _ => 0))))] := hW.sub [7, 0, 1, 2, 3, 8, 4, 5, 6] (by decide) rfl
  refine lv_aload_n S.1 S.2.1 d_L_law_329 rfl (lv_at hl 2 rfl) ?_
  refine callV_i (wr := [(aX, .inr (9, [.ref aF, .ref aC, .ref aP, .ref aT, .ref aK, .ref aR, .ref aH, .ref aI, .int (nI 0)])), (aF, .inr (0, [.int (nI 0), .int (-1)])), (aT, .inr (3, [.ref aF, .ref aTb, .int (nI 0), .int (nI 0), .int (nI 0), .int (nI 0), .long 0, .long 0])), (aTb, .inl (cB, 8192, .inl (fun _ => 0))), (aK, .inr (4, [.ref aC, .ref aK0, .ref aK1, .ref aK2, .ref aK3, .ref aK4, .int (nI 0), .int (nI 0)])), (aP, .inr (2, [.ref aPb, .int (nI 0), .int (nI 0)])), (m_text, .inl (cI, 8192, .inl (fun _ => 0))), (aO, .inl (cJ, 1, .inr (.inl (fun _ => 0))))]) (wc := [(aM, .inr (10, [.int 0, .ref m_text, .int 0, .int 0, .int 0, .int (-1), .ref m_paper, .int 0, .int 0, .ref m_firstHalf, .ref m_secondHalf, .ref m_stored, .ref m_proved, .int 0, .int 0, .int 0, .long 0, .long 0, .ref m_written, .ref m_places, .int 0, .int 0, .int 0, .int 0, .int 0, .int 0, .int 0, .int 0, .int 0, .ref m_levelKind, .ref m_levelStart, .ref m_levelApp, .ref m_levelHad, .ref m_levelScope, .ref m_levelId, .ref m_levelFirst, .ref m_levelSecond, .int 0, .ref m_scopeFirst, .ref m_scopeSecond, .ref m_scopeId, .int 0, .ref m_made, .int 0, .ref m_typeOf, .ref m_tasks, .int 0, .ref m_todo, .int 0, .ref m_renamed, .ref m_bound, .int 0, .int (-1), .int 0, .int 0, .int 0, .ref m_markA, .ref m_markB, .ref m_line, .int 0, .int 0]))]) (np := 0) (As := []) (rest := [.int (nI 0)]) (c_M_printed l D cI cJ cB cZ aM m_text m_paper m_firstHalf m_secondHalf m_stored m_proved m_written m_places m_levelKind m_levelStart m_levelApp m_levelHad m_levelScope m_levelId m_levelFirst m_levelSecond m_scopeFirst m_scopeSecond m_scopeId m_made m_typeOf m_tasks m_todo m_renamed m_bound m_markA m_markB m_line 0 0 0 0 (-1) 0 0 0 0 0 0 0 0 0 0 0 0 0 0 0 0 0 0 0 0 (-1) 0 0 0 0 0 0 0 ) km_L_64 ki_M_printed kv_M_printed kz_M kk_M_printed (by decide +kernel) S hW hA ⟨Nat.le_of_ble_eq_true rfl, Nat.le_of_ble_eq_true rfl⟩ ⟨Nat.le_of_ble_eq_true rfl, Nat.le_of_ble_eq_true rfl⟩ rfl 0 rfl [6] [0, 1, 2, 3, 4, 5, 7, 8] rfl (by decide) rfl (by decide) (by decide) rfl hl.1 rfl (Nat.le_of_ble_eq_true rfl) d_L_law_330 (fun r u H locs hp hW => ?_)
  obtain ⟨rfl, rfl⟩ := hp
  have hW : Wd D (tyl cI cJ cB cZ) A s s.heap H locs [(aX, .inr (9, [.ref aF, .ref aC, .ref aP, .ref aT, .ref aK, .ref aR, .ref aH, .ref aI, .int (nI 0)])), (aF, .inr (0, [.int (nI 0), .int (-1)])), (aT, .inr (3, [.ref aF, .ref aTb, .int (nI 0), .int (nI 0), .int (nI 0), .int (nI 0), .long 0, .long 0])), (aTb, .inl (cB, 8192, .inl (fun _ => 0))), (aK, .inr (4, [.ref aC, .ref aK0, .ref aK1, .ref aK2, .ref aK3, .ref aK4, .int (nI 0), .int (nI 0)])), (aP, .inr (2, [.ref aPb, .int (nI 0), .int (nI 0)])), (aM, .inr (10, [.int (nI 0), .ref m_text, .int 0, .int 0, .int 0, .int (-1), .ref m_paper, .int 0, .int 0, .ref m_firstHalf, .ref m_secondHalf, .ref m_stored, .ref m_proved, .int 0, .int 0, .int 0, .long 0, .long 0, .ref m_written, .ref m_places, .int 0, .int 0, .int 0, .int 0, .int 0, .int 0, .int 0, .int 0, .int 0, .ref m_levelKind, .ref m_levelStart, .ref m_levelApp, .ref m_levelHad, .ref m_levelScope, .ref m_levelId, .ref m_levelFirst, .ref m_levelSecond, .int 0, .ref m_scopeFirst, .ref m_scopeSecond, .ref m_scopeId, .int 0, .ref m_made, .int 0, .ref m_typeOf, .ref m_tasks, .int 0, .ref m_todo, .int 0, .ref m_renamed, .ref m_bound, .int 0, .int (-1), .int 0, .int 0, .int 0, .ref m_markA, .ref m_markB, .ref m_line, .int 0, .int 0])), (m_text, .inl (cI, 8192, .inl (fun _ => 0))), (aO, .inl (cJ, 1, .inr (.inl (fun _ => 0))))] := hW.sub [0, 1, 2, 3, 4, 5, 8, 6, 7] (by decide) rfl
  refine lv_icmp_eq (tgt := 377) S.1 S.2.1 d_L_law_333 (by decide) (fun _ => ?_) (fun h => absurd h (by decide))
  exact law_end C (Nat.le_of_ble_eq_true rfl) (Nat.le_of_ble_eq_true rfl) hW (lv_sub hl [0, 4] rfl)
set_option maxHeartbeats 4000000 in
set_option maxRecDepth 100000 in
theorem law_8 {p : Program} {l : Launch} {e : Env} {s : State} {m : MethodId} {below : List Frame} {meth : Method} {c : Code} {b : Nat} {xs : Nat → Int32} {D : va_G} {cI cJ cB cZ : ClassId} {A : Nat → Prop} (aX aF aC aP aT aK aR aH aI aK0 aK1 aK2 aK3 aK4 aTb aPb aM m_text m_paper m_firstHalf m_secondHalf m_stored m_proved m_written m_places m_levelKind m_levelStart m_levelApp m_levelHad m_levelScope m_levelId m_levelFirst m_levelSecond m_scopeFirst m_scopeSecond m_scopeId m_made m_typeOf m_tasks m_todo m_renamed m_bound m_markA m_markB m_line aO : Nat) {H : Heap} {locs : List Loc} {ls : Array Slot} (C : LawC p l s m meth c b 4 xs A) (hW : Wd D (tyl cI cJ cB cZ) A s s.heap H locs [(aX, .inr (9, [.ref aF, .ref aC, .ref aP, .ref aT, .ref aK, .ref aR, .ref aH, .ref aI, .int (nI 0)])), (aF, .inr (0, [.int (nI 0), .int (-1)])), (aT, .inr (3, [.ref aF, .ref aTb, .int (nI 0), .int (nI 0), .int (nI 0), .int (nI 0), .long 0, .long 0])), (aTb, .inl (cB, 8192, .inl (fun _ => 0))), (aK, .inr (4, [.ref aC, .ref aK0, .ref aK1, .ref aK2, .ref aK3, .ref aK4, .int (nI 0), .int (nI 0)])), (aP, .inr (2, [.ref aPb, .int (nI 0), .int (nI 0)])), (aM, .inr (10, [.int 0, .ref m_text, .int 0, .int 0, .int 0, .int (-1), .ref m_paper, .int 0, .int 0, .ref m_firstHalf, .ref m_secondHalf, .ref m_stored, .ref m_proved, .int 0, .int 0, .int 0, .long 0, .long 0, .ref m_written, .ref m_places, .int 0, .int 0, .int 0, .int 0, .int 0, .int 0, .int 0, .int 0, .int 0, .ref m_levelKind, .ref m_levelStart, .ref m_levelApp, .ref m_levelHad, .ref m_levelScope, .ref m_levelId, .ref m_levelFirst, .ref m_levelSecond, .int 0, .ref m_scopeFirst, .ref m_scopeSecond, .ref m_scopeId, .int 0, .ref m_made, .int 0, .ref m_typeOf, .ref m_tasks, .int 0, .ref m_todo, .int 0, .ref m_renamed, .ref m_bound, .int 0, .int (-1), .int 0, .int 0, .int 0, .ref m_markA, .ref m_markB, .ref m_line, .int 0, .int 0])), (m_text, .inl (cI, 8192, .inl (fun _ => 0))), (aO, .inl (cJ, 1, .inr (.inl (fun _ => 0))))]) (hl : lv_has ls 7 [(4, .int (nI 0)), (3, .ref aO), (2, .ref aM), (1, .ref aX), (0, .ref b)]) : W p l e room_1 s m #[Value.ref b] below meth c H locs 100 400000 (lw_Z below #[Value.ref b] s) (F0 m 338 ls []) := by
  obtain ⟨S, hX, hbl, hbA, hA, hAq, hr, hlk, hTw, htr⟩ := id C
  refine lv_aload_n S.1 S.2.1 d_L_law_338 rfl (lv_at hl 3 rfl) ?_
  refine lv_aload_n S.1 S.2.1 d_L_law_339 rfl (lv_at hl 4 rfl) ?_
  refine lv_iload S.1 S.2.1 d_L_law_340 (lv_at hl 0 rfl) ?_
  refine lv_iconst (v := (nI 1)) S.1 S.2.1 d_L_law_342 (by decide) ?_
  refine n_iadd S d_L_law_343 ?_
  refine va_sld S.1 S.2.1 hX hbl hbA hW.2.2.2 (vp_in_nI (by decide) (by decide)) d_L_law_344 ?_
  refine top_eq (y := xs 1) (congrArg xs (by decide)) ?_
  refine callV_l (wr := [(aF, .inr (0, [.int (nI 0), .int (-1)])), (aT, .inr (3, [.ref aF, .ref aTb, .int (nI 0), .int (nI 0), .int (nI 0), .int (nI 0), .long 0, .long 0])), (aTb, .inl (cB, 8192, .inl (fun _ => 0))), (aK, .inr (4, [.ref aC, .ref aK0, .ref aK1, .ref aK2, .ref aK3, .ref aK4, .int (nI 0), .int (nI 0)])), (aM, .inr (10, [.int 0, .ref m_text, .int 0, .int 0, .int 0, .int (-1), .ref m_paper, .int 0, .int 0, .ref m_firstHalf, .ref m_secondHalf, .ref m_stored, .ref m_proved, .int 0, .int 0, .int 0, .long 0, .long 0, .ref m_written, .ref m_places, .int 0, .int 0, .int 0, .int 0, .int 0, .int 0, .int 0, .int 0, .int 0, .ref m_levelKind, .ref m_levelStart, .ref m_levelApp, .ref m_levelHad, .ref m_levelScope, .ref m_levelId, .ref m_levelFirst, .ref m_levelSecond, .int 0, .ref m_scopeFirst, .ref m_scopeSecond, .ref m_scopeId, .int 0, .ref m_made, .int 0, .ref m_typeOf, .ref m_tasks, .int 0, .ref m_todo, .int 0, .ref m_renamed, .ref m_bound, .int 0, .int (-1), .int 0, .int 0, .int 0, .ref m_markA, .ref m_markB, .ref m_line, .int 0, .int 0])), (m_text, .inl (cI, 8192, .inl (fun _ => 0))), (aO, .inl (cJ, 1, .inr (.inl (fun _ => 0))))]) (wc := [(aX, .inr (9, [.ref aF, .ref aC, .ref aP, .ref aT, .ref aK, .ref aR, .ref aH, .ref aI, .int (nI 0)])), (aP, .inr (2, [.ref aPb, .int (nI 0), .int (nI 0)]))]) (np := 1) (As := [.int (xs 1)]) (rest := []) (c_X_paper l D cI cJ cB cZ aX aF aC aP aT aK aR aH aI aPb (xs 1) (nI 0) (nI 0) ) km_L_65 ki_X_paper kv_X_paper kz_X kk_X_paper (by decide +kernel) S hW hA ⟨Nat.le_of_ble_eq_true rfl, Nat.le_of_ble_eq_true rfl⟩ ⟨Nat.le_of_ble_eq_true rfl, Nat.le_of_ble_eq_true rfl⟩ rfl 0 rfl [0, 5] [1, 2, 3, 4, 6, 7, 8] rfl (by decide) rfl (by decide) (by decide) rfl hl.1 rfl (Nat.le_of_ble_eq_true rfl) d_L_law_345 (fun r u H locs hp hW => ?_)
  obtain ⟨rfl, rfl⟩ := hp
  have hW : Wd D (tyl cI cJ cB cZ) A s s.heap H locs [(aX, .inr (9, [.ref aF, .ref aC, .ref aP, .ref aT, .ref aK, .ref aR, .ref aH, .ref aI, .int (nI 0)])), (aF, .inr (0, [.int (nI 0), .int (-1)])), (aT, .inr (3, [.ref aF, .ref aTb, .int (nI 0), .int (nI 0), .int (nI 0), .int (nI 0), .long 0, .long 0])), (aTb, .inl (cB, 8192, .inl (fun _ => 0))), (aK, .inr (4, [.ref aC, .ref aK0, .ref aK1, .ref aK2, .ref aK3, .ref aK4, .int (nI 0), .int (nI 0)])), (aP, .inr (2, [.ref aPb, .int (nI 0), .int (nI 0)])), (aM, .inr (10, [.int 0, .ref m_text, .int 0, .int 0, .int 0, .int (-1), .ref m_paper, .int 0, .int 0, .ref m_firstHalf, .ref m_secondHalf, .ref m_stored, .ref m_proved, .int 0, .int 0, .int 0, .long 0, .long 0, .ref m_written, .ref m_places, .int 0, .int 0, .int 0, .int 0, .int 0, .int 0, .int 0, .int 0, .int 0, .ref m_levelKind, .ref m_levelStart, .ref m_levelApp, .ref m_levelHad, .ref m_levelScope, .ref m_levelId, .ref m_levelFirst, .ref m_levelSecond, .int 0, .ref m_scopeFirst, .ref m_scopeSecond, .ref m_scopeId, .int 0, .ref m_made, .int 0, .ref m_typeOf, .ref m_tasks, .int 0, .ref m_todo, .int 0, .ref m_renamed, .ref m_bound, .int 0, .int (-1), .int 0, .int 0, .int 0, .ref m_markA, .ref m_markB, .ref m_line, .int 0, .int 0])), (m_text, .inl (cI, 8192, .inl (fun _ => 0))), (aO, .inl (cJ, 1, .inr (.inl (fun _ => 0))))] := hW.sub [7, 0, 1, 2, 3, 8, 4, 5, 6] (by decide) rfl
  refine lv_aload_n S.1 S.2.1 d_L_law_348 rfl (lv_at hl 2 rfl) ?_
  refine lv_aload_n S.1 S.2.1 d_L_law_349 rfl (lv_at hl 4 rfl) ?_
  refine lv_iload S.1 S.2.1 d_L_law_350 (lv_at hl 0 rfl) ?_
  refine lv_iconst (v := (nI 1)) S.1 S.2.1 d_L_law_352 (by decide) ?_
  refine n_iadd S d_L_law_353 ?_
  refine va_sld S.1 S.2.1 hX hbl hbA hW.2.2.2 (vp_in_nI (by decide) (by decide)) d_L_law_354 ?_
  refine top_eq (y := xs 1) (congrArg xs (by decide)) ?_
  refine callV_l (wr := [(aX, .inr (9, [.ref aF, .ref aC, .ref aP, .ref aT, .ref aK, .ref aR, .ref aH, .ref aI, .int (nI 0)])), (aF, .inr (0, [.int (nI 0), .int (-1)])), (aT, .inr (3, [.ref aF, .ref aTb, .int (nI 0), .int (nI 0), .int (nI 0), .int (nI 0), .long 0, .long 0])), (aTb, .inl (cB, 8192, .inl (fun _ => 0))), (aK, .inr (4, [.ref aC, .ref aK0, .ref aK1, .ref aK2, .ref aK3, .ref aK4, .int (nI 0), .int (nI 0)])), (aP, .inr (2, [.ref aPb, .int (nI 0), .int (nI 0)])), (m_text, .inl (cI, 8192, .inl (fun _ => 0))), (aO, .inl (cJ, 1, .inr (.inl (fun _ => 0))))]) (wc := [(aM, .inr (10, [.int 0, .ref m_text, .int 0, .int 0, .int 0, .int (-1), .ref m_paper, .int (nI 0), .int 0, .ref m_firstHalf, .ref m_secondHalf, .ref m_stored, .ref m_proved, .int 0, .int 0, .int 0, .long 0, .long 0, .ref m_written, .ref m_places, .int 0, .int 0, .int 0, .int 0, .int 0, .int 0, .int 0, .int 0, .int 0, .ref m_levelKind, .ref m_levelStart, .ref m_levelApp, .ref m_levelHad, .ref m_levelScope, .ref m_levelId, .ref m_levelFirst, .ref m_levelSecond, .int 0, .ref m_scopeFirst, .ref m_scopeSecond, .ref m_scopeId, .int 0, .ref m_made, .int 0, .ref m_typeOf, .ref m_tasks, .int 0, .ref m_todo, .int 0, .ref m_renamed, .ref m_bound, .int 0, .int (-1), .int 0, .int 0, .int 0, .ref m_markA, .ref m_markB, .ref m_line, .int 0, .int 0]))]) (np := 1) (As := [.int (xs 1)]) (rest := [.long 0]) (c_M_paper l D cI cJ cB cZ aM m_text m_paper m_firstHalf m_secondHalf m_stored m_proved m_written m_places m_levelKind m_levelStart m_levelApp m_levelHad m_levelScope m_levelId m_levelFirst m_levelSecond m_scopeFirst m_scopeSecond m_scopeId m_made m_typeOf m_tasks m_todo m_renamed m_bound m_markA m_markB m_line 0 0 0 0 (-1) 0 0 0 0 0 0 0 0 0 0 0 0 0 0 0 0 0 0 0 (-1) 0 0 0 0 0 0 0 (xs 1) ) km_L_69 ki_M_paper kv_M_paper kz_M kk_M_paper (by decide +kernel) S hW hA ⟨Nat.le_of_ble_eq_true rfl, Nat.le_of_ble_eq_true rfl⟩ ⟨Nat.le_of_ble_eq_true rfl, Nat.le_of_ble_eq_true rfl⟩ rfl 0 rfl [6] [0, 1, 2, 3, 4, 5, 7, 8] rfl (by decide) rfl (by decide) (by decide) rfl hl.1 rfl (Nat.le_of_ble_eq_true rfl) d_L_law_355 (fun r u H locs hp hW => ?_)
  obtain ⟨rfl, rfl⟩ := hp
  have hW : Wd D (tyl cI cJ cB cZ) A s s.heap H locs [(aX, .inr (9, [.ref aF, .ref aC, .ref aP, .ref aT, .ref aK, .ref aR, .ref aH, .ref aI, .int (nI 0)])), (aF, .inr (0, [.int (nI 0), .int (-1)])), (aT, .inr (3, [.ref aF, .ref aTb, .int (nI 0), .int (nI 0), .int (nI 0), .int (nI 0), .long 0, .long 0])), (aTb, .inl (cB, 8192, .inl (fun _ => 0))), (aK, .inr (4, [.ref aC, .ref aK0, .ref aK1, .ref aK2, .ref aK3, .ref aK4, .int (nI 0), .int (nI 0)])), (aP, .inr (2, [.ref aPb, .int (nI 0), .int (nI 0)])), (aM, .inr (10, [.int (nI 0), .ref m_text, .int 0, .int 0, .int 0, .int (-1), .ref m_paper, .int (nI 0), .int 0, .ref m_firstHalf, .ref m_secondHalf, .ref m_stored, .ref m_proved, .int 0, .int 0, .int 0, .long 0, .long 0, .ref m_written, .ref m_places, .int 0, .int 0, .int 0, .int 0, .int 0, .int 0, .int 0, .int 0, .int 0, .ref m_levelKind, .ref m_levelStart, .ref m_levelApp, .ref m_levelHad, .ref m_levelScope, .ref m_levelId, .ref m_levelFirst, .ref m_levelSecond, .int 0, .ref m_scopeFirst, .ref m_scopeSecond, .ref m_scopeId, .int 0, .ref m_made, .int 0, .ref m_typeOf, .ref m_tasks, .int 0, .ref m_todo, .int 0, .ref m_renamed, .ref m_bound, .int 0, .int (-1), .int 0, .int 0, .int 0, .ref m_markA, .ref m_markB, .ref m_line, .int 0, .int 0])), (m_text, .inl (cI, 8192, .inl (fun _ => 0))), (aO, .inl (cJ, 1, .inr (.inl (fun _ => 0))))] := hW.sub [0, 1, 2, 3, 4, 5, 8, 6, 7] (by decide) rfl
  refine W.lcmp S.1 S.2.1 d_L_law_358 ?_
  refine lv_if_eq (tgt := 377) S.1 S.2.1 d_L_law_359 (by decide) (fun c_359 => ?_) (fun c_359 => absurd c_359 (fun z => z ((lg_cmp_eq _ _).mpr rfl)))
  exact law_end C (Nat.le_of_ble_eq_true rfl) (Nat.le_of_ble_eq_true rfl) hW (lv_sub hl [0, 4] rfl)
set_option maxHeartbeats 4000000 in
set_option maxRecDepth 100000 in
theorem law_9 {p : Program} {l : Launch} {e : Env} {s : State} {m : MethodId} {below : List Frame} {meth : Method} {c : Code} {b : Nat} {xs : Nat → Int32} {D : va_G} {cI cJ cB cZ : ClassId} {A : Nat → Prop} (aX aF aC aP aT aK aR aH aI aK0 aK1 aK2 aK3 aK4 aTb aPb aM m_text m_paper m_firstHalf m_secondHalf m_stored m_proved m_written m_places m_levelKind m_levelStart m_levelApp m_levelHad m_levelScope m_levelId m_levelFirst m_levelSecond m_scopeFirst m_scopeSecond m_scopeId m_made m_typeOf m_tasks m_todo m_renamed m_bound m_markA m_markB m_line aO : Nat) {H : Heap} {locs : List Loc} {ls : Array Slot} (C : LawC p l s m meth c b 4 xs A) (hW : Wd D (tyl cI cJ cB cZ) A s s.heap H locs [(aX, .inr (9, [.ref aF, .ref aC, .ref aP, .ref aT, .ref aK, .ref aR, .ref aH, .ref aI, .int (nI 0)])), (aF, .inr (0, [.int (nI 0), .int (-1)])), (aT, .inr (3, [.ref aF, .ref aTb, .int (nI 0), .int (nI 0), .int (nI 0), .int (nI 0), .long 0, .long 0])), (aTb, .inl (cB, 8192, .inl (fun _ => 0))), (aK, .inr (4, [.ref aC, .ref aK0, .ref aK1, .ref aK2, .ref aK3, .ref aK4, .int (nI 0), .int (nI 0)])), (aP, .inr (2, [.ref aPb, .int (nI 0), .int (nI 0)])), (aM, .inr (10, [.int 0, .ref m_text, .int 0, .int 0, .int 0, .int (-1), .ref m_paper, .int 0, .int 0, .ref m_firstHalf, .ref m_secondHalf, .ref m_stored, .ref m_proved, .int 0, .int 0, .int 0, .long 0, .long 0, .ref m_written, .ref m_places, .int 0, .int 0, .int 0, .int 0, .int 0, .int 0, .int 0, .int 0, .int 0, .ref m_levelKind, .ref m_levelStart, .ref m_levelApp, .ref m_levelHad, .ref m_levelScope, .ref m_levelId, .ref m_levelFirst, .ref m_levelSecond, .int 0, .ref m_scopeFirst, .ref m_scopeSecond, .ref m_scopeId, .int 0, .ref m_made, .int 0, .ref m_typeOf, .ref m_tasks, .int 0, .ref m_todo, .int 0, .ref m_renamed, .ref m_bound, .int 0, .int (-1), .int 0, .int 0, .int 0, .ref m_markA, .ref m_markB, .ref m_line, .int 0, .int 0])), (m_text, .inl (cI, 8192, .inl (fun _ => 0))), (aO, .inl (cJ, 1, .inr (.inl (fun _ => 0))))]) (hl : lv_has ls 7 [(4, .int (nI 0)), (3, .ref aO), (2, .ref aM), (1, .ref aX), (0, .ref b)]) : W p l e room_1 s m #[Value.ref b] below meth c H locs 100 400000 (lw_Z below #[Value.ref b] s) (F0 m 364 ls []) := by
  obtain ⟨S, hX, hbl, hbA, hA, hAq, hr, hlk, hTw, htr⟩ := id C
  refine lv_aload_n S.1 S.2.1 d_L_law_364 rfl (lv_at hl 3 rfl) ?_
  refine callV_i (wr := [(aF, .inr (0, [.int (nI 0), .int (-1)])), (aT, .inr (3, [.ref aF, .ref aTb, .int (nI 0), .int (nI 0), .int (nI 0), .int (nI 0), .long 0, .long 0])), (aTb, .inl (cB, 8192, .inl (fun _ => 0))), (aK, .inr (4, [.ref aC, .ref aK0, .ref aK1, .ref aK2, .ref aK3, .ref aK4, .int (nI 0), .int (nI 0)])), (aM, .inr (10, [.int 0, .ref m_text, .int 0, .int 0, .int 0, .int (-1), .ref m_paper, .int 0, .int 0, .ref m_firstHalf, .ref m_secondHalf, .ref m_stored, .ref m_proved, .int 0, .int 0, .int 0, .long 0, .long 0, .ref m_written, .ref m_places, .int 0, .int 0, .int 0, .int 0, .int 0, .int 0, .int 0, .int 0, .int 0, .ref m_levelKind, .ref m_levelStart, .ref m_levelApp, .ref m_levelHad, .ref m_levelScope, .ref m_levelId, .ref m_levelFirst, .ref m_levelSecond, .int 0, .ref m_scopeFirst, .ref m_scopeSecond, .ref m_scopeId, .int 0, .ref m_made, .int 0, .ref m_typeOf, .ref m_tasks, .int 0, .ref m_todo, .int 0, .ref m_renamed, .ref m_bound, .int 0, .int (-1), .int 0, .int 0, .int 0, .ref m_markA, .ref m_markB, .ref m_line, .int 0, .int 0])), (m_text, .inl (cI, 8192, .inl (fun _ => 0))), (aO, .inl (cJ, 1, .inr (.inl (fun _ => 0))))]) (wc := [(aX, .inr (9, [.ref aF, .ref aC, .ref aP, .ref aT, .ref aK, .ref aR, .ref aH, .ref aI, .int (nI 0)])), (aP, .inr (2, [.ref aPb, .int (nI 0), .int (nI 0)]))]) (np := 0) (As := []) (rest := []) (c_X_wipe l D cI cJ cB cZ aX aF aC aP aT aK aR aH aI aPb (nI 0) (nI 0) (nI 0) ) km_L_70 ki_X_wipe kv_X_wipe kz_X kk_X_wipe (by decide +kernel) S hW hA ⟨Nat.le_of_ble_eq_true rfl, Nat.le_of_ble_eq_true rfl⟩ ⟨Nat.le_of_ble_eq_true rfl, Nat.le_of_ble_eq_true rfl⟩ rfl 0 rfl [0, 5] [1, 2, 3, 4, 6, 7, 8] rfl (by decide) rfl (by decide) (by decide) rfl hl.1 rfl (Nat.le_of_ble_eq_true rfl) d_L_law_365 (fun r u H locs hp hW => ?_)
  obtain ⟨rfl, rfl⟩ := hp
  have hW : Wd D (tyl cI cJ cB cZ) A s s.heap H locs [(aX, .inr (9, [.ref aF, .ref aC, .ref aP, .ref aT, .ref aK, .ref aR, .ref aH, .ref aI, .int (nI 0)])), (aF, .inr (0, [.int (nI 0), .int (-1)])), (aT, .inr (3, [.ref aF, .ref aTb, .int (nI 0), .int (nI 0), .int (nI 0), .int (nI 0), .long 0, .long 0])), (aTb, .inl (cB, 8192, .inl (fun _ => 0))), (aK, .inr (4, [.ref aC, .ref aK0, .ref aK1, .ref aK2, .ref aK3, .ref aK4, .int (nI 0), .int (nI 0)])), (aP, .inr (2, [.ref aPb, .int (nI 0), .int (nI 0)])), (aM, .inr (10, [.int 0, .ref m_text, .int 0, .int 0, .int 0, .int (-1), .ref m_paper, .int 0, .int 0, .ref m_firstHalf, .ref m_secondHalf, .ref m_stored, .ref m_proved, .int 0, .int 0, .int 0, .long 0, .long 0, .ref m_written, .ref m_places, .int 0, .int 0, .int 0, .int 0, .int 0, .int 0, .int 0, .int 0, .int 0, .ref m_levelKind, .ref m_levelStart, .ref m_levelApp, .ref m_levelHad, .ref m_levelScope, .ref m_levelId, .ref m_levelFirst, .ref m_levelSecond, .int 0, .ref m_scopeFirst, .ref m_scopeSecond, .ref m_scopeId, .int 0, .ref m_made, .int 0, .ref m_typeOf, .ref m_tasks, .int 0, .ref m_todo, .int 0, .ref m_renamed, .ref m_bound, .int 0, .int (-1), .int 0, .int 0, .int 0, .ref m_markA, .ref m_markB, .ref m_line, .int 0, .int 0])), (m_text, .inl (cI, 8192, .inl (fun _ => 0))), (aO, .inl (cJ, 1, .inr (.inl (fun _ => 0))))] := hW.sub [7, 0, 1, 2, 3, 8, 4, 5, 6] (by decide) rfl
  refine lv_aload_n S.1 S.2.1 d_L_law_368 rfl (lv_at hl 2 rfl) ?_
  refine callV_i (wr := [(aX, .inr (9, [.ref aF, .ref aC, .ref aP, .ref aT, .ref aK, .ref aR, .ref aH, .ref aI, .int (nI 0)])), (aF, .inr (0, [.int (nI 0), .int (-1)])), (aT, .inr (3, [.ref aF, .ref aTb, .int (nI 0), .int (nI 0), .int (nI 0), .int (nI 0), .long 0, .long 0])), (aTb, .inl (cB, 8192, .inl (fun _ => 0))), (aK, .inr (4, [.ref aC, .ref aK0, .ref aK1, .ref aK2, .ref aK3, .ref aK4, .int (nI 0), .int (nI 0)])), (aP, .inr (2, [.ref aPb, .int (nI 0), .int (nI 0)])), (m_text, .inl (cI, 8192, .inl (fun _ => 0))), (aO, .inl (cJ, 1, .inr (.inl (fun _ => 0))))]) (wc := [(aM, .inr (10, [.int 0, .ref m_text, .int 0, .int 0, .int 0, .int (-1), .ref m_paper, .int 0, .int 0, .ref m_firstHalf, .ref m_secondHalf, .ref m_stored, .ref m_proved, .int 0, .int 0, .int 0, .long 0, .long 0, .ref m_written, .ref m_places, .int 0, .int 0, .int 0, .int 0, .int 0, .int 0, .int 0, .int 0, .int 0, .ref m_levelKind, .ref m_levelStart, .ref m_levelApp, .ref m_levelHad, .ref m_levelScope, .ref m_levelId, .ref m_levelFirst, .ref m_levelSecond, .int 0, .ref m_scopeFirst, .ref m_scopeSecond, .ref m_scopeId, .int 0, .ref m_made, .int 0, .ref m_typeOf, .ref m_tasks, .int 0, .ref m_todo, .int 0, .ref m_renamed, .ref m_bound, .int 0, .int (-1), .int 0, .int 0, .int 0, .ref m_markA, .ref m_markB, .ref m_line, .int 0, .int 0]))]) (np := 0) (As := []) (rest := [.int (nI 0)]) (c_M_wipe l D cI cJ cB cZ aM m_text m_paper m_firstHalf m_secondHalf m_stored m_proved m_written m_places m_levelKind m_levelStart m_levelApp m_levelHad m_levelScope m_levelId m_levelFirst m_levelSecond m_scopeFirst m_scopeSecond m_scopeId m_made m_typeOf m_tasks m_todo m_renamed m_bound m_markA m_markB m_line 0 0 0 0 (-1) 0 0 0 0 0 0 0 0 0 0 0 0 0 0 0 0 0 0 0 0 (-1) 0 0 0 0 0 0 0 ) km_L_73 ki_M_wipe kv_M_wipe kz_M kk_M_wipe (by decide +kernel) S hW hA ⟨Nat.le_of_ble_eq_true rfl, Nat.le_of_ble_eq_true rfl⟩ ⟨Nat.le_of_ble_eq_true rfl, Nat.le_of_ble_eq_true rfl⟩ rfl 0 rfl [6] [0, 1, 2, 3, 4, 5, 7, 8] rfl (by decide) rfl (by decide) (by decide) rfl hl.1 rfl (Nat.le_of_ble_eq_true rfl) d_L_law_369 (fun r u H locs hp hW => ?_)
  obtain ⟨rfl, rfl⟩ := hp
  have hW : Wd D (tyl cI cJ cB cZ) A s s.heap H locs [(aX, .inr (9, [.ref aF, .ref aC, .ref aP, .ref aT, .ref aK, .ref aR, .ref aH, .ref aI, .int (nI 0)])), (aF, .inr (0, [.int (nI 0), .int (-1)])), (aT, .inr (3, [.ref aF, .ref aTb, .int (nI 0), .int (nI 0), .int (nI 0), .int (nI 0), .long 0, .long 0])), (aTb, .inl (cB, 8192, .inl (fun _ => 0))), (aK, .inr (4, [.ref aC, .ref aK0, .ref aK1, .ref aK2, .ref aK3, .ref aK4, .int (nI 0), .int (nI 0)])), (aP, .inr (2, [.ref aPb, .int (nI 0), .int (nI 0)])), (aM, .inr (10, [.int (nI 0), .ref m_text, .int 0, .int 0, .int 0, .int (-1), .ref m_paper, .int (nI 0), .int 0, .ref m_firstHalf, .ref m_secondHalf, .ref m_stored, .ref m_proved, .int 0, .int 0, .int 0, .long 0, .long 0, .ref m_written, .ref m_places, .int 0, .int 0, .int 0, .int 0, .int 0, .int 0, .int 0, .int 0, .int 0, .ref m_levelKind, .ref m_levelStart, .ref m_levelApp, .ref m_levelHad, .ref m_levelScope, .ref m_levelId, .ref m_levelFirst, .ref m_levelSecond, .int 0, .ref m_scopeFirst, .ref m_scopeSecond, .ref m_scopeId, .int 0, .ref m_made, .int 0, .ref m_typeOf, .ref m_tasks, .int 0, .ref m_todo, .int 0, .ref m_renamed, .ref m_bound, .int 0, .int (-1), .int 0, .int 0, .int 0, .ref m_markA, .ref m_markB, .ref m_line, .int 0, .int 0])), (m_text, .inl (cI, 8192, .inl (fun _ => 0))), (aO, .inl (cJ, 1, .inr (.inl (fun _ => 0))))] := hW.sub [0, 1, 2, 3, 4, 5, 8, 6, 7] (by decide) rfl
  refine lv_icmp_eq (tgt := 377) S.1 S.2.1 d_L_law_372 (by decide) (fun _ => ?_) (fun h => absurd h (by decide))
  exact law_end C (Nat.le_of_ble_eq_true rfl) (Nat.le_of_ble_eq_true rfl) hW (lv_sub hl [0, 4] rfl)
theorem sw_out {z : Int32} (h0 : ¬ z = nI 0) (h1 : ¬ z = nI 1) (h2 : ¬ z = nI 2) (h3 : ¬ z = nI 3) (h4 : ¬ z = nI 4) (h5 : ¬ z = nI 5) (h6 : ¬ z = nI 6) (h7 : ¬ z = nI 7) (h8 : ¬ z = nI 8) (h9 : ¬ z = nI 9) : z.toInt < 0 ∨ 9 < z.toInt := by
  by_cases a : z.toInt < 0
  · exact Or.inl a
  · by_cases q : 9 < z.toInt
    · exact Or.inr q
    · exfalso
      have e : z = nI z.toInt.toNat := Int32.toInt_inj.mp (by rw [nI_toInt (by omega)]; omega)
      have hk : z.toInt.toNat ≤ 9 := by omega
      generalize z.toInt.toNat = k at e hk
      rcases (show k = 0 ∨ k = 1 ∨ k = 2 ∨ k = 3 ∨ k = 4 ∨ k = 5 ∨ k = 6 ∨ k = 7 ∨ k = 8 ∨ k = 9 by omega) with rfl | rfl | rfl | rfl | rfl | rfl | rfl | rfl | rfl | rfl
      · exact h0 e
      · exact h1 e
      · exact h2 e
      · exact h3 e
      · exact h4 e
      · exact h5 e
      · exact h6 e
      · exact h7 e
      · exact h8 e
      · exact h9 e
theorem L_small {L : Nat} (h : L ≤ 4) (hn : ¬ L = 4) : Int32.ofNat L - nI 4 < nI 0 := by
  rcases (show L = 0 ∨ L = 1 ∨ L = 2 ∨ L = 3 by omega) with rfl | rfl | rfl | rfl <;> decide
set_option maxHeartbeats 4000000 in
set_option maxRecDepth 100000 in
theorem law_20 {p : Program} {l : Launch} {e : Env} {s : State} {m : MethodId} {below : List Frame} {meth : Method} {c : Code} {b L : Nat} {xs : Nat → Int32} {D : va_G} {cI cJ cB cZ : ClassId} {A : Nat → Prop} (aX aF aC aP aT aK aR aH aI aK0 aK1 aK2 aK3 aK4 aTb aPb aM m_text m_paper m_firstHalf m_secondHalf m_stored m_proved m_written m_places m_levelKind m_levelStart m_levelApp m_levelHad m_levelScope m_levelId m_levelFirst m_levelSecond m_scopeFirst m_scopeSecond m_scopeId m_made m_typeOf m_tasks m_todo m_renamed m_bound m_markA m_markB m_line aO : Nat) {H : Heap} {locs : List Loc} {ls : Array Slot} (hL : L ≤ 4) (C : LawC p l s m meth c b L xs A) (hW : Wd D (tyl cI cJ cB cZ) A s s.heap H locs [(aX, .inr (9, [.ref aF, .ref aC, .ref aP, .ref aT, .ref aK, .ref aR, .ref aH, .ref aI, .int (nI 0)])), (aF, .inr (0, [.int (nI 0), .int (-1)])), (aT, .inr (3, [.ref aF, .ref aTb, .int (nI 0), .int (nI 0), .int (nI 0), .int (nI 0), .long 0, .long 0])), (aTb, .inl (cB, 8192, .inl (fun _ => 0))), (aK, .inr (4, [.ref aC, .ref aK0, .ref aK1, .ref aK2, .ref aK3, .ref aK4, .int (nI 0), .int (nI 0)])), (aP, .inr (2, [.ref aPb, .int (nI 0), .int (nI 0)])), (aM, .inr (10, [.int 0, .ref m_text, .int 0, .int 0, .int 0, .int (-1), .ref m_paper, .int 0, .int 0, .ref m_firstHalf, .ref m_secondHalf, .ref m_stored, .ref m_proved, .int 0, .int 0, .int 0, .long 0, .long 0, .ref m_written, .ref m_places, .int 0, .int 0, .int 0, .int 0, .int 0, .int 0, .int 0, .int 0, .int 0, .ref m_levelKind, .ref m_levelStart, .ref m_levelApp, .ref m_levelHad, .ref m_levelScope, .ref m_levelId, .ref m_levelFirst, .ref m_levelSecond, .int 0, .ref m_scopeFirst, .ref m_scopeSecond, .ref m_scopeId, .int 0, .ref m_made, .int 0, .ref m_typeOf, .ref m_tasks, .int 0, .ref m_todo, .int 0, .ref m_renamed, .ref m_bound, .int 0, .int (-1), .int 0, .int 0, .int 0, .ref m_markA, .ref m_markB, .ref m_line, .int 0, .int 0])), (m_text, .inl (cI, 8192, .inl (fun _ => 0))), (aO, .inl (cJ, 1, .inr (.inl (fun _ => 0))))]) (hl : lv_has ls 7 [(3, .ref aO), (2, .ref aM), (1, .ref aX), (0, .ref b)]) : W p l e room_1 s m #[Value.ref b] below meth c H locs 100 400000 (lw_Z below #[Value.ref b] s) (F0 m 20 ls []) := by
  obtain ⟨S, hX, hbl, hbA, hA, hAq, hr, hlk, hTw, htr⟩ := id C
  by_cases h4 : L = 4
  · subst h4
    refine lv_iconst (v := (nI 0)) S.1 S.2.1 d_L_law_20 (by decide) ?_
    refine lv_istore (lv' := [(4, .int (nI 0)), (3, .ref aO), (2, .ref aM), (1, .ref aX), (0, .ref b)]) S.1 S.2.1 d_L_law_21 hl (by decide) rfl (fun ls hl => ?_)
    refine lv_iload S.1 S.2.1 d_L_law_23 (lv_at hl 0 rfl) ?_
    refine lv_aload_n S.1 S.2.1 d_L_law_25 rfl (lv_at hl 4 rfl) ?_
    refine va_slen S.1 S.2.1 hX hbl hbA hW.2.2.2 d_L_law_26 ?_
    refine lv_iconst (v := (nI 4)) S.1 S.2.1 d_L_law_27 (by decide) ?_
    refine lv_isub S.1 S.2.1 d_L_law_28 ?_
    refine lv_icmp_gt (tgt := 383) S.1 S.2.1 d_L_law_29 (by decide) (fun c_29 => absurd c_29 (by decide)) (fun c_29 => ?_)
    refine lv_aload_n S.1 S.2.1 d_L_law_32 rfl (lv_at hl 4 rfl) ?_
    refine lv_iload S.1 S.2.1 d_L_law_33 (lv_at hl 0 rfl) ?_
    refine va_sld S.1 S.2.1 hX hbl hbA hW.2.2.2 (vp_in_nI (by decide) (by decide)) d_L_law_35 ?_
    refine top_eq (y := xs 0) (congrArg xs (by decide)) ?_
    refine lv_bipush (v := (nI 15)) S.1 S.2.1 d_L_law_36 (by decide) ?_
    refine lv_iand S.1 S.2.1 d_L_law_38 ?_
    by_cases e_39_0 : (xs 0) &&& (nI 15) = nI 0
    · refine top_eq (y := nI 0) (by rw [e_39_0]) ?_
      refine lv_tableIn (tgt := 92) (off := 53) S.1 S.2.1 d_L_law_39 (by decide) (by decide) (by decide) (by decide) ?_
      exact law_0 aX aF aC aP aT aK aR aH aI aK0 aK1 aK2 aK3 aK4 aTb aPb aM m_text m_paper m_firstHalf m_secondHalf m_stored m_proved m_written m_places m_levelKind m_levelStart m_levelApp m_levelHad m_levelScope m_levelId m_levelFirst m_levelSecond m_scopeFirst m_scopeSecond m_scopeId m_made m_typeOf m_tasks m_todo m_renamed m_bound m_markA m_markB m_line aO C hW hl
    by_cases e_39_1 : (xs 0) &&& (nI 15) = nI 1
    · refine top_eq (y := nI 1) (by rw [e_39_1]) ?_
      refine lv_tableIn (tgt := 192) (off := 153) S.1 S.2.1 d_L_law_39 (by decide) (by decide) (by decide) (by decide) ?_
      exact law_1 aX aF aC aP aT aK aR aH aI aK0 aK1 aK2 aK3 aK4 aTb aPb aM m_text m_paper m_firstHalf m_secondHalf m_stored m_proved m_written m_places m_levelKind m_levelStart m_levelApp m_levelHad m_levelScope m_levelId m_levelFirst m_levelSecond m_scopeFirst m_scopeSecond m_scopeId m_made m_typeOf m_tasks m_todo m_renamed m_bound m_markA m_markB m_line aO C hW hl
    by_cases e_39_2 : (xs 0) &&& (nI 15) = nI 2
    · refine top_eq (y := nI 2) (by rw [e_39_2]) ?_
      refine lv_tableIn (tgt := 205) (off := 166) S.1 S.2.1 d_L_law_39 (by decide) (by decide) (by decide) (by decide) ?_
      exact law_2 aX aF aC aP aT aK aR aH aI aK0 aK1 aK2 aK3 aK4 aTb aPb aM m_text m_paper m_firstHalf m_secondHalf m_stored m_proved m_written m_places m_levelKind m_levelStart m_levelApp m_levelHad m_levelScope m_levelId m_levelFirst m_levelSecond m_scopeFirst m_scopeSecond m_scopeId m_made m_typeOf m_tasks m_todo m_renamed m_bound m_markA m_markB m_line aO C hW hl
    by_cases e_39_3 : (xs 0) &&& (nI 15) = nI 3
    · refine top_eq (y := nI 3) (by rw [e_39_3]) ?_
      refine lv_tableIn (tgt := 218) (off := 179) S.1 S.2.1 d_L_law_39 (by decide) (by decide) (by decide) (by decide) ?_
      exact law_3 aX aF aC aP aT aK aR aH aI aK0 aK1 aK2 aK3 aK4 aTb aPb aM m_text m_paper m_firstHalf m_secondHalf m_stored m_proved m_written m_places m_levelKind m_levelStart m_levelApp m_levelHad m_levelScope m_levelId m_levelFirst m_levelSecond m_scopeFirst m_scopeSecond m_scopeId m_made m_typeOf m_tasks m_todo m_renamed m_bound m_markA m_markB m_line aO C hW hl
    by_cases e_39_4 : (xs 0) &&& (nI 15) = nI 4
    · refine top_eq (y := nI 4) (by rw [e_39_4]) ?_
      refine lv_tableIn (tgt := 231) (off := 192) S.1 S.2.1 d_L_law_39 (by decide) (by decide) (by decide) (by decide) ?_
      exact law_4 aX aF aC aP aT aK aR aH aI aK0 aK1 aK2 aK3 aK4 aTb aPb aM m_text m_paper m_firstHalf m_secondHalf m_stored m_proved m_written m_places m_levelKind m_levelStart m_levelApp m_levelHad m_levelScope m_levelId m_levelFirst m_levelSecond m_scopeFirst m_scopeSecond m_scopeId m_made m_typeOf m_tasks m_todo m_renamed m_bound m_markA m_markB m_line aO C hW hl
    by_cases e_39_5 : (xs 0) &&& (nI 15) = nI 5
    · refine top_eq (y := nI 5) (by rw [e_39_5]) ?_
      refine lv_tableIn (tgt := 244) (off := 205) S.1 S.2.1 d_L_law_39 (by decide) (by decide) (by decide) (by decide) ?_
      exact law_5 aX aF aC aP aT aK aR aH aI aK0 aK1 aK2 aK3 aK4 aTb aPb aM m_text m_paper m_firstHalf m_secondHalf m_stored m_proved m_written m_places m_levelKind m_levelStart m_levelApp m_levelHad m_levelScope m_levelId m_levelFirst m_levelSecond m_scopeFirst m_scopeSecond m_scopeId m_made m_typeOf m_tasks m_todo m_renamed m_bound m_markA m_markB m_line aO C hW hl
    by_cases e_39_6 : (xs 0) &&& (nI 15) = nI 6
    · refine top_eq (y := nI 6) (by rw [e_39_6]) ?_
      refine lv_tableIn (tgt := 257) (off := 218) S.1 S.2.1 d_L_law_39 (by decide) (by decide) (by decide) (by decide) ?_
      exact law_6 aX aF aC aP aT aK aR aH aI aK0 aK1 aK2 aK3 aK4 aTb aPb aM m_text m_paper m_firstHalf m_secondHalf m_stored m_proved m_written m_places m_levelKind m_levelStart m_levelApp m_levelHad m_levelScope m_levelId m_levelFirst m_levelSecond m_scopeFirst m_scopeSecond m_scopeId m_made m_typeOf m_tasks m_todo m_renamed m_bound m_markA m_markB m_line aO C hW hl
    by_cases e_39_7 : (xs 0) &&& (nI 15) = nI 7
    · refine top_eq (y := nI 7) (by rw [e_39_7]) ?_
      refine lv_tableIn (tgt := 325) (off := 286) S.1 S.2.1 d_L_law_39 (by decide) (by decide) (by decide) (by decide) ?_
      exact law_7 aX aF aC aP aT aK aR aH aI aK0 aK1 aK2 aK3 aK4 aTb aPb aM m_text m_paper m_firstHalf m_secondHalf m_stored m_proved m_written m_places m_levelKind m_levelStart m_levelApp m_levelHad m_levelScope m_levelId m_levelFirst m_levelSecond m_scopeFirst m_scopeSecond m_scopeId m_made m_typeOf m_tasks m_todo m_renamed m_bound m_markA m_markB m_line aO C hW hl
    by_cases e_39_8 : (xs 0) &&& (nI 15) = nI 8
    · refine top_eq (y := nI 8) (by rw [e_39_8]) ?_
      refine lv_tableIn (tgt := 338) (off := 299) S.1 S.2.1 d_L_law_39 (by decide) (by decide) (by decide) (by decide) ?_
      exact law_8 aX aF aC aP aT aK aR aH aI aK0 aK1 aK2 aK3 aK4 aTb aPb aM m_text m_paper m_firstHalf m_secondHalf m_stored m_proved m_written m_places m_levelKind m_levelStart m_levelApp m_levelHad m_levelScope m_levelId m_levelFirst m_levelSecond m_scopeFirst m_scopeSecond m_scopeId m_made m_typeOf m_tasks m_todo m_renamed m_bound m_markA m_markB m_line aO C hW hl
    by_cases e_39_9 : (xs 0) &&& (nI 15) = nI 9
    · refine top_eq (y := nI 9) (by rw [e_39_9]) ?_
      refine lv_tableIn (tgt := 364) (off := 325) S.1 S.2.1 d_L_law_39 (by decide) (by decide) (by decide) (by decide) ?_
      exact law_9 aX aF aC aP aT aK aR aH aI aK0 aK1 aK2 aK3 aK4 aTb aPb aM m_text m_paper m_firstHalf m_secondHalf m_stored m_proved m_written m_places m_levelKind m_levelStart m_levelApp m_levelHad m_levelScope m_levelId m_levelFirst m_levelSecond m_scopeFirst m_scopeSecond m_scopeId m_made m_typeOf m_tasks m_todo m_renamed m_bound m_markA m_markB m_line aO C hW hl
    refine lv_tableOut (tgt := 377) S.1 S.2.1 d_L_law_39 (sw_out e_39_0 e_39_1 e_39_2 e_39_3 e_39_4 e_39_5 e_39_6 e_39_7 e_39_8 e_39_9) (by decide) ?_
    exact law_end C (Nat.le_of_ble_eq_true rfl) (Nat.le_of_ble_eq_true rfl) hW (lv_sub hl [0, 4] rfl)
  · refine lv_iconst (v := (nI 0)) S.1 S.2.1 d_L_law_20 (by decide) ?_
    refine lv_istore (lv' := [(4, .int (nI 0)), (3, .ref aO), (2, .ref aM), (1, .ref aX), (0, .ref b)]) S.1 S.2.1 d_L_law_21 hl (by decide) rfl (fun ls hl => ?_)
    refine lv_iload S.1 S.2.1 d_L_law_23 (lv_at hl 0 rfl) ?_
    refine lv_aload_n S.1 S.2.1 d_L_law_25 rfl (lv_at hl 4 rfl) ?_
    refine va_slen S.1 S.2.1 hX hbl hbA hW.2.2.2 d_L_law_26 ?_
    refine lv_iconst (v := (nI 4)) S.1 S.2.1 d_L_law_27 (by decide) ?_
    refine lv_isub S.1 S.2.1 d_L_law_28 ?_
    refine lv_icmp_gt (tgt := 383) S.1 S.2.1 d_L_law_29 (by decide) (fun c_29 => ?_) (fun c_29 => absurd c_29 (fun z => z (L_small hL h4)))
    exact law_out C (Nat.le_of_ble_eq_true rfl) (Nat.le_of_ble_eq_true rfl) hW
set_option maxHeartbeats 8000000 in
set_option maxRecDepth 100000 in
theorem law_0to20 {p : Program} {l : Launch} {e : Env} {s : State} {m : MethodId} {below : List Frame} {meth : Method} {c : Code} {b L : Nat} {xs : Nat → Int32} {D : va_G} {cI cJ cB cZ : ClassId} {A : Nat → Prop} {ls : Array Slot} (hL : L ≤ 4) (C : LawC p l s m meth c b L xs A) (hW : Wd D (tyl cI cJ cB cZ) A s s.heap s.heap [] []) (hl : lv_has ls 7 [(0, .ref b)]) : W p l e room_1 s m #[Value.ref b] below meth c s.heap [] 0 0 (lw_Z below #[Value.ref b] s) (F0 m 0 ls []) := by
  obtain ⟨S, hX, hbl, hbA, hA, hAq, hr, hlk, hTw, htr⟩ := id C
  refine g_new (ci := 9) (fs := [.null, .null, .null, .null, .null, .null, .null, .null, .int 0]) i_X ft_X ft_X_ok S hW hA kc_L_8 kn_X kz_X rfl (dv_X) (Nat.le_of_ble_eq_true rfl) (Nat.le_of_ble_eq_true rfl) d_L_law_0 (fun q_1 H hW => ?_)
  have hW : Wd D (tyl cI cJ cB cZ) A s s.heap H _ [(q_1, .inr (9, [.null, .null, .null, .null, .null, .null, .null, .null, .int 0]))] := hW
  refine lv_dup S.1 S.2.1 d_L_law_3 rfl ?_
  refine callI_v (wr := []) (wc := [(q_1, .inr (9, [.null, .null, .null, .null, .null, .null, .null, .null, .int 0]))]) (np := 0) (As := []) (rest := [.ref q_1]) (c_X_init l D cI cJ cB cZ q_1 ) km_L_21 ki_X_init kz_X kk_X_init (by decide +kernel) rfl S hW hA ⟨Nat.le_of_ble_eq_true rfl, Nat.le_of_ble_eq_true rfl⟩ ⟨Nat.le_of_ble_eq_true rfl, Nat.le_of_ble_eq_true rfl⟩ [0] [] rfl (by decide) rfl (by decide) (by decide) rfl hl.1 rfl (Nat.le_of_ble_eq_true rfl) d_L_law_4 (fun u H locs hp hW => ?_)
  obtain ⟨aF_2, aC_3, c0_4, c1_5, c2_6, c3_7, c4_8, aP_9, p0_10, aT_11, t0_12, aK_13, k0_14, k1_15, k2_16, k3_17, k4_18, aR_19, r0_20, r1_21, aH_22, h0_23, aU_24, u0_25, u1_26, u2_27, u3_28, u4_29, aI_30, i0_31, i1_32, i2_33, rfl⟩ := hp
  have hW : Wd D (tyl cI cJ cB cZ) A s s.heap H locs [(q_1, .inr (9, [.ref aF_2, .ref aC_3, .ref aP_9, .ref aT_11, .ref aK_13, .ref aR_19, .ref aH_22, .ref aI_30, .int (nI 0)])), (aF_2, .inr (0, [.int (nI 0), .int (-1)])), (aC_3, .inr (1, [.ref c0_4, .ref c1_5, .ref c2_6, .ref c3_7, .ref c4_8])), (c0_4, .inl (cI, 21092, .inl (fun _ => 0))), (c1_5, .inl (cI, 21092, .inl (fun _ => 0))), (c2_6, .inl (cI, 21092, .inl (fun _ => 0))), (c3_7, .inl (cI, 21092, .inl (fun _ => 0))), (c4_8, .inl (cI, 21092, .inl (fun _ => 0))), (aP_9, .inr (2, [.ref p0_10, .int (nI 0), .int (nI 0)])), (p0_10, .inl (cB, 4096, .inl (fun _ => 0))), (aT_11, .inr (3, [.ref aF_2, .ref t0_12, .int (nI 0), .int (nI 0), .int (nI 0), .int (nI 0), .long 0, .long 0])), (t0_12, .inl (cB, 8192, .inl (fun _ => 0))), (aK_13, .inr (4, [.ref aC_3, .ref k0_14, .ref k1_15, .ref k2_16, .ref k3_17, .ref k4_18, .int (nI 0), .int (nI 0)])), (k0_14, .inl (cJ, 48, .inr (.inl (fun _ => 0)))), (k1_15, .inl (cJ, 48, .inr (.inl (fun _ => 0)))), (k2_16, .inl (cI, 48, .inl (fun _ => 0))), (k3_17, .inl (cI, 48, .inl (fun _ => 0))), (k4_18, .inl (cZ, 48, .inl (fun _ => 0))), (aR_19, .inr (5, [.ref aT_11, .ref aC_3, .ref aK_13, .ref aF_2, .ref r0_20, .ref r1_21, .int (nI 0), .int (nI 0), .int (nI 0), .int (nI 0), .int (nI 0), .int (nI 0), .int (nI 0), .long 0, .long 0, .int (nI 0), .int (nI 0)])), (r0_20, .inl (cJ, 40, .inr (.inl (fun _ => 0)))), (r1_21, .inl (cJ, 40, .inr (.inl (fun _ => 0)))), (aH_22, .inr (7, [.ref aC_3, .ref aK_13, .ref aF_2, .ref aU_24, .ref h0_23, .int (nI 0)])), (h0_23, .inl (cI, 40, .inl (fun _ => 0))), (aU_24, .inr (6, [.ref aC_3, .ref u0_25, .ref u1_26, .ref u2_27, .ref u3_28, .ref u4_29, .int (-1), .int (nI 0), .int (nI 0), .int (nI 0), .int (nI 0)])), (u0_25, .inl (cI, 602, .inl (fun _ => 0))), (u1_26, .inl (cI, 602, .inl (fun _ => 0))), (u2_27, .inl (cI, 602, .inl (fun _ => 0))), (u3_28, .inl (cI, 602, .inl (fun _ => 0))), (u4_29, .inl (cI, 602, .inl (fun _ => 0))), (aI_30, .inr (8, [.ref aC_3, .ref aK_13, .ref aP_9, .ref i0_31, .ref i1_32, .ref i2_33, .int (nI 0), .int (nI 0)])), (i0_31, .inl (cZ, 300, .inl (fun _ => 0))), (i1_32, .inl (cI, 600, .inl (fun _ => 0))), (i2_33, .inl (cI, 600, .inl (fun _ => 0)))] := hW
  refine lv_astore_n (lv' := [(1, .ref q_1), (0, .ref b)]) S.1 S.2.1 d_L_law_7 rfl hl (by decide) rfl (fun ls hl => ?_)
  refine g_new (ci := 10) (fs := [.int 0, .null, .int 0, .int 0, .int 0, .int 0, .null, .int 0, .int 0, .null, .null, .null, .null, .int 0, .int 0, .int 0, .long 0, .long 0, .null, .null, .int 0, .int 0, .int 0, .int 0, .int 0, .int 0, .int 0, .int 0, .int 0, .null, .null, .null, .null, .null, .null, .null, .null, .int 0, .null, .null, .null, .int 0, .null, .int 0, .null, .null, .int 0, .null, .int 0, .null, .null, .int 0, .int 0, .int 0, .int 0, .int 0, .null, .null, .null, .int 0, .int 0]) i_M ft_M ft_M_ok S hW hA kc_L_22 kn_M kz_M rfl (dv_M) (Nat.le_of_ble_eq_true rfl) (Nat.le_of_ble_eq_true rfl) d_L_law_8 (fun q_34 H hW => ?_)
  have hW : Wd D (tyl cI cJ cB cZ) A s s.heap H _ [(q_1, .inr (9, [.ref aF_2, .ref aC_3, .ref aP_9, .ref aT_11, .ref aK_13, .ref aR_19, .ref aH_22, .ref aI_30, .int (nI 0)])), (aF_2, .inr (0, [.int (nI 0), .int (-1)])), (aC_3, .inr (1, [.ref c0_4, .ref c1_5, .ref c2_6, .ref c3_7, .ref c4_8])), (c0_4, .inl (cI, 21092, .inl (fun _ => 0))), (c1_5, .inl (cI, 21092, .inl (fun _ => 0))), (c2_6, .inl (cI, 21092, .inl (fun _ => 0))), (c3_7, .inl (cI, 21092, .inl (fun _ => 0))), (c4_8, .inl (cI, 21092, .inl (fun _ => 0))), (aP_9, .inr (2, [.ref p0_10, .int (nI 0), .int (nI 0)])), (p0_10, .inl (cB, 4096, .inl (fun _ => 0))), (aT_11, .inr (3, [.ref aF_2, .ref t0_12, .int (nI 0), .int (nI 0), .int (nI 0), .int (nI 0), .long 0, .long 0])), (t0_12, .inl (cB, 8192, .inl (fun _ => 0))), (aK_13, .inr (4, [.ref aC_3, .ref k0_14, .ref k1_15, .ref k2_16, .ref k3_17, .ref k4_18, .int (nI 0), .int (nI 0)])), (k0_14, .inl (cJ, 48, .inr (.inl (fun _ => 0)))), (k1_15, .inl (cJ, 48, .inr (.inl (fun _ => 0)))), (k2_16, .inl (cI, 48, .inl (fun _ => 0))), (k3_17, .inl (cI, 48, .inl (fun _ => 0))), (k4_18, .inl (cZ, 48, .inl (fun _ => 0))), (aR_19, .inr (5, [.ref aT_11, .ref aC_3, .ref aK_13, .ref aF_2, .ref r0_20, .ref r1_21, .int (nI 0), .int (nI 0), .int (nI 0), .int (nI 0), .int (nI 0), .int (nI 0), .int (nI 0), .long 0, .long 0, .int (nI 0), .int (nI 0)])), (r0_20, .inl (cJ, 40, .inr (.inl (fun _ => 0)))), (r1_21, .inl (cJ, 40, .inr (.inl (fun _ => 0)))), (aH_22, .inr (7, [.ref aC_3, .ref aK_13, .ref aF_2, .ref aU_24, .ref h0_23, .int (nI 0)])), (h0_23, .inl (cI, 40, .inl (fun _ => 0))), (aU_24, .inr (6, [.ref aC_3, .ref u0_25, .ref u1_26, .ref u2_27, .ref u3_28, .ref u4_29, .int (-1), .int (nI 0), .int (nI 0), .int (nI 0), .int (nI 0)])), (u0_25, .inl (cI, 602, .inl (fun _ => 0))), (u1_26, .inl (cI, 602, .inl (fun _ => 0))), (u2_27, .inl (cI, 602, .inl (fun _ => 0))), (u3_28, .inl (cI, 602, .inl (fun _ => 0))), (u4_29, .inl (cI, 602, .inl (fun _ => 0))), (aI_30, .inr (8, [.ref aC_3, .ref aK_13, .ref aP_9, .ref i0_31, .ref i1_32, .ref i2_33, .int (nI 0), .int (nI 0)])), (i0_31, .inl (cZ, 300, .inl (fun _ => 0))), (i1_32, .inl (cI, 600, .inl (fun _ => 0))), (i2_33, .inl (cI, 600, .inl (fun _ => 0))), (q_34, .inr (10, [.int 0, .null, .int 0, .int 0, .int 0, .int 0, .null, .int 0, .int 0, .null, .null, .null, .null, .int 0, .int 0, .int 0, .long 0, .long 0, .null, .null, .int 0, .int 0, .int 0, .int 0, .int 0, .int 0, .int 0, .int 0, .int 0, .null, .null, .null, .null, .null, .null, .null, .null, .int 0, .null, .null, .null, .int 0, .null, .int 0, .null, .null, .int 0, .null, .int 0, .null, .null, .int 0, .int 0, .int 0, .int 0, .int 0, .null, .null, .null, .int 0, .int 0]))] := hW
  refine lv_dup S.1 S.2.1 d_L_law_11 rfl ?_
  refine callI_v (wr := [(q_1, .inr (9, [.ref aF_2, .ref aC_3, .ref aP_9, .ref aT_11, .ref aK_13, .ref aR_19, .ref aH_22, .ref aI_30, .int (nI 0)])), (aF_2, .inr (0, [.int (nI 0), .int (-1)])), (aC_3, .inr (1, [.ref c0_4, .ref c1_5, .ref c2_6, .ref c3_7, .ref c4_8])), (c0_4, .inl (cI, 21092, .inl (fun _ => 0))), (c1_5, .inl (cI, 21092, .inl (fun _ => 0))), (c2_6, .inl (cI, 21092, .inl (fun _ => 0))), (c3_7, .inl (cI, 21092, .inl (fun _ => 0))), (c4_8, .inl (cI, 21092, .inl (fun _ => 0))), (aP_9, .inr (2, [.ref p0_10, .int (nI 0), .int (nI 0)])), (p0_10, .inl (cB, 4096, .inl (fun _ => 0))), (aT_11, .inr (3, [.ref aF_2, .ref t0_12, .int (nI 0), .int (nI 0), .int (nI 0), .int (nI 0), .long 0, .long 0])), (t0_12, .inl (cB, 8192, .inl (fun _ => 0))), (aK_13, .inr (4, [.ref aC_3, .ref k0_14, .ref k1_15, .ref k2_16, .ref k3_17, .ref k4_18, .int (nI 0), .int (nI 0)])), (k0_14, .inl (cJ, 48, .inr (.inl (fun _ => 0)))), (k1_15, .inl (cJ, 48, .inr (.inl (fun _ => 0)))), (k2_16, .inl (cI, 48, .inl (fun _ => 0))), (k3_17, .inl (cI, 48, .inl (fun _ => 0))), (k4_18, .inl (cZ, 48, .inl (fun _ => 0))), (aR_19, .inr (5, [.ref aT_11, .ref aC_3, .ref aK_13, .ref aF_2, .ref r0_20, .ref r1_21, .int (nI 0), .int (nI 0), .int (nI 0), .int (nI 0), .int (nI 0), .int (nI 0), .int (nI 0), .long 0, .long 0, .int (nI 0), .int (nI 0)])), (r0_20, .inl (cJ, 40, .inr (.inl (fun _ => 0)))), (r1_21, .inl (cJ, 40, .inr (.inl (fun _ => 0)))), (aH_22, .inr (7, [.ref aC_3, .ref aK_13, .ref aF_2, .ref aU_24, .ref h0_23, .int (nI 0)])), (h0_23, .inl (cI, 40, .inl (fun _ => 0))), (aU_24, .inr (6, [.ref aC_3, .ref u0_25, .ref u1_26, .ref u2_27, .ref u3_28, .ref u4_29, .int (-1), .int (nI 0), .int (nI 0), .int (nI 0), .int (nI 0)])), (u0_25, .inl (cI, 602, .inl (fun _ => 0))), (u1_26, .inl (cI, 602, .inl (fun _ => 0))), (u2_27, .inl (cI, 602, .inl (fun _ => 0))), (u3_28, .inl (cI, 602, .inl (fun _ => 0))), (u4_29, .inl (cI, 602, .inl (fun _ => 0))), (aI_30, .inr (8, [.ref aC_3, .ref aK_13, .ref aP_9, .ref i0_31, .ref i1_32, .ref i2_33, .int (nI 0), .int (nI 0)])), (i0_31, .inl (cZ, 300, .inl (fun _ => 0))), (i1_32, .inl (cI, 600, .inl (fun _ => 0))), (i2_33, .inl (cI, 600, .inl (fun _ => 0)))]) (wc := [(q_34, .inr (10, [.int 0, .null, .int 0, .int 0, .int 0, .int 0, .null, .int 0, .int 0, .null, .null, .null, .null, .int 0, .int 0, .int 0, .long 0, .long 0, .null, .null, .int 0, .int 0, .int 0, .int 0, .int 0, .int 0, .int 0, .int 0, .int 0, .null, .null, .null, .null, .null, .null, .null, .null, .int 0, .null, .null, .null, .int 0, .null, .int 0, .null, .null, .int 0, .null, .int 0, .null, .null, .int 0, .int 0, .int 0, .int 0, .int 0, .null, .null, .null, .int 0, .int 0]))]) (np := 0) (As := []) (rest := [.ref q_34]) (c_M_init l D cI cJ cB cZ q_34 ) km_L_24 ki_M_init kz_M kk_M_init (by decide +kernel) rfl S hW hA ⟨Nat.le_of_ble_eq_true rfl, Nat.le_of_ble_eq_true rfl⟩ ⟨Nat.le_of_ble_eq_true rfl, Nat.le_of_ble_eq_true rfl⟩ [33] [0, 1, 2, 3, 4, 5, 6, 7, 8, 9, 10, 11, 12, 13, 14, 15, 16, 17, 18, 19, 20, 21, 22, 23, 24, 25, 26, 27, 28, 29, 30, 31, 32] rfl (by decide) rfl (by decide) (by decide) rfl hl.1 rfl (Nat.le_of_ble_eq_true rfl) d_L_law_12 (fun u H locs hp hW => ?_)
  obtain ⟨m_text_35, m_paper_36, m_firstHalf_37, m_secondHalf_38, m_stored_39, m_proved_40, m_written_41, m_places_42, m_levelKind_43, m_levelStart_44, m_levelApp_45, m_levelHad_46, m_levelScope_47, m_levelId_48, m_levelFirst_49, m_levelSecond_50, m_scopeFirst_51, m_scopeSecond_52, m_scopeId_53, m_made_54, m_typeOf_55, m_tasks_56, m_todo_57, m_renamed_58, m_bound_59, m_markA_60, m_markB_61, m_line_62, rfl⟩ := hp
  have hW : Wd D (tyl cI cJ cB cZ) A s s.heap H locs [(q_1, .inr (9, [.ref aF_2, .ref aC_3, .ref aP_9, .ref aT_11, .ref aK_13, .ref aR_19, .ref aH_22, .ref aI_30, .int (nI 0)])), (aF_2, .inr (0, [.int (nI 0), .int (-1)])), (aC_3, .inr (1, [.ref c0_4, .ref c1_5, .ref c2_6, .ref c3_7, .ref c4_8])), (c0_4, .inl (cI, 21092, .inl (fun _ => 0))), (c1_5, .inl (cI, 21092, .inl (fun _ => 0))), (c2_6, .inl (cI, 21092, .inl (fun _ => 0))), (c3_7, .inl (cI, 21092, .inl (fun _ => 0))), (c4_8, .inl (cI, 21092, .inl (fun _ => 0))), (aP_9, .inr (2, [.ref p0_10, .int (nI 0), .int (nI 0)])), (p0_10, .inl (cB, 4096, .inl (fun _ => 0))), (aT_11, .inr (3, [.ref aF_2, .ref t0_12, .int (nI 0), .int (nI 0), .int (nI 0), .int (nI 0), .long 0, .long 0])), (t0_12, .inl (cB, 8192, .inl (fun _ => 0))), (aK_13, .inr (4, [.ref aC_3, .ref k0_14, .ref k1_15, .ref k2_16, .ref k3_17, .ref k4_18, .int (nI 0), .int (nI 0)])), (k0_14, .inl (cJ, 48, .inr (.inl (fun _ => 0)))), (k1_15, .inl (cJ, 48, .inr (.inl (fun _ => 0)))), (k2_16, .inl (cI, 48, .inl (fun _ => 0))), (k3_17, .inl (cI, 48, .inl (fun _ => 0))), (k4_18, .inl (cZ, 48, .inl (fun _ => 0))), (aR_19, .inr (5, [.ref aT_11, .ref aC_3, .ref aK_13, .ref aF_2, .ref r0_20, .ref r1_21, .int (nI 0), .int (nI 0), .int (nI 0), .int (nI 0), .int (nI 0), .int (nI 0), .int (nI 0), .long 0, .long 0, .int (nI 0), .int (nI 0)])), (r0_20, .inl (cJ, 40, .inr (.inl (fun _ => 0)))), (r1_21, .inl (cJ, 40, .inr (.inl (fun _ => 0)))), (aH_22, .inr (7, [.ref aC_3, .ref aK_13, .ref aF_2, .ref aU_24, .ref h0_23, .int (nI 0)])), (h0_23, .inl (cI, 40, .inl (fun _ => 0))), (aU_24, .inr (6, [.ref aC_3, .ref u0_25, .ref u1_26, .ref u2_27, .ref u3_28, .ref u4_29, .int (-1), .int (nI 0), .int (nI 0), .int (nI 0), .int (nI 0)])), (u0_25, .inl (cI, 602, .inl (fun _ => 0))), (u1_26, .inl (cI, 602, .inl (fun _ => 0))), (u2_27, .inl (cI, 602, .inl (fun _ => 0))), (u3_28, .inl (cI, 602, .inl (fun _ => 0))), (u4_29, .inl (cI, 602, .inl (fun _ => 0))), (aI_30, .inr (8, [.ref aC_3, .ref aK_13, .ref aP_9, .ref i0_31, .ref i1_32, .ref i2_33, .int (nI 0), .int (nI 0)])), (i0_31, .inl (cZ, 300, .inl (fun _ => 0))), (i1_32, .inl (cI, 600, .inl (fun _ => 0))), (i2_33, .inl (cI, 600, .inl (fun _ => 0))), (q_34, .inr (10, [.int 0, .ref m_text_35, .int 0, .int 0, .int 0, .int (-1), .ref m_paper_36, .int 0, .int 0, .ref m_firstHalf_37, .ref m_secondHalf_38, .ref m_stored_39, .ref m_proved_40, .int 0, .int 0, .int 0, .long 0, .long 0, .ref m_written_41, .ref m_places_42, .int 0, .int 0, .int 0, .int 0, .int 0, .int 0, .int 0, .int 0, .int 0, .ref m_levelKind_43, .ref m_levelStart_44, .ref m_levelApp_45, .ref m_levelHad_46, .ref m_levelScope_47, .ref m_levelId_48, .ref m_levelFirst_49, .ref m_levelSecond_50, .int 0, .ref m_scopeFirst_51, .ref m_scopeSecond_52, .ref m_scopeId_53, .int 0, .ref m_made_54, .int 0, .ref m_typeOf_55, .ref m_tasks_56, .int 0, .ref m_todo_57, .int 0, .ref m_renamed_58, .ref m_bound_59, .int 0, .int (-1), .int 0, .int 0, .int 0, .ref m_markA_60, .ref m_markB_61, .ref m_line_62, .int 0, .int 0])), (m_text_35, .inl (cI, 8192, .inl (fun _ => 0))), (m_paper_36, .inl (cI, 4096, .inl (fun _ => 0))), (m_firstHalf_37, .inl (cJ, 48, .inr (.inl (fun _ => 0)))), (m_secondHalf_38, .inl (cJ, 48, .inr (.inl (fun _ => 0)))), (m_stored_39, .inl (cI, 43680, .inl (fun _ => 0))), (m_proved_40, .inl (cI, 48, .inl (fun _ => 0))), (m_written_41, .inl (cI, 2000, .inl (fun _ => 0))), (m_places_42, .inl (cI, 2000, .inl (fun _ => 0))), (m_levelKind_43, .inl (cI, 50, .inl (fun _ => 0))), (m_levelStart_44, .inl (cI, 50, .inl (fun _ => 0))), (m_levelApp_45, .inl (cI, 50, .inl (fun _ => 0))), (m_levelHad_46, .inl (cI, 50, .inl (fun _ => 0))), (m_levelScope_47, .inl (cI, 50, .inl (fun _ => 0))), (m_levelId_48, .inl (cI, 50, .inl (fun _ => 0))), (m_levelFirst_49, .inl (cJ, 50, .inr (.inl (fun _ => 0)))), (m_levelSecond_50, .inl (cJ, 50, .inr (.inl (fun _ => 0)))), (m_scopeFirst_51, .inl (cJ, 50, .inr (.inl (fun _ => 0)))), (m_scopeSecond_52, .inl (cJ, 50, .inr (.inl (fun _ => 0)))), (m_scopeId_53, .inl (cI, 50, .inl (fun _ => 0))), (m_made_54, .inl (cI, 140000, .inl (fun _ => 0))), (m_typeOf_55, .inl (cI, 1000, .inl (fun _ => 0))), (m_tasks_56, .inl (cI, 14000, .inl (fun _ => 0))), (m_todo_57, .inl (cI, 30000, .inl (fun _ => 0))), (m_renamed_58, .inl (cI, 1400, .inl (fun _ => 0))), (m_bound_59, .inl (cI, 1400, .inl (fun _ => 0))), (m_markA_60, .inl (cI, 1400, .inl (fun _ => 0))), (m_markB_61, .inl (cI, 1400, .inl (fun _ => 0))), (m_line_62, .inl (cI, 4200, .inl (fun _ => 0)))] := hW
  refine lv_astore_n (lv' := [(2, .ref q_34), (1, .ref q_1), (0, .ref b)]) S.1 S.2.1 d_L_law_15 rfl hl (by decide) rfl (fun ls hl => ?_)
  refine lv_iconst (v := (nI 1)) S.1 S.2.1 d_L_law_16 (by decide) ?_
  refine g_newa (atype := .long) (a0 := (1, .inr (.inl (fun _ => 0)))) S hW hA ka_long 1 rfl (fun _ => rfl) (nI_pos (by decide)) (nI_clamp (by decide)) (Nat.le_of_ble_eq_true rfl) (Nat.le_of_ble_eq_true rfl) (Nat.le_of_ble_eq_true rfl) d_L_law_17 (fun q_63 H hW => ?_)
  have hW : Wd D (tyl cI cJ cB cZ) A s s.heap H _ [(q_1, .inr (9, [.ref aF_2, .ref aC_3, .ref aP_9, .ref aT_11, .ref aK_13, .ref aR_19, .ref aH_22, .ref aI_30, .int (nI 0)])), (aF_2, .inr (0, [.int (nI 0), .int (-1)])), (aC_3, .inr (1, [.ref c0_4, .ref c1_5, .ref c2_6, .ref c3_7, .ref c4_8])), (c0_4, .inl (cI, 21092, .inl (fun _ => 0))), (c1_5, .inl (cI, 21092, .inl (fun _ => 0))), (c2_6, .inl (cI, 21092, .inl (fun _ => 0))), (c3_7, .inl (cI, 21092, .inl (fun _ => 0))), (c4_8, .inl (cI, 21092, .inl (fun _ => 0))), (aP_9, .inr (2, [.ref p0_10, .int (nI 0), .int (nI 0)])), (p0_10, .inl (cB, 4096, .inl (fun _ => 0))), (aT_11, .inr (3, [.ref aF_2, .ref t0_12, .int (nI 0), .int (nI 0), .int (nI 0), .int (nI 0), .long 0, .long 0])), (t0_12, .inl (cB, 8192, .inl (fun _ => 0))), (aK_13, .inr (4, [.ref aC_3, .ref k0_14, .ref k1_15, .ref k2_16, .ref k3_17, .ref k4_18, .int (nI 0), .int (nI 0)])), (k0_14, .inl (cJ, 48, .inr (.inl (fun _ => 0)))), (k1_15, .inl (cJ, 48, .inr (.inl (fun _ => 0)))), (k2_16, .inl (cI, 48, .inl (fun _ => 0))), (k3_17, .inl (cI, 48, .inl (fun _ => 0))), (k4_18, .inl (cZ, 48, .inl (fun _ => 0))), (aR_19, .inr (5, [.ref aT_11, .ref aC_3, .ref aK_13, .ref aF_2, .ref r0_20, .ref r1_21, .int (nI 0), .int (nI 0), .int (nI 0), .int (nI 0), .int (nI 0), .int (nI 0), .int (nI 0), .long 0, .long 0, .int (nI 0), .int (nI 0)])), (r0_20, .inl (cJ, 40, .inr (.inl (fun _ => 0)))), (r1_21, .inl (cJ, 40, .inr (.inl (fun _ => 0)))), (aH_22, .inr (7, [.ref aC_3, .ref aK_13, .ref aF_2, .ref aU_24, .ref h0_23, .int (nI 0)])), (h0_23, .inl (cI, 40, .inl (fun _ => 0))), (aU_24, .inr (6, [.ref aC_3, .ref u0_25, .ref u1_26, .ref u2_27, .ref u3_28, .ref u4_29, .int (-1), .int (nI 0), .int (nI 0), .int (nI 0), .int (nI 0)])), (u0_25, .inl (cI, 602, .inl (fun _ => 0))), (u1_26, .inl (cI, 602, .inl (fun _ => 0))), (u2_27, .inl (cI, 602, .inl (fun _ => 0))), (u3_28, .inl (cI, 602, .inl (fun _ => 0))), (u4_29, .inl (cI, 602, .inl (fun _ => 0))), (aI_30, .inr (8, [.ref aC_3, .ref aK_13, .ref aP_9, .ref i0_31, .ref i1_32, .ref i2_33, .int (nI 0), .int (nI 0)])), (i0_31, .inl (cZ, 300, .inl (fun _ => 0))), (i1_32, .inl (cI, 600, .inl (fun _ => 0))), (i2_33, .inl (cI, 600, .inl (fun _ => 0))), (q_34, .inr (10, [.int 0, .ref m_text_35, .int 0, .int 0, .int 0, .int (-1), .ref m_paper_36, .int 0, .int 0, .ref m_firstHalf_37, .ref m_secondHalf_38, .ref m_stored_39, .ref m_proved_40, .int 0, .int 0, .int 0, .long 0, .long 0, .ref m_written_41, .ref m_places_42, .int 0, .int 0, .int 0, .int 0, .int 0, .int 0, .int 0, .int 0, .int 0, .ref m_levelKind_43, .ref m_levelStart_44, .ref m_levelApp_45, .ref m_levelHad_46, .ref m_levelScope_47, .ref m_levelId_48, .ref m_levelFirst_49, .ref m_levelSecond_50, .int 0, .ref m_scopeFirst_51, .ref m_scopeSecond_52, .ref m_scopeId_53, .int 0, .ref m_made_54, .int 0, .ref m_typeOf_55, .ref m_tasks_56, .int 0, .ref m_todo_57, .int 0, .ref m_renamed_58, .ref m_bound_59, .int 0, .int (-1), .int 0, .int 0, .int 0, .ref m_markA_60, .ref m_markB_61, .ref m_line_62, .int 0, .int 0])), (m_text_35, .inl (cI, 8192, .inl (fun _ => 0))), (m_paper_36, .inl (cI, 4096, .inl (fun _ => 0))), (m_firstHalf_37, .inl (cJ, 48, .inr (.inl (fun _ => 0)))), (m_secondHalf_38, .inl (cJ, 48, .inr (.inl (fun _ => 0)))), (m_stored_39, .inl (cI, 43680, .inl (fun _ => 0))), (m_proved_40, .inl (cI, 48, .inl (fun _ => 0))), (m_written_41, .inl (cI, 2000, .inl (fun _ => 0))), (m_places_42, .inl (cI, 2000, .inl (fun _ => 0))), (m_levelKind_43, .inl (cI, 50, .inl (fun _ => 0))), (m_levelStart_44, .inl (cI, 50, .inl (fun _ => 0))), (m_levelApp_45, .inl (cI, 50, .inl (fun _ => 0))), (m_levelHad_46, .inl (cI, 50, .inl (fun _ => 0))), (m_levelScope_47, .inl (cI, 50, .inl (fun _ => 0))), (m_levelId_48, .inl (cI, 50, .inl (fun _ => 0))), (m_levelFirst_49, .inl (cJ, 50, .inr (.inl (fun _ => 0)))), (m_levelSecond_50, .inl (cJ, 50, .inr (.inl (fun _ => 0)))), (m_scopeFirst_51, .inl (cJ, 50, .inr (.inl (fun _ => 0)))), (m_scopeSecond_52, .inl (cJ, 50, .inr (.inl (fun _ => 0)))), (m_scopeId_53, .inl (cI, 50, .inl (fun _ => 0))), (m_made_54, .inl (cI, 140000, .inl (fun _ => 0))), (m_typeOf_55, .inl (cI, 1000, .inl (fun _ => 0))), (m_tasks_56, .inl (cI, 14000, .inl (fun _ => 0))), (m_todo_57, .inl (cI, 30000, .inl (fun _ => 0))), (m_renamed_58, .inl (cI, 1400, .inl (fun _ => 0))), (m_bound_59, .inl (cI, 1400, .inl (fun _ => 0))), (m_markA_60, .inl (cI, 1400, .inl (fun _ => 0))), (m_markB_61, .inl (cI, 1400, .inl (fun _ => 0))), (m_line_62, .inl (cI, 4200, .inl (fun _ => 0))), (q_63, .inl (cJ, 1, .inr (.inl (fun _ => 0))))] := hW
  refine lv_astore_n (lv' := [(3, .ref q_63), (2, .ref q_34), (1, .ref q_1), (0, .ref b)]) S.1 S.2.1 d_L_law_19 rfl hl (by decide) rfl (fun ls hl => ?_)
  have hW : Wd D (tyl cI cJ cB cZ) A s s.heap H locs [(q_1, .inr (9, [.ref aF_2, .ref aC_3, .ref aP_9, .ref aT_11, .ref aK_13, .ref aR_19, .ref aH_22, .ref aI_30, .int (nI 0)])), (aF_2, .inr (0, [.int (nI 0), .int (-1)])), (aT_11, .inr (3, [.ref aF_2, .ref t0_12, .int (nI 0), .int (nI 0), .int (nI 0), .int (nI 0), .long 0, .long 0])), (t0_12, .inl (cB, 8192, .inl (fun _ => 0))), (aK_13, .inr (4, [.ref aC_3, .ref k0_14, .ref k1_15, .ref k2_16, .ref k3_17, .ref k4_18, .int (nI 0), .int (nI 0)])), (aP_9, .inr (2, [.ref p0_10, .int (nI 0), .int (nI 0)])), (q_34, .inr (10, [.int 0, .ref m_text_35, .int 0, .int 0, .int 0, .int (-1), .ref m_paper_36, .int 0, .int 0, .ref m_firstHalf_37, .ref m_secondHalf_38, .ref m_stored_39, .ref m_proved_40, .int 0, .int 0, .int 0, .long 0, .long 0, .ref m_written_41, .ref m_places_42, .int 0, .int 0, .int 0, .int 0, .int 0, .int 0, .int 0, .int 0, .int 0, .ref m_levelKind_43, .ref m_levelStart_44, .ref m_levelApp_45, .ref m_levelHad_46, .ref m_levelScope_47, .ref m_levelId_48, .ref m_levelFirst_49, .ref m_levelSecond_50, .int 0, .ref m_scopeFirst_51, .ref m_scopeSecond_52, .ref m_scopeId_53, .int 0, .ref m_made_54, .int 0, .ref m_typeOf_55, .ref m_tasks_56, .int 0, .ref m_todo_57, .int 0, .ref m_renamed_58, .ref m_bound_59, .int 0, .int (-1), .int 0, .int 0, .int 0, .ref m_markA_60, .ref m_markB_61, .ref m_line_62, .int 0, .int 0])), (m_text_35, .inl (cI, 8192, .inl (fun _ => 0))), (q_63, .inl (cJ, 1, .inr (.inl (fun _ => 0))))] := hW.sub [0, 1, 10, 11, 12, 8, 33, 34, 62] (by decide) rfl
  refine W.widen (k := 100) (n := 400000) (Nat.le_of_ble_eq_true rfl) (Nat.le_of_ble_eq_true rfl) ?_
  exact law_20 q_1 aF_2 aC_3 aP_9 aT_11 aK_13 aR_19 aH_22 aI_30 k0_14 k1_15 k2_16 k3_17 k4_18 t0_12 p0_10 q_34 m_text_35 m_paper_36 m_firstHalf_37 m_secondHalf_38 m_stored_39 m_proved_40 m_written_41 m_places_42 m_levelKind_43 m_levelStart_44 m_levelApp_45 m_levelHad_46 m_levelScope_47 m_levelId_48 m_levelFirst_49 m_levelSecond_50 m_scopeFirst_51 m_scopeSecond_52 m_scopeId_53 m_made_54 m_typeOf_55 m_tasks_56 m_todo_57 m_renamed_58 m_bound_59 m_markA_60 m_markB_61 m_line_62 q_63 hL C hW (lv_sub hl [0, 1, 2, 3] rfl)
end
section
theorem tk_arr {args : Array Value} {s : State} {ty : FieldType} (h : (Cond.arrayClass ty).before args s = true) : ∃ cA, ArrOfT s cA ty ∧ s.vm.findClass ("[" ++ ty.toString) = some cA := by
  obtain ⟨cA, kA, comp, h1, h2, h3⟩ := Cond.arrayClass_spec h
  exact ⟨cA, fun n z => ⟨fun k h => (by cases h), kA, h2, comp, h3⟩, h1⟩
set_option maxRecDepth 100000 in
theorem tk_start {args : Array Value} {s : State} (hts : ∀ w ∈ lw_tbl, w.before args s = true) (hgv : (Jvm.Cond.and given_1 narrow_1).before args s = true) : Tw s := by
  have h81 : ∃ a, vk_R "ProofReader" 81 "n is not 1 to 8" a s := by
    obtain ⟨a, q0, q1, q2, q3, -⟩ := Cond.exactly_spec (args := args) (first := s) (o := none) (s := s) (idx := []) (t := .string "ProofReader" 81) (cls := "java/lang/String") (flat_of_before _ hgv (.exactly (.string "ProofReader" 81) "java/lang/String") (by decide +kernel))
    exact ⟨a, vk_R.of (hts (.stringRef "ProofReader" 81 "n is not 1 to 8") (List.mem_of_getElem? (i := 878) (by decide +kernel))) q3⟩
  have h126 : ∃ a, vk_R "ProofReader" 126 "what is not 0 to 5" a s := by
    obtain ⟨a, q0, q1, q2, q3, -⟩ := Cond.exactly_spec (args := args) (first := s) (o := none) (s := s) (idx := []) (t := .string "ProofReader" 126) (cls := "java/lang/String") (flat_of_before _ hgv (.exactly (.string "ProofReader" 126) "java/lang/String") (by decide +kernel))
    exact ⟨a, vk_R.of (hts (.stringRef "ProofReader" 126 "what is not 0 to 5") (List.mem_of_getElem? (i := 916) (by decide +kernel))) q3⟩
  have h130 : ∃ a, vk_R "ProofReader" 130 "there is no such constant" a s := by
    obtain ⟨a, q0, q1, q2, q3, -⟩ := Cond.exactly_spec (args := args) (first := s) (o := none) (s := s) (idx := []) (t := .string "ProofReader" 130) (cls := "java/lang/String") (flat_of_before _ hgv (.exactly (.string "ProofReader" 130) "java/lang/String") (by decide +kernel))
    exact ⟨a, vk_R.of (hts (.stringRef "ProofReader" 130 "there is no such constant") (List.mem_of_getElem? (i := 926) (by decide +kernel))) q3⟩
  refine ⟨fun w hw => ?_, ⟨h81, h126, h130⟩, ?_⟩
  · by_cases hr : w ∈ tk_rw
    · simp only [tk_rw, List.mem_cons, List.not_mem_nil, or_false] at hr
      rcases hr with rfl | rfl
      · exact tk_isref rfl (fun _ _ => rfl) (flat_of_before _ hgv (.isRef (.static "java/lang/Throwable" "UNASSIGNED_STACK" "[Ljava/lang/StackTraceElement;")) (by decide +kernel))
      · exact tk_isref rfl (fun _ _ => rfl) (flat_of_before _ hgv (.isRef (.static "java/lang/Throwable" "SUPPRESSED_SENTINEL" "Ljava/util/List;")) (by decide +kernel))
    · have hm : w ∈ tk_tab := List.mem_filter.mpr ⟨hw, by simp [hr]⟩
      exact tk_same (Bool.and_eq_true_iff.mp (List.all_eq_true.mp tk_all w hw)).2 rfl (fun _ _ => rfl) (hts w (tk_in w hm))
  · intro c1 c2 e1 e2
    have h := flat_of_before _ hgv (.not (.castable "java/lang/IndexOutOfBoundsException" "java/lang/IllegalArgumentException")) (by decide +kernel)
    have e1' : s.vm.findClass "java/lang/IndexOutOfBoundsException" = some c1 := e1
    have e2' : s.vm.findClass "java/lang/IllegalArgumentException" = some c2 := e2
    cases hq : s.vm.assignable c1 c2 with
    | false => rfl
    | true => simp [Cond.before, Cond.holds, Cond.value, e1', e2', hq] at h
set_option maxHeartbeats 4000000 in
set_option maxRecDepth 100000 in
/-- from the entry, for every script of at most 4 ints, the law comes to its end with true -/
theorem whole_start {p : Program} {e : Env} {s : State} {m : MethodId} {below : List Frame} {meth : Method} {c : Code} (l : Launch) (htr : l.stackTraces = false) {b L : Nat} {xs : Nat → Int32} (hL : L ≤ 4) (C0 : lw_At p s m meth c b L xs) : W p l e room_1 s m #[Value.ref b] below meth c s.heap [] 0 0 (lw_Z below #[Value.ref b] s) (entryFrame m ([Value.ref b] : List Value).toArray 7) := by
  obtain ⟨hx, hb, hr, hml, hown, hts, hX, hbl, hlocks, hgv⟩ := id C0
  obtain ⟨A, hAd⟩ : ∃ A : Nat → Prop, A = fun q => s.heap.size ≤ q := ⟨_, rfl⟩
  have hA : ∀ q, s.heap.size ≤ q → A q := fun q h => by rw [hAd]; exact h
  have hAq : ∀ q, A q → s.heap.size ≤ q := fun q h => by rw [hAd] at h; exact h
  have hbA : ¬ A b := fun h => absurd (hAq b h) (Nat.not_le.mpr hbl)
  obtain ⟨c0, s0, hK0⟩ := u_known (C := R_F) (T := F_F) (N := 2) (n := 2) hts i0_F (hts _ (List.mem_filter.mp kn_F).1)
  obtain ⟨c1, s1, hK1⟩ := u_known (C := R_C) (T := F_C) (N := 5) (n := 5) hts i0_C (hts _ (List.mem_filter.mp kn_C).1)
  obtain ⟨c2, s2, hK2⟩ := u_known (C := R_P) (T := F_P) (N := 3) (n := 3) hts i0_P (hts _ (List.mem_filter.mp kn_P).1)
  obtain ⟨c3, s3, hK3⟩ := u_known (C := R_T) (T := F_T) (N := 8) (n := 8) hts i0_T (hts _ (List.mem_filter.mp kn_T).1)
  obtain ⟨c4, s4, hK4⟩ := u_known (C := R_K) (T := F_K) (N := 8) (n := 8) hts i0_K (hts _ (List.mem_filter.mp kn_K).1)
  obtain ⟨c5, s5, hK5⟩ := u_known (C := R_R) (T := F_R) (N := 17) (n := 17) hts i0_R (hts _ (List.mem_filter.mp kn_R).1)
  obtain ⟨c6, s6, hK6⟩ := u_known (C := R_U) (T := F_U) (N := 11) (n := 11) hts i0_U (hts _ (List.mem_filter.mp kn_U).1)
  obtain ⟨c7, s7, hK7⟩ := u_known (C := R_H) (T := F_H) (N := 6) (n := 6) hts i0_H (hts _ (List.mem_filter.mp kn_H).1)
  obtain ⟨c8, s8, hK8⟩ := u_known (C := R_I) (T := F_I) (N := 8) (n := 8) hts i0_I (hts _ (List.mem_filter.mp kn_I).1)
  obtain ⟨c9, s9, hK9⟩ := u_known (C := R_X) (T := F_X) (N := 9) (n := 9) hts i0_X (hts _ (List.mem_filter.mp kn_X).1)
  obtain ⟨c10, s10, hK10⟩ := u_known (C := R_M) (T := F_M) (N := 61) (n := 61) hts i0_M (hts _ (List.mem_filter.mp kn_M).1)
  obtain ⟨cI, gI, fI⟩ := tk_arr (hts _ (List.mem_filter.mp ka_int).1)
  obtain ⟨cJ, gJ, fJ⟩ := tk_arr (hts _ (List.mem_filter.mp ka_long).1)
  obtain ⟨cB, gB, fB⟩ := tk_arr (hts _ (List.mem_filter.mp ka_byte).1)
  obtain ⟨cZ, gZ, fZ⟩ := tk_arr (hts _ (List.mem_filter.mp ka_boolean).1)
  obtain ⟨D, hKc⟩ : ∃ D : va_G, ∀ (k : Nat) (q : vw_C), cls[k]? = some q → u_Kn s q.1 q.2.1 q.2.2 (D.1 k) (D.2 k) := by
    refine ⟨(fun k => [c0, c1, c2, c3, c4, c5, c6, c7, c8, c9, c10].getD k c0, fun k => [s0, s1, s2, s3, s4, s5, s6, s7, s8, s9, s10].getD k s0), ?_⟩
    intro k q hq
    match k, hq with
    | 0, hq => cases hq; exact hK0
    | 1, hq => cases hq; exact hK1
    | 2, hq => cases hq; exact hK2
    | 3, hq => cases hq; exact hK3
    | 4, hq => cases hq; exact hK4
    | 5, hq => cases hq; exact hK5
    | 6, hq => cases hq; exact hK6
    | 7, hq => cases hq; exact hK7
    | 8, hq => cases hq; exact hK8
    | 9, hq => cases hq; exact hK9
    | 10, hq => cases hq; exact hK10
    | k + 11, hq => simp [cls] at hq
  have hK : va_K D cls (tyl cI cJ cB cZ) s := ⟨hKc, fun k q hq => by
    match k, hq with
    | 0, hq => cases hq; exact ⟨gI, fI⟩
    | 1, hq => cases hq; exact ⟨gJ, fJ⟩
    | 2, hq => cases hq; exact ⟨gB, fB⟩
    | 3, hq => cases hq; exact ⟨gZ, fZ⟩
    | k + 4, hq => simp [tyl] at hq⟩
  have hN : nst s := ⟨va_Nw.of rfl (hts (.methodLinkNest "ProofReader" 9 y_F_init "ProofReader") (List.mem_of_getElem? (i := 125) (by decide +kernel))), va_Nw.of rfl (hts (.methodLinkNest "ProofReader" 18 y_C_init "ProofReader") (List.mem_of_getElem? (i := 140) (by decide +kernel))), va_Nw.of rfl (hts (.methodLinkNest "ProofReader" 25 y_P_init "ProofReader") (List.mem_of_getElem? (i := 182) (by decide +kernel))), va_Nw.of rfl (hts (.methodLinkNest "ProofReader" 189 y_H_type "ProofReader") (List.mem_of_getElem? (i := 770) (by decide +kernel))), va_Nw.of rfl (hts (.methodLinkNest "ProofReader" 196 y_H_object "ProofReader") (List.mem_of_getElem? (i := 779) (by decide +kernel)))⟩
  have hW : Wd D (tyl cI cJ cB cZ) A s s.heap s.heap [] [] := ⟨⟨hK, hN⟩, fun k q h => by simp at h, ⟨fun i j p q h => by simp at h, fun k q h => by simp at h⟩, va_S.rf⟩
  have C : LawC p l s m meth c b L xs A := ⟨⟨hx, hb, hml, hown, tb_of hts⟩, hX, hbl, hbA, hA, hAq, hr, hlocks, tk_start hts hgv, htr⟩
  have hl := lv_entry ([.ref b]) (n := 7) (Nat.le_of_ble_eq_true rfl)
  rw [lg_entry_eq]
  exact law_0to20 hL C hW hl
set_option maxHeartbeats 4000000 in
theorem lw_walk (l : Launch) (htr : l.stackTraces = false) (b : Addr) (xs : List Int32) : MetFree l x (headSpec (Jvm.Cond.code x code maxLocals ret :: tables_1) room_1) (lw_P b xs) (fun _ _ _ _ _ => True) lw_Q := by
  refine MetFree.of_bodyS (code := code) (maxLocals := maxLocals) (ret := ret) (by decide) ?_ ?_
  · intro args s m h hn
    obtain ⟨meth, c, h1, h2, h3, h4, h5, h6, -, -⟩ := Cond.code_spec hn (atoms_spec (ws := Jvm.Cond.code x code maxLocals ret :: tables_1) h _ List.mem_cons_self)
    exact ⟨meth, c, h1, h2, h3, h4, h5, h6⟩
  · intro p e s m args below meth c s₁ B hml0 hP _
    obtain ⟨rfl, hx, hbd, hgv⟩ := hP
    obtain ⟨scr, harrAt, hlist, hof, hsmall⟩ := hx
    obtain ⟨hcb, hkn, -, -⟩ := State.arrayAt?_spec harrAt
    have hown : s.vm.findClass R_law = some m.cls := findClass_of_methodNamed B.named
    have hts0 : ∀ c ∈ (Jvm.Cond.code x code maxLocals ret :: tables_1), c.before #[Value.ref b] s = true := atoms_spec (ws := Jvm.Cond.code x code maxLocals ret :: tables_1) B.pre
    have hts : ∀ w ∈ lw_tbl, w.before #[Value.ref b] s = true := k2_hts_sels lw_privs (fun w hw => hts0 w (List.mem_cons_of_mem _ hw)) lw_privs_ok
    have hml : c.maxLocals = 7 := B.maxLocals_eq (hts0 _ List.mem_cons_self)
    have X₀ : Stand p l e room_1 s m #[Value.ref b] below meth c s₁ [] 0 0 := Stand.of_body B
    have hh0 : s₁.heap = s.heap := by rw [B.state]; rfl
    have hsz : scr.slots.size = xs.length := by rw [← Array.length_toList, hlist, List.length_map]
    have hval : ∀ j : Nat, j < xs.length → scr.slots[j]? = some (.int (xs.getD j 0)) := fun j hj => by
      rw [← Array.getElem?_toList, hlist]
      simp [hj]
    have hbl : b < s.heap.size := (Array.getElem?_eq_some_iff.mp hcb).1
    have hX : va_X b xs.length (fun j => xs.getD j 0) s s.heap := ⟨scr, hcb, hof, hkn, hsz, hval⟩
    have K : W p l e room_1 s m #[Value.ref b] below meth c s₁.heap [] 0 0 (lw_Z below #[Value.ref b] s) (entryFrame m ([Value.ref b] : List Value).toArray 7) := by
      rw [hh0]
      exact whole_start l htr hbd ⟨B.exec, B.bytes, B.returns, hml, hown, hts, hX, hbl, B.notSynchronized, hgv⟩
    obtain ⟨t, a1, o, b1, b2, b3⟩ := K s₁ rfl X₀
    exact ⟨t, o, a1, b1, b2, b3⟩
theorem lw_pre_spec {args : Array Value} {s : State} (h : (Jvm.Cond.and given_1 narrow_1).before args s = true) (hr : rest_1_c.before args s = true) : ∃ (b : Addr) (xs : List Int32), lw_P b xs args s := by
  have hs := flat_of_before _ h
  have hq := flat_of_before _ hr
  have hc : (Cond.count 1).before args s = true := hs _ (by decide +kernel)
  have harr : (Cond.arrayOf (.arg 0) .int).before args s = true := hs _ (by decide +kernel)
  have hle : (Cond.le (.length (.arg 0)) (.int 4)).before args s = true := hs _ (by decide +kernel)
  have hlen : (Cond.isInt (.length (.arg 0))).before args s = true := hq _ (by decide +kernel)
  have hall : (Cond.all (.arg 0) (.isInt (.elem (.arg 0) (.index 0)))).before args s = true := hq _ (by decide +kernel)
  obtain ⟨b, xs, hb, hx⟩ := State.ints_of_pre rfl harr hlen hall
  have hsm : xs.length < 2 ^ 31 := hx.choose_spec.2.2.2
  have hev : (Term.length (.arg 0)).eval args s none [] s = some (.int xs.length.toInt32) := hx.length_eval hb
  have hv := Cond.le_ints hev (show (Term.int 4).eval args s none [] s = some (.int 4) from rfl)
  have hd : xs.length.toInt32 ≤ 4 := by
    simpa [Cond.before, Cond.holds, hv] using hle
  have hN : xs.length ≤ 4 := (Int32.ofNat_le_ofNat hsm (by decide)).mp (show Int32.ofNat xs.length ≤ Int32.ofNat 4 from hd)
  exact ⟨b, xs, Cond.one_arg hc (show args[0]? = some (.ref b) from hb), hx, hN, h⟩
theorem lw_comes (l : Launch) (htr : l.stackTraces = false) : Comes l x (Jvm.Cond.code x code maxLocals ret :: tables_1) room_1 (fun tb e args s => Calls_1 tb e args s ∧ rest_1 tb e args s ∧ Pre_1 tb e args s)
    (fun _ _ args s o t => lw_Q args s o t) := by
  intro p e ha hc hk s m args below hf hfit hheap happ hpre
  obtain ⟨b, xs, hP⟩ := lw_pre_spec hpre.2.2 hpre.2.1
  obtain ⟨k, o, h1, h2, h3, hQ⟩ := lw_walk l htr b xs p e ha hc hk s m args below hf ((Spec.applies_iff_loose hf).mp happ).1 hP trivial
  exact ⟨k, o, h1, h2, h3, hQ⟩
theorem lw_frame {s t : State} {o : Outcome} {args : Array Value} (h : Framed s o t [] 600002 7302232) :
    Framed s o t (fieldLocs frame_1_writes args s ++ arrayLocs frame_1_arrays args s ++ staticLocs frame_1_statics s) 600002 7302232 := h
theorem lw_limb (L : Cond) (hL : ∀ (args : Array Value) (s t : State), L.after args s (.returned (some (.int 1))) t = true) :
    ArmFor flags0 classFile x code maxLocals ret World_1 tables_1 room_1 Calls_1 rest_1 Pre_1
      (fun tb e a s o t => postC L tb e a s o t ∧ Framed s o t (fieldLocs frame_1_writes a s ++ arrayLocs frame_1_arrays a s ++ staticLocs frame_1_statics s) 600002 7302232) := by
  intro l hfl _ _ p e ha hc hk s m args below hf hfit hheap happ hpre
  obtain ⟨k, o, h1, h2, h3, rfl, hF⟩ := lw_comes l (by unfold Launch.stackTraces; rw [hfl]; decide +kernel) p e ha hc hk s m args below hf hfit hheap happ hpre
  exact ⟨k, _, h1, h2, h3, hL args s _, lw_frame hF⟩
theorem i_vc : Claimed_1_1 ∧ Claimed_1_2 := ⟨lw_limb limb_1_1 (fun args s t => by simp [limb_1_1, Cond.after, Cond.holds, Cond.value]), lw_limb limb_1_2 (fun args s t => Cond.after_iff.mpr (by
  first | (rw [show limb_1_2 = Cond.eq .result (.int 1) from rfl, Cond.eq_ints (x := 1) (y := 1) rfl rfl]; simp; done) | (simp [limb_1_2, Cond.value, Term.eval]; done)))⟩
end
