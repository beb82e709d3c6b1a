-- ===== PART A: goes FIRST, ahead of the names: the tables' words, and 'selects' of the private methods out of them =====
/-- a private method of a class that the tables say can be made, by its rows of tables_1 -/
def lw_okq (q : MethodName × Nat) : Prop := (q.1.cls ≠ "java/lang/invoke/MethodHandle" ∧ q.1.cls ≠ "java/lang/invoke/VarHandle") ∧ Cond.instantiable q.1.cls q.2 ∈ tables_1 ∧ Cond.privateMethod q.1 ∈ tables_1 ∧ Cond.instanceMethod q.1 ∈ tables_1
theorem lw_p0 : lw_okq (⟨"IntervalText$Scanner", "takeBlanks", "()V"⟩, 12) := ⟨⟨by decide +kernel, by decide +kernel⟩, List.mem_of_getElem? (i := 80) (by decide +kernel), List.mem_of_getElem? (i := 233) (by decide +kernel), List.mem_of_getElem? (i := 234) (by decide +kernel)⟩
theorem lw_p1 : lw_okq (⟨"IntervalText$Scanner", "peek", "()I"⟩, 12) := ⟨⟨by decide +kernel, by decide +kernel⟩, List.mem_of_getElem? (i := 80) (by decide +kernel), List.mem_of_getElem? (i := 237) (by decide +kernel), List.mem_of_getElem? (i := 238) (by decide +kernel)⟩
theorem lw_p2 : lw_okq (⟨"IntervalText$Scanner", "takeWord", "(Ljava/lang/String;)Z"⟩, 12) := ⟨⟨by decide +kernel, by decide +kernel⟩, List.mem_of_getElem? (i := 80) (by decide +kernel), List.mem_of_getElem? (i := 250) (by decide +kernel), List.mem_of_getElem? (i := 251) (by decide +kernel)⟩
theorem lw_p3 : lw_okq (⟨"IntervalText$Scanner", "takeClose", "()Z"⟩, 12) := ⟨⟨by decide +kernel, by decide +kernel⟩, List.mem_of_getElem? (i := 80) (by decide +kernel), List.mem_of_getElem? (i := 303) (by decide +kernel), List.mem_of_getElem? (i := 304) (by decide +kernel)⟩
theorem lw_p4 : lw_okq (⟨"IntervalText$Scanner", "takeEnds", "()Z"⟩, 12) := ⟨⟨by decide +kernel, by decide +kernel⟩, List.mem_of_getElem? (i := 80) (by decide +kernel), List.mem_of_getElem? (i := 309) (by decide +kernel), List.mem_of_getElem? (i := 310) (by decide +kernel)⟩
theorem lw_p5 : lw_okq (⟨"IntervalText$Scanner", "takeInfinity", "(Ljava/lang/String;)Z"⟩, 12) := ⟨⟨by decide +kernel, by decide +kernel⟩, List.mem_of_getElem? (i := 80) (by decide +kernel), List.mem_of_getElem? (i := 314) (by decide +kernel), List.mem_of_getElem? (i := 315) (by decide +kernel)⟩
theorem lw_p6 : lw_okq (⟨"IntervalText$Scanner", "takeNumber", "(LIntervalText$Ratio;)Z"⟩, 12) := ⟨⟨by decide +kernel, by decide +kernel⟩, List.mem_of_getElem? (i := 80) (by decide +kernel), List.mem_of_getElem? (i := 319) (by decide +kernel), List.mem_of_getElem? (i := 320) (by decide +kernel)⟩
theorem lw_p7 : lw_okq (⟨"IntervalText$Scanner", "takeSign", "()Z"⟩, 12) := ⟨⟨by decide +kernel, by decide +kernel⟩, List.mem_of_getElem? (i := 80) (by decide +kernel), List.mem_of_getElem? (i := 323) (by decide +kernel), List.mem_of_getElem? (i := 324) (by decide +kernel)⟩
theorem lw_p8 : lw_okq (⟨"IntervalText$Scanner", "takeDigits", "(LIntervalText$Natural;IZ)Z"⟩, 12) := ⟨⟨by decide +kernel, by decide +kernel⟩, List.mem_of_getElem? (i := 80) (by decide +kernel), List.mem_of_getElem? (i := 332) (by decide +kernel), List.mem_of_getElem? (i := 333) (by decide +kernel)⟩
theorem lw_p9 : lw_okq (⟨"IntervalText$Scanner", "takeExponent", "(CIZ)Z"⟩, 12) := ⟨⟨by decide +kernel, by decide +kernel⟩, List.mem_of_getElem? (i := 80) (by decide +kernel), List.mem_of_getElem? (i := 345) (by decide +kernel), List.mem_of_getElem? (i := 346) (by decide +kernel)⟩
theorem lw_p10 : lw_okq (⟨"IntervalText$Arithmetic", "compareSizes", "(LIntervalText$Ratio;LIntervalText$Ratio;)I"⟩, 4) := ⟨⟨by decide +kernel, by decide +kernel⟩, List.mem_of_getElem? (i := 42) (by decide +kernel), List.mem_of_getElem? (i := 383) (by decide +kernel), List.mem_of_getElem? (i := 384) (by decide +kernel)⟩
theorem lw_p11 : lw_okq (⟨"IntervalText$Natural", "trim", "(I)V"⟩, 2) := ⟨⟨by decide +kernel, by decide +kernel⟩, List.mem_of_getElem? (i := 48) (by decide +kernel), List.mem_of_getElem? (i := 395) (by decide +kernel), List.mem_of_getElem? (i := 396) (by decide +kernel)⟩
theorem lw_p12 : lw_okq (⟨"IntervalText", "keep", "(JJI)I"⟩, 7) := ⟨⟨by decide +kernel, by decide +kernel⟩, List.mem_of_getElem? (i := 17) (by decide +kernel), List.mem_of_getElem? (i := 449) (by decide +kernel), List.mem_of_getElem? (i := 450) (by decide +kernel)⟩
theorem lw_p13 : lw_okq (⟨"IntervalText$Arithmetic", "roundedSize", "(LIntervalText$Ratio;Z)J"⟩, 4) := ⟨⟨by decide +kernel, by decide +kernel⟩, List.mem_of_getElem? (i := 42) (by decide +kernel), List.mem_of_getElem? (i := 459) (by decide +kernel), List.mem_of_getElem? (i := 460) (by decide +kernel)⟩
theorem lw_p14 : lw_okq (⟨"IntervalText$Arithmetic", "fillTopLimb", "()V"⟩, 4) := ⟨⟨by decide +kernel, by decide +kernel⟩, List.mem_of_getElem? (i := 42) (by decide +kernel), List.mem_of_getElem? (i := 471) (by decide +kernel), List.mem_of_getElem? (i := 472) (by decide +kernel)⟩
theorem lw_p15 : lw_okq (⟨"IntervalText$Printer", "addEnd", "(JIZ)V"⟩, 3) := ⟨⟨by decide +kernel, by decide +kernel⟩, List.mem_of_getElem? (i := 165) (by decide +kernel), List.mem_of_getElem? (i := 529) (by decide +kernel), List.mem_of_getElem? (i := 530) (by decide +kernel)⟩
def lw_privs_1 : List (MethodName × Nat) := [(⟨"IntervalText$Scanner", "takeBlanks", "()V"⟩, 12), (⟨"IntervalText$Scanner", "peek", "()I"⟩, 12), (⟨"IntervalText$Scanner", "takeWord", "(Ljava/lang/String;)Z"⟩, 12), (⟨"IntervalText$Scanner", "takeClose", "()Z"⟩, 12), (⟨"IntervalText$Scanner", "takeEnds", "()Z"⟩, 12), (⟨"IntervalText$Scanner", "takeInfinity", "(Ljava/lang/String;)Z"⟩, 12), (⟨"IntervalText$Scanner", "takeNumber", "(LIntervalText$Ratio;)Z"⟩, 12), (⟨"IntervalText$Scanner", "takeSign", "()Z"⟩, 12), (⟨"IntervalText$Scanner", "takeDigits", "(LIntervalText$Natural;IZ)Z"⟩, 12), (⟨"IntervalText$Scanner", "takeExponent", "(CIZ)Z"⟩, 12), (⟨"IntervalText$Arithmetic", "compareSizes", "(LIntervalText$Ratio;LIntervalText$Ratio;)I"⟩, 4), (⟨"IntervalText$Natural", "trim", "(I)V"⟩, 2), (⟨"IntervalText", "keep", "(JJI)I"⟩, 7), (⟨"IntervalText$Arithmetic", "roundedSize", "(LIntervalText$Ratio;Z)J"⟩, 4), (⟨"IntervalText$Arithmetic", "fillTopLimb", "()V"⟩, 4), (⟨"IntervalText$Printer", "addEnd", "(JIZ)V"⟩, 3)]
theorem lw_r1 : ∀ q ∈ lw_privs_1, lw_okq q := List.forall_mem_cons.mpr ⟨lw_p0, List.forall_mem_cons.mpr ⟨lw_p1, List.forall_mem_cons.mpr ⟨lw_p2, List.forall_mem_cons.mpr ⟨lw_p3, List.forall_mem_cons.mpr ⟨lw_p4, List.forall_mem_cons.mpr ⟨lw_p5, List.forall_mem_cons.mpr ⟨lw_p6, List.forall_mem_cons.mpr ⟨lw_p7, List.forall_mem_cons.mpr ⟨lw_p8, List.forall_mem_cons.mpr ⟨lw_p9, List.forall_mem_cons.mpr ⟨lw_p10, List.forall_mem_cons.mpr ⟨lw_p11, List.forall_mem_cons.mpr ⟨lw_p12, List.forall_mem_cons.mpr ⟨lw_p13, List.forall_mem_cons.mpr ⟨lw_p14, List.forall_mem_cons.mpr ⟨lw_p15, fun _ h => absurd h List.not_mem_nil⟩⟩⟩⟩⟩⟩⟩⟩⟩⟩⟩⟩⟩⟩⟩⟩
theorem lw_p16 : lw_okq (⟨"IntervalText$Printer", "addBase16", "(J)V"⟩, 3) := ⟨⟨by decide +kernel, by decide +kernel⟩, List.mem_of_getElem? (i := 165) (by decide +kernel), List.mem_of_getElem? (i := 535) (by decide +kernel), List.mem_of_getElem? (i := 536) (by decide +kernel)⟩
theorem lw_p17 : lw_okq (⟨"IntervalText$Printer", "addExponent", "(I)V"⟩, 3) := ⟨⟨by decide +kernel, by decide +kernel⟩, List.mem_of_getElem? (i := 165) (by decide +kernel), List.mem_of_getElem? (i := 542) (by decide +kernel), List.mem_of_getElem? (i := 543) (by decide +kernel)⟩
theorem lw_p18 : lw_okq (⟨"IntervalText$Printer", "addDecimal", "(JIZ)V"⟩, 3) := ⟨⟨by decide +kernel, by decide +kernel⟩, List.mem_of_getElem? (i := 165) (by decide +kernel), List.mem_of_getElem? (i := 549) (by decide +kernel), List.mem_of_getElem? (i := 550) (by decide +kernel)⟩
theorem lw_p19 : lw_okq (⟨"IntervalText$Printer", "addDigits", "(JI)V"⟩, 3) := ⟨⟨by decide +kernel, by decide +kernel⟩, List.mem_of_getElem? (i := 165) (by decide +kernel), List.mem_of_getElem? (i := 565) (by decide +kernel), List.mem_of_getElem? (i := 566) (by decide +kernel)⟩
theorem lw_p20 : lw_okq (⟨"IntervalText$Printer", "isWrittenTwice", "(II)Z"⟩, 3) := ⟨⟨by decide +kernel, by decide +kernel⟩, List.mem_of_getElem? (i := 165) (by decide +kernel), List.mem_of_getElem? (i := 569) (by decide +kernel), List.mem_of_getElem? (i := 570) (by decide +kernel)⟩
theorem lw_p21 : lw_okq (⟨"IntervalTextModel", "findByte", "(III)I"⟩, 21) := ⟨⟨by decide +kernel, by decide +kernel⟩, List.mem_of_getElem? (i := 583) (by decide +kernel), List.mem_of_getElem? (i := 711) (by decide +kernel), List.mem_of_getElem? (i := 712) (by decide +kernel)⟩
theorem lw_p22 : lw_okq (⟨"IntervalTextModel", "readBrackets", "(II)V"⟩, 21) := ⟨⟨by decide +kernel, by decide +kernel⟩, List.mem_of_getElem? (i := 583) (by decide +kernel), List.mem_of_getElem? (i := 715) (by decide +kernel), List.mem_of_getElem? (i := 716) (by decide +kernel)⟩
theorem lw_p23 : lw_okq (⟨"IntervalTextModel", "isWord", "(IILjava/lang/String;)Z"⟩, 21) := ⟨⟨by decide +kernel, by decide +kernel⟩, List.mem_of_getElem? (i := 583) (by decide +kernel), List.mem_of_getElem? (i := 720) (by decide +kernel), List.mem_of_getElem? (i := 721) (by decide +kernel)⟩
theorem lw_p24 : lw_okq (⟨"IntervalTextModel", "readEnds", "(III)V"⟩, 21) := ⟨⟨by decide +kernel, by decide +kernel⟩, List.mem_of_getElem? (i := 583) (by decide +kernel), List.mem_of_getElem? (i := 727) (by decide +kernel), List.mem_of_getElem? (i := 728) (by decide +kernel)⟩
theorem lw_p25 : lw_okq (⟨"IntervalTextModel", "readNumber", "(IILIntervalTextModel$Num;)Z"⟩, 21) := ⟨⟨by decide +kernel, by decide +kernel⟩, List.mem_of_getElem? (i := 583) (by decide +kernel), List.mem_of_getElem? (i := 737) (by decide +kernel), List.mem_of_getElem? (i := 738) (by decide +kernel)⟩
theorem lw_p26 : lw_okq (⟨"IntervalTextModel", "readDigits", "(IIILIntervalTextModel$Num;)I"⟩, 21) := ⟨⟨by decide +kernel, by decide +kernel⟩, List.mem_of_getElem? (i := 583) (by decide +kernel), List.mem_of_getElem? (i := 741) (by decide +kernel), List.mem_of_getElem? (i := 742) (by decide +kernel)⟩
theorem lw_p27 : lw_okq (⟨"IntervalTextModel", "readExponent", "(III)Z"⟩, 21) := ⟨⟨by decide +kernel, by decide +kernel⟩, List.mem_of_getElem? (i := 583) (by decide +kernel), List.mem_of_getElem? (i := 764) (by decide +kernel), List.mem_of_getElem? (i := 765) (by decide +kernel)⟩
theorem lw_p28 : lw_okq (⟨"IntervalTextModel", "readRatio", "(IIILIntervalTextModel$Num;)Z"⟩, 21) := ⟨⟨by decide +kernel, by decide +kernel⟩, List.mem_of_getElem? (i := 583) (by decide +kernel), List.mem_of_getElem? (i := 768) (by decide +kernel), List.mem_of_getElem? (i := 769) (by decide +kernel)⟩
theorem lw_p29 : lw_okq (⟨"IntervalTextModel", "orderOf", "(LIntervalTextModel$Num;LIntervalTextModel$Num;)I"⟩, 21) := ⟨⟨by decide +kernel, by decide +kernel⟩, List.mem_of_getElem? (i := 583) (by decide +kernel), List.mem_of_getElem? (i := 776) (by decide +kernel), List.mem_of_getElem? (i := 777) (by decide +kernel)⟩
theorem lw_p30 : lw_okq (⟨"IntervalTextModel", "compareSizes", "(LIntervalTextModel$Num;LIntervalTextModel$Num;)I"⟩, 21) := ⟨⟨by decide +kernel, by decide +kernel⟩, List.mem_of_getElem? (i := 583) (by decide +kernel), List.mem_of_getElem? (i := 784) (by decide +kernel), List.mem_of_getElem? (i := 785) (by decide +kernel)⟩
theorem lw_p31 : lw_okq (⟨"IntervalTextModel$Big", "trim", "()V"⟩, 2) := ⟨⟨by decide +kernel, by decide +kernel⟩, List.mem_of_getElem? (i := 589) (by decide +kernel), List.mem_of_getElem? (i := 800) (by decide +kernel), List.mem_of_getElem? (i := 801) (by decide +kernel)⟩
def lw_privs_2 : List (MethodName × Nat) := [(⟨"IntervalText$Printer", "addBase16", "(J)V"⟩, 3), (⟨"IntervalText$Printer", "addExponent", "(I)V"⟩, 3), (⟨"IntervalText$Printer", "addDecimal", "(JIZ)V"⟩, 3), (⟨"IntervalText$Printer", "addDigits", "(JI)V"⟩, 3), (⟨"IntervalText$Printer", "isWrittenTwice", "(II)Z"⟩, 3), (⟨"IntervalTextModel", "findByte", "(III)I"⟩, 21), (⟨"IntervalTextModel", "readBrackets", "(II)V"⟩, 21), (⟨"IntervalTextModel", "isWord", "(IILjava/lang/String;)Z"⟩, 21), (⟨"IntervalTextModel", "readEnds", "(III)V"⟩, 21), (⟨"IntervalTextModel", "readNumber", "(IILIntervalTextModel$Num;)Z"⟩, 21), (⟨"IntervalTextModel", "readDigits", "(IIILIntervalTextModel$Num;)I"⟩, 21), (⟨"IntervalTextModel", "readExponent", "(III)Z"⟩, 21), (⟨"IntervalTextModel", "readRatio", "(IIILIntervalTextModel$Num;)Z"⟩, 21), (⟨"IntervalTextModel", "orderOf", "(LIntervalTextModel$Num;LIntervalTextModel$Num;)I"⟩, 21), (⟨"IntervalTextModel", "compareSizes", "(LIntervalTextModel$Num;LIntervalTextModel$Num;)I"⟩, 21), (⟨"IntervalTextModel$Big", "trim", "()V"⟩, 2)]
theorem lw_r2 : ∀ q ∈ lw_privs_2, lw_okq q := List.forall_mem_cons.mpr ⟨lw_p16, List.forall_mem_cons.mpr ⟨lw_p17, List.forall_mem_cons.mpr ⟨lw_p18, List.forall_mem_cons.mpr ⟨lw_p19, List.forall_mem_cons.mpr ⟨lw_p20, List.forall_mem_cons.mpr ⟨lw_p21, List.forall_mem_cons.mpr ⟨lw_p22, List.forall_mem_cons.mpr ⟨lw_p23, List.forall_mem_cons.mpr ⟨lw_p24, List.forall_mem_cons.mpr ⟨lw_p25, List.forall_mem_cons.mpr ⟨lw_p26, List.forall_mem_cons.mpr ⟨lw_p27, List.forall_mem_cons.mpr ⟨lw_p28, List.forall_mem_cons.mpr ⟨lw_p29, List.forall_mem_cons.mpr ⟨lw_p30, List.forall_mem_cons.mpr ⟨lw_p31, fun _ h => absurd h List.not_mem_nil⟩⟩⟩⟩⟩⟩⟩⟩⟩⟩⟩⟩⟩⟩⟩⟩
theorem lw_p32 : lw_okq (⟨"IntervalTextModel", "down", "(LIntervalTextModel$Num;)J"⟩, 21) := ⟨⟨by decide +kernel, by decide +kernel⟩, List.mem_of_getElem? (i := 583) (by decide +kernel), List.mem_of_getElem? (i := 817) (by decide +kernel), List.mem_of_getElem? (i := 818) (by decide +kernel)⟩
theorem lw_p33 : lw_okq (⟨"IntervalTextModel", "up", "(LIntervalTextModel$Num;)J"⟩, 21) := ⟨⟨by decide +kernel, by decide +kernel⟩, List.mem_of_getElem? (i := 583) (by decide +kernel), List.mem_of_getElem? (i := 834) (by decide +kernel), List.mem_of_getElem? (i := 835) (by decide +kernel)⟩
theorem lw_p34 : lw_okq (⟨"IntervalTextModel", "readUncertain", "(II)V"⟩, 21) := ⟨⟨by decide +kernel, by decide +kernel⟩, List.mem_of_getElem? (i := 583) (by decide +kernel), List.mem_of_getElem? (i := 846) (by decide +kernel), List.mem_of_getElem? (i := 847) (by decide +kernel)⟩
theorem lw_p35 : lw_okq (⟨"IntervalTextModel", "takeUncertain", "(ZZZI)V"⟩, 21) := ⟨⟨by decide +kernel, by decide +kernel⟩, List.mem_of_getElem? (i := 583) (by decide +kernel), List.mem_of_getElem? (i := 850) (by decide +kernel), List.mem_of_getElem? (i := 851) (by decide +kernel)⟩
theorem lw_p36 : lw_okq (⟨"IntervalTextModel", "endOf", "(ZZI)V"⟩, 21) := ⟨⟨by decide +kernel, by decide +kernel⟩, List.mem_of_getElem? (i := 583) (by decide +kernel), List.mem_of_getElem? (i := 854) (by decide +kernel), List.mem_of_getElem? (i := 855) (by decide +kernel)⟩
theorem lw_p37 : lw_okq (⟨"IntervalTextModel", "strongest", "()I"⟩, 21) := ⟨⟨by decide +kernel, by decide +kernel⟩, List.mem_of_getElem? (i := 583) (by decide +kernel), List.mem_of_getElem? (i := 874) (by decide +kernel), List.mem_of_getElem? (i := 875) (by decide +kernel)⟩
theorem lw_p38 : lw_okq (⟨"IntervalTextModel", "isBounded", "()Z"⟩, 21) := ⟨⟨by decide +kernel, by decide +kernel⟩, List.mem_of_getElem? (i := 583) (by decide +kernel), List.mem_of_getElem? (i := 878) (by decide +kernel), List.mem_of_getElem? (i := 879) (by decide +kernel)⟩
theorem lw_p39 : lw_okq (⟨"IntervalTextModel", "markOfText", "(II)I"⟩, 21) := ⟨⟨by decide +kernel, by decide +kernel⟩, List.mem_of_getElem? (i := 583) (by decide +kernel), List.mem_of_getElem? (i := 886) (by decide +kernel), List.mem_of_getElem? (i := 887) (by decide +kernel)⟩
theorem lw_p40 : lw_okq (⟨"IntervalTextModel", "put", "(I)V"⟩, 21) := ⟨⟨by decide +kernel, by decide +kernel⟩, List.mem_of_getElem? (i := 583) (by decide +kernel), List.mem_of_getElem? (i := 915) (by decide +kernel), List.mem_of_getElem? (i := 916) (by decide +kernel)⟩
theorem lw_p41 : lw_okq (⟨"IntervalTextModel", "putText", "(Ljava/lang/String;)V"⟩, 21) := ⟨⟨by decide +kernel, by decide +kernel⟩, List.mem_of_getElem? (i := 583) (by decide +kernel), List.mem_of_getElem? (i := 920) (by decide +kernel), List.mem_of_getElem? (i := 921) (by decide +kernel)⟩
theorem lw_p42 : lw_okq (⟨"IntervalTextModel", "putEnd", "(JIZ)V"⟩, 21) := ⟨⟨by decide +kernel, by decide +kernel⟩, List.mem_of_getElem? (i := 583) (by decide +kernel), List.mem_of_getElem? (i := 924) (by decide +kernel), List.mem_of_getElem? (i := 925) (by decide +kernel)⟩
theorem lw_p43 : lw_okq (⟨"IntervalTextModel", "putExact", "(J)V"⟩, 21) := ⟨⟨by decide +kernel, by decide +kernel⟩, List.mem_of_getElem? (i := 583) (by decide +kernel), List.mem_of_getElem? (i := 928) (by decide +kernel), List.mem_of_getElem? (i := 929) (by decide +kernel)⟩
theorem lw_p44 : lw_okq (⟨"IntervalTextModel", "putNumber", "(J)V"⟩, 21) := ⟨⟨by decide +kernel, by decide +kernel⟩, List.mem_of_getElem? (i := 583) (by decide +kernel), List.mem_of_getElem? (i := 937) (by decide +kernel), List.mem_of_getElem? (i := 938) (by decide +kernel)⟩
theorem lw_p45 : lw_okq (⟨"IntervalTextModel", "putRounded", "(JIZ)V"⟩, 21) := ⟨⟨by decide +kernel, by decide +kernel⟩, List.mem_of_getElem? (i := 583) (by decide +kernel), List.mem_of_getElem? (i := 944) (by decide +kernel), List.mem_of_getElem? (i := 945) (by decide +kernel)⟩
theorem lw_p46 : lw_okq (⟨"IntervalTextModel", "setTens", "(LIntervalTextModel$Num;I)V"⟩, 21) := ⟨⟨by decide +kernel, by decide +kernel⟩, List.mem_of_getElem? (i := 583) (by decide +kernel), List.mem_of_getElem? (i := 948) (by decide +kernel), List.mem_of_getElem? (i := 949) (by decide +kernel)⟩
def lw_privs_3 : List (MethodName × Nat) := [(⟨"IntervalTextModel", "down", "(LIntervalTextModel$Num;)J"⟩, 21), (⟨"IntervalTextModel", "up", "(LIntervalTextModel$Num;)J"⟩, 21), (⟨"IntervalTextModel", "readUncertain", "(II)V"⟩, 21), (⟨"IntervalTextModel", "takeUncertain", "(ZZZI)V"⟩, 21), (⟨"IntervalTextModel", "endOf", "(ZZI)V"⟩, 21), (⟨"IntervalTextModel", "strongest", "()I"⟩, 21), (⟨"IntervalTextModel", "isBounded", "()Z"⟩, 21), (⟨"IntervalTextModel", "markOfText", "(II)I"⟩, 21), (⟨"IntervalTextModel", "put", "(I)V"⟩, 21), (⟨"IntervalTextModel", "putText", "(Ljava/lang/String;)V"⟩, 21), (⟨"IntervalTextModel", "putEnd", "(JIZ)V"⟩, 21), (⟨"IntervalTextModel", "putExact", "(J)V"⟩, 21), (⟨"IntervalTextModel", "putNumber", "(J)V"⟩, 21), (⟨"IntervalTextModel", "putRounded", "(JIZ)V"⟩, 21), (⟨"IntervalTextModel", "setTens", "(LIntervalTextModel$Num;I)V"⟩, 21)]
theorem lw_r3 : ∀ q ∈ lw_privs_3, lw_okq q := List.forall_mem_cons.mpr ⟨lw_p32, List.forall_mem_cons.mpr ⟨lw_p33, List.forall_mem_cons.mpr ⟨lw_p34, List.forall_mem_cons.mpr ⟨lw_p35, List.forall_mem_cons.mpr ⟨lw_p36, List.forall_mem_cons.mpr ⟨lw_p37, List.forall_mem_cons.mpr ⟨lw_p38, List.forall_mem_cons.mpr ⟨lw_p39, List.forall_mem_cons.mpr ⟨lw_p40, List.forall_mem_cons.mpr ⟨lw_p41, List.forall_mem_cons.mpr ⟨lw_p42, List.forall_mem_cons.mpr ⟨lw_p43, List.forall_mem_cons.mpr ⟨lw_p44, List.forall_mem_cons.mpr ⟨lw_p45, List.forall_mem_cons.mpr ⟨lw_p46, fun _ h => absurd h List.not_mem_nil⟩⟩⟩⟩⟩⟩⟩⟩⟩⟩⟩⟩⟩⟩⟩
def lw_privs : List (MethodName × Nat) := lw_privs_1 ++ (lw_privs_2 ++ (lw_privs_3))
def lw_tbl : List Cond := k2_sels lw_privs ++ tables_1
theorem lw_privs_ok : ∀ q ∈ lw_privs, lw_okq q := by
  show ∀ q ∈ lw_privs_1 ++ (lw_privs_2 ++ (lw_privs_3)), lw_okq q
  exact List.forall_mem_append.mpr ⟨lw_r1, List.forall_mem_append.mpr ⟨lw_r2, lw_r3⟩⟩
/-- the words that all methods share -/
def TB : List Cond := lw_tbl.filter goodWord
theorem tb_m {w : Cond} (h : w ∈ lw_tbl) (g : goodWord w = true) : w ∈ TB := List.mem_filter.mpr ⟨h, g⟩
theorem tb_t {w : Cond} (h : w ∈ tables_1) (g : goodWord w = true) : w ∈ TB := tb_m (List.mem_append_right _ h) g
theorem tb_p (i : Nat) {y : MethodName} {n : Nat} (h : lw_privs[i]? = some (y, n)) : Cond.selects y.cls y y ∈ TB := tb_m (List.mem_append_left _ (List.mem_map.mpr ⟨(y, n), List.mem_of_getElem? h, rfl⟩)) rfl
theorem gTB : GoodTB TB := fun w h => good_of_word (List.mem_filter.mp h).2
def R_Natural : String := "IntervalText$Natural"
def F_Natural : u_T := fun k => match k with
  | 0 => ("IntervalText$Natural", "limbs", "[I", true)
  | _ => ("IntervalText$Natural", "size", "I", false)
def t_Natural : Nat → FieldType := fun k => match k with
  | 0 => (.array .int)
  | _ => .int
def R_Ratio : String := "IntervalText$Ratio"
def F_Ratio : u_T := fun k => match k with
  | 0 => ("IntervalText$Ratio", "top", "LIntervalText$Natural;", true)
  | 1 => ("IntervalText$Ratio", "bottom", "LIntervalText$Natural;", true)
  | 2 => ("IntervalText$Ratio", "negative", "Z", false)
  | _ => ("IntervalText$Ratio", "power", "I", false)
def t_Ratio : Nat → FieldType := fun k => match k with
  | 0 => (.object "IntervalText$Natural")
  | 1 => (.object "IntervalText$Natural")
  | 2 => .boolean
  | _ => .int
def R_Arithmetic : String := "IntervalText$Arithmetic"
def F_Arithmetic : u_T := fun k => match k with
  | 0 => ("IntervalText$Arithmetic", "left", "LIntervalText$Natural;", true)
  | 1 => ("IntervalText$Arithmetic", "right", "LIntervalText$Natural;", true)
  | 2 => ("IntervalText$Arithmetic", "quotient", "J", false)
  | _ => ("IntervalText$Arithmetic", "inexact", "Z", false)
def t_Arithmetic : Nat → FieldType := fun k => match k with
  | 0 => (.object "IntervalText$Natural")
  | 1 => (.object "IntervalText$Natural")
  | 2 => .long
  | _ => .boolean
def R_Row : String := "IntervalText$Row"
def F_Row : u_T := fun k => match k with
  | 0 => ("IntervalText$Row", "chars", "[C", true)
  | _ => ("IntervalText$Row", "size", "I", false)
def t_Row : Nat → FieldType := fun k => match k with
  | 0 => (.array .char)
  | _ => .int
def R_Scanner : String := "IntervalText$Scanner"
def F_Scanner : u_T := fun k => match k with
  | 0 => ("IntervalText$Scanner", "tape", "LIntervalText$Row;", true)
  | 1 => ("IntervalText$Scanner", "arithmetic", "LIntervalText$Arithmetic;", true)
  | 2 => ("IntervalText$Scanner", "first", "LIntervalText$Ratio;", true)
  | 3 => ("IntervalText$Scanner", "second", "LIntervalText$Ratio;", true)
  | 4 => ("IntervalText$Scanner", "radius", "LIntervalText$Natural;", true)
  | 5 => ("IntervalText$Scanner", "empty", "Z", false)
  | 6 => ("IntervalText$Scanner", "openBelow", "Z", false)
  | 7 => ("IntervalText$Scanner", "openAbove", "Z", false)
  | 8 => ("IntervalText$Scanner", "at", "I", false)
  | 9 => ("IntervalText$Scanner", "fraction", "I", false)
  | 10 => ("IntervalText$Scanner", "exponent", "I", false)
  | _ => ("IntervalText$Scanner", "hasPoint", "Z", false)
def t_Scanner : Nat → FieldType := fun k => match k with
  | 0 => (.object "IntervalText$Row")
  | 1 => (.object "IntervalText$Arithmetic")
  | 2 => (.object "IntervalText$Ratio")
  | 3 => (.object "IntervalText$Ratio")
  | 4 => (.object "IntervalText$Natural")
  | 5 => .boolean
  | 6 => .boolean
  | 7 => .boolean
  | 8 => .int
  | 9 => .int
  | 10 => .int
  | _ => .boolean
def R_Printer : String := "IntervalText$Printer"
def F_Printer : u_T := fun k => match k with
  | 0 => ("IntervalText$Printer", "out", "LIntervalText$Row;", true)
  | 1 => ("IntervalText$Printer", "arithmetic", "LIntervalText$Arithmetic;", true)
  | _ => ("IntervalText$Printer", "ratio", "LIntervalText$Ratio;", true)
def t_Printer : Nat → FieldType := fun k => match k with
  | 0 => (.object "IntervalText$Row")
  | 1 => (.object "IntervalText$Arithmetic")
  | _ => (.object "IntervalText$Ratio")
def R_IT : String := "IntervalText"
def F_IT : u_T := fun k => match k with
  | 0 => ("IntervalText", "tape", "LIntervalText$Row;", true)
  | 1 => ("IntervalText", "out", "LIntervalText$Row;", true)
  | 2 => ("IntervalText", "arithmetic", "LIntervalText$Arithmetic;", true)
  | 3 => ("IntervalText", "scanner", "LIntervalText$Scanner;", true)
  | 4 => ("IntervalText", "printer", "LIntervalText$Printer;", true)
  | 5 => ("IntervalText", "lowEnd", "J", false)
  | _ => ("IntervalText", "highEnd", "J", false)
def t_IT : Nat → FieldType := fun k => match k with
  | 0 => (.object "IntervalText$Row")
  | 1 => (.object "IntervalText$Row")
  | 2 => (.object "IntervalText$Arithmetic")
  | 3 => (.object "IntervalText$Scanner")
  | 4 => (.object "IntervalText$Printer")
  | 5 => .long
  | _ => .long
def R_Big : String := "IntervalTextModel$Big"
def F_Big : u_T := fun k => match k with
  | 0 => ("IntervalTextModel$Big", "d", "[I", true)
  | _ => ("IntervalTextModel$Big", "n", "I", false)
def t_Big : Nat → FieldType := fun k => match k with
  | 0 => (.array .int)
  | _ => .int
def R_Num : String := "IntervalTextModel$Num"
def F_Num : u_T := fun k => match k with
  | 0 => ("IntervalTextModel$Num", "below", "Z", false)
  | 1 => ("IntervalTextModel$Num", "p", "LIntervalTextModel$Big;", true)
  | 2 => ("IntervalTextModel$Num", "q", "LIntervalTextModel$Big;", true)
  | _ => ("IntervalTextModel$Num", "e", "I", false)
def t_Num : Nat → FieldType := fun k => match k with
  | 0 => .boolean
  | 1 => (.object "IntervalTextModel$Big")
  | 2 => (.object "IntervalTextModel$Big")
  | _ => .int
def R_Mo : String := "IntervalTextModel"
def F_Mo : u_T := fun k => match k with
  | 0 => ("IntervalTextModel", "left", "LIntervalTextModel$Big;", true)
  | 1 => ("IntervalTextModel", "right", "LIntervalTextModel$Big;", true)
  | 2 => ("IntervalTextModel", "probe", "LIntervalTextModel$Num;", true)
  | 3 => ("IntervalTextModel", "opposite", "LIntervalTextModel$Num;", true)
  | 4 => ("IntervalTextModel", "tapeSize", "I", false)
  | 5 => ("IntervalTextModel", "tape", "[I", true)
  | 6 => ("IntervalTextModel", "outSize", "I", false)
  | 7 => ("IntervalTextModel", "out", "[I", true)
  | 8 => ("IntervalTextModel", "readLow", "J", false)
  | 9 => ("IntervalTextModel", "readHigh", "J", false)
  | 10 => ("IntervalTextModel", "none", "Z", false)
  | 11 => ("IntervalTextModel", "low", "J", false)
  | 12 => ("IntervalTextModel", "high", "J", false)
  | 13 => ("IntervalTextModel", "one", "LIntervalTextModel$Num;", true)
  | 14 => ("IntervalTextModel", "two", "LIntervalTextModel$Num;", true)
  | 15 => ("IntervalTextModel", "three", "LIntervalTextModel$Num;", true)
  | 16 => ("IntervalTextModel", "four", "LIntervalTextModel$Num;", true)
  | 17 => ("IntervalTextModel", "mantissaScale", "I", false)
  | 18 => ("IntervalTextModel", "exponent", "I", false)
  | 19 => ("IntervalTextModel", "good", "Z", false)
  | _ => ("IntervalTextModel", "open", "Z", false)
def t_Mo : Nat → FieldType := fun k => match k with
  | 0 => (.object "IntervalTextModel$Big")
  | 1 => (.object "IntervalTextModel$Big")
  | 2 => (.object "IntervalTextModel$Num")
  | 3 => (.object "IntervalTextModel$Num")
  | 4 => .int
  | 5 => (.array .int)
  | 6 => .int
  | 7 => (.array .int)
  | 8 => .long
  | 9 => .long
  | 10 => .boolean
  | 11 => .long
  | 12 => .long
  | 13 => (.object "IntervalTextModel$Num")
  | 14 => (.object "IntervalTextModel$Num")
  | 15 => (.object "IntervalTextModel$Num")
  | 16 => (.object "IntervalTextModel$Num")
  | 17 => .int
  | 18 => .int
  | 19 => .boolean
  | _ => .boolean
abbrev classes : List vw_C := [(R_Natural, F_Natural, 2), (R_Ratio, F_Ratio, 4), (R_Arithmetic, F_Arithmetic, 4), (R_Row, F_Row, 2), (R_Scanner, F_Scanner, 12), (R_Printer, F_Printer, 3), (R_IT, F_IT, 7), (R_Big, F_Big, 2), (R_Num, F_Num, 4), (R_Mo, F_Mo, 21)]
theorem i_Natural : ∀ w ∈ u_ws R_Natural F_Natural 2, w ∈ TB := show ∀ w ∈ ([Cond.laysFinal "IntervalText$Natural" "IntervalText$Natural" "limbs" "[I", Cond.lays "IntervalText$Natural" "IntervalText$Natural" "size" "I"] : List Cond), w ∈ TB from List.forall_mem_cons.mpr ⟨tb_t (List.mem_append_left _ (List.mem_of_getElem? (l := tables_1_1) (i := 58) rfl)) rfl, List.forall_mem_cons.mpr ⟨tb_t (List.mem_append_left _ (List.mem_of_getElem? (l := tables_1_1) (i := 60) rfl)) rfl, fun _ h => absurd h List.not_mem_nil⟩⟩
theorem t_Natural_ok : ∀ k, k < 2 → parseFieldDescriptor (F_Natural k).2.2.1 = some (t_Natural k) := by decide +kernel
theorem n_Natural : ∀ a, a < 2 → ∀ b, b < 2 → a ≠ b → (F_Natural a).2.1 ≠ (F_Natural b).2.1 := by decide +kernel
theorem e_Natural : ∀ k, k < 2 → ∃ t, parseFieldDescriptor (F_Natural k).2.2.1 = some t := fun k hk => ⟨_, t_Natural_ok k hk⟩
theorem i_Ratio : ∀ w ∈ u_ws R_Ratio F_Ratio 4, w ∈ TB := show ∀ w ∈ ([Cond.laysFinal "IntervalText$Ratio" "IntervalText$Ratio" "top" "LIntervalText$Natural;", Cond.laysFinal "IntervalText$Ratio" "IntervalText$Ratio" "bottom" "LIntervalText$Natural;", Cond.lays "IntervalText$Ratio" "IntervalText$Ratio" "negative" "Z", Cond.lays "IntervalText$Ratio" "IntervalText$Ratio" "power" "I"] : List Cond), w ∈ TB from List.forall_mem_cons.mpr ⟨tb_t (List.mem_append_left _ (List.mem_of_getElem? (l := tables_1_1) (i := 111) rfl)) rfl, List.forall_mem_cons.mpr ⟨tb_t (List.mem_append_left _ (List.mem_of_getElem? (l := tables_1_1) (i := 113) rfl)) rfl, List.forall_mem_cons.mpr ⟨tb_t (List.mem_append_left _ (List.mem_of_getElem? (l := tables_1_1) (i := 115) rfl)) rfl, List.forall_mem_cons.mpr ⟨tb_t (List.mem_append_left _ (List.mem_of_getElem? (l := tables_1_1) (i := 117) rfl)) rfl, fun _ h => absurd h List.not_mem_nil⟩⟩⟩⟩
theorem t_Ratio_ok : ∀ k, k < 4 → parseFieldDescriptor (F_Ratio k).2.2.1 = some (t_Ratio k) := by decide +kernel
theorem n_Ratio : ∀ a, a < 4 → ∀ b, b < 4 → a ≠ b → (F_Ratio a).2.1 ≠ (F_Ratio b).2.1 := by decide +kernel
theorem e_Ratio : ∀ k, k < 4 → ∃ t, parseFieldDescriptor (F_Ratio k).2.2.1 = some t := fun k hk => ⟨_, t_Ratio_ok k hk⟩
theorem i_Arithmetic : ∀ w ∈ u_ws R_Arithmetic F_Arithmetic 4, w ∈ TB := show ∀ w ∈ ([Cond.laysFinal "IntervalText$Arithmetic" "IntervalText$Arithmetic" "left" "LIntervalText$Natural;", Cond.laysFinal "IntervalText$Arithmetic" "IntervalText$Arithmetic" "right" "LIntervalText$Natural;", Cond.lays "IntervalText$Arithmetic" "IntervalText$Arithmetic" "quotient" "J", Cond.lays "IntervalText$Arithmetic" "IntervalText$Arithmetic" "inexact" "Z"] : List Cond), w ∈ TB from List.forall_mem_cons.mpr ⟨tb_t (List.mem_append_left _ (List.mem_of_getElem? (l := tables_1_1) (i := 70) rfl)) rfl, List.forall_mem_cons.mpr ⟨tb_t (List.mem_append_left _ (List.mem_of_getElem? (l := tables_1_1) (i := 72) rfl)) rfl, List.forall_mem_cons.mpr ⟨tb_t (List.mem_append_left _ (List.mem_of_getElem? (l := tables_1_1) (i := 74) rfl)) rfl, List.forall_mem_cons.mpr ⟨tb_t (List.mem_append_left _ (List.mem_of_getElem? (l := tables_1_1) (i := 76) rfl)) rfl, fun _ h => absurd h List.not_mem_nil⟩⟩⟩⟩
theorem t_Arithmetic_ok : ∀ k, k < 4 → parseFieldDescriptor (F_Arithmetic k).2.2.1 = some (t_Arithmetic k) := by decide +kernel
theorem n_Arithmetic : ∀ a, a < 4 → ∀ b, b < 4 → a ≠ b → (F_Arithmetic a).2.1 ≠ (F_Arithmetic b).2.1 := by decide +kernel
theorem e_Arithmetic : ∀ k, k < 4 → ∃ t, parseFieldDescriptor (F_Arithmetic k).2.2.1 = some t := fun k hk => ⟨_, t_Arithmetic_ok k hk⟩
theorem i_Row : ∀ w ∈ u_ws R_Row F_Row 2, w ∈ TB := show ∀ w ∈ ([Cond.laysFinal "IntervalText$Row" "IntervalText$Row" "chars" "[C", Cond.lays "IntervalText$Row" "IntervalText$Row" "size" "I"] : List Cond), w ∈ TB from List.forall_mem_cons.mpr ⟨tb_t (List.mem_append_left _ (List.mem_of_getElem? (l := tables_1_1) (i := 35) rfl)) rfl, List.forall_mem_cons.mpr ⟨tb_t (List.mem_append_left _ (List.mem_of_getElem? (l := tables_1_1) (i := 37) rfl)) rfl, fun _ h => absurd h List.not_mem_nil⟩⟩
theorem t_Row_ok : ∀ k, k < 2 → parseFieldDescriptor (F_Row k).2.2.1 = some (t_Row k) := by decide +kernel
theorem n_Row : ∀ a, a < 2 → ∀ b, b < 2 → a ≠ b → (F_Row a).2.1 ≠ (F_Row b).2.1 := by decide +kernel
theorem e_Row : ∀ k, k < 2 → ∃ t, parseFieldDescriptor (F_Row k).2.2.1 = some t := fun k hk => ⟨_, t_Row_ok k hk⟩
theorem i_Scanner : ∀ w ∈ u_ws R_Scanner F_Scanner 12, w ∈ TB := show ∀ w ∈ ([Cond.laysFinal "IntervalText$Scanner" "IntervalText$Scanner" "tape" "LIntervalText$Row;", Cond.laysFinal "IntervalText$Scanner" "IntervalText$Scanner" "arithmetic" "LIntervalText$Arithmetic;", Cond.laysFinal "IntervalText$Scanner" "IntervalText$Scanner" "first" "LIntervalText$Ratio;", Cond.laysFinal "IntervalText$Scanner" "IntervalText$Scanner" "second" "LIntervalText$Ratio;", Cond.laysFinal "IntervalText$Scanner" "IntervalText$Scanner" "radius" "LIntervalText$Natural;", Cond.lays "IntervalText$Scanner" "IntervalText$Scanner" "empty" "Z", Cond.lays "IntervalText$Scanner" "IntervalText$Scanner" "openBelow" "Z", Cond.lays "IntervalText$Scanner" "IntervalText$Scanner" "openAbove" "Z", Cond.lays "IntervalText$Scanner" "IntervalText$Scanner" "at" "I", Cond.lays "IntervalText$Scanner" "IntervalText$Scanner" "fraction" "I", Cond.lays "IntervalText$Scanner" "IntervalText$Scanner" "exponent" "I", Cond.lays "IntervalText$Scanner" "IntervalText$Scanner" "hasPoint" "Z"] : List Cond), w ∈ TB from List.forall_mem_cons.mpr ⟨tb_t (List.mem_append_left _ (List.mem_of_getElem? (l := tables_1_1) (i := 139) rfl)) rfl, List.forall_mem_cons.mpr ⟨tb_t (List.mem_append_left _ (List.mem_of_getElem? (l := tables_1_1) (i := 141) rfl)) rfl, List.forall_mem_cons.mpr ⟨tb_t (List.mem_append_left _ (List.mem_of_getElem? (l := tables_1_1) (i := 143) rfl)) rfl, List.forall_mem_cons.mpr ⟨tb_t (List.mem_append_left _ (List.mem_of_getElem? (l := tables_1_1) (i := 145) rfl)) rfl, List.forall_mem_cons.mpr ⟨tb_t (List.mem_append_left _ (List.mem_of_getElem? (l := tables_1_1) (i := 147) rfl)) rfl, List.forall_mem_cons.mpr ⟨tb_t (List.mem_append_left _ (List.mem_of_getElem? (l := tables_1_1) (i := 149) rfl)) rfl, List.forall_mem_cons.mpr ⟨tb_t (List.mem_append_left _ (List.mem_of_getElem? (l := tables_1_1) (i := 151) rfl)) rfl, List.forall_mem_cons.mpr ⟨tb_t (List.mem_append_left _ (List.mem_of_getElem? (l := tables_1_1) (i := 153) rfl)) rfl, List.forall_mem_cons.mpr ⟨tb_t (List.mem_append_left _ (List.mem_of_getElem? (l := tables_1_1) (i := 155) rfl)) rfl, List.forall_mem_cons.mpr ⟨tb_t (List.mem_append_left _ (List.mem_of_getElem? (l := tables_1_1) (i := 157) rfl)) rfl, List.forall_mem_cons.mpr ⟨tb_t (List.mem_append_left _ (List.mem_of_getElem? (l := tables_1_1) (i := 159) rfl)) rfl, List.forall_mem_cons.mpr ⟨tb_t (List.mem_append_left _ (List.mem_of_getElem? (l := tables_1_1) (i := 161) rfl)) rfl, fun _ h => absurd h List.not_mem_nil⟩⟩⟩⟩⟩⟩⟩⟩⟩⟩⟩⟩
theorem t_Scanner_ok : ∀ k, k < 12 → parseFieldDescriptor (F_Scanner k).2.2.1 = some (t_Scanner k) := by decide +kernel
theorem n_Scanner : ∀ a, a < 12 → ∀ b, b < 12 → a ≠ b → (F_Scanner a).2.1 ≠ (F_Scanner b).2.1 := by decide +kernel
theorem e_Scanner : ∀ k, k < 12 → ∃ t, parseFieldDescriptor (F_Scanner k).2.2.1 = some t := fun k hk => ⟨_, t_Scanner_ok k hk⟩
theorem i_Printer : ∀ w ∈ u_ws R_Printer F_Printer 3, w ∈ TB := show ∀ w ∈ ([Cond.laysFinal "IntervalText$Printer" "IntervalText$Printer" "out" "LIntervalText$Row;", Cond.laysFinal "IntervalText$Printer" "IntervalText$Printer" "arithmetic" "LIntervalText$Arithmetic;", Cond.laysFinal "IntervalText$Printer" "IntervalText$Printer" "ratio" "LIntervalText$Ratio;"] : List Cond), w ∈ TB from List.forall_mem_cons.mpr ⟨tb_t (List.mem_append_left _ (List.mem_of_getElem? (l := tables_1_1) (i := 175) rfl)) rfl, List.forall_mem_cons.mpr ⟨tb_t (List.mem_append_left _ (List.mem_of_getElem? (l := tables_1_1) (i := 177) rfl)) rfl, List.forall_mem_cons.mpr ⟨tb_t (List.mem_append_left _ (List.mem_of_getElem? (l := tables_1_1) (i := 179) rfl)) rfl, fun _ h => absurd h List.not_mem_nil⟩⟩⟩
theorem t_Printer_ok : ∀ k, k < 3 → parseFieldDescriptor (F_Printer k).2.2.1 = some (t_Printer k) := by decide +kernel
theorem n_Printer : ∀ a, a < 3 → ∀ b, b < 3 → a ≠ b → (F_Printer a).2.1 ≠ (F_Printer b).2.1 := by decide +kernel
theorem e_Printer : ∀ k, k < 3 → ∃ t, parseFieldDescriptor (F_Printer k).2.2.1 = some t := fun k hk => ⟨_, t_Printer_ok k hk⟩
theorem i_IT : ∀ w ∈ u_ws R_IT F_IT 7, w ∈ TB := show ∀ w ∈ ([Cond.laysFinal "IntervalText" "IntervalText" "tape" "LIntervalText$Row;", Cond.laysFinal "IntervalText" "IntervalText" "out" "LIntervalText$Row;", Cond.laysFinal "IntervalText" "IntervalText" "arithmetic" "LIntervalText$Arithmetic;", Cond.laysFinal "IntervalText" "IntervalText" "scanner" "LIntervalText$Scanner;", Cond.laysFinal "IntervalText" "IntervalText" "printer" "LIntervalText$Printer;", Cond.lays "IntervalText" "IntervalText" "lowEnd" "J", Cond.lays "IntervalText" "IntervalText" "highEnd" "J"] : List Cond), w ∈ TB from List.forall_mem_cons.mpr ⟨tb_t (List.mem_append_left _ (List.mem_of_getElem? (l := tables_1_1) (i := 190) rfl)) rfl, List.forall_mem_cons.mpr ⟨tb_t (List.mem_append_left _ (List.mem_of_getElem? (l := tables_1_1) (i := 192) rfl)) rfl, List.forall_mem_cons.mpr ⟨tb_t (List.mem_append_left _ (List.mem_of_getElem? (l := tables_1_1) (i := 194) rfl)) rfl, List.forall_mem_cons.mpr ⟨tb_t (List.mem_append_left _ (List.mem_of_getElem? (l := tables_1_1) (i := 196) rfl)) rfl, List.forall_mem_cons.mpr ⟨tb_t (List.mem_append_left _ (List.mem_of_getElem? (l := tables_1_1) (i := 198) rfl)) rfl, List.forall_mem_cons.mpr ⟨tb_t (List.mem_append_left _ (List.mem_of_getElem? (l := tables_1_1) (i := 200) rfl)) rfl, List.forall_mem_cons.mpr ⟨tb_t (List.mem_append_left _ (List.mem_of_getElem? (l := tables_1_1) (i := 202) rfl)) rfl, fun _ h => absurd h List.not_mem_nil⟩⟩⟩⟩⟩⟩⟩
theorem t_IT_ok : ∀ k, k < 7 → parseFieldDescriptor (F_IT k).2.2.1 = some (t_IT k) := by decide +kernel
theorem n_IT : ∀ a, a < 7 → ∀ b, b < 7 → a ≠ b → (F_IT a).2.1 ≠ (F_IT b).2.1 := by decide +kernel
theorem e_IT : ∀ k, k < 7 → ∃ t, parseFieldDescriptor (F_IT k).2.2.1 = some t := fun k hk => ⟨_, t_IT_ok k hk⟩
theorem i_Big : ∀ w ∈ u_ws R_Big F_Big 2, w ∈ TB := show ∀ w ∈ ([Cond.laysFinal "IntervalTextModel$Big" "IntervalTextModel$Big" "d" "[I", Cond.lays "IntervalTextModel$Big" "IntervalTextModel$Big" "n" "I"] : List Cond), w ∈ TB from List.forall_mem_cons.mpr ⟨tb_t (List.mem_append_right _ (List.mem_append_right _ (List.mem_append_left _ (List.mem_of_getElem? (l := tables_1_3) (i := 118) rfl)))) rfl, List.forall_mem_cons.mpr ⟨tb_t (List.mem_append_right _ (List.mem_append_right _ (List.mem_append_left _ (List.mem_of_getElem? (l := tables_1_3) (i := 120) rfl)))) rfl, fun _ h => absurd h List.not_mem_nil⟩⟩
theorem t_Big_ok : ∀ k, k < 2 → parseFieldDescriptor (F_Big k).2.2.1 = some (t_Big k) := by decide +kernel
theorem n_Big : ∀ a, a < 2 → ∀ b, b < 2 → a ≠ b → (F_Big a).2.1 ≠ (F_Big b).2.1 := by decide +kernel
theorem e_Big : ∀ k, k < 2 → ∃ t, parseFieldDescriptor (F_Big k).2.2.1 = some t := fun k hk => ⟨_, t_Big_ok k hk⟩
theorem i_Num : ∀ w ∈ u_ws R_Num F_Num 4, w ∈ TB := show ∀ w ∈ ([Cond.lays "IntervalTextModel$Num" "IntervalTextModel$Num" "below" "Z", Cond.laysFinal "IntervalTextModel$Num" "IntervalTextModel$Num" "p" "LIntervalTextModel$Big;", Cond.laysFinal "IntervalTextModel$Num" "IntervalTextModel$Num" "q" "LIntervalTextModel$Big;", Cond.lays "IntervalTextModel$Num" "IntervalTextModel$Num" "e" "I"] : List Cond), w ∈ TB from List.forall_mem_cons.mpr ⟨tb_t (List.mem_append_right _ (List.mem_append_right _ (List.mem_append_left _ (List.mem_of_getElem? (l := tables_1_3) (i := 139) rfl)))) rfl, List.forall_mem_cons.mpr ⟨tb_t (List.mem_append_right _ (List.mem_append_right _ (List.mem_append_left _ (List.mem_of_getElem? (l := tables_1_3) (i := 141) rfl)))) rfl, List.forall_mem_cons.mpr ⟨tb_t (List.mem_append_right _ (List.mem_append_right _ (List.mem_append_left _ (List.mem_of_getElem? (l := tables_1_3) (i := 143) rfl)))) rfl, List.forall_mem_cons.mpr ⟨tb_t (List.mem_append_right _ (List.mem_append_right _ (List.mem_append_left _ (List.mem_of_getElem? (l := tables_1_3) (i := 145) rfl)))) rfl, fun _ h => absurd h List.not_mem_nil⟩⟩⟩⟩
theorem t_Num_ok : ∀ k, k < 4 → parseFieldDescriptor (F_Num k).2.2.1 = some (t_Num k) := by decide +kernel
theorem n_Num : ∀ a, a < 4 → ∀ b, b < 4 → a ≠ b → (F_Num a).2.1 ≠ (F_Num b).2.1 := by decide +kernel
theorem e_Num : ∀ k, k < 4 → ∃ t, parseFieldDescriptor (F_Num k).2.2.1 = some t := fun k hk => ⟨_, t_Num_ok k hk⟩
theorem i_Mo : ∀ w ∈ u_ws R_Mo F_Mo 21, w ∈ TB := show ∀ w ∈ ([Cond.laysFinal "IntervalTextModel" "IntervalTextModel" "left" "LIntervalTextModel$Big;", Cond.laysFinal "IntervalTextModel" "IntervalTextModel" "right" "LIntervalTextModel$Big;", Cond.laysFinal "IntervalTextModel" "IntervalTextModel" "probe" "LIntervalTextModel$Num;", Cond.laysFinal "IntervalTextModel" "IntervalTextModel" "opposite" "LIntervalTextModel$Num;", Cond.lays "IntervalTextModel" "IntervalTextModel" "tapeSize" "I", Cond.laysFinal "IntervalTextModel" "IntervalTextModel" "tape" "[I", Cond.lays "IntervalTextModel" "IntervalTextModel" "outSize" "I", Cond.laysFinal "IntervalTextModel" "IntervalTextModel" "out" "[I", Cond.lays "IntervalTextModel" "IntervalTextModel" "readLow" "J", Cond.lays "IntervalTextModel" "IntervalTextModel" "readHigh" "J", Cond.lays "IntervalTextModel" "IntervalTextModel" "none" "Z", Cond.lays "IntervalTextModel" "IntervalTextModel" "low" "J", Cond.lays "IntervalTextModel" "IntervalTextModel" "high" "J", Cond.laysFinal "IntervalTextModel" "IntervalTextModel" "one" "LIntervalTextModel$Num;", Cond.laysFinal "IntervalTextModel" "IntervalTextModel" "two" "LIntervalTextModel$Num;", Cond.laysFinal "IntervalTextModel" "IntervalTextModel" "three" "LIntervalTextModel$Num;", Cond.laysFinal "IntervalTextModel" "IntervalTextModel" "four" "LIntervalTextModel$Num;", Cond.lays "IntervalTextModel" "IntervalTextModel" "mantissaScale" "I", Cond.lays "IntervalTextModel" "IntervalTextModel" "exponent" "I", Cond.lays "IntervalTextModel" "IntervalTextModel" "good" "Z", Cond.lays "IntervalTextModel" "IntervalTextModel" "open" "Z"] : List Cond), w ∈ TB from List.forall_mem_cons.mpr ⟨tb_t (List.mem_append_right _ (List.mem_append_right _ (List.mem_append_left _ (List.mem_of_getElem? (l := tables_1_3) (i := 170) rfl)))) rfl, List.forall_mem_cons.mpr ⟨tb_t (List.mem_append_right _ (List.mem_append_right _ (List.mem_append_left _ (List.mem_of_getElem? (l := tables_1_3) (i := 172) rfl)))) rfl, List.forall_mem_cons.mpr ⟨tb_t (List.mem_append_right _ (List.mem_append_right _ (List.mem_append_left _ (List.mem_of_getElem? (l := tables_1_3) (i := 174) rfl)))) rfl, List.forall_mem_cons.mpr ⟨tb_t (List.mem_append_right _ (List.mem_append_right _ (List.mem_append_left _ (List.mem_of_getElem? (l := tables_1_3) (i := 176) rfl)))) rfl, List.forall_mem_cons.mpr ⟨tb_t (List.mem_append_right _ (List.mem_append_right _ (List.mem_append_left _ (List.mem_of_getElem? (l := tables_1_3) (i := 178) rfl)))) rfl, List.forall_mem_cons.mpr ⟨tb_t (List.mem_append_right _ (List.mem_append_right _ (List.mem_append_left _ (List.mem_of_getElem? (l := tables_1_3) (i := 180) rfl)))) rfl, List.forall_mem_cons.mpr ⟨tb_t (List.mem_append_right _ (List.mem_append_right _ (List.mem_append_left _ (List.mem_of_getElem? (l := tables_1_3) (i := 182) rfl)))) rfl, List.forall_mem_cons.mpr ⟨tb_t (List.mem_append_right _ (List.mem_append_right _ (List.mem_append_left _ (List.mem_of_getElem? (l := tables_1_3) (i := 184) rfl)))) rfl, List.forall_mem_cons.mpr ⟨tb_t (List.mem_append_right _ (List.mem_append_right _ (List.mem_append_left _ (List.mem_of_getElem? (l := tables_1_3) (i := 186) rfl)))) rfl, List.forall_mem_cons.mpr ⟨tb_t (List.mem_append_right _ (List.mem_append_right _ (List.mem_append_left _ (List.mem_of_getElem? (l := tables_1_3) (i := 188) rfl)))) rfl, List.forall_mem_cons.mpr ⟨tb_t (List.mem_append_right _ (List.mem_append_right _ (List.mem_append_left _ (List.mem_of_getElem? (l := tables_1_3) (i := 190) rfl)))) rfl, List.forall_mem_cons.mpr ⟨tb_t (List.mem_append_right _ (List.mem_append_right _ (List.mem_append_left _ (List.mem_of_getElem? (l := tables_1_3) (i := 192) rfl)))) rfl, List.forall_mem_cons.mpr ⟨tb_t (List.mem_append_right _ (List.mem_append_right _ (List.mem_append_left _ (List.mem_of_getElem? (l := tables_1_3) (i := 194) rfl)))) rfl, List.forall_mem_cons.mpr ⟨tb_t (List.mem_append_right _ (List.mem_append_right _ (List.mem_append_left _ (List.mem_of_getElem? (l := tables_1_3) (i := 196) rfl)))) rfl, List.forall_mem_cons.mpr ⟨tb_t (List.mem_append_right _ (List.mem_append_right _ (List.mem_append_left _ (List.mem_of_getElem? (l := tables_1_3) (i := 198) rfl)))) rfl, List.forall_mem_cons.mpr ⟨tb_t (List.mem_append_right _ (List.mem_append_right _ (List.mem_append_left _ (List.mem_of_getElem? (l := tables_1_3) (i := 200) rfl)))) rfl, List.forall_mem_cons.mpr ⟨tb_t (List.mem_append_right _ (List.mem_append_right _ (List.mem_append_left _ (List.mem_of_getElem? (l := tables_1_3) (i := 202) rfl)))) rfl, List.forall_mem_cons.mpr ⟨tb_t (List.mem_append_right _ (List.mem_append_right _ (List.mem_append_left _ (List.mem_of_getElem? (l := tables_1_3) (i := 204) rfl)))) rfl, List.forall_mem_cons.mpr ⟨tb_t (List.mem_append_right _ (List.mem_append_right _ (List.mem_append_left _ (List.mem_of_getElem? (l := tables_1_3) (i := 206) rfl)))) rfl, List.forall_mem_cons.mpr ⟨tb_t (List.mem_append_right _ (List.mem_append_right _ (List.mem_append_left _ (List.mem_of_getElem? (l := tables_1_3) (i := 208) rfl)))) rfl, List.forall_mem_cons.mpr ⟨tb_t (List.mem_append_right _ (List.mem_append_right _ (List.mem_append_left _ (List.mem_of_getElem? (l := tables_1_3) (i := 210) rfl)))) rfl, fun _ h => absurd h List.not_mem_nil⟩⟩⟩⟩⟩⟩⟩⟩⟩⟩⟩⟩⟩⟩⟩⟩⟩⟩⟩⟩⟩
theorem t_Mo_ok : ∀ k, k < 21 → parseFieldDescriptor (F_Mo k).2.2.1 = some (t_Mo k) := by decide +kernel
theorem n_Mo : ∀ a, a < 21 → ∀ b, b < 21 → a ≠ b → (F_Mo a).2.1 ≠ (F_Mo b).2.1 := by decide +kernel
theorem e_Mo : ∀ k, k < 21 → ∃ t, parseFieldDescriptor (F_Mo k).2.2.1 = some t := fun k hk => ⟨_, t_Mo_ok k hk⟩
/-! what stands outside: links between nest mates, texts, statics -/
def nestWs : List Cond := [Cond.fieldLinkNest "IntervalText$Natural" 25 "IntervalText" "FIVES" "[I" "IntervalText", Cond.methodLinkNest "IntervalText$Scanner" 72 ⟨"IntervalText", "markText", "(I)Ljava/lang/String;"⟩ "IntervalText", Cond.methodLinkNest "IntervalTextModel" 105 ⟨"IntervalTextModel$Big", "<init>", "()V"⟩ "IntervalTextModel", Cond.fieldLinkNest "IntervalTextModel$Num" 35 "IntervalTextModel$Big" "n" "I" "IntervalTextModel", Cond.fieldLinkNest "IntervalTextModel" 207 "IntervalTextModel$Big" "n" "I" "IntervalTextModel", Cond.methodLinkNest "IntervalTextModel" 106 ⟨"IntervalTextModel$Num", "<init>", "()V"⟩ "IntervalTextModel", Cond.methodLinkNest "IntervalTextModel$Num" 9 ⟨"IntervalTextModel$Big", "<init>", "()V"⟩ "IntervalTextModel", Cond.fieldLinkNest "IntervalTextModel" 88 "IntervalTextModel$Num" "below" "Z" "IntervalTextModel", Cond.fieldLinkNest "IntervalTextModel" 18 "IntervalTextModel$Num" "p" "LIntervalTextModel$Big;" "IntervalTextModel", Cond.fieldLinkNest "IntervalTextModel" 1 "IntervalTextModel$Num" "q" "LIntervalTextModel$Big;" "IntervalTextModel", Cond.fieldLinkNest "IntervalTextModel" 36 "IntervalTextModel$Num" "e" "I" "IntervalTextModel"]
def strRefs : List (String × Nat × String) := [("IntervalText$Scanner", 80, "["), ("IntervalText$Scanner", 82, "empty"), ("IntervalText$Scanner", 117, "]"), ("IntervalText$Scanner", 87, "entire"), ("IntervalText$Scanner", 92, "-inf"), ("IntervalText$Scanner", 119, "inity"), ("IntervalText$Scanner", 128, "0x"), ("IntervalText$Scanner", 153, "/"), ("IntervalText$Scanner", 105, ","), ("IntervalText$Scanner", 107, "inf"), ("IntervalText$Scanner", 109, "+inf"), ("IntervalText$Scanner", 163, "?"), ("IntervalText$Scanner", 173, "u"), ("IntervalText$Scanner", 175, "d"), ("IntervalText", 156, "_com"), ("IntervalText", 158, "_dac"), ("IntervalText", 160, "_def"), ("IntervalText", 162, "_trv"), ("IntervalText", 125, "[empty]"), ("IntervalText", 135, "[nai]"), ("IntervalText$Printer", 30, "[entire]"), ("IntervalText$Printer", 60, "inf"), ("IntervalText$Printer", 69, "0x0."), ("IntervalText$Printer", 71, "0x1."), ("IntervalTextModel", 247, "empty"), ("IntervalTextModel", 249, "entire"), ("IntervalTextModel", 262, "-inf"), ("IntervalTextModel", 264, "-infinity"), ("IntervalTextModel", 266, "inf"), ("IntervalTextModel", 268, "+inf"), ("IntervalTextModel", 270, "infinity"), ("IntervalTextModel", 272, "+infinity"), ("IntervalTextModel", 235, "com"), ("IntervalTextModel", 241, "dac"), ("IntervalTextModel", 243, "def"), ("IntervalTextModel", 245, "trv"), ("IntervalTextModel", 308, "nai"), ("IntervalTextModel", 332, "0x0."), ("IntervalTextModel", 334, "0x1."), ("IntervalTextModel", 318, "_com"), ("IntervalTextModel", 320, "_dac"), ("IntervalTextModel", 322, "_def"), ("IntervalTextModel", 324, "_trv")]
def strByt : List (List Int) := [[91], [101, 109, 112, 116, 121], [93], [101, 110, 116, 105, 114, 101], [45, 105, 110, 102], [105, 110, 105, 116, 121], [48, 120], [47], [44], [105, 110, 102], [43, 105, 110, 102], [63], [117], [100], [95, 99, 111, 109], [95, 100, 97, 99], [95, 100, 101, 102], [95, 116, 114, 118], [91, 101, 109, 112, 116, 121, 93], [91, 110, 97, 105, 93], [91, 101, 110, 116, 105, 114, 101, 93], [105, 110, 102], [48, 120, 48, 46], [48, 120, 49, 46], [101, 109, 112, 116, 121], [101, 110, 116, 105, 114, 101], [45, 105, 110, 102], [45, 105, 110, 102, 105, 110, 105, 116, 121], [105, 110, 102], [43, 105, 110, 102], [105, 110, 102, 105, 110, 105, 116, 121], [43, 105, 110, 102, 105, 110, 105, 116, 121], [99, 111, 109], [100, 97, 99], [100, 101, 102], [116, 114, 118], [110, 97, 105], [48, 120, 48, 46], [48, 120, 49, 46], [95, 99, 111, 109], [95, 100, 97, 99], [95, 100, 101, 102], [95, 116, 114, 118]]
def strLen (i : Nat) : Nat := (strByt.getD i []).length
/-- the char at k of text i -/
def strCh (i : Nat) (k : Int) : Int := (strByt.getD i []).getD k.toNat 0
def fives : List Int := [1, 5, 25, 125, 625, 3125, 15625, 78125, 390625, 1953125, 9765625, 48828125, 244140625]
/-- the classes of int and char arrays, where the texts and their bytes lie, where the powers of 5 lie -/
abbrev EVt : Type := ClassId × ClassId × (Nat → Nat) × (Nat → Nat) × Nat × Value
abbrev tyl (E : EVt) : List (ClassId × FieldType) := [(E.1, .int), (E.2.1, .char)]
/-- text i: its object and its bytes -/
def StrAt (E : EVt) (i : Nat) (A : Nat → Prop) (U : State) (H : Heap) : Prop := va_O "java/lang/String" (E.2.2.1 i) A U H ∧ va_OF "java/lang/String" "coder" "B" (.int (iI 0)) (E.2.2.1 i) A U H ∧ va_OF "java/lang/String" "value" "[B" (.ref (E.2.2.2.1 i)) (E.2.2.1 i) A U H ∧ va_T .byte (E.2.2.2.1 i) (strLen i) (fun j => .int (iI (strCh i (j : Int)))) A U H
def EVX (E : EVt) : EnvP := fun A U H => (∀ w ∈ nestWs, va_Nw w U) ∧ (∀ (i : Nat) (q : String × Nat × String), strRefs[i]? = some q → vk_R q.1 q.2.1 q.2.2 (E.2.2.1 i) U) ∧ (∀ i : Nat, i < 43 → StrAt E i A U H) ∧ va_Z "java/lang/String" "COMPACT_STRINGS" "Z" (.int (bI true)) A U H ∧ va_Z "IntervalText" "FIVES" "[I" (.ref E.2.2.2.2.1) A U H ∧ va_T .int E.2.2.2.2.1 13 (fun j => .int (iI (fives.getD j 0))) A U H ∧ va_Z "jdk/internal/util/Preconditions" "SIOOBE_FORMATTER" "Ljava/util/function/BiFunction;" E.2.2.2.2.2 A U H ∧ (E.2.2.2.2.2 = .null ∨ ∃ a : Nat, E.2.2.2.2.2 = .ref a)
theorem nest_on : ∀ w ∈ nestWs, w.onTables = true := by decide +kernel
theorem nest_warm {s U : State} (hW : s.WarmedH U.vm) : ∀ w ∈ nestWs, va_Nw w s → va_Nw w U := by
  intro w hw
  simp only [nestWs, List.mem_cons, List.not_mem_nil, or_false] at hw
  rcases hw with rfl | rfl | rfl | rfl | rfl | rfl | rfl | rfl | rfl | rfl | rfl <;> first | exact va_Nw.warmF hW | exact va_Nw.warmM hW
theorem eok (E : EVt) : EnvOk (EVX E) := by
  refine ⟨?_, ?_, ?_, ?_⟩
  · intro A u U H hW h
    obtain ⟨h1, h2, h3, h4, h5, h6, h7, h8⟩ := h
    exact ⟨fun w hw => nest_warm hW w hw (h1 w hw), fun i q hq => (h2 i q hq).warm hW, fun i hi => ⟨(h3 i hi).1.moved hW.alike, (h3 i hi).2.1.moved hW.alike, (h3 i hi).2.2.1.moved hW.alike, (h3 i hi).2.2.2.moved hW.alike⟩, h4.moved hW.alike, h5.moved hW.alike, h6.moved hW.alike, h7.moved hW.alike, h8⟩
  · intro A u U H hv h
    obtain ⟨h1, h2, h3, h4, h5, h6, h7, h8⟩ := h
    have al : u.vm.Alike U.vm := by rw [hv]; exact Vm.Alike.refl _
    exact ⟨fun w hw => (h1 w hw).same (nest_on w hw) hv, fun i q hq => (h2 i q hq).same hv.symm, fun i hi => ⟨(h3 i hi).1.moved al, (h3 i hi).2.1.moved al, (h3 i hi).2.2.1.moved al, (h3 i hi).2.2.2.moved al⟩, h4.moved al, h5.moved al, h6.moved al, h7.moved al, h8⟩
  · intro A U H H1 h hq
    obtain ⟨h1, h2, h3, h4, h5, h6, h7, h8⟩ := h
    exact ⟨h1, h2, fun i hi => ⟨(h3 i hi).1.kept hq, (h3 i hi).2.1.kept hq, (h3 i hi).2.2.1.kept hq, (h3 i hi).2.2.2.kept hq⟩, h4.kept hq, h5.kept hq, h6.kept hq, h7.kept hq, h8⟩
  · intro A B U H h hq
    obtain ⟨h1, h2, h3, h4, h5, h6, h7, h8⟩ := h
    exact ⟨h1, h2, fun i hi => ⟨(h3 i hi).1.narrow hq, (h3 i hi).2.1.narrow hq, (h3 i hi).2.2.1.narrow hq, (h3 i hi).2.2.2.narrow hq⟩, h4.narrow hq, h5.narrow hq, h6.narrow hq, h7.narrow hq, h8⟩
theorem strCh_all : ∀ l ∈ strByt, ∀ b ∈ l, 0 ≤ b ∧ b < 128 := by decide +kernel
theorem strCh_rng (i : Nat) (k : Int) : 0 ≤ strCh i k ∧ strCh i k < 128 := by
  have gd : ∀ (l : List Int) (j : Nat), (∀ b ∈ l, 0 ≤ b ∧ b < 128) → 0 ≤ l.getD j 0 ∧ l.getD j 0 < 128 := by
    intro l j h
    rw [List.getD_eq_getElem?_getD]
    cases hq : l[j]? with
    | none => decide
    | some b => exact h b (List.mem_of_getElem? hq)
  refine gd _ _ ?_
  rw [List.getD_eq_getElem?_getD]
  cases hq : strByt[i]? with
  | none => intro b hb; exact absurd hb List.not_mem_nil
  | some l => exact strCh_all l (List.mem_of_getElem? hq)
theorem strLen_all : ∀ i, i < 43 → strLen i < 16 := by decide +kernel
theorem tw_arr_int : Cond.arrayClass .int ∈ TB := tb_t (List.mem_append_left _ (List.mem_of_getElem? (l := tables_1_1) (i := 63) rfl)) rfl
theorem tw_arr_char : Cond.arrayClass .char ∈ TB := tb_t (List.mem_append_left _ (List.mem_of_getElem? (l := tables_1_1) (i := 40) rfl)) rfl
