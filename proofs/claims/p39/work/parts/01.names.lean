-- ===== PART A: goes FIRST, ahead of the names: the tables' words, and 'selects' of the private methods out of them =====
/-- a private method of a class that the tables say can be made, by its rows of tables_1 -/
def lw_okq (q : MethodName × Nat) : Prop := (q.1.cls ≠ "java/lang/invoke/MethodHandle" ∧ q.1.cls ≠ "java/lang/invoke/VarHandle") ∧ Cond.instantiable q.1.cls q.2 ∈ tables_1 ∧ Cond.privateMethod q.1 ∈ tables_1 ∧ Cond.instanceMethod q.1 ∈ tables_1
theorem lw_p0 : lw_okq (⟨"StepMachinesLaw", "holds", "([I)Z"⟩, 9) := ⟨⟨by decide +kernel, by decide +kernel⟩, List.mem_of_getElem? (i := 18) (by decide +kernel), List.mem_of_getElem? (i := 300) (by decide +kernel), List.mem_of_getElem? (i := 301) (by decide +kernel)⟩
theorem lw_p1 : lw_okq (⟨"StepMachinesLaw", "begin", "([III)Z"⟩, 9) := ⟨⟨by decide +kernel, by decide +kernel⟩, List.mem_of_getElem? (i := 18) (by decide +kernel), List.mem_of_getElem? (i := 304) (by decide +kernel), List.mem_of_getElem? (i := 305) (by decide +kernel)⟩
theorem lw_p2 : lw_okq (⟨"StepMachinesLaw", "lay", "([III[II)I"⟩, 9) := ⟨⟨by decide +kernel, by decide +kernel⟩, List.mem_of_getElem? (i := 18) (by decide +kernel), List.mem_of_getElem? (i := 308) (by decide +kernel), List.mem_of_getElem? (i := 309) (by decide +kernel)⟩
theorem lw_p3 : lw_okq (⟨"StepMachinesLaw", "tell", "([II)I"⟩, 9) := ⟨⟨by decide +kernel, by decide +kernel⟩, List.mem_of_getElem? (i := 18) (by decide +kernel), List.mem_of_getElem? (i := 322) (by decide +kernel), List.mem_of_getElem? (i := 323) (by decide +kernel)⟩
theorem lw_p4 : lw_okq (⟨"StepMachines", "refusalOfRow", "(I)I"⟩, 8) := ⟨⟨by decide +kernel, by decide +kernel⟩, List.mem_of_getElem? (i := 26) (by decide +kernel), List.mem_of_getElem? (i := 350) (by decide +kernel), List.mem_of_getElem? (i := 351) (by decide +kernel)⟩
theorem lw_p5 : lw_okq (⟨"StepMachines$Text", "endOfStatement", "(I)I"⟩, 2) := ⟨⟨by decide +kernel, by decide +kernel⟩, List.mem_of_getElem? (i := 367) (by decide +kernel), List.mem_of_getElem? (i := 388) (by decide +kernel), List.mem_of_getElem? (i := 389) (by decide +kernel)⟩
theorem lw_p6 : lw_okq (⟨"StepMachines$Text", "endOfProgram", "(I)I"⟩, 2) := ⟨⟨by decide +kernel, by decide +kernel⟩, List.mem_of_getElem? (i := 367) (by decide +kernel), List.mem_of_getElem? (i := 396) (by decide +kernel), List.mem_of_getElem? (i := 397) (by decide +kernel)⟩
theorem lw_p7 : lw_okq (⟨"StepMachines$Text", "endOfNumbers", "(II)I"⟩, 2) := ⟨⟨by decide +kernel, by decide +kernel⟩, List.mem_of_getElem? (i := 367) (by decide +kernel), List.mem_of_getElem? (i := 409) (by decide +kernel), List.mem_of_getElem? (i := 410) (by decide +kernel)⟩
theorem lw_p8 : lw_okq (⟨"StepMachines", "mindOfNow", "()LStepMachines$Machine;"⟩, 8) := ⟨⟨by decide +kernel, by decide +kernel⟩, List.mem_of_getElem? (i := 26) (by decide +kernel), List.mem_of_getElem? (i := 413) (by decide +kernel), List.mem_of_getElem? (i := 414) (by decide +kernel)⟩
theorem lw_p9 : lw_okq (⟨"StepMachines$Text", "digit", "(I)I"⟩, 2) := ⟨⟨by decide +kernel, by decide +kernel⟩, List.mem_of_getElem? (i := 367) (by decide +kernel), List.mem_of_getElem? (i := 440) (by decide +kernel), List.mem_of_getElem? (i := 441) (by decide +kernel)⟩
theorem lw_p10 : lw_okq (⟨"StepMachines$Text", "isProgramDone", "(ILStepMachines$Machine;)Z"⟩, 2) := ⟨⟨by decide +kernel, by decide +kernel⟩, List.mem_of_getElem? (i := 367) (by decide +kernel), List.mem_of_getElem? (i := 444) (by decide +kernel), List.mem_of_getElem? (i := 445) (by decide +kernel)⟩
theorem lw_p11 : lw_okq (⟨"StepMachines$Text", "programFrom", "(I)LStepMachines$Program;"⟩, 2) := ⟨⟨by decide +kernel, by decide +kernel⟩, List.mem_of_getElem? (i := 367) (by decide +kernel), List.mem_of_getElem? (i := 448) (by decide +kernel), List.mem_of_getElem? (i := 449) (by decide +kernel)⟩
theorem lw_p12 : lw_okq (⟨"StepMachines$Text", "isComingDone", "(ILStepMachines$Machine;)Z"⟩, 2) := ⟨⟨by decide +kernel, by decide +kernel⟩, List.mem_of_getElem? (i := 367) (by decide +kernel), List.mem_of_getElem? (i := 468) (by decide +kernel), List.mem_of_getElem? (i := 469) (by decide +kernel)⟩
theorem lw_p13 : lw_okq (⟨"StepMachines$Text", "twoDigits", "(I)I"⟩, 2) := ⟨⟨by decide +kernel, by decide +kernel⟩, List.mem_of_getElem? (i := 367) (by decide +kernel), List.mem_of_getElem? (i := 490) (by decide +kernel), List.mem_of_getElem? (i := 491) (by decide +kernel)⟩
theorem lw_p14 : lw_okq (⟨"StepMachines$Machine", "makeStep", "(IZ)V"⟩, 13) := ⟨⟨by decide +kernel, by decide +kernel⟩, List.mem_of_getElem? (i := 32) (by decide +kernel), List.mem_of_getElem? (i := 506) (by decide +kernel), List.mem_of_getElem? (i := 507) (by decide +kernel)⟩
theorem lw_p15 : lw_okq (⟨"StepMachines$Machine", "endTop", "(LStepMachines$Coroutine;)V"⟩, 13) := ⟨⟨by decide +kernel, by decide +kernel⟩, List.mem_of_getElem? (i := 32) (by decide +kernel), List.mem_of_getElem? (i := 514) (by decide +kernel), List.mem_of_getElem? (i := 515) (by decide +kernel)⟩
def lw_privs_1 : List (MethodName × Nat) := [(⟨"StepMachinesLaw", "holds", "([I)Z"⟩, 9), (⟨"StepMachinesLaw", "begin", "([III)Z"⟩, 9), (⟨"StepMachinesLaw", "lay", "([III[II)I"⟩, 9), (⟨"StepMachinesLaw", "tell", "([II)I"⟩, 9), (⟨"StepMachines", "refusalOfRow", "(I)I"⟩, 8), (⟨"StepMachines$Text", "endOfStatement", "(I)I"⟩, 2), (⟨"StepMachines$Text", "endOfProgram", "(I)I"⟩, 2), (⟨"StepMachines$Text", "endOfNumbers", "(II)I"⟩, 2), (⟨"StepMachines", "mindOfNow", "()LStepMachines$Machine;"⟩, 8), (⟨"StepMachines$Text", "digit", "(I)I"⟩, 2), (⟨"StepMachines$Text", "isProgramDone", "(ILStepMachines$Machine;)Z"⟩, 2), (⟨"StepMachines$Text", "programFrom", "(I)LStepMachines$Program;"⟩, 2), (⟨"StepMachines$Text", "isComingDone", "(ILStepMachines$Machine;)Z"⟩, 2), (⟨"StepMachines$Text", "twoDigits", "(I)I"⟩, 2), (⟨"StepMachines$Machine", "makeStep", "(IZ)V"⟩, 13), (⟨"StepMachines$Machine", "endTop", "(LStepMachines$Coroutine;)V"⟩, 13)]
theorem lw_r1 : ∀ q ∈ lw_privs_1, lw_okq q := List.forall_mem_cons.mpr ⟨lw_p0, List.forall_mem_cons.mpr ⟨lw_p1, List.forall_mem_cons.mpr ⟨lw_p2, List.forall_mem_cons.mpr ⟨lw_p3, List.forall_mem_cons.mpr ⟨lw_p4, List.forall_mem_cons.mpr ⟨lw_p5, List.forall_mem_cons.mpr ⟨lw_p6, List.forall_mem_cons.mpr ⟨lw_p7, List.forall_mem_cons.mpr ⟨lw_p8, List.forall_mem_cons.mpr ⟨lw_p9, List.forall_mem_cons.mpr ⟨lw_p10, List.forall_mem_cons.mpr ⟨lw_p11, List.forall_mem_cons.mpr ⟨lw_p12, List.forall_mem_cons.mpr ⟨lw_p13, List.forall_mem_cons.mpr ⟨lw_p14, List.forall_mem_cons.mpr ⟨lw_p15, fun _ h => absurd h List.not_mem_nil⟩⟩⟩⟩⟩⟩⟩⟩⟩⟩⟩⟩⟩⟩⟩⟩
theorem lw_p16 : lw_okq (⟨"StepMachines$Machine", "throwFault", "(LStepMachines$Coroutine;I)V"⟩, 13) := ⟨⟨by decide +kernel, by decide +kernel⟩, List.mem_of_getElem? (i := 32) (by decide +kernel), List.mem_of_getElem? (i := 522) (by decide +kernel), List.mem_of_getElem? (i := 523) (by decide +kernel)⟩
theorem lw_p17 : lw_okq (⟨"StepMachines$Machine", "newFault", "(II)I"⟩, 13) := ⟨⟨by decide +kernel, by decide +kernel⟩, List.mem_of_getElem? (i := 32) (by decide +kernel), List.mem_of_getElem? (i := 534) (by decide +kernel), List.mem_of_getElem? (i := 535) (by decide +kernel)⟩
theorem lw_p18 : lw_okq (⟨"StepMachines$Machine", "makeLivelyStep", "(III)V"⟩, 13) := ⟨⟨by decide +kernel, by decide +kernel⟩, List.mem_of_getElem? (i := 32) (by decide +kernel), List.mem_of_getElem? (i := 538) (by decide +kernel), List.mem_of_getElem? (i := 539) (by decide +kernel)⟩
theorem lw_p19 : lw_okq (⟨"StepMachines$Machine", "goInto", "(LStepMachines$Coroutine;I)V"⟩, 13) := ⟨⟨by decide +kernel, by decide +kernel⟩, List.mem_of_getElem? (i := 32) (by decide +kernel), List.mem_of_getElem? (i := 546) (by decide +kernel), List.mem_of_getElem? (i := 547) (by decide +kernel)⟩
theorem lw_p20 : lw_okq (⟨"StepMachines$Machine", "sendAt", "(II)V"⟩, 13) := ⟨⟨by decide +kernel, by decide +kernel⟩, List.mem_of_getElem? (i := 32) (by decide +kernel), List.mem_of_getElem? (i := 551) (by decide +kernel), List.mem_of_getElem? (i := 552) (by decide +kernel)⟩
theorem lw_p21 : lw_okq (⟨"StepMachines$Machine", "getAt", "(II)V"⟩, 13) := ⟨⟨by decide +kernel, by decide +kernel⟩, List.mem_of_getElem? (i := 32) (by decide +kernel), List.mem_of_getElem? (i := 571) (by decide +kernel), List.mem_of_getElem? (i := 572) (by decide +kernel)⟩
theorem lw_p22 : lw_okq (⟨"StepMachines$Machine", "haveEnd", "(LStepMachines$Coroutine;LStepMachines$Coroutine;)V"⟩, 13) := ⟨⟨by decide +kernel, by decide +kernel⟩, List.mem_of_getElem? (i := 32) (by decide +kernel), List.mem_of_getElem? (i := 579) (by decide +kernel), List.mem_of_getElem? (i := 580) (by decide +kernel)⟩
theorem lw_p23 : lw_okq (⟨"StepMachines$Text", "areRoundsDone", "(ILStepMachines$Machine;)Z"⟩, 2) := ⟨⟨by decide +kernel, by decide +kernel⟩, List.mem_of_getElem? (i := 367) (by decide +kernel), List.mem_of_getElem? (i := 591) (by decide +kernel), List.mem_of_getElem? (i := 592) (by decide +kernel)⟩
theorem lw_p24 : lw_okq (⟨"StepMachines$Machine", "lineUp", "()I"⟩, 13) := ⟨⟨by decide +kernel, by decide +kernel⟩, List.mem_of_getElem? (i := 32) (by decide +kernel), List.mem_of_getElem? (i := 599) (by decide +kernel), List.mem_of_getElem? (i := 600) (by decide +kernel)⟩
theorem lw_p25 : lw_okq (⟨"StepMachinesLaw", "come", "(III)Z"⟩, 9) := ⟨⟨by decide +kernel, by decide +kernel⟩, List.mem_of_getElem? (i := 18) (by decide +kernel), List.mem_of_getElem? (i := 617) (by decide +kernel), List.mem_of_getElem? (i := 618) (by decide +kernel)⟩
theorem lw_p26 : lw_okq (⟨"StepMachinesLaw", "joins", "(III)V"⟩, 9) := ⟨⟨by decide +kernel, by decide +kernel⟩, List.mem_of_getElem? (i := 18) (by decide +kernel), List.mem_of_getElem? (i := 621) (by decide +kernel), List.mem_of_getElem? (i := 622) (by decide +kernel)⟩
theorem lw_p27 : lw_okq (⟨"StepMachinesLaw", "frame", "(I)LStepMachinesLaw$Frame;"⟩, 9) := ⟨⟨by decide +kernel, by decide +kernel⟩, List.mem_of_getElem? (i := 18) (by decide +kernel), List.mem_of_getElem? (i := 678) (by decide +kernel), List.mem_of_getElem? (i := 679) (by decide +kernel)⟩
theorem lw_p28 : lw_okq (⟨"StepMachines", "refusalOfManner", "(I)I"⟩, 8) := ⟨⟨by decide +kernel, by decide +kernel⟩, List.mem_of_getElem? (i := 26) (by decide +kernel), List.mem_of_getElem? (i := 732) (by decide +kernel), List.mem_of_getElem? (i := 733) (by decide +kernel)⟩
theorem lw_p29 : lw_okq (⟨"StepMachinesLaw", "act", "(I)Z"⟩, 9) := ⟨⟨by decide +kernel, by decide +kernel⟩, List.mem_of_getElem? (i := 18) (by decide +kernel), List.mem_of_getElem? (i := 737) (by decide +kernel), List.mem_of_getElem? (i := 738) (by decide +kernel)⟩
theorem lw_p30 : lw_okq (⟨"StepMachinesLaw", "could", "(I)Z"⟩, 9) := ⟨⟨by decide +kernel, by decide +kernel⟩, List.mem_of_getElem? (i := 18) (by decide +kernel), List.mem_of_getElem? (i := 741) (by decide +kernel), List.mem_of_getElem? (i := 742) (by decide +kernel)⟩
theorem lw_p31 : lw_okq (⟨"StepMachines", "isCoroutine", "(I)Z"⟩, 8) := ⟨⟨by decide +kernel, by decide +kernel⟩, List.mem_of_getElem? (i := 26) (by decide +kernel), List.mem_of_getElem? (i := 749) (by decide +kernel), List.mem_of_getElem? (i := 750) (by decide +kernel)⟩
def lw_privs_2 : List (MethodName × Nat) := [(⟨"StepMachines$Machine", "throwFault", "(LStepMachines$Coroutine;I)V"⟩, 13), (⟨"StepMachines$Machine", "newFault", "(II)I"⟩, 13), (⟨"StepMachines$Machine", "makeLivelyStep", "(III)V"⟩, 13), (⟨"StepMachines$Machine", "goInto", "(LStepMachines$Coroutine;I)V"⟩, 13), (⟨"StepMachines$Machine", "sendAt", "(II)V"⟩, 13), (⟨"StepMachines$Machine", "getAt", "(II)V"⟩, 13), (⟨"StepMachines$Machine", "haveEnd", "(LStepMachines$Coroutine;LStepMachines$Coroutine;)V"⟩, 13), (⟨"StepMachines$Text", "areRoundsDone", "(ILStepMachines$Machine;)Z"⟩, 2), (⟨"StepMachines$Machine", "lineUp", "()I"⟩, 13), (⟨"StepMachinesLaw", "come", "(III)Z"⟩, 9), (⟨"StepMachinesLaw", "joins", "(III)V"⟩, 9), (⟨"StepMachinesLaw", "frame", "(I)LStepMachinesLaw$Frame;"⟩, 9), (⟨"StepMachines", "refusalOfManner", "(I)I"⟩, 8), (⟨"StepMachinesLaw", "act", "(I)Z"⟩, 9), (⟨"StepMachinesLaw", "could", "(I)Z"⟩, 9), (⟨"StepMachines", "isCoroutine", "(I)Z"⟩, 8)]
theorem lw_r2 : ∀ q ∈ lw_privs_2, lw_okq q := List.forall_mem_cons.mpr ⟨lw_p16, List.forall_mem_cons.mpr ⟨lw_p17, List.forall_mem_cons.mpr ⟨lw_p18, List.forall_mem_cons.mpr ⟨lw_p19, List.forall_mem_cons.mpr ⟨lw_p20, List.forall_mem_cons.mpr ⟨lw_p21, List.forall_mem_cons.mpr ⟨lw_p22, List.forall_mem_cons.mpr ⟨lw_p23, List.forall_mem_cons.mpr ⟨lw_p24, List.forall_mem_cons.mpr ⟨lw_p25, List.forall_mem_cons.mpr ⟨lw_p26, List.forall_mem_cons.mpr ⟨lw_p27, List.forall_mem_cons.mpr ⟨lw_p28, List.forall_mem_cons.mpr ⟨lw_p29, List.forall_mem_cons.mpr ⟨lw_p30, List.forall_mem_cons.mpr ⟨lw_p31, fun _ h => absurd h List.not_mem_nil⟩⟩⟩⟩⟩⟩⟩⟩⟩⟩⟩⟩⟩⟩⟩⟩
theorem lw_p32 : lw_okq (⟨"StepMachinesLaw", "send", "(II)V"⟩, 9) := ⟨⟨by decide +kernel, by decide +kernel⟩, List.mem_of_getElem? (i := 18) (by decide +kernel), List.mem_of_getElem? (i := 755) (by decide +kernel), List.mem_of_getElem? (i := 756) (by decide +kernel)⟩
theorem lw_p33 : lw_okq (⟨"StepMachinesLaw", "step", "(IZ)V"⟩, 9) := ⟨⟨by decide +kernel, by decide +kernel⟩, List.mem_of_getElem? (i := 18) (by decide +kernel), List.mem_of_getElem? (i := 763) (by decide +kernel), List.mem_of_getElem? (i := 764) (by decide +kernel)⟩
theorem lw_p34 : lw_okq (⟨"StepMachinesLaw", "settle", "(I)V"⟩, 9) := ⟨⟨by decide +kernel, by decide +kernel⟩, List.mem_of_getElem? (i := 18) (by decide +kernel), List.mem_of_getElem? (i := 806) (by decide +kernel), List.mem_of_getElem? (i := 807) (by decide +kernel)⟩
theorem lw_p35 : lw_okq (⟨"StepMachinesLaw", "joined", "(LStepMachinesLaw$One;LStepMachinesLaw$One;)V"⟩, 9) := ⟨⟨by decide +kernel, by decide +kernel⟩, List.mem_of_getElem? (i := 18) (by decide +kernel), List.mem_of_getElem? (i := 810) (by decide +kernel), List.mem_of_getElem? (i := 811) (by decide +kernel)⟩
theorem lw_p36 : lw_okq (⟨"StepMachinesLaw", "does", "(ILStepMachinesLaw$Frame;II)V"⟩, 9) := ⟨⟨by decide +kernel, by decide +kernel⟩, List.mem_of_getElem? (i := 18) (by decide +kernel), List.mem_of_getElem? (i := 817) (by decide +kernel), List.mem_of_getElem? (i := 818) (by decide +kernel)⟩
theorem lw_p37 : lw_okq (⟨"StepMachinesLaw", "blocked", "(III)V"⟩, 9) := ⟨⟨by decide +kernel, by decide +kernel⟩, List.mem_of_getElem? (i := 18) (by decide +kernel), List.mem_of_getElem? (i := 822) (by decide +kernel), List.mem_of_getElem? (i := 823) (by decide +kernel)⟩
theorem lw_p38 : lw_okq (⟨"StepMachinesLaw", "served", "(I)LStepMachinesLaw$One;"⟩, 9) := ⟨⟨by decide +kernel, by decide +kernel⟩, List.mem_of_getElem? (i := 18) (by decide +kernel), List.mem_of_getElem? (i := 826) (by decide +kernel), List.mem_of_getElem? (i := 827) (by decide +kernel)⟩
theorem lw_p39 : lw_okq (⟨"StepMachinesLaw", "unqueue", "(I)V"⟩, 9) := ⟨⟨by decide +kernel, by decide +kernel⟩, List.mem_of_getElem? (i := 18) (by decide +kernel), List.mem_of_getElem? (i := 830) (by decide +kernel), List.mem_of_getElem? (i := 831) (by decide +kernel)⟩
theorem lw_p40 : lw_okq (⟨"StepMachinesLaw", "queue", "(II)V"⟩, 9) := ⟨⟨by decide +kernel, by decide +kernel⟩, List.mem_of_getElem? (i := 18) (by decide +kernel), List.mem_of_getElem? (i := 835) (by decide +kernel), List.mem_of_getElem? (i := 836) (by decide +kernel)⟩
theorem lw_p41 : lw_okq (⟨"StepMachinesLaw", "close", "(I)V"⟩, 9) := ⟨⟨by decide +kernel, by decide +kernel⟩, List.mem_of_getElem? (i := 18) (by decide +kernel), List.mem_of_getElem? (i := 845) (by decide +kernel), List.mem_of_getElem? (i := 846) (by decide +kernel)⟩
theorem lw_p42 : lw_okq (⟨"StepMachinesLaw", "go", "(I)V"⟩, 9) := ⟨⟨by decide +kernel, by decide +kernel⟩, List.mem_of_getElem? (i := 18) (by decide +kernel), List.mem_of_getElem? (i := 854) (by decide +kernel), List.mem_of_getElem? (i := 855) (by decide +kernel)⟩
theorem lw_p43 : lw_okq (⟨"StepMachinesLaw", "round", "(Z)V"⟩, 9) := ⟨⟨by decide +kernel, by decide +kernel⟩, List.mem_of_getElem? (i := 18) (by decide +kernel), List.mem_of_getElem? (i := 858) (by decide +kernel), List.mem_of_getElem? (i := 859) (by decide +kernel)⟩
theorem lw_p44 : lw_okq (⟨"StepMachinesLaw", "ended", "()I"⟩, 9) := ⟨⟨by decide +kernel, by decide +kernel⟩, List.mem_of_getElem? (i := 18) (by decide +kernel), List.mem_of_getElem? (i := 884) (by decide +kernel), List.mem_of_getElem? (i := 885) (by decide +kernel)⟩
theorem lw_p45 : lw_okq (⟨"StepMachinesLaw", "same", "()Z"⟩, 9) := ⟨⟨by decide +kernel, by decide +kernel⟩, List.mem_of_getElem? (i := 18) (by decide +kernel), List.mem_of_getElem? (i := 957) (by decide +kernel), List.mem_of_getElem? (i := 958) (by decide +kernel)⟩
theorem lw_p46 : lw_okq (⟨"StepMachines", "heldTold", "(I)I"⟩, 8) := ⟨⟨by decide +kernel, by decide +kernel⟩, List.mem_of_getElem? (i := 26) (by decide +kernel), List.mem_of_getElem? (i := 969) (by decide +kernel), List.mem_of_getElem? (i := 970) (by decide +kernel)⟩
theorem lw_p47 : lw_okq (⟨"StepMachinesLaw", "outs", "()I"⟩, 9) := ⟨⟨by decide +kernel, by decide +kernel⟩, List.mem_of_getElem? (i := 18) (by decide +kernel), List.mem_of_getElem? (i := 989) (by decide +kernel), List.mem_of_getElem? (i := 990) (by decide +kernel)⟩
def lw_privs_3 : List (MethodName × Nat) := [(⟨"StepMachinesLaw", "send", "(II)V"⟩, 9), (⟨"StepMachinesLaw", "step", "(IZ)V"⟩, 9), (⟨"StepMachinesLaw", "settle", "(I)V"⟩, 9), (⟨"StepMachinesLaw", "joined", "(LStepMachinesLaw$One;LStepMachinesLaw$One;)V"⟩, 9), (⟨"StepMachinesLaw", "does", "(ILStepMachinesLaw$Frame;II)V"⟩, 9), (⟨"StepMachinesLaw", "blocked", "(III)V"⟩, 9), (⟨"StepMachinesLaw", "served", "(I)LStepMachinesLaw$One;"⟩, 9), (⟨"StepMachinesLaw", "unqueue", "(I)V"⟩, 9), (⟨"StepMachinesLaw", "queue", "(II)V"⟩, 9), (⟨"StepMachinesLaw", "close", "(I)V"⟩, 9), (⟨"StepMachinesLaw", "go", "(I)V"⟩, 9), (⟨"StepMachinesLaw", "round", "(Z)V"⟩, 9), (⟨"StepMachinesLaw", "ended", "()I"⟩, 9), (⟨"StepMachinesLaw", "same", "()Z"⟩, 9), (⟨"StepMachines", "heldTold", "(I)I"⟩, 8), (⟨"StepMachinesLaw", "outs", "()I"⟩, 9)]
theorem lw_r3 : ∀ q ∈ lw_privs_3, lw_okq q := List.forall_mem_cons.mpr ⟨lw_p32, List.forall_mem_cons.mpr ⟨lw_p33, List.forall_mem_cons.mpr ⟨lw_p34, List.forall_mem_cons.mpr ⟨lw_p35, List.forall_mem_cons.mpr ⟨lw_p36, List.forall_mem_cons.mpr ⟨lw_p37, List.forall_mem_cons.mpr ⟨lw_p38, List.forall_mem_cons.mpr ⟨lw_p39, List.forall_mem_cons.mpr ⟨lw_p40, List.forall_mem_cons.mpr ⟨lw_p41, List.forall_mem_cons.mpr ⟨lw_p42, List.forall_mem_cons.mpr ⟨lw_p43, List.forall_mem_cons.mpr ⟨lw_p44, List.forall_mem_cons.mpr ⟨lw_p45, List.forall_mem_cons.mpr ⟨lw_p46, List.forall_mem_cons.mpr ⟨lw_p47, fun _ h => absurd h List.not_mem_nil⟩⟩⟩⟩⟩⟩⟩⟩⟩⟩⟩⟩⟩⟩⟩⟩
def lw_privs : List (MethodName × Nat) := lw_privs_1 ++ (lw_privs_2 ++ (lw_privs_3))
def lw_tbl : List Cond := k2_sels lw_privs ++ tables_1
theorem lw_privs_ok : ∀ q ∈ lw_privs, lw_okq q := by
  show ∀ q ∈ lw_privs_1 ++ (lw_privs_2 ++ (lw_privs_3)), lw_okq q
  exact List.forall_mem_append.mpr ⟨lw_r1, List.forall_mem_append.mpr ⟨lw_r2, lw_r3⟩⟩
-- ===== end of PART A; then your names; then what follows =====
/-! ===== BEGIN words of one list among another's, by their places ===== -/
theorem goodIn_r {big : List Cond} (ws : List Cond) (ps : List Nat) (hp : ws = ps.filterMap (fun i => big[i]?)) (h : ws.all goodWord = true) : GoodIn big ws := by
  intro w hw
  have h1 := List.all_eq_true.mp h w hw
  rw [hp] at hw
  obtain ⟨i, -, hi⟩ := List.mem_filterMap.mp hw
  have hm : w ∈ big := by first | exact List.mem_of_getElem? hi | exact List.getElem?_mem hi
  exact ⟨hm, good_of_word h1⟩
theorem goodIn_app {big a b : List Cond} (ha : GoodIn big a) (hb : GoodIn big b) : GoodIn big (a ++ b) := fun w h => (List.mem_append.mp h).elim (ha w) (hb w)
theorem goodIn_ca {big a b : List Cond} {c : Cond} (ha : GoodIn big (c :: a)) (hb : GoodIn big b) : GoodIn big (c :: (a ++ b)) := fun w h => (List.mem_cons.mp h).elim (fun e => ha w (List.mem_cons.mpr (Or.inl e))) (fun h => (List.mem_append.mp h).elim (fun h => ha w (List.mem_cons.mpr (Or.inr h))) (hb w))
theorem goodIn_sub {big ws : List Cond} (hm : ∀ w ∈ ws, w ∈ big) (h : ws.all goodWord = true) : GoodIn big ws := fun w hw => ⟨hm w hw, good_of_word (List.all_eq_true.mp h w hw)⟩
/-! ===== END ===== -/
def RX0 : String := "StepMachines$Coroutine"
def TX0 : u_T := fun k => match k with
  | 0 => ("StepMachines$Coroutine", "program", "I", false)
  | 1 => ("StepMachines$Coroutine", "manner", "LStepMachines$Manner;", false)
  | 2 => ("StepMachines$Coroutine", "state", "I", false)
  | 3 => ("StepMachines$Coroutine", "acc", "I", false)
  | 4 => ("StepMachines$Coroutine", "out", "I", false)
  | 5 => ("StepMachines$Coroutine", "outs", "I", false)
  | 6 => ("StepMachines$Coroutine", "age", "I", false)
  | 7 => ("StepMachines$Coroutine", "waitsFor", "I", false)
  | 8 => ("StepMachines$Coroutine", "fault", "I", false)
  | 9 => ("StepMachines$Coroutine", "depth", "I", false)
  | _ => ("StepMachines$Coroutine", "frames", "[LStepMachines$Frame;", true)
def tyX0 : Nat → FieldType := fun k => match k with
  | 0 => .int
  | 1 => .object "StepMachines$Manner"
  | 2 => .int
  | 3 => .int
  | 4 => .int
  | 5 => .int
  | 6 => .int
  | 7 => .int
  | 8 => .int
  | 9 => .int
  | _ => .array (.object "StepMachines$Frame")
abbrev wsX00 : List Cond := u_ws RX0 TX0 11
theorem nmX0 : ∀ a, a < 11 → ∀ b, b < 11 → a ≠ b → (TX0 a).2.1 ≠ (TX0 b).2.1 := by decide +kernel
theorem tyX0_ok : ∀ k, k < 11 → parseFieldDescriptor (TX0 k).2.2.1 = some (tyX0 k) := by decide +kernel
abbrev cX0_init : ByteArray := prog_2_method_1_code
def yX0_init : MethodName := ⟨RX0, "<init>", "()V"⟩
abbrev cX0_begin : ByteArray := prog_2_method_2_code
def yX0_begin : MethodName := ⟨RX0, "begin", "(LStepMachines$Program;ILStepMachines$Manner;)V"⟩
abbrev cX0_become : ByteArray := prog_2_method_3_code
def yX0_become : MethodName := ⟨RX0, "become", "(LStepMachines$Coroutine;)V"⟩
abbrev cX0_isEnded : ByteArray := prog_2_method_4_code
def yX0_isEnded : MethodName := ⟨RX0, "isEnded", "()Z"⟩
abbrev cX0_canGo : ByteArray := prog_2_method_5_code
def yX0_canGo : MethodName := ⟨RX0, "canGo", "()Z"⟩
abbrev cX0_takeIn : ByteArray := prog_2_method_6_code
def yX0_takeIn : MethodName := ⟨RX0, "takeIn", "(I)V"⟩
abbrev cX0_growOlder : ByteArray := prog_2_method_7_code
def yX0_growOlder : MethodName := ⟨RX0, "growOlder", "()V"⟩
abbrev cX0_waitFor : ByteArray := prog_2_method_8_code
def yX0_waitFor : MethodName := ⟨RX0, "waitFor", "(II)V"⟩
abbrev cX0_goOn : ByteArray := prog_2_method_9_code
def yX0_goOn : MethodName := ⟨RX0, "goOn", "()V"⟩
abbrev cX0_figureTold : ByteArray := prog_2_method_10_code
def yX0_figureTold : MethodName := ⟨RX0, "figureTold", "(I)I"⟩
abbrev cX0_closeTop : ByteArray := prog_2_method_11_code
def yX0_closeTop : MethodName := ⟨RX0, "closeTop", "()V"⟩
def RX1 : String := "StepMachines$Frame"
def TX1 : u_T := fun k => match k with
  | 0 => ("StepMachines$Frame", "program", "LStepMachines$Program;", false)
  | 1 => ("StepMachines$Frame", "number", "I", false)
  | 2 => ("StepMachines$Frame", "step", "I", false)
  | 3 => ("StepMachines$Frame", "count", "I", false)
  | 4 => ("StepMachines$Frame", "finishing", "Z", false)
  | _ => ("StepMachines$Frame", "held", "I", false)
def tyX1 : Nat → FieldType := fun k => match k with
  | 0 => .object "StepMachines$Program"
  | 1 => .int
  | 2 => .int
  | 3 => .int
  | 4 => .boolean
  | _ => .int
abbrev wsX10 : List Cond := u_ws RX1 TX1 6
theorem nmX1 : ∀ a, a < 6 → ∀ b, b < 6 → a ≠ b → (TX1 a).2.1 ≠ (TX1 b).2.1 := by decide +kernel
theorem tyX1_ok : ∀ k, k < 6 → parseFieldDescriptor (TX1 k).2.2.1 = some (tyX1 k) := by decide +kernel
abbrev cX1_init : ByteArray := prog_3_method_1_code
def yX1_init : MethodName := ⟨RX1, "<init>", "()V"⟩
abbrev cX1_begin : ByteArray := prog_3_method_2_code
def yX1_begin : MethodName := ⟨RX1, "begin", "(LStepMachines$Program;I)V"⟩
abbrev cX1_become : ByteArray := prog_3_method_3_code
def yX1_become : MethodName := ⟨RX1, "become", "(LStepMachines$Frame;)V"⟩
def RX2 : String := "StepMachines$Machine"
def TX2 : u_T := fun k => match k with
  | 0 => ("StepMachines$Machine", "programs", "[LStepMachines$Program;", true)
  | 1 => ("StepMachines$Machine", "coroutines", "[LStepMachines$Coroutine;", true)
  | 2 => ("StepMachines$Machine", "senders", "[LStepMachines$Queue;", true)
  | 3 => ("StepMachines$Machine", "getters", "[LStepMachines$Queue;", true)
  | 4 => ("StepMachines$Machine", "count", "I", false)
  | 5 => ("StepMachines$Machine", "width", "I", false)
  | 6 => ("StepMachines$Machine", "round", "I", false)
  | 7 => ("StepMachines$Machine", "yielded", "I", false)
  | 8 => ("StepMachines$Machine", "line", "[I", true)
  | 9 => ("StepMachines$Machine", "ranks", "[I", true)
  | 10 => ("StepMachines$Machine", "codes", "[I", true)
  | 11 => ("StepMachines$Machine", "causes", "[I", true)
  | _ => ("StepMachines$Machine", "faults", "I", false)
def tyX2 : Nat → FieldType := fun k => match k with
  | 0 => .array (.object "StepMachines$Program")
  | 1 => .array (.object "StepMachines$Coroutine")
  | 2 => .array (.object "StepMachines$Queue")
  | 3 => .array (.object "StepMachines$Queue")
  | 4 => .int
  | 5 => .int
  | 6 => .int
  | 7 => .int
  | 8 => .array .int
  | 9 => .array .int
  | 10 => .array .int
  | 11 => .array .int
  | _ => .int
abbrev wsX20 : List Cond := u_ws RX2 TX2 13
theorem nmX2 : ∀ a, a < 13 → ∀ b, b < 13 → a ≠ b → (TX2 a).2.1 ≠ (TX2 b).2.1 := by decide +kernel
theorem tyX2_ok : ∀ k, k < 13 → parseFieldDescriptor (TX2 k).2.2.1 = some (tyX2 k) := by decide +kernel
abbrev cX2_init : ByteArray := prog_4_method_1_code
def yX2_init : MethodName := ⟨RX2, "<init>", "()V"⟩
abbrev cX2_become : ByteArray := prog_4_method_2_code
def yX2_become : MethodName := ⟨RX2, "become", "(LStepMachines$Machine;)V"⟩
abbrev cX2_allBits : ByteArray := prog_4_method_3_code
def yX2_allBits : MethodName := ⟨RX2, "allBits", "()I"⟩
abbrev cX2_endedBits : ByteArray := prog_4_method_4_code
def yX2_endedBits : MethodName := ⟨RX2, "endedBits", "()I"⟩
abbrev cX2_ableBits : ByteArray := prog_4_method_6_code
def yX2_ableBits : MethodName := ⟨RX2, "ableBits", "()I"⟩
abbrev cX2_outsOfAll : ByteArray := prog_4_method_7_code
def yX2_outsOfAll : MethodName := ⟨RX2, "outsOfAll", "()I"⟩
abbrev cX2_codeOf : ByteArray := prog_4_method_8_code
def yX2_codeOf : MethodName := ⟨RX2, "codeOf", "(I)I"⟩
abbrev cX2_causeOf : ByteArray := prog_4_method_9_code
def yX2_causeOf : MethodName := ⟨RX2, "causeOf", "(I)I"⟩
abbrev cX2_faultsOf : ByteArray := prog_4_method_10_code
def yX2_faultsOf : MethodName := ⟨RX2, "faultsOf", "(I)I"⟩
abbrev cX2_add : ByteArray := prog_4_method_11_code
def yX2_add : MethodName := ⟨RX2, "add", "(ILStepMachines$Manner;)I"⟩
abbrev cX2_sendTo : ByteArray := prog_4_method_12_code
def yX2_sendTo : MethodName := ⟨RX2, "sendTo", "(II)V"⟩
abbrev cX2_closeDown : ByteArray := prog_4_method_13_code
def yX2_closeDown : MethodName := ⟨RX2, "closeDown", "(I)V"⟩
abbrev cX2_makeRounds : ByteArray := prog_4_method_14_code
def yX2_makeRounds : MethodName := ⟨RX2, "makeRounds", "(I)V"⟩
abbrev cX2_makeRound : ByteArray := prog_4_method_15_code
def yX2_makeRound : MethodName := ⟨RX2, "makeRound", "()Z"⟩
abbrev cX2_lineUp : ByteArray := prog_4_method_17_code
def yX2_lineUp : MethodName := ⟨RX2, "lineUp", "()I"⟩
abbrev cX2_makeStep : ByteArray := prog_4_method_18_code
def yX2_makeStep : MethodName := ⟨RX2, "makeStep", "(IZ)V"⟩
abbrev cX2_makeLivelyStep : ByteArray := prog_4_method_19_code
def yX2_makeLivelyStep : MethodName := ⟨RX2, "makeLivelyStep", "(III)V"⟩
abbrev cX2_goInto : ByteArray := prog_4_method_20_code
def yX2_goInto : MethodName := ⟨RX2, "goInto", "(LStepMachines$Coroutine;I)V"⟩
abbrev cX2_sendAt : ByteArray := prog_4_method_21_code
def yX2_sendAt : MethodName := ⟨RX2, "sendAt", "(II)V"⟩
abbrev cX2_getAt : ByteArray := prog_4_method_22_code
def yX2_getAt : MethodName := ⟨RX2, "getAt", "(II)V"⟩
abbrev cX2_haveEnd : ByteArray := prog_4_method_23_code
def yX2_haveEnd : MethodName := ⟨RX2, "haveEnd", "(LStepMachines$Coroutine;LStepMachines$Coroutine;)V"⟩
abbrev cX2_tellJoining : ByteArray := prog_4_method_24_code
def yX2_tellJoining : MethodName := ⟨RX2, "tellJoining", "(LStepMachines$Machine;II)V"⟩
abbrev cX2_endTop : ByteArray := prog_4_method_25_code
def yX2_endTop : MethodName := ⟨RX2, "endTop", "(LStepMachines$Coroutine;)V"⟩
abbrev cX2_newFault : ByteArray := prog_4_method_26_code
def yX2_newFault : MethodName := ⟨RX2, "newFault", "(II)I"⟩
abbrev cX2_throwFault : ByteArray := prog_4_method_27_code
def yX2_throwFault : MethodName := ⟨RX2, "throwFault", "(LStepMachines$Coroutine;I)V"⟩
def RX3 : String := "StepMachines$Manner"
def TX3 : u_T := fun k => match k with
  | 0 => ("StepMachines$Manner", "kind", "I", true)
  | _ => ("StepMachines$Manner", "figure", "I", true)
def tyX3 : Nat → FieldType := fun k => match k with
  | 0 => .int
  | _ => .int
abbrev wsX30 : List Cond := u_ws RX3 TX3 2
theorem nmX3 : ∀ a, a < 2 → ∀ b, b < 2 → a ≠ b → (TX3 a).2.1 ≠ (TX3 b).2.1 := by decide +kernel
theorem tyX3_ok : ∀ k, k < 2 → parseFieldDescriptor (TX3 k).2.2.1 = some (tyX3 k) := by decide +kernel
abbrev cX3_init : ByteArray := prog_5_method_1_code
def yX3_init : MethodName := ⟨RX3, "<init>", "(II)V"⟩
abbrev cX3_weight : ByteArray := prog_5_method_2_code
def yX3_weight : MethodName := ⟨RX3, "weight", "()I"⟩
abbrev cX3_yields : ByteArray := prog_5_method_3_code
def yX3_yields : MethodName := ⟨RX3, "yields", "(I)I"⟩
abbrev cX3_takes : ByteArray := prog_5_method_4_code
def yX3_takes : MethodName := ⟨RX3, "takes", "(II)I"⟩
def RX4 : String := "StepMachines$Program"
def TX4 : u_T := fun k => match k with
  | 0 => ("StepMachines$Program", "codes", "[I", true)
  | _ => ("StepMachines$Program", "finish", "I", true)
def tyX4 : Nat → FieldType := fun k => match k with
  | 0 => .array .int
  | _ => .int
abbrev wsX40 : List Cond := u_ws RX4 TX4 2
theorem nmX4 : ∀ a, a < 2 → ∀ b, b < 2 → a ≠ b → (TX4 a).2.1 ≠ (TX4 b).2.1 := by decide +kernel
theorem tyX4_ok : ∀ k, k < 2 → parseFieldDescriptor (TX4 k).2.2.1 = some (tyX4 k) := by decide +kernel
abbrev cX4_init : ByteArray := prog_6_method_1_code
def yX4_init : MethodName := ⟨RX4, "<init>", "([II)V"⟩
abbrev cX4_length : ByteArray := prog_6_method_2_code
def yX4_length : MethodName := ⟨RX4, "length", "()I"⟩
abbrev cX4_letter : ByteArray := prog_6_method_3_code
def yX4_letter : MethodName := ⟨RX4, "letter", "(I)I"⟩
abbrev cX4_number : ByteArray := prog_6_method_4_code
def yX4_number : MethodName := ⟨RX4, "number", "(I)I"⟩
def RX5 : String := "StepMachines$Queue"
def TX5 : u_T := fun k => match k with
  | 0 => ("StepMachines$Queue", "who", "[I", true)
  | _ => ("StepMachines$Queue", "size", "I", false)
def tyX5 : Nat → FieldType := fun k => match k with
  | 0 => .array .int
  | _ => .int
abbrev wsX50 : List Cond := u_ws RX5 TX5 2
theorem nmX5 : ∀ a, a < 2 → ∀ b, b < 2 → a ≠ b → (TX5 a).2.1 ≠ (TX5 b).2.1 := by decide +kernel
theorem tyX5_ok : ∀ k, k < 2 → parseFieldDescriptor (TX5 k).2.2.1 = some (tyX5 k) := by decide +kernel
abbrev cX5_init : ByteArray := prog_7_method_1_code
def yX5_init : MethodName := ⟨RX5, "<init>", "()V"⟩
abbrev cX5_become : ByteArray := prog_7_method_2_code
def yX5_become : MethodName := ⟨RX5, "become", "(LStepMachines$Queue;)V"⟩
abbrev cX5_join : ByteArray := prog_7_method_3_code
def yX5_join : MethodName := ⟨RX5, "join", "(I)V"⟩
abbrev cX5_leave : ByteArray := prog_7_method_4_code
def yX5_leave : MethodName := ⟨RX5, "leave", "(I)V"⟩
def RX6 : String := "StepMachines$Row"
def TX6 : u_T := fun k => match k with
  | 0 => ("StepMachines$Row", "kind", "I", true)
  | _ => ("StepMachines$Row", "elements", "[I", true)
def tyX6 : Nat → FieldType := fun k => match k with
  | 0 => .int
  | _ => .array .int
abbrev wsX60 : List Cond := u_ws RX6 TX6 2
theorem nmX6 : ∀ a, a < 2 → ∀ b, b < 2 → a ≠ b → (TX6 a).2.1 ≠ (TX6 b).2.1 := by decide +kernel
theorem tyX6_ok : ∀ k, k < 2 → parseFieldDescriptor (TX6 k).2.2.1 = some (tyX6 k) := by decide +kernel
abbrev cX6_init : ByteArray := prog_8_method_1_code
def yX6_init : MethodName := ⟨RX6, "<init>", "(II)V"⟩
abbrev cX6_size : ByteArray := prog_8_method_2_code
def yX6_size : MethodName := ⟨RX6, "size", "()I"⟩
abbrev cX6_has : ByteArray := prog_8_method_3_code
def yX6_has : MethodName := ⟨RX6, "has", "(I)Z"⟩
abbrev cX6_at : ByteArray := prog_8_method_5_code
def yX6_at : MethodName := ⟨RX6, "at", "(I)I"⟩
abbrev cX6_become : ByteArray := prog_8_method_6_code
def yX6_become : MethodName := ⟨RX6, "become", "(II)V"⟩
def RX7 : String := "StepMachines$Text"
def TX7 : u_T := fun k => match k with
  | 0 => ("StepMachines$Text", "row", "LStepMachines$Row;", true)
  | _ => ("StepMachines$Text", "codes", "[I", true)
def tyX7 : Nat → FieldType := fun k => match k with
  | 0 => .object "StepMachines$Row"
  | _ => .array .int
abbrev wsX70 : List Cond := u_ws RX7 TX7 2
theorem nmX7 : ∀ a, a < 2 → ∀ b, b < 2 → a ≠ b → (TX7 a).2.1 ≠ (TX7 b).2.1 := by decide +kernel
theorem tyX7_ok : ∀ k, k < 2 → parseFieldDescriptor (TX7 k).2.2.1 = some (tyX7 k) := by decide +kernel
abbrev cX7_init : ByteArray := prog_9_method_1_code
def yX7_init : MethodName := ⟨RX7, "<init>", "(LStepMachines$Row;)V"⟩
abbrev cX7_statements : ByteArray := prog_9_method_2_code
def yX7_statements : MethodName := ⟨RX7, "statements", "()I"⟩
abbrev cX7_faultAt : ByteArray := prog_9_method_3_code
def yX7_faultAt : MethodName := ⟨RX7, "faultAt", "(I)I"⟩
abbrev cX7_endOfStatement : ByteArray := prog_9_method_4_code
def yX7_endOfStatement : MethodName := ⟨RX7, "endOfStatement", "(I)I"⟩
abbrev cX7_endOfNumbers : ByteArray := prog_9_method_5_code
def yX7_endOfNumbers : MethodName := ⟨RX7, "endOfNumbers", "(II)I"⟩
abbrev cX7_endOfProgram : ByteArray := prog_9_method_6_code
def yX7_endOfProgram : MethodName := ⟨RX7, "endOfProgram", "(I)I"⟩
abbrev cX7_isDigit : ByteArray := prog_9_method_7_code
def yX7_isDigit : MethodName := ⟨RX7, "isDigit", "(I)Z"⟩
abbrev cX7_isNumberedStep : ByteArray := prog_9_method_8_code
def yX7_isNumberedStep : MethodName := ⟨RX7, "isNumberedStep", "(I)Z"⟩
abbrev cX7_behindStatement : ByteArray := prog_9_method_9_code
def yX7_behindStatement : MethodName := ⟨RX7, "behindStatement", "(I)I"⟩
abbrev cX7_digit : ByteArray := prog_9_method_10_code
def yX7_digit : MethodName := ⟨RX7, "digit", "(I)I"⟩
abbrev cX7_twoDigits : ByteArray := prog_9_method_11_code
def yX7_twoDigits : MethodName := ⟨RX7, "twoDigits", "(I)I"⟩
abbrev cX7_isDone : ByteArray := prog_9_method_12_code
def yX7_isDone : MethodName := ⟨RX7, "isDone", "(ILStepMachines$Machine;)Z"⟩
abbrev cX7_isProgramDone : ByteArray := prog_9_method_13_code
def yX7_isProgramDone : MethodName := ⟨RX7, "isProgramDone", "(ILStepMachines$Machine;)Z"⟩
abbrev cX7_programFrom : ByteArray := prog_9_method_14_code
def yX7_programFrom : MethodName := ⟨RX7, "programFrom", "(I)LStepMachines$Program;"⟩
abbrev cX7_isComingDone : ByteArray := prog_9_method_15_code
def yX7_isComingDone : MethodName := ⟨RX7, "isComingDone", "(ILStepMachines$Machine;)Z"⟩
abbrev cX7_areRoundsDone : ByteArray := prog_9_method_16_code
def yX7_areRoundsDone : MethodName := ⟨RX7, "areRoundsDone", "(ILStepMachines$Machine;)Z"⟩
def RX8 : String := "StepMachines"
def TX8 : u_T := fun k => match k with
  | 0 => ("StepMachines", "now", "LStepMachines$Machine;", true)
  | 1 => ("StepMachines", "kept", "LStepMachines$Machine;", true)
  | 2 => ("StepMachines", "minds", "[LStepMachines$Machine;", true)
  | 3 => ("StepMachines", "manners", "[LStepMachines$Manner;", true)
  | 4 => ("StepMachines", "rows", "[LStepMachines$Row;", true)
  | 5 => ("StepMachines", "plain", "LStepMachines$Manner;", true)
  | 6 => ("StepMachines", "imageTaken", "Z", false)
  | _ => ("StepMachines", "seed", "I", false)
def tyX8 : Nat → FieldType := fun k => match k with
  | 0 => .object "StepMachines$Machine"
  | 1 => .object "StepMachines$Machine"
  | 2 => .array (.object "StepMachines$Machine")
  | 3 => .array (.object "StepMachines$Manner")
  | 4 => .array (.object "StepMachines$Row")
  | 5 => .object "StepMachines$Manner"
  | 6 => .boolean
  | _ => .int
abbrev wsX80 : List Cond := u_ws RX8 TX8 8
theorem nmX8 : ∀ a, a < 8 → ∀ b, b < 8 → a ≠ b → (TX8 a).2.1 ≠ (TX8 b).2.1 := by decide +kernel
theorem tyX8_ok : ∀ k, k < 8 → parseFieldDescriptor (TX8 k).2.2.1 = some (tyX8 k) := by decide +kernel
abbrev cX8_init : ByteArray := prog_1_method_1_code
def yX8_init : MethodName := ⟨RX8, "<init>", "()V"⟩
abbrev cX8_text : ByteArray := prog_1_method_2_code
def yX8_text : MethodName := ⟨RX8, "text", "(I)I"⟩
abbrev cX8_comes : ByteArray := prog_1_method_4_code
def yX8_comes : MethodName := ⟨RX8, "comes", "(II)I"⟩
abbrev cX8_coroutine : ByteArray := prog_1_method_5_code
def yX8_coroutine : MethodName := ⟨RX8, "coroutine", "(II)I"⟩
abbrev cX8_frame : ByteArray := prog_1_method_6_code
def yX8_frame : MethodName := ⟨RX8, "frame", "(III)I"⟩
abbrev cX8_cause : ByteArray := prog_1_method_7_code
def yX8_cause : MethodName := ⟨RX8, "cause", "(II)I"⟩
abbrev cX8_channel : ByteArray := prog_1_method_8_code
def yX8_channel : MethodName := ⟨RX8, "channel", "(III)I"⟩
abbrev cX8_send : ByteArray := prog_1_method_9_code
def yX8_send : MethodName := ⟨RX8, "send", "(II)I"⟩
abbrev cX8_close : ByteArray := prog_1_method_10_code
def yX8_close : MethodName := ⟨RX8, "close", "(I)I"⟩
abbrev cX8_width : ByteArray := prog_1_method_11_code
def yX8_width : MethodName := ⟨RX8, "width", "(I)I"⟩
abbrev cX8_rounds : ByteArray := prog_1_method_12_code
def yX8_rounds : MethodName := ⟨RX8, "rounds", "(I)I"⟩
abbrev cX8_then : ByteArray := prog_1_method_13_code
def yX8_then : MethodName := ⟨RX8, "then", "(III)I"⟩
abbrev cX8_ends : ByteArray := prog_1_method_14_code
def yX8_ends : MethodName := ⟨RX8, "ends", "(I)I"⟩
abbrev cX8_stuck : ByteArray := prog_1_method_15_code
def yX8_stuck : MethodName := ⟨RX8, "stuck", "(I)I"⟩
abbrev cX8_leastWidth : ByteArray := prog_1_method_16_code
def yX8_leastWidth : MethodName := ⟨RX8, "leastWidth", "(I)I"⟩
abbrev cX8_sendBest : ByteArray := prog_1_method_18_code
def yX8_sendBest : MethodName := ⟨RX8, "sendBest", "(II)I"⟩
abbrev cX8_image : ByteArray := prog_1_method_28_code
def yX8_image : MethodName := ⟨RX8, "image", "()I"⟩
abbrev cX8_restore : ByteArray := prog_1_method_29_code
def yX8_restore : MethodName := ⟨RX8, "restore", "()I"⟩
abbrev cX8_count : ByteArray := prog_1_method_30_code
def yX8_count : MethodName := ⟨RX8, "count", "(I)I"⟩
abbrev cX8_keep : ByteArray := prog_1_method_31_code
def yX8_keep : MethodName := ⟨RX8, "keep", "(IIII)I"⟩
abbrev cX8_row : ByteArray := prog_1_method_32_code
def yX8_row : MethodName := ⟨RX8, "row", "(III)I"⟩
abbrev cX8_put : ByteArray := prog_1_method_33_code
def yX8_put : MethodName := ⟨RX8, "put", "(III)I"⟩
abbrev cX8_isShelf : ByteArray := prog_1_method_38_code
def yX8_isShelf : MethodName := ⟨RX8, "isShelf", "(I)Z"⟩
abbrev cX8_isProgram : ByteArray := prog_1_method_39_code
def yX8_isProgram : MethodName := ⟨RX8, "isProgram", "(I)Z"⟩
abbrev cX8_isCoroutine : ByteArray := prog_1_method_40_code
def yX8_isCoroutine : MethodName := ⟨RX8, "isCoroutine", "(I)Z"⟩
abbrev cX8_refusalOfRow : ByteArray := prog_1_method_42_code
def yX8_refusalOfRow : MethodName := ⟨RX8, "refusalOfRow", "(I)I"⟩
abbrev cX8_refusalOfManner : ByteArray := prog_1_method_43_code
def yX8_refusalOfManner : MethodName := ⟨RX8, "refusalOfManner", "(I)I"⟩
abbrev cX8_heldTold : ByteArray := prog_1_method_44_code
def yX8_heldTold : MethodName := ⟨RX8, "heldTold", "(I)I"⟩
abbrev cX8_mindOfNow : ByteArray := prog_1_method_45_code
def yX8_mindOfNow : MethodName := ⟨RX8, "mindOfNow", "()LStepMachines$Machine;"⟩
def RX9 : String := "StepMachinesLaw$Fault"
def TX9 : u_T := fun k => match k with
  | 0 => ("StepMachinesLaw$Fault", "code", "I", true)
  | _ => ("StepMachinesLaw$Fault", "cause", "LStepMachinesLaw$Fault;", true)
def tyX9 : Nat → FieldType := fun k => match k with
  | 0 => .int
  | _ => .object "StepMachinesLaw$Fault"
abbrev wsX90 : List Cond := u_ws RX9 TX9 2
theorem nmX9 : ∀ a, a < 2 → ∀ b, b < 2 → a ≠ b → (TX9 a).2.1 ≠ (TX9 b).2.1 := by decide +kernel
theorem tyX9_ok : ∀ k, k < 2 → parseFieldDescriptor (TX9 k).2.2.1 = some (tyX9 k) := by decide +kernel
abbrev cX9_init : ByteArray := prog_11_method_1_code
def yX9_init : MethodName := ⟨RX9, "<init>", "(ILStepMachinesLaw$Fault;)V"⟩
def RX10 : String := "StepMachinesLaw$Frame"
def TX10 : u_T := fun k => match k with
  | 0 => ("StepMachinesLaw$Frame", "program", "I", true)
  | 1 => ("StepMachinesLaw$Frame", "letters", "[I", true)
  | 2 => ("StepMachinesLaw$Frame", "numbers", "[I", true)
  | 3 => ("StepMachinesLaw$Frame", "at", "I", false)
  | 4 => ("StepMachinesLaw$Frame", "count", "I", false)
  | 5 => ("StepMachinesLaw$Frame", "finishing", "Z", false)
  | 6 => ("StepMachinesLaw$Frame", "closes", "Z", false)
  | _ => ("StepMachinesLaw$Frame", "held", "LStepMachinesLaw$Fault;", false)
def tyX10 : Nat → FieldType := fun k => match k with
  | 0 => .int
  | 1 => .array .int
  | 2 => .array .int
  | 3 => .int
  | 4 => .int
  | 5 => .boolean
  | 6 => .boolean
  | _ => .object "StepMachinesLaw$Fault"
abbrev wsX100 : List Cond := u_ws RX10 TX10 8
theorem nmX10 : ∀ a, a < 8 → ∀ b, b < 8 → a ≠ b → (TX10 a).2.1 ≠ (TX10 b).2.1 := by decide +kernel
theorem tyX10_ok : ∀ k, k < 8 → parseFieldDescriptor (TX10 k).2.2.1 = some (tyX10 k) := by decide +kernel
abbrev cX10_init : ByteArray := prog_12_method_1_code
def yX10_init : MethodName := ⟨RX10, "<init>", "(I[I[I)V"⟩
abbrev cX10_finishes : ByteArray := prog_12_method_3_code
def yX10_finishes : MethodName := ⟨RX10, "finishes", "()Z"⟩
abbrev cX10_told : ByteArray := prog_12_method_4_code
def yX10_told : MethodName := ⟨RX10, "told", "()I"⟩
def RX11 : String := "StepMachinesLaw$One"
def TX11 : u_T := fun k => match k with
  | 0 => ("StepMachinesLaw$One", "program", "I", false)
  | 1 => ("StepMachinesLaw$One", "kind", "I", false)
  | 2 => ("StepMachinesLaw$One", "figure", "I", false)
  | 3 => ("StepMachinesLaw$One", "state", "I", false)
  | 4 => ("StepMachinesLaw$One", "acc", "I", false)
  | 5 => ("StepMachinesLaw$One", "out", "I", false)
  | 6 => ("StepMachinesLaw$One", "outs", "I", false)
  | 7 => ("StepMachinesLaw$One", "age", "I", false)
  | 8 => ("StepMachinesLaw$One", "waits", "I", false)
  | 9 => ("StepMachinesLaw$One", "fault", "LStepMachinesLaw$Fault;", false)
  | 10 => ("StepMachinesLaw$One", "frames", "[LStepMachinesLaw$Frame;", false)
  | _ => ("StepMachinesLaw$One", "deep", "I", false)
def tyX11 : Nat → FieldType := fun k => match k with
  | 0 => .int
  | 1 => .int
  | 2 => .int
  | 3 => .int
  | 4 => .int
  | 5 => .int
  | 6 => .int
  | 7 => .int
  | 8 => .int
  | 9 => .object "StepMachinesLaw$Fault"
  | 10 => .array (.object "StepMachinesLaw$Frame")
  | _ => .int
abbrev wsX110 : List Cond := u_ws RX11 TX11 12
theorem nmX11 : ∀ a, a < 12 → ∀ b, b < 12 → a ≠ b → (TX11 a).2.1 ≠ (TX11 b).2.1 := by decide +kernel
theorem tyX11_ok : ∀ k, k < 12 → parseFieldDescriptor (TX11 k).2.2.1 = some (tyX11 k) := by decide +kernel
abbrev cX11_init : ByteArray := prog_13_method_1_code
def yX11_init : MethodName := ⟨RX11, "<init>", "()V"⟩
abbrev cX11_top : ByteArray := prog_13_method_3_code
def yX11_top : MethodName := ⟨RX11, "top", "()LStepMachinesLaw$Frame;"⟩
abbrev cX11_weight : ByteArray := prog_13_method_4_code
def yX11_weight : MethodName := ⟨RX11, "weight", "()I"⟩
abbrev cX11_throwing : ByteArray := prog_13_method_5_code
def yX11_throwing : MethodName := ⟨RX11, "throwing", "(LStepMachinesLaw$Fault;)V"⟩
abbrev cX11_closing : ByteArray := prog_13_method_6_code
def yX11_closing : MethodName := ⟨RX11, "closing", "()V"⟩
abbrev cX11_ending : ByteArray := prog_13_method_7_code
def yX11_ending : MethodName := ⟨RX11, "ending", "()V"⟩
abbrev cX11_sent : ByteArray := prog_13_method_8_code
def yX11_sent : MethodName := ⟨RX11, "sent", "(I)V"⟩
abbrev cX11_chain : ByteArray := prog_13_method_9_code
def yX11_chain : MethodName := ⟨RX11, "chain", "()I"⟩
def RX12 : String := "StepMachinesLaw$Was"
def TX12 : u_T := fun k => match k with
  | _ => ("", "", "", false)
def tyX12 : Nat → FieldType := fun k => match k with
  | _ => .int
abbrev wsX120 : List Cond := u_ws RX12 TX12 0
theorem nmX12 : ∀ a, a < 0 → ∀ b, b < 0 → a ≠ b → (TX12 a).2.1 ≠ (TX12 b).2.1 := by decide +kernel
theorem tyX12_ok : ∀ k, k < 0 → parseFieldDescriptor (TX12 k).2.2.1 = some (tyX12 k) := by decide +kernel
def RX13 : String := "StepMachinesModel"
def TX13 : u_T := fun k => match k with
  | _ => ("", "", "", false)
def tyX13 : Nat → FieldType := fun k => match k with
  | _ => .int
abbrev wsX130 : List Cond := u_ws RX13 TX13 0
theorem nmX13 : ∀ a, a < 0 → ∀ b, b < 0 → a ≠ b → (TX13 a).2.1 ≠ (TX13 b).2.1 := by decide +kernel
theorem tyX13_ok : ∀ k, k < 0 → parseFieldDescriptor (TX13 k).2.2.1 = some (tyX13 k) := by decide +kernel
def RJx8e188 : String := "java/lang/Cloneable"
def TJx8e188 : u_T := fun k => match k with
  | _ => ("", "", "", false)
def RJ6 : String := "java/lang/Integer"
def TJ6 : u_T := fun k => match k with
  | _ => ("", "", "", false)
abbrev cJ6_bitCount_0f7a4 : ByteArray := prog_17_method_49_code
def yJ6_bitCount_0f7a4 : MethodName := ⟨RJ6, "bitCount", "(I)I"⟩
def RJ9 : String := "java/lang/Math"
def TJ9 : u_T := fun k => match k with
  | _ => ("", "", "", false)
abbrev cJ9_min_7cf53 : ByteArray := prog_18_method_69_code
def yJ9_min_7cf53 : MethodName := ⟨RJ9, "min", "(II)I"⟩
def RJ10 : String := "java/lang/System"
def TJ10 : u_T := fun k => match k with
  | _ => ("", "", "", false)
def RJ7 : String := "java/util/Arrays"
def TJ7 : u_T := fun k => match k with
  | _ => ("", "", "", false)
abbrev cJ7_copyOf_59c91 : ByteArray := prog_20_method_123_code
def yJ7_copyOf_59c91 : MethodName := ⟨RJ7, "copyOf", "([II)[I"⟩
def RL : String := "StepMachinesLaw"
def TL : u_T := fun k => match k with
  | 0 => ("StepMachinesLaw", "o", "LStepMachines;", true)
  | 1 => ("StepMachinesLaw", "letters", "[[I", true)
  | 2 => ("StepMachinesLaw", "numbers", "[[I", true)
  | 3 => ("StepMachinesLaw", "many", "I", false)
  | 4 => ("StepMachinesLaw", "width", "I", false)
  | 5 => ("StepMachinesLaw", "today", "I", false)
  | 6 => ("StepMachinesLaw", "ones", "[LStepMachinesLaw$One;", false)
  | 7 => ("StepMachinesLaw", "line", "[[I", false)
  | _ => ("StepMachinesLaw", "said", "I", false)
def tyL : Nat → FieldType := fun k => match k with
  | 0 => .object "StepMachines"
  | 1 => .array (.array .int)
  | 2 => .array (.array .int)
  | 3 => .int
  | 4 => .int
  | 5 => .int
  | 6 => .array (.object "StepMachinesLaw$One")
  | 7 => .array (.array .int)
  | _ => .int
abbrev wsL0 : List Cond := u_ws RL TL 9
theorem nmL : ∀ a, a < 9 → ∀ b, b < 9 → a ≠ b → (TL a).2.1 ≠ (TL b).2.1 := by decide +kernel
theorem tyL_ok : ∀ k, k < 9 → parseFieldDescriptor (TL k).2.2.1 = some (tyL k) := by decide +kernel
abbrev cL_init : ByteArray := method_1_code
def yL_init : MethodName := ⟨RL, "<init>", "()V"⟩
abbrev cL_cell : ByteArray := method_2_code
def yL_cell : MethodName := ⟨RL, "cell", "([II)I"⟩
abbrev cL_some : ByteArray := method_3_code
def yL_some : MethodName := ⟨RL, "some", "([III)I"⟩
abbrev cL_tell : ByteArray := method_4_code
def yL_tell : MethodName := ⟨RL, "tell", "([II)I"⟩
abbrev cL_bit : ByteArray := method_5_code
def yL_bit : MethodName := ⟨RL, "bit", "(II)Z"⟩
abbrev cL_bits : ByteArray := method_6_code
def yL_bits : MethodName := ⟨RL, "bits", "(I)I"⟩
abbrev cL_frame : ByteArray := method_8_code
def yL_frame : MethodName := ⟨RL, "frame", "(I)LStepMachinesLaw$Frame;"⟩
abbrev cL_queue : ByteArray := method_9_code
def yL_queue : MethodName := ⟨RL, "queue", "(II)V"⟩
abbrev cL_unqueue : ByteArray := method_10_code
def yL_unqueue : MethodName := ⟨RL, "unqueue", "(I)V"⟩
abbrev cL_served : ByteArray := method_11_code
def yL_served : MethodName := ⟨RL, "served", "(I)LStepMachinesLaw$One;"⟩
abbrev cL_joined : ByteArray := method_12_code
def yL_joined : MethodName := ⟨RL, "joined", "(LStepMachinesLaw$One;LStepMachinesLaw$One;)V"⟩
abbrev cL_settle : ByteArray := method_13_code
def yL_settle : MethodName := ⟨RL, "settle", "(I)V"⟩
abbrev cL_blocked : ByteArray := method_14_code
def yL_blocked : MethodName := ⟨RL, "blocked", "(III)V"⟩
abbrev cL_step : ByteArray := method_15_code
def yL_step : MethodName := ⟨RL, "step", "(IZ)V"⟩
abbrev cL_does : ByteArray := method_16_code
def yL_does : MethodName := ⟨RL, "does", "(ILStepMachinesLaw$Frame;II)V"⟩
abbrev cL_could : ByteArray := method_17_code
def yL_could : MethodName := ⟨RL, "could", "(I)Z"⟩
abbrev cL_send : ByteArray := method_18_code
def yL_send : MethodName := ⟨RL, "send", "(II)V"⟩
abbrev cL_close : ByteArray := method_19_code
def yL_close : MethodName := ⟨RL, "close", "(I)V"⟩
abbrev cL_round : ByteArray := method_20_code
def yL_round : MethodName := ⟨RL, "round", "(Z)V"⟩
abbrev cL_go : ByteArray := method_21_code
def yL_go : MethodName := ⟨RL, "go", "(I)V"⟩
abbrev cL_ended : ByteArray := method_22_code
def yL_ended : MethodName := ⟨RL, "ended", "()I"⟩
abbrev cL_outs : ByteArray := method_23_code
def yL_outs : MethodName := ⟨RL, "outs", "()I"⟩
abbrev cL_lay : ByteArray := method_26_code
def yL_lay : MethodName := ⟨RL, "lay", "([III[II)I"⟩
abbrev cL_joins : ByteArray := method_27_code
def yL_joins : MethodName := ⟨RL, "joins", "(III)V"⟩
abbrev cL_come : ByteArray := method_28_code
def yL_come : MethodName := ⟨RL, "come", "(III)Z"⟩
abbrev cL_act : ByteArray := method_29_code
def yL_act : MethodName := ⟨RL, "act", "(I)Z"⟩
abbrev cL_begin : ByteArray := method_30_code
def yL_begin : MethodName := ⟨RL, "begin", "([III)Z"⟩
abbrev cL_same : ByteArray := method_31_code
def yL_same : MethodName := ⟨RL, "same", "()Z"⟩
abbrev cL_law : ByteArray := code
def yL_law : MethodName := ⟨RL, "law", "([I)Z"⟩
abbrev cL_holds : ByteArray := method_33_code
def yL_holds : MethodName := ⟨RL, "holds", "([I)Z"⟩
abbrev vwCl : List vw_C := [(RX0, TX0, 11), (RX1, TX1, 6), (RX2, TX2, 13), (RX3, TX3, 2), (RX4, TX4, 2), (RX5, TX5, 2), (RX6, TX6, 2), (RX7, TX7, 2), (RX8, TX8, 8), (RX9, TX9, 2), (RX10, TX10, 8), (RX11, TX11, 12), (RL, TL, 9)]
