section
-- ===== PART A: goes FIRST, ahead of the names: the tables' words, and 'selects' of the private methods out of them =====
/-- a private method of a class that the tables say can be made, by its rows of tables_1 -/
def lw_okq (q : MethodName × Nat) : Prop := (q.1.cls ≠ "java/lang/invoke/MethodHandle" ∧ q.1.cls ≠ "java/lang/invoke/VarHandle") ∧ Cond.instantiable q.1.cls q.2 ∈ tables_1 ∧ Cond.privateMethod q.1 ∈ tables_1 ∧ Cond.instanceMethod q.1 ∈ tables_1
theorem lw_p0 : lw_okq (⟨"StepMachinesLaw", "holds", "([I)Z"⟩, 9) := ⟨⟨by decide +kernel, by decide +kernel⟩, List.mem_of_getElem? (i := 18) (by decide +kernel), List.mem_of_getElem? (i := 300) (by decide +kernel), List.mem_of_getElem? (i := 301) (by decide +kernel)⟩
theorem lw_p1 : lw_okq (⟨"StepMachinesLaw", "begin", "([III)Z"⟩, 9) := ⟨⟨by decide +kernel, by decide +kernel⟩, List.mem_of_getElem? (i := 18) (by decide +kernel), List.mem_of_getElem? (i := 304) (by decide +kernel), List.mem_of_getElem? (i := 305) (by decide +kernel)⟩
theorem lw_p2 : lw_okq (⟨"StepMachinesLaw", "lay", "([III[II)I"⟩, 9) := ⟨⟨by decide +kernel, by decide +kernel⟩, List.mem_of_getElem? (i := 18) (by decide +kernel), List.mem_of_getElem? (i := 308) (by decide +kernel), List.mem_of_getElem? (i := 309) (by decide +kernel)⟩
theorem lw_p3 : lw_okq (⟨"StepMachinesLaw", "tell", "([II)I"⟩, 9) := ⟨⟨by decide +kernel, by decide +kernel⟩, List.mem_of_getElem? (i := 18) (by decide +kernel), List.mem_of_getElem? (i := 322) (by decide +kernel), List.mem_of_getElem? (i := 323) (by decide +kernel)⟩
theorem lw_p4 : lw_okq (⟨"StepMachines", "refusalOfRow", "(I)I"⟩, 8) := ⟨⟨by decide +kernel, by decide +kernel⟩, List.mem_of_getElem? (i := 26) (by decide +kernel), List.mem_of_getElem? (i := 350) (by decide +kernel), List.mem_of_getElem? (i := 351) (by decide +kernel)⟩
theorem lw_p5 : lw_okq (⟨"StepMachines$Text", "endOfStatement", "(I)I"⟩, 2) := ⟨⟨by decide +kernel, by decide +kernel⟩, List.mem_of_getElem? (i := 367) (by decide +kernel), List.mem_of_getElem? (i := 388) (by decide +kernel), List.mem_of_getElem? (i := 389) (by decide +kernel)⟩
theorem lw_p6 : lw_okq (⟨"StepMachines$Text", "endOfProgram", "(I)I"⟩, 2) := ⟨⟨by decide +kernel, by decide +kernel⟩, List.mem_of_getElem? (i := 367) (by decide +kernel), List.mem_of_getElem? (i := 396) (by decide +kernel), List.mem_of_getElem? (i := 397) (by decide +kernel)⟩
theorem lw_p7 : lw_okq (⟨"StepMachines$Text", "endOfNumbers", "(II)I"⟩, 2) := ⟨⟨by decide +kernel, by decide +kernel⟩, List.mem_of_getElem? (i := 367) (by decide +kernel), List.mem_of_getElem? (i := 409) (by decide +kernel), List.mem_of_getElem? (i := 410) (by decide +kernel)⟩
theorem lw_p8 : lw_okq (⟨"StepMachines", "mindOfNow", "()LStepMachines$Machine;"⟩, 8) := ⟨⟨by decide +kernel, by decide +kernel⟩, List.mem_of_getElem? (i := 26) (by decide +kernel), List.mem_of_getElem? (i := 413) (by decide +kernel), List.mem_of_getElem? (i := 414) (by decide +kernel)⟩
theorem lw_p9 : lw_okq (⟨"StepMachines$Text", "digit", "(I)I"⟩, 2) := ⟨⟨by decide +kernel, by decide +kernel⟩, List.mem_of_getElem? (i := 367) (by decide +kernel), List.mem_of_getElem? (i := 440) (by decide +kernel), List.mem_of_getElem? (i := 441) (by decide +kernel)⟩
theorem lw_p10 : lw_okq (⟨"StepMachines$Text", "isProgramDone", "(ILStepMachines$Machine;)Z"⟩, 2) := ⟨⟨by decide +kernel, by decide +kernel⟩, List.mem_of_getElem? (i := 367) (by decide +kernel), List.mem_of_getElem? (i := 444) (by decide +kernel), List.mem_of_getElem? (i := 445) (by decide +kernel)⟩
theorem lw_p11 : lw_okq (⟨"StepMachines$Text", "programFrom", "(I)LStepMachines$Program;"⟩, 2) := ⟨⟨by decide +kernel, by decide +kernel⟩, List.mem_of_getElem? (i := 367) (by decide +kernel), List.mem_of_getElem? (i := 448) (by decide +kernel), List.mem_of_getElem? (i := 449) (by decide +kernel)⟩
theorem lw_p12 : lw_okq (⟨"StepMachines$Text", "isComingDone", "(ILStepMachines$Machine;)Z"⟩, 2) := ⟨⟨by decide +kernel, by decide +kernel⟩, List.mem_of_getElem? (i := 367) (by decide +kernel), List.mem_of_getElem? (i := 468) (by decide +kernel), List.mem_of_getElem? (i := 469) (by decide +kernel)⟩
theorem lw_p13 : lw_okq (⟨"StepMachines$Text", "twoDigits", "(I)I"⟩, 2) := ⟨⟨by decide +kernel, by decide +kernel⟩, List.mem_of_getElem? (i := 367) (by decide +kernel), List.mem_of_getElem? (i := 490) (by decide +kernel), List.mem_of_getElem? (i := 491) (by decide +kernel)⟩
theorem lw_p14 : lw_okq (⟨"StepMachines$Machine", "makeStep", "(IZ)V"⟩, 13) := ⟨⟨by decide +kernel, by decide +kernel⟩, List.mem_of_getElem? (i := 32) (by decide +kernel), List.mem_of_getElem? (i := 506) (by decide +kernel), List.mem_of_getElem? (i := 507) (by decide +kernel)⟩
theorem lw_p15 : lw_okq (⟨"StepMachines$Machine", "endTop", "(LStepMachines$Coroutine;)V"⟩, 13) := ⟨⟨by decide +kernel, by decide +kernel⟩, List.mem_of_getElem? (i := 32) (by decide +kernel), List.mem_of_getElem? (i := 514) (by decide +kernel), List.mem_of_getElem? (i := 515) (by decide +kernel)⟩
def lw_privs_1 : List (MethodName × Nat) := [(⟨"StepMachinesLaw", "holds", "([I)Z"⟩, 9), (⟨"StepMachinesLaw", "begin", "([III)Z"⟩, 9), (⟨"StepMachinesLaw", "lay", "([III[II)I"⟩, 9), (⟨"StepMachinesLaw", "tell", "([II)I"⟩, 9), (⟨"StepMachines", "refusalOfRow", "(I)I"⟩, 8), (⟨"StepMachines$Text", "endOfStatement", "(I)I"⟩, 2), (⟨"StepMachines$Text", "endOfProgram", "(I)I"⟩, 2), (⟨"StepMachines$Text", "endOfNumbers", "(II)I"⟩, 2), (⟨"StepMachines", "mindOfNow", "()LStepMachines$Machine;"⟩, 8), (⟨"StepMachines$Text", "digit", "(I)I"⟩, 2), (⟨"StepMachines$Text", "isProgramDone", "(ILStepMachines$Machine;)Z"⟩, 2), (⟨"StepMachines$Text", "programFrom", "(I)LStepMachines$Program;"⟩, 2), (⟨"StepMachines$Text", "isComingDone", "(ILStepMachines$Machine;)Z"⟩, 2), (⟨"StepMachines$Text", "twoDigits", "(I)I"⟩, 2), (⟨"StepMachines$Machine", "makeStep", "(IZ)V"⟩, 13), (⟨"StepMachines$Machine", "endTop", "(LStepMachines$Coroutine;)V"⟩, 13)]
theorem lw_r1 : ∀ q ∈ lw_privs_1, lw_okq q := List.forall_mem_cons.mpr ⟨lw_p0, List.forall_mem_cons.mpr ⟨lw_p1, List.forall_mem_cons.mpr ⟨lw_p2, List.forall_mem_cons.mpr ⟨lw_p3, List.forall_mem_cons.mpr ⟨lw_p4, List.forall_mem_cons.mpr ⟨lw_p5, List.forall_mem_cons.mpr ⟨lw_p6, List.forall_mem_cons.mpr ⟨lw_p7, List.forall_mem_cons.mpr ⟨lw_p8, List.forall_mem_cons.mpr ⟨lw_p9, List.forall_mem_cons.mpr ⟨lw_p10, List.forall_mem_cons.mpr ⟨lw_p11, List.forall_mem_cons.mpr ⟨lw_p12, List.forall_mem_cons.mpr ⟨lw_p13, List.forall_mem_cons.mpr ⟨lw_p14, List.forall_mem_cons.mpr ⟨lw_p15, fun _ h => absurd h List.not_mem_nil⟩⟩⟩⟩⟩⟩⟩⟩⟩⟩⟩⟩⟩⟩⟩⟩
theorem lw_p16 : lw_okq (⟨"StepMachines$Machine", "throwFault", "(LStepMachines$Coroutine;I)V"⟩, 13) := ⟨⟨by decide +kernel, by decide +kernel⟩, List.mem_of_getElem? (i := 32) (by decide +kernel), List.mem_of_getElem? (i := 522) (by decide +kernel), List.mem_of_getElem? (i := 523) (by decide +kernel)⟩
theorem lw_p17 : lw_okq (⟨"StepMachines$Machine", "newFault", "(II)I"⟩, 13) := ⟨⟨by decide +kernel, by decide +kernel⟩, List.mem_of_getElem? (i := 32) (by decide +kernel), List.mem_of_getElem? (i := 534) (by decide +kernel), List.mem_of_getElem? (i := 535) (by decide +kernel)⟩
theorem lw_p18 : lw_okq (⟨"StepMachines$Machine", "makeLivelyStep", "(III)V"⟩, 13) := ⟨⟨by decide +kernel, by decide +kernel⟩, List.mem_of_getElem? (i := 32) (by decide +kernel), List.mem_of_getElem? (i := 538) (by decide +kernel), List.mem_of_getElem? (i := 539) (by decide +kernel)⟩
theorem lw_p19 : lw_okq (⟨"StepMachines$Machine", "goInto", "(LStepMachines$Coroutine;I)V"⟩, 13) := ⟨⟨by decide +kernel, by decide +kernel⟩, List.mem_of_getElem? (i := 32) (by decide +kernel), List.mem_of_getElem? (i := 546) (by decide +kernel), List.mem_of_getElem? (i := 547) (by decide +kernel)⟩
theorem lw_p20 : lw_okq (⟨"StepMachines$Machine", "sendAt", "(II)V"⟩, 13) := ⟨⟨by decide +kernel, by decide +kernel⟩, List.mem_of_getElem? (i := 32) (by decide +kernel), List.mem_of_getElem? (i := 551) (by decide +kernel), List.mem_of_getElem? (i := 552) (by decide +kernel)⟩
theorem lw_p21 : lw_okq (⟨"StepMachines$Machine", "getAt", "(II)V"⟩, 13) := ⟨⟨by decide +kernel, by decide +kernel⟩, List.mem_of_getElem? (i := 32) (by decide +kernel), List.mem_of_getElem? (i := 571) (by decide +kernel), List.mem_of_getElem? (i := 572) (by decide +kernel)⟩
theorem lw_p22 : lw_okq (⟨"StepMachines$Machine", "haveEnd", "(LStepMachines$Coroutine;LStepMachines$Coroutine;)V"⟩, 13) := ⟨⟨by decide +kernel, by decide +kernel⟩, List.mem_of_getElem? (i := 32) (by decide +kernel), List.mem_of_getElem? (i := 579) (by decide +kernel), List.mem_of_getElem? (i := 580) (by decide +kernel)⟩
theorem lw_p23 : lw_okq (⟨"StepMachines$Text", "areRoundsDone", "(ILStepMachines$Machine;)Z"⟩, 2) := ⟨⟨by decide +kernel, by decide +kernel⟩, List.mem_of_getElem? (i := 367) (by decide +kernel), List.mem_of_getElem? (i := 591) (by decide +kernel), List.mem_of_getElem? (i := 592) (by decide +kernel)⟩
theorem lw_p24 : lw_okq (⟨"StepMachines$Machine", "lineUp", "()I"⟩, 13) := ⟨⟨by decide +kernel, by decide +kernel⟩, List.mem_of_getElem? (i := 32) (by decide +kernel), List.mem_of_getElem? (i := 599) (by decide +kernel), List.mem_of_getElem? (i := 600) (by decide +kernel)⟩
theorem lw_p25 : lw_okq (⟨"StepMachinesLaw", "come", "(III)Z"⟩, 9) := ⟨⟨by decide +kernel, by decide +kernel⟩, List.mem_of_getElem? (i := 18) (by decide +kernel), List.mem_of_getElem? (i := 617) (by decide +kernel), List.mem_of_getElem? (i := 618) (by decide +kernel)⟩
theorem lw_p26 : lw_okq (⟨"StepMachinesLaw", "joins", "(III)V"⟩, 9) := ⟨⟨by decide +kernel, by decide +kernel⟩, List.mem_of_getElem? (i := 18) (by decide +kernel), List.mem_of_getElem? (i := 621) (by decide +kernel), List.mem_of_getElem? (i := 622) (by decide +kernel)⟩
theorem lw_p27 : lw_okq (⟨"StepMachinesLaw", "frame", "(I)LStepMachinesLaw$Frame;"⟩, 9) := ⟨⟨by decide +kernel, by decide +kernel⟩, List.mem_of_getElem? (i := 18) (by decide +kernel), List.mem_of_getElem? (i := 678) (by decide +kernel), List.mem_of_getElem? (i := 679) (by decide +kernel)⟩
theorem lw_p28 : lw_okq (⟨"StepMachines", "refusalOfManner", "(I)I"⟩, 8) := ⟨⟨by decide +kernel, by decide +kernel⟩, List.mem_of_getElem? (i := 26) (by decide +kernel), List.mem_of_getElem? (i := 732) (by decide +kernel), List.mem_of_getElem? (i := 733) (by decide +kernel)⟩
theorem lw_p29 : lw_okq (⟨"StepMachinesLaw", "act", "(I)Z"⟩, 9) := ⟨⟨by decide +kernel, by decide +kernel⟩, List.mem_of_getElem? (i := 18) (by decide +kernel), List.mem_of_getElem? (i := 737) (by decide +kernel), List.mem_of_getElem? (i := 738) (by decide +kernel)⟩
theorem lw_p30 : lw_okq (⟨"StepMachinesLaw", "could", "(I)Z"⟩, 9) := ⟨⟨by decide +kernel, by decide +kernel⟩, List.mem_of_getElem? (i := 18) (by decide +kernel), List.mem_of_getElem? (i := 741) (by decide +kernel), List.mem_of_getElem? (i := 742) (by decide +kernel)⟩
theorem lw_p31 : lw_okq (⟨"StepMachines", "isCoroutine", "(I)Z"⟩, 8) := ⟨⟨by decide +kernel, by decide +kernel⟩, List.mem_of_getElem? (i := 26) (by decide +kernel), List.mem_of_getElem? (i := 749) (by decide +kernel), List.mem_of_getElem? (i := 750) (by decide +kernel)⟩
def lw_privs_2 : List (MethodName × Nat) := [(⟨"StepMachines$Machine", "throwFault", "(LStepMachines$Coroutine;I)V"⟩, 13), (⟨"StepMachines$Machine", "newFault", "(II)I"⟩, 13), (⟨"StepMachines$Machine", "makeLivelyStep", "(III)V"⟩, 13), (⟨"StepMachines$Machine", "goInto", "(LStepMachines$Coroutine;I)V"⟩, 13), (⟨"StepMachines$Machine", "sendAt", "(II)V"⟩, 13), (⟨"StepMachines$Machine", "getAt", "(II)V"⟩, 13), (⟨"StepMachines$Machine", "haveEnd", "(LStepMachines$Coroutine;LStepMachines$Coroutine;)V"⟩, 13), (⟨"StepMachines$Text", "areRoundsDone", "(ILStepMachines$Machine;)Z"⟩, 2), (⟨"StepMachines$Machine", "lineUp", "()I"⟩, 13), (⟨"StepMachinesLaw", "come", "(III)Z"⟩, 9), (⟨"StepMachinesLaw", "joins", "(III)V"⟩, 9), (⟨"StepMachinesLaw", "frame", "(I)LStepMachinesLaw$Frame;"⟩, 9), (⟨"StepMachines", "refusalOfManner", "(I)I"⟩, 8), (⟨"StepMachinesLaw", "act", "(I)Z"⟩, 9), (⟨"StepMachinesLaw", "could", "(I)Z"⟩, 9), (⟨"StepMachines", "isCoroutine", "(I)Z"⟩, 8)]
theorem lw_r2 : ∀ q ∈ lw_privs_2, lw_okq q := List.forall_mem_cons.mpr ⟨lw_p16, List.forall_mem_cons.mpr ⟨lw_p17, List.forall_mem_cons.mpr ⟨lw_p18, List.forall_mem_cons.mpr ⟨lw_p19, List.forall_mem_cons.mpr ⟨lw_p20, List.forall_mem_cons.mpr ⟨lw_p21, List.forall_mem_cons.mpr ⟨lw_p22, List.forall_mem_cons.mpr ⟨lw_p23, List.forall_mem_cons.mpr ⟨lw_p24, List.forall_mem_cons.mpr ⟨lw_p25, List.forall_mem_cons.mpr ⟨lw_p26, List.forall_mem_cons.mpr ⟨lw_p27, List.forall_mem_cons.mpr ⟨lw_p28, List.forall_mem_cons.mpr ⟨lw_p29, List.forall_mem_cons.mpr ⟨lw_p30, List.forall_mem_cons.mpr ⟨lw_p31, fun _ h => absurd h List.not_mem_nil⟩⟩⟩⟩⟩⟩⟩⟩⟩⟩⟩⟩⟩⟩⟩⟩
theorem lw_p32 : lw_okq (⟨"StepMachinesLaw", "send", "(II)V"⟩, 9) := ⟨⟨by decide +kernel, by decide +kernel⟩, List.mem_of_getElem? (i := 18) (by decide +kernel), List.mem_of_getElem? (i := 755) (by decide +kernel), List.mem_of_getElem? (i := 756) (by decide +kernel)⟩
theorem lw_p33 : lw_okq (⟨"StepMachinesLaw", "step", "(IZ)V"⟩, 9) := ⟨⟨by decide +kernel, by decide +kernel⟩, List.mem_of_getElem? (i := 18) (by decide +kernel), List.mem_of_getElem? (i := 763) (by decide +kernel), List.mem_of_getElem? (i := 764) (by decide +kernel)⟩
theorem lw_p34 : lw_okq (⟨"StepMachinesLaw", "settle", "(I)V"⟩, 9) := ⟨⟨by decide +kernel, by decide +kernel⟩, List.mem_of_getElem? (i := 18) (by decide +kernel), List.mem_of_getElem? (i := 806) (by decide +kernel), List.mem_of_getElem? (i := 807) (by decide +kernel)⟩
theorem lw_p35 : lw_okq (⟨"StepMachinesLaw", "joined", "(LStepMachinesLaw$One;LStepMachinesLaw$One;)V"⟩, 9) := ⟨⟨by decide +kernel, by decide +kernel⟩, List.mem_of_getElem? (i := 18) (by decide +kernel), List.mem_of_getElem? (i := 810) (by decide +kernel), List.mem_of_getElem? (i := 811) (by decide +kernel)⟩
theorem lw_p36 : lw_okq (⟨"StepMachinesLaw", "does", "(ILStepMachinesLaw$Frame;II)V"⟩, 9) := ⟨⟨by decide +kernel, by decide +kernel⟩, List.mem_of_getElem? (i := 18) (by decide +kernel), List.mem_of_getElem? (i := 817) (by decide +kernel), List.mem_of_getElem? (i := 818) (by decide +kernel)⟩
theorem lw_p37 : lw_okq (⟨"StepMachinesLaw", "blocked", "(III)V"⟩, 9) := ⟨⟨by decide +kernel, by decide +kernel⟩, List.mem_of_getElem? (i := 18) (by decide +kernel), List.mem_of_getElem? (i := 822) (by decide +kernel), List.mem_of_getElem? (i := 823) (by decide +kernel)⟩
theorem lw_p38 : lw_okq (⟨"StepMachinesLaw", "served", "(I)LStepMachinesLaw$One;"⟩, 9) := ⟨⟨by decide +kernel, by decide +kernel⟩, List.mem_of_getElem? (i := 18) (by decide +kernel), List.mem_of_getElem? (i := 826) (by decide +kernel), List.mem_of_getElem? (i := 827) (by decide +kernel)⟩
theorem lw_p39 : lw_okq (⟨"StepMachinesLaw", "unqueue", "(I)V"⟩, 9) := ⟨⟨by decide +kernel, by decide +kernel⟩, List.mem_of_getElem? (i := 18) (by decide +kernel), List.mem_of_getElem? (i := 830) (by decide +kernel), List.mem_of_getElem? (i := 831) (by decide +kernel)⟩
theorem lw_p40 : lw_okq (⟨"StepMachinesLaw", "queue", "(II)V"⟩, 9) := ⟨⟨by decide +kernel, by decide +kernel⟩, List.mem_of_getElem? (i := 18) (by decide +kernel), List.mem_of_getElem? (i := 835) (by decide +kernel), List.mem_of_getElem? (i := 836) (by decide +kernel)⟩
theorem lw_p41 : lw_okq (⟨"StepMachinesLaw", "close", "(I)V"⟩, 9) := ⟨⟨by decide +kernel, by decide +kernel⟩, List.mem_of_getElem? (i := 18) (by decide +kernel), List.mem_of_getElem? (i := 845) (by decide +kernel), List.mem_of_getElem? (i := 846) (by decide +kernel)⟩
theorem lw_p42 : lw_okq (⟨"StepMachinesLaw", "go", "(I)V"⟩, 9) := ⟨⟨by decide +kernel, by decide +kernel⟩, List.mem_of_getElem? (i := 18) (by decide +kernel), List.mem_of_getElem? (i := 854) (by decide +kernel), List.mem_of_getElem? (i := 855) (by decide +kernel)⟩
theorem lw_p43 : lw_okq (⟨"StepMachinesLaw", "round", "(Z)V"⟩, 9) := ⟨⟨by decide +kernel, by decide +kernel⟩, List.mem_of_getElem? (i := 18) (by decide +kernel), List.mem_of_getElem? (i := 858) (by decide +kernel), List.mem_of_getElem? (i := 859) (by decide +kernel)⟩
theorem lw_p44 : lw_okq (⟨"StepMachinesLaw", "ended", "()I"⟩, 9) := ⟨⟨by decide +kernel, by decide +kernel⟩, List.mem_of_getElem? (i := 18) (by decide +kernel), List.mem_of_getElem? (i := 884) (by decide +kernel), List.mem_of_getElem? (i := 885) (by decide +kernel)⟩
theorem lw_p45 : lw_okq (⟨"StepMachinesLaw", "same", "()Z"⟩, 9) := ⟨⟨by decide +kernel, by decide +kernel⟩, List.mem_of_getElem? (i := 18) (by decide +kernel), List.mem_of_getElem? (i := 957) (by decide +kernel), List.mem_of_getElem? (i := 958) (by decide +kernel)⟩
theorem lw_p46 : lw_okq (⟨"StepMachines", "heldTold", "(I)I"⟩, 8) := ⟨⟨by decide +kernel, by decide +kernel⟩, List.mem_of_getElem? (i := 26) (by decide +kernel), List.mem_of_getElem? (i := 969) (by decide +kernel), List.mem_of_getElem? (i := 970) (by decide +kernel)⟩
theorem lw_p47 : lw_okq (⟨"StepMachinesLaw", "outs", "()I"⟩, 9) := ⟨⟨by decide +kernel, by decide +kernel⟩, List.mem_of_getElem? (i := 18) (by decide +kernel), List.mem_of_getElem? (i := 989) (by decide +kernel), List.mem_of_getElem? (i := 990) (by decide +kernel)⟩
def lw_privs_3 : List (MethodName × Nat) := [(⟨"StepMachinesLaw", "send", "(II)V"⟩, 9), (⟨"StepMachinesLaw", "step", "(IZ)V"⟩, 9), (⟨"StepMachinesLaw", "settle", "(I)V"⟩, 9), (⟨"StepMachinesLaw", "joined", "(LStepMachinesLaw$One;LStepMachinesLaw$One;)V"⟩, 9), (⟨"StepMachinesLaw", "does", "(ILStepMachinesLaw$Frame;II)V"⟩, 9), (⟨"StepMachinesLaw", "blocked", "(III)V"⟩, 9), (⟨"StepMachinesLaw", "served", "(I)LStepMachinesLaw$One;"⟩, 9), (⟨"StepMachinesLaw", "unqueue", "(I)V"⟩, 9), (⟨"StepMachinesLaw", "queue", "(II)V"⟩, 9), (⟨"StepMachinesLaw", "close", "(I)V"⟩, 9), (⟨"StepMachinesLaw", "go", "(I)V"⟩, 9), (⟨"StepMachinesLaw", "round", "(Z)V"⟩, 9), (⟨"StepMachinesLaw", "ended", "()I"⟩, 9), (⟨"StepMachinesLaw", "same", "()Z"⟩, 9), (⟨"StepMachines", "heldTold", "(I)I"⟩, 8), (⟨"StepMachinesLaw", "outs", "()I"⟩, 9)]
theorem lw_r3 : ∀ q ∈ lw_privs_3, lw_okq q := List.forall_mem_cons.mpr ⟨lw_p32, List.forall_mem_cons.mpr ⟨lw_p33, List.forall_mem_cons.mpr ⟨lw_p34, List.forall_mem_cons.mpr ⟨lw_p35, List.forall_mem_cons.mpr ⟨lw_p36, List.forall_mem_cons.mpr ⟨lw_p37, List.forall_mem_cons.mpr ⟨lw_p38, List.forall_mem_cons.mpr ⟨lw_p39, List.forall_mem_cons.mpr ⟨lw_p40, List.forall_mem_cons.mpr ⟨lw_p41, List.forall_mem_cons.mpr ⟨lw_p42, List.forall_mem_cons.mpr ⟨lw_p43, List.forall_mem_cons.mpr ⟨lw_p44, List.forall_mem_cons.mpr ⟨lw_p45, List.forall_mem_cons.mpr ⟨lw_p46, List.forall_mem_cons.mpr ⟨lw_p47, fun _ h => absurd h List.not_mem_nil⟩⟩⟩⟩⟩⟩⟩⟩⟩⟩⟩⟩⟩⟩⟩⟩
def lw_privs : List (MethodName × Nat) := lw_privs_1 ++ (lw_privs_2 ++ (lw_privs_3))
def lw_tbl : List Cond := k2_sels lw_privs ++ tables_1
theorem lw_privs_ok : ∀ q ∈ lw_privs, lw_okq q := by
  show ∀ q ∈ lw_privs_1 ++ (lw_privs_2 ++ (lw_privs_3)), lw_okq q
  exact List.forall_mem_append.mpr ⟨lw_r1, List.forall_mem_append.mpr ⟨lw_r2, lw_r3⟩⟩
-- ===== end of PART A; then your names; then what follows =====
/-! ===== BEGIN words of one list among another's, by their places ===== -/
theorem goodIn_r {big : List Cond} (ws : List Cond) (ps : List Nat) (hp : ws = ps.filterMap (fun i => big[i]?)) (h : ws.all goodWord = true) : GoodIn big ws := by
  intro w hw
  have h1 := List.all_eq_true.mp h w hw
  rw [hp] at hw
  obtain ⟨i, -, hi⟩ := List.mem_filterMap.mp hw
  have hm : w ∈ big := by first | exact List.mem_of_getElem? hi | exact List.getElem?_mem hi
  exact ⟨hm, good_of_word h1⟩
theorem goodIn_app {big a b : List Cond} (ha : GoodIn big a) (hb : GoodIn big b) : GoodIn big (a ++ b) := fun w h => (List.mem_append.mp h).elim (ha w) (hb w)
theorem goodIn_ca {big a b : List Cond} {c : Cond} (ha : GoodIn big (c :: a)) (hb : GoodIn big b) : GoodIn big (c :: (a ++ b)) := fun w h => (List.mem_cons.mp h).elim (fun e => ha w (List.mem_cons.mpr (Or.inl e))) (fun h => (List.mem_append.mp h).elim (fun h => ha w (List.mem_cons.mpr (Or.inr h))) (hb w))
theorem goodIn_sub {big ws : List Cond} (hm : ∀ w ∈ ws, w ∈ big) (h : ws.all goodWord = true) : GoodIn big ws := fun w hw => ⟨hm w hw, good_of_word (List.all_eq_true.mp h w hw)⟩
/-! ===== END ===== -/
def RX0 : String := "StepMachines$Coroutine"
def TX0 : u_T := fun k => match k with
  | 0 => ("StepMachines$Coroutine", "program", "I", false)
  | 1 => ("StepMachines$Coroutine", "manner", "LStepMachines$Manner;", false)
  | 2 => ("StepMachines$Coroutine", "state", "I", false)
  | 3 => ("StepMachines$Coroutine", "acc", "I", false)
  | 4 => ("StepMachines$Coroutine", "out", "I", false)
  | 5 => ("StepMachines$Coroutine", "outs", "I", false)
  | 6 => ("StepMachines$Coroutine", "age", "I", false)
  | 7 => ("StepMachines$Coroutine", "waitsFor", "I", false)
  | 8 => ("StepMachines$Coroutine", "fault", "I", false)
  | 9 => ("StepMachines$Coroutine", "depth", "I", false)
  | _ => ("StepMachines$Coroutine", "frames", "[LStepMachines$Frame;", true)
def tyX0 : Nat → FieldType := fun k => match k with
  | 0 => .int
  | 1 => .object "StepMachines$Manner"
  | 2 => .int
  | 3 => .int
  | 4 => .int
  | 5 => .int
  | 6 => .int
  | 7 => .int
  | 8 => .int
  | 9 => .int
  | _ => .array (.object "StepMachines$Frame")
abbrev wsX00 : List Cond := u_ws RX0 TX0 11
theorem nmX0 : ∀ a, a < 11 → ∀ b, b < 11 → a ≠ b → (TX0 a).2.1 ≠ (TX0 b).2.1 := by decide +kernel
theorem tyX0_ok : ∀ k, k < 11 → parseFieldDescriptor (TX0 k).2.2.1 = some (tyX0 k) := by decide +kernel
abbrev cX0_init : ByteArray := prog_2_method_1_code
def yX0_init : MethodName := ⟨RX0, "<init>", "()V"⟩
abbrev cX0_begin : ByteArray := prog_2_method_2_code
def yX0_begin : MethodName := ⟨RX0, "begin", "(LStepMachines$Program;ILStepMachines$Manner;)V"⟩
abbrev cX0_become : ByteArray := prog_2_method_3_code
def yX0_become : MethodName := ⟨RX0, "become", "(LStepMachines$Coroutine;)V"⟩
abbrev cX0_isEnded : ByteArray := prog_2_method_4_code
def yX0_isEnded : MethodName := ⟨RX0, "isEnded", "()Z"⟩
abbrev cX0_canGo : ByteArray := prog_2_method_5_code
def yX0_canGo : MethodName := ⟨RX0, "canGo", "()Z"⟩
abbrev cX0_takeIn : ByteArray := prog_2_method_6_code
def yX0_takeIn : MethodName := ⟨RX0, "takeIn", "(I)V"⟩
abbrev cX0_growOlder : ByteArray := prog_2_method_7_code
def yX0_growOlder : MethodName := ⟨RX0, "growOlder", "()V"⟩
abbrev cX0_waitFor : ByteArray := prog_2_method_8_code
def yX0_waitFor : MethodName := ⟨RX0, "waitFor", "(II)V"⟩
abbrev cX0_goOn : ByteArray := prog_2_method_9_code
def yX0_goOn : MethodName := ⟨RX0, "goOn", "()V"⟩
abbrev cX0_figureTold : ByteArray := prog_2_method_10_code
def yX0_figureTold : MethodName := ⟨RX0, "figureTold", "(I)I"⟩
abbrev cX0_closeTop : ByteArray := prog_2_method_11_code
def yX0_closeTop : MethodName := ⟨RX0, "closeTop", "()V"⟩
def RX1 : String := "StepMachines$Frame"
def TX1 : u_T := fun k => match k with
  | 0 => ("StepMachines$Frame", "program", "LStepMachines$Program;", false)
  | 1 => ("StepMachines$Frame", "number", "I", false)
  | 2 => ("StepMachines$Frame", "step", "I", false)
  | 3 => ("StepMachines$Frame", "count", "I", false)
  | 4 => ("StepMachines$Frame", "finishing", "Z", false)
  | _ => ("StepMachines$Frame", "held", "I", false)
def tyX1 : Nat → FieldType := fun k => match k with
  | 0 => .object "StepMachines$Program"
  | 1 => .int
  | 2 => .int
  | 3 => .int
  | 4 => .boolean
  | _ => .int
abbrev wsX10 : List Cond := u_ws RX1 TX1 6
theorem nmX1 : ∀ a, a < 6 → ∀ b, b < 6 → a ≠ b → (TX1 a).2.1 ≠ (TX1 b).2.1 := by decide +kernel
theorem tyX1_ok : ∀ k, k < 6 → parseFieldDescriptor (TX1 k).2.2.1 = some (tyX1 k) := by decide +kernel
abbrev cX1_init : ByteArray := prog_3_method_1_code
def yX1_init : MethodName := ⟨RX1, "<init>", "()V"⟩
abbrev cX1_begin : ByteArray := prog_3_method_2_code
def yX1_begin : MethodName := ⟨RX1, "begin", "(LStepMachines$Program;I)V"⟩
abbrev cX1_become : ByteArray := prog_3_method_3_code
def yX1_become : MethodName := ⟨RX1, "become", "(LStepMachines$Frame;)V"⟩
def RX2 : String := "StepMachines$Machine"
def TX2 : u_T := fun k => match k with
  | 0 => ("StepMachines$Machine", "programs", "[LStepMachines$Program;", true)
  | 1 => ("StepMachines$Machine", "coroutines", "[LStepMachines$Coroutine;", true)
  | 2 => ("StepMachines$Machine", "senders", "[LStepMachines$Queue;", true)
  | 3 => ("StepMachines$Machine", "getters", "[LStepMachines$Queue;", true)
  | 4 => ("StepMachines$Machine", "count", "I", false)
  | 5 => ("StepMachines$Machine", "width", "I", false)
  | 6 => ("StepMachines$Machine", "round", "I", false)
  | 7 => ("StepMachines$Machine", "yielded", "I", false)
  | 8 => ("StepMachines$Machine", "line", "[I", true)
  | 9 => ("StepMachines$Machine", "ranks", "[I", true)
  | 10 => ("StepMachines$Machine", "codes", "[I", true)
  | 11 => ("StepMachines$Machine", "causes", "[I", true)
  | _ => ("StepMachines$Machine", "faults", "I", false)
def tyX2 : Nat → FieldType := fun k => match k with
  | 0 => .array (.object "StepMachines$Program")
  | 1 => .array (.object "StepMachines$Coroutine")
  | 2 => .array (.object "StepMachines$Queue")
  | 3 => .array (.object "StepMachines$Queue")
  | 4 => .int
  | 5 => .int
  | 6 => .int
  | 7 => .int
  | 8 => .array .int
  | 9 => .array .int
  | 10 => .array .int
  | 11 => .array .int
  | _ => .int
abbrev wsX20 : List Cond := u_ws RX2 TX2 13
theorem nmX2 : ∀ a, a < 13 → ∀ b, b < 13 → a ≠ b → (TX2 a).2.1 ≠ (TX2 b).2.1 := by decide +kernel
theorem tyX2_ok : ∀ k, k < 13 → parseFieldDescriptor (TX2 k).2.2.1 = some (tyX2 k) := by decide +kernel
abbrev cX2_init : ByteArray := prog_4_method_1_code
def yX2_init : MethodName := ⟨RX2, "<init>", "()V"⟩
abbrev cX2_become : ByteArray := prog_4_method_2_code
def yX2_become : MethodName := ⟨RX2, "become", "(LStepMachines$Machine;)V"⟩
abbrev cX2_allBits : ByteArray := prog_4_method_3_code
def yX2_allBits : MethodName := ⟨RX2, "allBits", "()I"⟩
abbrev cX2_endedBits : ByteArray := prog_4_method_4_code
def yX2_endedBits : MethodName := ⟨RX2, "endedBits", "()I"⟩
abbrev cX2_ableBits : ByteArray := prog_4_method_6_code
def yX2_ableBits : MethodName := ⟨RX2, "ableBits", "()I"⟩
abbrev cX2_outsOfAll : ByteArray := prog_4_method_7_code
def yX2_outsOfAll : MethodName := ⟨RX2, "outsOfAll", "()I"⟩
abbrev cX2_codeOf : ByteArray := prog_4_method_8_code
def yX2_codeOf : MethodName := ⟨RX2, "codeOf", "(I)I"⟩
abbrev cX2_causeOf : ByteArray := prog_4_method_9_code
def yX2_causeOf : MethodName := ⟨RX2, "causeOf", "(I)I"⟩
abbrev cX2_faultsOf : ByteArray := prog_4_method_10_code
def yX2_faultsOf : MethodName := ⟨RX2, "faultsOf", "(I)I"⟩
abbrev cX2_add : ByteArray := prog_4_method_11_code
def yX2_add : MethodName := ⟨RX2, "add", "(ILStepMachines$Manner;)I"⟩
abbrev cX2_sendTo : ByteArray := prog_4_method_12_code
def yX2_sendTo : MethodName := ⟨RX2, "sendTo", "(II)V"⟩
abbrev cX2_closeDown : ByteArray := prog_4_method_13_code
def yX2_closeDown : MethodName := ⟨RX2, "closeDown", "(I)V"⟩
abbrev cX2_makeRounds : ByteArray := prog_4_method_14_code
def yX2_makeRounds : MethodName := ⟨RX2, "makeRounds", "(I)V"⟩
abbrev cX2_makeRound : ByteArray := prog_4_method_15_code
def yX2_makeRound : MethodName := ⟨RX2, "makeRound", "()Z"⟩
abbrev cX2_lineUp : ByteArray := prog_4_method_17_code
def yX2_lineUp : MethodName := ⟨RX2, "lineUp", "()I"⟩
abbrev cX2_makeStep : ByteArray := prog_4_method_18_code
def yX2_makeStep : MethodName := ⟨RX2, "makeStep", "(IZ)V"⟩
abbrev cX2_makeLivelyStep : ByteArray := prog_4_method_19_code
def yX2_makeLivelyStep : MethodName := ⟨RX2, "makeLivelyStep", "(III)V"⟩
abbrev cX2_goInto : ByteArray := prog_4_method_20_code
def yX2_goInto : MethodName := ⟨RX2, "goInto", "(LStepMachines$Coroutine;I)V"⟩
abbrev cX2_sendAt : ByteArray := prog_4_method_21_code
def yX2_sendAt : MethodName := ⟨RX2, "sendAt", "(II)V"⟩
abbrev cX2_getAt : ByteArray := prog_4_method_22_code
def yX2_getAt : MethodName := ⟨RX2, "getAt", "(II)V"⟩
abbrev cX2_haveEnd : ByteArray := prog_4_method_23_code
def yX2_haveEnd : MethodName := ⟨RX2, "haveEnd", "(LStepMachines$Coroutine;LStepMachines$Coroutine;)V"⟩
abbrev cX2_tellJoining : ByteArray := prog_4_method_24_code
def yX2_tellJoining : MethodName := ⟨RX2, "tellJoining", "(LStepMachines$Machine;II)V"⟩
abbrev cX2_endTop : ByteArray := prog_4_method_25_code
def yX2_endTop : MethodName := ⟨RX2, "endTop", "(LStepMachines$Coroutine;)V"⟩
abbrev cX2_newFault : ByteArray := prog_4_method_26_code
def yX2_newFault : MethodName := ⟨RX2, "newFault", "(II)I"⟩
abbrev cX2_throwFault : ByteArray := prog_4_method_27_code
def yX2_throwFault : MethodName := ⟨RX2, "throwFault", "(LStepMachines$Coroutine;I)V"⟩
def RX3 : String := "StepMachines$Manner"
def TX3 : u_T := fun k => match k with
  | 0 => ("StepMachines$Manner", "kind", "I", true)
  | _ => ("StepMachines$Manner", "figure", "I", true)
def tyX3 : Nat → FieldType := fun k => match k with
  | 0 => .int
  | _ => .int
abbrev wsX30 : List Cond := u_ws RX3 TX3 2
theorem nmX3 : ∀ a, a < 2 → ∀ b, b < 2 → a ≠ b → (TX3 a).2.1 ≠ (TX3 b).2.1 := by decide +kernel
theorem tyX3_ok : ∀ k, k < 2 → parseFieldDescriptor (TX3 k).2.2.1 = some (tyX3 k) := by decide +kernel
abbrev cX3_init : ByteArray := prog_5_method_1_code
def yX3_init : MethodName := ⟨RX3, "<init>", "(II)V"⟩
abbrev cX3_weight : ByteArray := prog_5_method_2_code
def yX3_weight : MethodName := ⟨RX3, "weight", "()I"⟩
abbrev cX3_yields : ByteArray := prog_5_method_3_code
def yX3_yields : MethodName := ⟨RX3, "yields", "(I)I"⟩
abbrev cX3_takes : ByteArray := prog_5_method_4_code
def yX3_takes : MethodName := ⟨RX3, "takes", "(II)I"⟩
def RX4 : String := "StepMachines$Program"
def TX4 : u_T := fun k => match k with
  | 0 => ("StepMachines$Program", "codes", "[I", true)
  | _ => ("StepMachines$Program", "finish", "I", true)
def tyX4 : Nat → FieldType := fun k => match k with
  | 0 => .array .int
  | _ => .int
abbrev wsX40 : List Cond := u_ws RX4 TX4 2
theorem nmX4 : ∀ a, a < 2 → ∀ b, b < 2 → a ≠ b → (TX4 a).2.1 ≠ (TX4 b).2.1 := by decide +kernel
theorem tyX4_ok : ∀ k, k < 2 → parseFieldDescriptor (TX4 k).2.2.1 = some (tyX4 k) := by decide +kernel
abbrev cX4_init : ByteArray := prog_6_method_1_code
def yX4_init : MethodName := ⟨RX4, "<init>", "([II)V"⟩
abbrev cX4_length : ByteArray := prog_6_method_2_code
def yX4_length : MethodName := ⟨RX4, "length", "()I"⟩
abbrev cX4_letter : ByteArray := prog_6_method_3_code
def yX4_letter : MethodName := ⟨RX4, "letter", "(I)I"⟩
abbrev cX4_number : ByteArray := prog_6_method_4_code
def yX4_number : MethodName := ⟨RX4, "number", "(I)I"⟩
def RX5 : String := "StepMachines$Queue"
def TX5 : u_T := fun k => match k with
  | 0 => ("StepMachines$Queue", "who", "[I", true)
  | _ => ("StepMachines$Queue", "size", "I", false)
def tyX5 : Nat → FieldType := fun k => match k with
  | 0 => .array .int
  | _ => .int
abbrev wsX50 : List Cond := u_ws RX5 TX5 2
theorem nmX5 : ∀ a, a < 2 → ∀ b, b < 2 → a ≠ b → (TX5 a).2.1 ≠ (TX5 b).2.1 := by decide +kernel
theorem tyX5_ok : ∀ k, k < 2 → parseFieldDescriptor (TX5 k).2.2.1 = some (tyX5 k) := by decide +kernel
abbrev cX5_init : ByteArray := prog_7_method_1_code
def yX5_init : MethodName := ⟨RX5, "<init>", "()V"⟩
abbrev cX5_become : ByteArray := prog_7_method_2_code
def yX5_become : MethodName := ⟨RX5, "become", "(LStepMachines$Queue;)V"⟩
abbrev cX5_join : ByteArray := prog_7_method_3_code
def yX5_join : MethodName := ⟨RX5, "join", "(I)V"⟩
abbrev cX5_leave : ByteArray := prog_7_method_4_code
def yX5_leave : MethodName := ⟨RX5, "leave", "(I)V"⟩
def RX6 : String := "StepMachines$Row"
def TX6 : u_T := fun k => match k with
  | 0 => ("StepMachines$Row", "kind", "I", true)
  | _ => ("StepMachines$Row", "elements", "[I", true)
def tyX6 : Nat → FieldType := fun k => match k with
  | 0 => .int
  | _ => .array .int
abbrev wsX60 : List Cond := u_ws RX6 TX6 2
theorem nmX6 : ∀ a, a < 2 → ∀ b, b < 2 → a ≠ b → (TX6 a).2.1 ≠ (TX6 b).2.1 := by decide +kernel
theorem tyX6_ok : ∀ k, k < 2 → parseFieldDescriptor (TX6 k).2.2.1 = some (tyX6 k) := by decide +kernel
abbrev cX6_init : ByteArray := prog_8_method_1_code
def yX6_init : MethodName := ⟨RX6, "<init>", "(II)V"⟩
abbrev cX6_size : ByteArray := prog_8_method_2_code
def yX6_size : MethodName := ⟨RX6, "size", "()I"⟩
abbrev cX6_has : ByteArray := prog_8_method_3_code
def yX6_has : MethodName := ⟨RX6, "has", "(I)Z"⟩
abbrev cX6_at : ByteArray := prog_8_method_5_code
def yX6_at : MethodName := ⟨RX6, "at", "(I)I"⟩
abbrev cX6_become : ByteArray := prog_8_method_6_code
def yX6_become : MethodName := ⟨RX6, "become", "(II)V"⟩
def RX7 : String := "StepMachines$Text"
def TX7 : u_T := fun k => match k with
  | 0 => ("StepMachines$Text", "row", "LStepMachines$Row;", true)
  | _ => ("StepMachines$Text", "codes", "[I", true)
def tyX7 : Nat → FieldType := fun k => match k with
  | 0 => .object "StepMachines$Row"
  | _ => .array .int
abbrev wsX70 : List Cond := u_ws RX7 TX7 2
theorem nmX7 : ∀ a, a < 2 → ∀ b, b < 2 → a ≠ b → (TX7 a).2.1 ≠ (TX7 b).2.1 := by decide +kernel
theorem tyX7_ok : ∀ k, k < 2 → parseFieldDescriptor (TX7 k).2.2.1 = some (tyX7 k) := by decide +kernel
abbrev cX7_init : ByteArray := prog_9_method_1_code
def yX7_init : MethodName := ⟨RX7, "<init>", "(LStepMachines$Row;)V"⟩
abbrev cX7_statements : ByteArray := prog_9_method_2_code
def yX7_statements : MethodName := ⟨RX7, "statements", "()I"⟩
abbrev cX7_faultAt : ByteArray := prog_9_method_3_code
def yX7_faultAt : MethodName := ⟨RX7, "faultAt", "(I)I"⟩
abbrev cX7_endOfStatement : ByteArray := prog_9_method_4_code
def yX7_endOfStatement : MethodName := ⟨RX7, "endOfStatement", "(I)I"⟩
abbrev cX7_endOfNumbers : ByteArray := prog_9_method_5_code
def yX7_endOfNumbers : MethodName := ⟨RX7, "endOfNumbers", "(II)I"⟩
abbrev cX7_endOfProgram : ByteArray := prog_9_method_6_code
def yX7_endOfProgram : MethodName := ⟨RX7, "endOfProgram", "(I)I"⟩
abbrev cX7_isDigit : ByteArray := prog_9_method_7_code
def yX7_isDigit : MethodName := ⟨RX7, "isDigit", "(I)Z"⟩
abbrev cX7_isNumberedStep : ByteArray := prog_9_method_8_code
def yX7_isNumberedStep : MethodName := ⟨RX7, "isNumberedStep", "(I)Z"⟩
abbrev cX7_behindStatement : ByteArray := prog_9_method_9_code
def yX7_behindStatement : MethodName := ⟨RX7, "behindStatement", "(I)I"⟩
abbrev cX7_digit : ByteArray := prog_9_method_10_code
def yX7_digit : MethodName := ⟨RX7, "digit", "(I)I"⟩
abbrev cX7_twoDigits : ByteArray := prog_9_method_11_code
def yX7_twoDigits : MethodName := ⟨RX7, "twoDigits", "(I)I"⟩
abbrev cX7_isDone : ByteArray := prog_9_method_12_code
def yX7_isDone : MethodName := ⟨RX7, "isDone", "(ILStepMachines$Machine;)Z"⟩
abbrev cX7_isProgramDone : ByteArray := prog_9_method_13_code
def yX7_isProgramDone : MethodName := ⟨RX7, "isProgramDone", "(ILStepMachines$Machine;)Z"⟩
abbrev cX7_programFrom : ByteArray := prog_9_method_14_code
def yX7_programFrom : MethodName := ⟨RX7, "programFrom", "(I)LStepMachines$Program;"⟩
abbrev cX7_isComingDone : ByteArray := prog_9_method_15_code
def yX7_isComingDone : MethodName := ⟨RX7, "isComingDone", "(ILStepMachines$Machine;)Z"⟩
abbrev cX7_areRoundsDone : ByteArray := prog_9_method_16_code
def yX7_areRoundsDone : MethodName := ⟨RX7, "areRoundsDone", "(ILStepMachines$Machine;)Z"⟩
def RX8 : String := "StepMachines"
def TX8 : u_T := fun k => match k with
  | 0 => ("StepMachines", "now", "LStepMachines$Machine;", true)
  | 1 => ("StepMachines", "kept", "LStepMachines$Machine;", true)
  | 2 => ("StepMachines", "minds", "[LStepMachines$Machine;", true)
  | 3 => ("StepMachines", "manners", "[LStepMachines$Manner;", true)
  | 4 => ("StepMachines", "rows", "[LStepMachines$Row;", true)
  | 5 => ("StepMachines", "plain", "LStepMachines$Manner;", true)
  | 6 => ("StepMachines", "imageTaken", "Z", false)
  | _ => ("StepMachines", "seed", "I", false)
def tyX8 : Nat → FieldType := fun k => match k with
  | 0 => .object "StepMachines$Machine"
  | 1 => .object "StepMachines$Machine"
  | 2 => .array (.object "StepMachines$Machine")
  | 3 => .array (.object "StepMachines$Manner")
  | 4 => .array (.object "StepMachines$Row")
  | 5 => .object "StepMachines$Manner"
  | 6 => .boolean
  | _ => .int
abbrev wsX80 : List Cond := u_ws RX8 TX8 8
theorem nmX8 : ∀ a, a < 8 → ∀ b, b < 8 → a ≠ b → (TX8 a).2.1 ≠ (TX8 b).2.1 := by decide +kernel
theorem tyX8_ok : ∀ k, k < 8 → parseFieldDescriptor (TX8 k).2.2.1 = some (tyX8 k) := by decide +kernel
abbrev cX8_init : ByteArray := prog_1_method_1_code
def yX8_init : MethodName := ⟨RX8, "<init>", "()V"⟩
abbrev cX8_text : ByteArray := prog_1_method_2_code
def yX8_text : MethodName := ⟨RX8, "text", "(I)I"⟩
abbrev cX8_comes : ByteArray := prog_1_method_4_code
def yX8_comes : MethodName := ⟨RX8, "comes", "(II)I"⟩
abbrev cX8_coroutine : ByteArray := prog_1_method_5_code
def yX8_coroutine : MethodName := ⟨RX8, "coroutine", "(II)I"⟩
abbrev cX8_frame : ByteArray := prog_1_method_6_code
def yX8_frame : MethodName := ⟨RX8, "frame", "(III)I"⟩
abbrev cX8_cause : ByteArray := prog_1_method_7_code
def yX8_cause : MethodName := ⟨RX8, "cause", "(II)I"⟩
abbrev cX8_channel : ByteArray := prog_1_method_8_code
def yX8_channel : MethodName := ⟨RX8, "channel", "(III)I"⟩
abbrev cX8_send : ByteArray := prog_1_method_9_code
def yX8_send : MethodName := ⟨RX8, "send", "(II)I"⟩
abbrev cX8_close : ByteArray := prog_1_method_10_code
def yX8_close : MethodName := ⟨RX8, "close", "(I)I"⟩
abbrev cX8_width : ByteArray := prog_1_method_11_code
def yX8_width : MethodName := ⟨RX8, "width", "(I)I"⟩
abbrev cX8_rounds : ByteArray := prog_1_method_12_code
def yX8_rounds : MethodName := ⟨RX8, "rounds", "(I)I"⟩
abbrev cX8_then : ByteArray := prog_1_method_13_code
def yX8_then : MethodName := ⟨RX8, "then", "(III)I"⟩
abbrev cX8_ends : ByteArray := prog_1_method_14_code
def yX8_ends : MethodName := ⟨RX8, "ends", "(I)I"⟩
abbrev cX8_stuck : ByteArray := prog_1_method_15_code
def yX8_stuck : MethodName := ⟨RX8, "stuck", "(I)I"⟩
abbrev cX8_leastWidth : ByteArray := prog_1_method_16_code
def yX8_leastWidth : MethodName := ⟨RX8, "leastWidth", "(I)I"⟩
abbrev cX8_sendBest : ByteArray := prog_1_method_18_code
def yX8_sendBest : MethodName := ⟨RX8, "sendBest", "(II)I"⟩
abbrev cX8_image : ByteArray := prog_1_method_28_code
def yX8_image : MethodName := ⟨RX8, "image", "()I"⟩
abbrev cX8_restore : ByteArray := prog_1_method_29_code
def yX8_restore : MethodName := ⟨RX8, "restore", "()I"⟩
abbrev cX8_count : ByteArray := prog_1_method_30_code
def yX8_count : MethodName := ⟨RX8, "count", "(I)I"⟩
abbrev cX8_keep : ByteArray := prog_1_method_31_code
def yX8_keep : MethodName := ⟨RX8, "keep", "(IIII)I"⟩
abbrev cX8_row : ByteArray := prog_1_method_32_code
def yX8_row : MethodName := ⟨RX8, "row", "(III)I"⟩
abbrev cX8_put : ByteArray := prog_1_method_33_code
def yX8_put : MethodName := ⟨RX8, "put", "(III)I"⟩
abbrev cX8_isShelf : ByteArray := prog_1_method_38_code
def yX8_isShelf : MethodName := ⟨RX8, "isShelf", "(I)Z"⟩
abbrev cX8_isProgram : ByteArray := prog_1_method_39_code
def yX8_isProgram : MethodName := ⟨RX8, "isProgram", "(I)Z"⟩
abbrev cX8_isCoroutine : ByteArray := prog_1_method_40_code
def yX8_isCoroutine : MethodName := ⟨RX8, "isCoroutine", "(I)Z"⟩
abbrev cX8_refusalOfRow : ByteArray := prog_1_method_42_code
def yX8_refusalOfRow : MethodName := ⟨RX8, "refusalOfRow", "(I)I"⟩
abbrev cX8_refusalOfManner : ByteArray := prog_1_method_43_code
def yX8_refusalOfManner : MethodName := ⟨RX8, "refusalOfManner", "(I)I"⟩
abbrev cX8_heldTold : ByteArray := prog_1_method_44_code
def yX8_heldTold : MethodName := ⟨RX8, "heldTold", "(I)I"⟩
abbrev cX8_mindOfNow : ByteArray := prog_1_method_45_code
def yX8_mindOfNow : MethodName := ⟨RX8, "mindOfNow", "()LStepMachines$Machine;"⟩
def RX9 : String := "StepMachinesLaw$Fault"
def TX9 : u_T := fun k => match k with
  | 0 => ("StepMachinesLaw$Fault", "code", "I", true)
  | _ => ("StepMachinesLaw$Fault", "cause", "LStepMachinesLaw$Fault;", true)
def tyX9 : Nat → FieldType := fun k => match k with
  | 0 => .int
  | _ => .object "StepMachinesLaw$Fault"
abbrev wsX90 : List Cond := u_ws RX9 TX9 2
theorem nmX9 : ∀ a, a < 2 → ∀ b, b < 2 → a ≠ b → (TX9 a).2.1 ≠ (TX9 b).2.1 := by decide +kernel
theorem tyX9_ok : ∀ k, k < 2 → parseFieldDescriptor (TX9 k).2.2.1 = some (tyX9 k) := by decide +kernel
abbrev cX9_init : ByteArray := prog_11_method_1_code
def yX9_init : MethodName := ⟨RX9, "<init>", "(ILStepMachinesLaw$Fault;)V"⟩
def RX10 : String := "StepMachinesLaw$Frame"
def TX10 : u_T := fun k => match k with
  | 0 => ("StepMachinesLaw$Frame", "program", "I", true)
  | 1 => ("StepMachinesLaw$Frame", "letters", "[I", true)
  | 2 => ("StepMachinesLaw$Frame", "numbers", "[I", true)
  | 3 => ("StepMachinesLaw$Frame", "at", "I", false)
  | 4 => ("StepMachinesLaw$Frame", "count", "I", false)
  | 5 => ("StepMachinesLaw$Frame", "finishing", "Z", false)
  | 6 => ("StepMachinesLaw$Frame", "closes", "Z", false)
  | _ => ("StepMachinesLaw$Frame", "held", "LStepMachinesLaw$Fault;", false)
def tyX10 : Nat → FieldType := fun k => match k with
  | 0 => .int
  | 1 => .array .int
  | 2 => .array .int
  | 3 => .int
  | 4 => .int
  | 5 => .boolean
  | 6 => .boolean
  | _ => .object "StepMachinesLaw$Fault"
abbrev wsX100 : List Cond := u_ws RX10 TX10 8
theorem nmX10 : ∀ a, a < 8 → ∀ b, b < 8 → a ≠ b → (TX10 a).2.1 ≠ (TX10 b).2.1 := by decide +kernel
theorem tyX10_ok : ∀ k, k < 8 → parseFieldDescriptor (TX10 k).2.2.1 = some (tyX10 k) := by decide +kernel
abbrev cX10_init : ByteArray := prog_12_method_1_code
def yX10_init : MethodName := ⟨RX10, "<init>", "(I[I[I)V"⟩
abbrev cX10_finishes : ByteArray := prog_12_method_3_code
def yX10_finishes : MethodName := ⟨RX10, "finishes", "()Z"⟩
abbrev cX10_told : ByteArray := prog_12_method_4_code
def yX10_told : MethodName := ⟨RX10, "told", "()I"⟩
def RX11 : String := "StepMachinesLaw$One"
def TX11 : u_T := fun k => match k with
  | 0 => ("StepMachinesLaw$One", "program", "I", false)
  | 1 => ("StepMachinesLaw$One", "kind", "I", false)
  | 2 => ("StepMachinesLaw$One", "figure", "I", false)
  | 3 => ("StepMachinesLaw$One", "state", "I", false)
  | 4 => ("StepMachinesLaw$One", "acc", "I", false)
  | 5 => ("StepMachinesLaw$One", "out", "I", false)
  | 6 => ("StepMachinesLaw$One", "outs", "I", false)
  | 7 => ("StepMachinesLaw$One", "age", "I", false)
  | 8 => ("StepMachinesLaw$One", "waits", "I", false)
  | 9 => ("StepMachinesLaw$One", "fault", "LStepMachinesLaw$Fault;", false)
  | 10 => ("StepMachinesLaw$One", "frames", "[LStepMachinesLaw$Frame;", false)
  | _ => ("StepMachinesLaw$One", "deep", "I", false)
def tyX11 : Nat → FieldType := fun k => match k with
  | 0 => .int
  | 1 => .int
  | 2 => .int
  | 3 => .int
  | 4 => .int
  | 5 => .int
  | 6 => .int
  | 7 => .int
  | 8 => .int
  | 9 => .object "StepMachinesLaw$Fault"
  | 10 => .array (.object "StepMachinesLaw$Frame")
  | _ => .int
abbrev wsX110 : List Cond := u_ws RX11 TX11 12
theorem nmX11 : ∀ a, a < 12 → ∀ b, b < 12 → a ≠ b → (TX11 a).2.1 ≠ (TX11 b).2.1 := by decide +kernel
theorem tyX11_ok : ∀ k, k < 12 → parseFieldDescriptor (TX11 k).2.2.1 = some (tyX11 k) := by decide +kernel
abbrev cX11_init : ByteArray := prog_13_method_1_code
def yX11_init : MethodName := ⟨RX11, "<init>", "()V"⟩
abbrev cX11_top : ByteArray := prog_13_method_3_code
def yX11_top : MethodName := ⟨RX11, "top", "()LStepMachinesLaw$Frame;"⟩
abbrev cX11_weight : ByteArray := prog_13_method_4_code
def yX11_weight : MethodName := ⟨RX11, "weight", "()I"⟩
abbrev cX11_throwing : ByteArray := prog_13_method_5_code
def yX11_throwing : MethodName := ⟨RX11, "throwing", "(LStepMachinesLaw$Fault;)V"⟩
abbrev cX11_closing : ByteArray := prog_13_method_6_code
def yX11_closing : MethodName := ⟨RX11, "closing", "()V"⟩
abbrev cX11_ending : ByteArray := prog_13_method_7_code
def yX11_ending : MethodName := ⟨RX11, "ending", "()V"⟩
abbrev cX11_sent : ByteArray := prog_13_method_8_code
def yX11_sent : MethodName := ⟨RX11, "sent", "(I)V"⟩
abbrev cX11_chain : ByteArray := prog_13_method_9_code
def yX11_chain : MethodName := ⟨RX11, "chain", "()I"⟩
def RX12 : String := "StepMachinesLaw$Was"
def TX12 : u_T := fun k => match k with
  | _ => ("", "", "", false)
def tyX12 : Nat → FieldType := fun k => match k with
  | _ => .int
abbrev wsX120 : List Cond := u_ws RX12 TX12 0
theorem nmX12 : ∀ a, a < 0 → ∀ b, b < 0 → a ≠ b → (TX12 a).2.1 ≠ (TX12 b).2.1 := by decide +kernel
theorem tyX12_ok : ∀ k, k < 0 → parseFieldDescriptor (TX12 k).2.2.1 = some (tyX12 k) := by decide +kernel
def RX13 : String := "StepMachinesModel"
def TX13 : u_T := fun k => match k with
  | _ => ("", "", "", false)
def tyX13 : Nat → FieldType := fun k => match k with
  | _ => .int
abbrev wsX130 : List Cond := u_ws RX13 TX13 0
theorem nmX13 : ∀ a, a < 0 → ∀ b, b < 0 → a ≠ b → (TX13 a).2.1 ≠ (TX13 b).2.1 := by decide +kernel
theorem tyX13_ok : ∀ k, k < 0 → parseFieldDescriptor (TX13 k).2.2.1 = some (tyX13 k) := by decide +kernel
def RJx8e188 : String := "java/lang/Cloneable"
def TJx8e188 : u_T := fun k => match k with
  | _ => ("", "", "", false)
def RJ6 : String := "java/lang/Integer"
def TJ6 : u_T := fun k => match k with
  | _ => ("", "", "", false)
abbrev cJ6_bitCount_0f7a4 : ByteArray := prog_17_method_49_code
def yJ6_bitCount_0f7a4 : MethodName := ⟨RJ6, "bitCount", "(I)I"⟩
def RJ9 : String := "java/lang/Math"
def TJ9 : u_T := fun k => match k with
  | _ => ("", "", "", false)
abbrev cJ9_min_7cf53 : ByteArray := prog_18_method_69_code
def yJ9_min_7cf53 : MethodName := ⟨RJ9, "min", "(II)I"⟩
def RJ10 : String := "java/lang/System"
def TJ10 : u_T := fun k => match k with
  | _ => ("", "", "", false)
def RJ7 : String := "java/util/Arrays"
def TJ7 : u_T := fun k => match k with
  | _ => ("", "", "", false)
abbrev cJ7_copyOf_59c91 : ByteArray := prog_20_method_123_code
def yJ7_copyOf_59c91 : MethodName := ⟨RJ7, "copyOf", "([II)[I"⟩
def RL : String := "StepMachinesLaw"
def TL : u_T := fun k => match k with
  | 0 => ("StepMachinesLaw", "o", "LStepMachines;", true)
  | 1 => ("StepMachinesLaw", "letters", "[[I", true)
  | 2 => ("StepMachinesLaw", "numbers", "[[I", true)
  | 3 => ("StepMachinesLaw", "many", "I", false)
  | 4 => ("StepMachinesLaw", "width", "I", false)
  | 5 => ("StepMachinesLaw", "today", "I", false)
  | 6 => ("StepMachinesLaw", "ones", "[LStepMachinesLaw$One;", false)
  | 7 => ("StepMachinesLaw", "line", "[[I", false)
  | _ => ("StepMachinesLaw", "said", "I", false)
def tyL : Nat → FieldType := fun k => match k with
  | 0 => .object "StepMachines"
  | 1 => .array (.array .int)
  | 2 => .array (.array .int)
  | 3 => .int
  | 4 => .int
  | 5 => .int
  | 6 => .array (.object "StepMachinesLaw$One")
  | 7 => .array (.array .int)
  | _ => .int
abbrev wsL0 : List Cond := u_ws RL TL 9
theorem nmL : ∀ a, a < 9 → ∀ b, b < 9 → a ≠ b → (TL a).2.1 ≠ (TL b).2.1 := by decide +kernel
theorem tyL_ok : ∀ k, k < 9 → parseFieldDescriptor (TL k).2.2.1 = some (tyL k) := by decide +kernel
abbrev cL_init : ByteArray := method_1_code
def yL_init : MethodName := ⟨RL, "<init>", "()V"⟩
abbrev cL_cell : ByteArray := method_2_code
def yL_cell : MethodName := ⟨RL, "cell", "([II)I"⟩
abbrev cL_some : ByteArray := method_3_code
def yL_some : MethodName := ⟨RL, "some", "([III)I"⟩
abbrev cL_tell : ByteArray := method_4_code
def yL_tell : MethodName := ⟨RL, "tell", "([II)I"⟩
abbrev cL_bit : ByteArray := method_5_code
def yL_bit : MethodName := ⟨RL, "bit", "(II)Z"⟩
abbrev cL_bits : ByteArray := method_6_code
def yL_bits : MethodName := ⟨RL, "bits", "(I)I"⟩
abbrev cL_frame : ByteArray := method_8_code
def yL_frame : MethodName := ⟨RL, "frame", "(I)LStepMachinesLaw$Frame;"⟩
abbrev cL_queue : ByteArray := method_9_code
def yL_queue : MethodName := ⟨RL, "queue", "(II)V"⟩
abbrev cL_unqueue : ByteArray := method_10_code
def yL_unqueue : MethodName := ⟨RL, "unqueue", "(I)V"⟩
abbrev cL_served : ByteArray := method_11_code
def yL_served : MethodName := ⟨RL, "served", "(I)LStepMachinesLaw$One;"⟩
abbrev cL_joined : ByteArray := method_12_code
def yL_joined : MethodName := ⟨RL, "joined", "(LStepMachinesLaw$One;LStepMachinesLaw$One;)V"⟩
abbrev cL_settle : ByteArray := method_13_code
def yL_settle : MethodName := ⟨RL, "settle", "(I)V"⟩
abbrev cL_blocked : ByteArray := method_14_code
def yL_blocked : MethodName := ⟨RL, "blocked", "(III)V"⟩
abbrev cL_step : ByteArray := method_15_code
def yL_step : MethodName := ⟨RL, "step", "(IZ)V"⟩
abbrev cL_does : ByteArray := method_16_code
def yL_does : MethodName := ⟨RL, "does", "(ILStepMachinesLaw$Frame;II)V"⟩
abbrev cL_could : ByteArray := method_17_code
def yL_could : MethodName := ⟨RL, "could", "(I)Z"⟩
abbrev cL_send : ByteArray := method_18_code
def yL_send : MethodName := ⟨RL, "send", "(II)V"⟩
abbrev cL_close : ByteArray := method_19_code
def yL_close : MethodName := ⟨RL, "close", "(I)V"⟩
abbrev cL_round : ByteArray := method_20_code
def yL_round : MethodName := ⟨RL, "round", "(Z)V"⟩
abbrev cL_go : ByteArray := method_21_code
def yL_go : MethodName := ⟨RL, "go", "(I)V"⟩
abbrev cL_ended : ByteArray := method_22_code
def yL_ended : MethodName := ⟨RL, "ended", "()I"⟩
abbrev cL_outs : ByteArray := method_23_code
def yL_outs : MethodName := ⟨RL, "outs", "()I"⟩
abbrev cL_lay : ByteArray := method_26_code
def yL_lay : MethodName := ⟨RL, "lay", "([III[II)I"⟩
abbrev cL_joins : ByteArray := method_27_code
def yL_joins : MethodName := ⟨RL, "joins", "(III)V"⟩
abbrev cL_come : ByteArray := method_28_code
def yL_come : MethodName := ⟨RL, "come", "(III)Z"⟩
abbrev cL_act : ByteArray := method_29_code
def yL_act : MethodName := ⟨RL, "act", "(I)Z"⟩
abbrev cL_begin : ByteArray := method_30_code
def yL_begin : MethodName := ⟨RL, "begin", "([III)Z"⟩
abbrev cL_same : ByteArray := method_31_code
def yL_same : MethodName := ⟨RL, "same", "()Z"⟩
abbrev cL_law : ByteArray := code
def yL_law : MethodName := ⟨RL, "law", "([I)Z"⟩
abbrev cL_holds : ByteArray := method_33_code
def yL_holds : MethodName := ⟨RL, "holds", "([I)Z"⟩
abbrev vwCl : List vw_C := [(RX0, TX0, 11), (RX1, TX1, 6), (RX2, TX2, 13), (RX3, TX3, 2), (RX4, TX4, 2), (RX5, TX5, 2), (RX6, TX6, 2), (RX7, TX7, 2), (RX8, TX8, 8), (RX9, TX9, 2), (RX10, TX10, 8), (RX11, TX11, 12), (RL, TL, 9)]
end
section
/-! THE PURE MACHINE: values, heap, a step; what the rows of 03 show to be the machine's own -/
/-- an int, a long, a reference (0 null, else an object's number); ints and longs by any number that is alike modulo 2^32, 2^64 -/
abbrev pe_V : Type := Int ⊕ Int ⊕ Nat
/-- the next object's number, slots made, kinds, lengths, ints and longs, references -/
abbrev pe_H : Type := Nat × Nat × (Nat → Nat) × (Nat → Int) × (Nat → Int → Int) × (Nat → Int → Nat)
abbrev pe_S : Type := Nat × List (Option pe_V) × List pe_V × pe_H
def pe_n (σ : pe_H) : Nat := σ.1
def pe_u (σ : pe_H) : Nat := σ.2.1
def pe_K (σ : pe_H) : Nat → Nat := σ.2.2.1
def pe_L (σ : pe_H) : Nat → Int := σ.2.2.2.1
def pe_I (σ : pe_H) : Nat → Int → Int := σ.2.2.2.2.1
def pe_R (σ : pe_H) : Nat → Int → Nat := σ.2.2.2.2.2
def pe_wI (σ : pe_H) (r : Nat) (j : Int) (x : Int) : pe_H := (σ.1, σ.2.1, σ.2.2.1, σ.2.2.2.1, (fun a k => if a = r ∧ k = j then x else σ.2.2.2.2.1 a k), σ.2.2.2.2.2)
def pe_wR (σ : pe_H) (r : Nat) (j : Int) (x : Nat) : pe_H := (σ.1, σ.2.1, σ.2.2.1, σ.2.2.2.1, σ.2.2.2.2.1, (fun a k => if a = r ∧ k = j then x else σ.2.2.2.2.2 a k))
/-- a new object: its kind, its length, its slots -/
def pe_new (σ : pe_H) (c : Nat) (len : Int) (w : Nat) : pe_H := (σ.1 + 1, σ.2.1 + w, (fun a => if a = σ.1 then c else σ.2.2.1 a), (fun a => if a = σ.1 then len else σ.2.2.2.1 a), (fun a k => if a = σ.1 then 0 else σ.2.2.2.2.1 a k), (fun a k => if a = σ.1 then 0 else σ.2.2.2.2.2 a k))
def pe_w (x : Int) : Int := (Int32.ofInt x).toInt
def pe_wl (x : Int) : Int := (Int64.ofInt x).toInt
def pe_and (x y : Int) : Int := (Int32.ofInt x &&& Int32.ofInt y).toInt
def pe_or (x y : Int) : Int := (Int32.ofInt x ||| Int32.ofInt y).toInt
def pe_xor (x y : Int) : Int := (Int32.ofInt x ^^^ Int32.ofInt y).toInt
def pe_shl (x y : Int) : Int := (Int32.ofInt x <<< (Int32.ofInt y &&& 31)).toInt
def pe_shr (x y : Int) : Int := (Int32.ofInt x >>> (Int32.ofInt y &&& 31)).toInt
def pe_ushr (x y : Int) : Int := (((Int32.ofInt x).toUInt32 >>> ((Int32.ofInt y).toUInt32 &&& Int32.toUInt32 31)).toInt32).toInt
def pe_i2b (x : Int) : Int := ((Int32.ofInt x).toInt8.toInt32).toInt
def pe_i2s (x : Int) : Int := ((Int32.ofInt x).toInt16.toInt32).toInt
def pe_lcmp (x y : Int) : Int := if pe_wl x < pe_wl y then -1 else if pe_wl x = pe_wl y then 0 else 1
def pe_all : List Prop → Prop
  | [] => True
  | [a] => a
  | a :: b :: l => a ∧ pe_all (b :: l)
-- locals
def pe_nl (a : Option pe_V) : Option pe_V := match a with
  | some (.inr (.inl _)) => none
  | a => a
def pe_ld : List (Option pe_V) → Nat → Option pe_V
  | [], _ => none
  | a :: _, 0 => a
  | _ :: l, n + 1 => pe_ld l n
def pe_sto : List (Option pe_V) → Nat → Option pe_V → List (Option pe_V)
  | [], _, _ => []
  | _ :: l, 0, v => v :: l
  | a :: l, n + 1, v => a :: pe_sto l n v
/-- what is at i - 1 is no long any more -/
def pe_kil (ls : List (Option pe_V)) : Nat → List (Option pe_V)
  | 0 => ls
  | n + 1 => pe_sto ls n (pe_nl (pe_ld ls n))
def pe_st1 (ls : List (Option pe_V)) (i : Nat) (v : pe_V) : List (Option pe_V) := pe_sto (pe_kil ls i) i (some v)
def pe_st2 (ls : List (Option pe_V)) (i : Nat) (v : pe_V) : List (Option pe_V) := pe_sto (pe_sto (pe_kil ls i) (i + 1) none) i (some v)
def pe_cat (l : List pe_V) : Nat := match l with
  | [] => 0
  | .inr (.inl _) :: l => 2 + pe_cat l
  | _ :: l => 1 + pe_cat l
-- the classes: names, fields, how many, types
def pe_cl (c : Nat) : vw_C := match c with
  | 19 => (RX10, TX10, 8)
  | 20 => (RX11, TX11, 12)
  | 21 => (RL, TL, 9)
  | c => vwCl.getD c (RX0, TX0, 11)
/-- the kinds of objects: 0 .. 8 the class's, 9 the law's faults, 19 its frames, 20 its coroutines, 21 the law -/
def pe_kc (c : Nat) : Bool := Nat.blt c 10 || (Nat.ble 19 c && Nat.blt c 22)
/-- the kinds of arrays -/
def pe_ka (k : Nat) : Bool := (Nat.ble 10 k && Nat.blt k 19) || (Nat.ble 22 k && Nat.blt k 26)
def pe_ty (c : Nat) : Nat → FieldType := match c with
  | 0 => tyX0
  | 1 => tyX1
  | 2 => tyX2
  | 3 => tyX3
  | 4 => tyX4
  | 5 => tyX5
  | 6 => tyX6
  | 7 => tyX7
  | 8 => tyX8
  | 9 => tyX9
  | 19 => tyX10
  | 20 => tyX11
  | 21 => tyL
  | _ => tyX0
/-- an array kind's elements: 10 (and 11) ints, 12 .. 18 references to the class's objects, 22 to the law's frames, 23 to its coroutines, 24 to arrays of ints; 25 the law's static array of ints -/
def pe_aty (k : Nat) : FieldType := match k with
  | 10 => .int
  | 11 => .int
  | 12 => .object RX0
  | 13 => .object RX1
  | 14 => .object RX2
  | 15 => .object RX3
  | 16 => .object RX4
  | 17 => .object RX5
  | 22 => .object RX10
  | 23 => .object RX11
  | 24 => .array .int
  | 25 => .int
  | _ => .object RX6
/-- the kind of what stands in the law's arrays of references -/
def pe_ek (k : Nat) : Nat := match k with
  | 22 => 19
  | 23 => 20
  | _ => 10
/-- the kind of an array of a class's objects -/
def pe_ak (c : Nat) : Nat := 12 + c
/-- 0 an int, 1 a long, 2 a reference, 3 a boolean -/
def pe_tc (t : FieldType) : Nat := match t with
  | .int => 0
  | .boolean => 3
  | .long => 1
  | .object _ => 2
  | .array _ => 2
  | _ => 4
-- a field by the constant pool of a class: the class, the field's place, its type's code, final; printed by program in 04
def pe_lk (l : List (Nat × Nat × Nat)) (i : Nat) : Option (Nat × Nat) := match l with
  | [] => none
  | (a, b) :: l => if Nat.beq a i then some b else pe_lk l i
end
section
/-! TABLES, by program: fields, methods, calls, classes, constants of each class, with their places in lw_tbl -/
def pe_rn (o : Nat) : String := match o with
  | 0 => RX0
  | 1 => RX1
  | 2 => RX2
  | 3 => RX3
  | 4 => RX4
  | 5 => RX5
  | 6 => RX6
  | 7 => RX7
  | 8 => RX8
  | 9 => RX9
  | 11 => RJ6
  | 12 => RJ9
  | 13 => RJ7
  | 19 => RX10
  | 20 => RX11
  | _ => RL
def pe_f0 : List (Nat × Nat × Nat × Nat) := [(11, 0, 10, 177), (18, 0, 0, 151), (22, 0, 1, 153), (26, 0, 2, 156), (29, 0, 3, 159), (32, 0, 4, 161), (35, 0, 5, 164), (38, 0, 6, 166), (41, 0, 7, 168), (44, 0, 8, 171), (47, 0, 9, 174), (64, 1, 4, 132), (68, 1, 5, 136), (71, 1, 0, 119), (74, 4, 1, 98), (79, 1, 2, 125)]
def pe_f1 : List (Nat × Nat × Nat × Nat) := [(9, 1, 0, 118), (15, 1, 1, 121), (19, 1, 2, 123), (22, 1, 3, 127), (25, 1, 4, 130), (29, 1, 5, 134)]
def pe_f2 : List (Nat × Nat × Nat × Nat) := [(11, 2, 0, 219), (19, 2, 1, 221), (25, 2, 2, 224), (29, 2, 3, 226), (32, 2, 4, 228), (36, 2, 5, 231), (39, 2, 6, 234), (42, 2, 7, 237), (45, 2, 8, 238), (49, 2, 9, 239), (52, 2, 10, 240), (55, 2, 11, 241), (58, 2, 12, 242), (83, 0, 2, 158), (89, 0, 5, 165), (92, 0, 8, 173), (133, 0, 6, 167), (139, 0, 1, 155), (148, 0, 9, 176), (151, 0, 10, 179), (155, 1, 2, 126), (160, 1, 0, 120), (177, 0, 3, 160), (180, 1, 4, 133), (198, 0, 4, 163), (201, 1, 3, 129), (222, 5, 1, 213), (225, 5, 0, 210), (231, 0, 7, 170), (234, 1, 5, 137), (237, 4, 1, 99)]
def pe_f3 : List (Nat × Nat × Nat × Nat) := [(9, 3, 0, 280), (15, 3, 1, 282)]
def pe_f4 : List (Nat × Nat × Nat × Nat) := [(7, 4, 0, 96), (13, 4, 1, 97)]
def pe_f5 : List (Nat × Nat × Nat × Nat) := [(9, 5, 0, 208), (15, 5, 1, 211)]
def pe_f6 : List (Nat × Nat × Nat × Nat) := [(9, 6, 0, 385), (15, 6, 1, 387)]
def pe_f7 : List (Nat × Nat × Nat × Nat) := [(9, 7, 1, 421), (15, 7, 0, 420), (59, 2, 4, 229), (65, 2, 1, 223), (89, 2, 5, 233), (99, 2, 0, 220), (122, 2, 6, 236)]
def pe_f8 : List (Nat × Nat × Nat × Nat) := [(10, 8, 0, 289), (16, 8, 1, 290), (19, 8, 2, 291), (25, 8, 3, 292), (31, 8, 4, 293), (38, 8, 5, 294), (42, 8, 6, 295), (46, 8, 7, 296), (54, 6, 0, 386), (110, 2, 1, 222), (114, 0, 0, 152), (119, 0, 1, 154), (122, 3, 0, 281), (123, 3, 1, 283), (129, 0, 9, 175), (132, 0, 7, 169), (141, 0, 10, 178), (145, 1, 1, 122), (149, 1, 2, 124), (152, 1, 3, 128), (155, 1, 4, 131), (158, 1, 5, 135), (164, 0, 8, 172), (173, 2, 2, 225), (177, 2, 3, 227), (180, 5, 1, 212), (185, 5, 0, 209), (196, 0, 2, 157), (206, 2, 5, 232), (209, 2, 6, 235), (235, 2, 4, 230), (240, 0, 4, 162)]
def pe_f9 : List (Nat × Nat × Nat × Nat) := [(7, 9, 0, 837), (13, 9, 1, 841)]
def pe_f11 : List (Nat × Nat × Nat × Nat) := []
def pe_f12 : List (Nat × Nat × Nat × Nat) := []
def pe_f13 : List (Nat × Nat × Nat × Nat) := []
def pe_f19 : List (Nat × Nat × Nat × Nat) := [(7, 19, 0, 735), (13, 19, 1, 737), (17, 19, 2, 739), (23, 19, 3, 741), (29, 19, 5, 744), (33, 19, 6, 747), (36, 19, 7, 749)]
def pe_f20 : List (Nat × Nat × Nat × Nat) := [(7, 20, 5, 688), (13, 20, 8, 692), (18, 20, 10, 696), (26, 20, 1, 680), (29, 20, 2, 682), (32, 20, 3, 684), (35, 20, 4, 686), (44, 20, 9, 694), (48, 20, 11, 698)]
def pe_f21 : List (Nat × Nat × Nat × Nat) := [(10, 21, 0, 319), (18, 21, 1, 320), (22, 21, 2, 321), (25, 21, 4, 323), (31, 21, 6, 325), (36, 21, 7, 326), (93, 21, 3, 322), (151, 21, 8, 327), (182, 21, 5, 324)]
def pe_fT (o : Nat) : List (Nat × Nat × Nat × Nat) := match o with
  | 0 => pe_f0
  | 1 => pe_f1
  | 2 => pe_f2
  | 3 => pe_f3
  | 4 => pe_f4
  | 5 => pe_f5
  | 6 => pe_f6
  | 7 => pe_f7
  | 8 => pe_f8
  | 9 => pe_f9
  | 11 => pe_f11
  | 12 => pe_f12
  | 13 => pe_f13
  | 19 => pe_f19
  | 20 => pe_f20
  | _ => pe_f21
def pe_g0 : List (Nat × Nat × Nat × Nat) := []
def pe_g1 : List (Nat × Nat × Nat × Nat) := []
def pe_g2 : List (Nat × Nat × Nat × Nat) := []
def pe_g3 : List (Nat × Nat × Nat × Nat) := []
def pe_g4 : List (Nat × Nat × Nat × Nat) := []
def pe_g5 : List (Nat × Nat × Nat × Nat) := []
def pe_g6 : List (Nat × Nat × Nat × Nat) := []
def pe_g7 : List (Nat × Nat × Nat × Nat) := []
def pe_g8 : List (Nat × Nat × Nat × Nat) := []
def pe_g9 : List (Nat × Nat × Nat × Nat) := []
def pe_g11 : List (Nat × Nat × Nat × Nat) := []
def pe_g12 : List (Nat × Nat × Nat × Nat) := []
def pe_g13 : List (Nat × Nat × Nat × Nat) := []
def pe_g19 : List (Nat × Nat × Nat × Nat) := [(40, 9, 0, 838)]
def pe_g20 : List (Nat × Nat × Nat × Nat) := [(62, 9, 1, 842), (67, 19, 7, 750), (70, 9, 0, 839), (76, 19, 5, 745), (80, 19, 6, 748)]
def pe_g21 : List (Nat × Nat × Nat × Nat) := [(67, 20, 3, 685), (70, 20, 8, 693), (77, 20, 4, 687), (82, 20, 9, 695), (115, 19, 3, 742), (118, 19, 1, 738), (123, 19, 2, 740), (125, 19, 5, 746), (133, 20, 1, 681), (136, 20, 2, 683), (139, 20, 5, 689), (142, 20, 6, 690), (154, 19, 4, 743), (157, 20, 11, 699), (160, 20, 10, 697), (189, 20, 7, 691), (226, 20, 0, 679), (285, 19, 0, 736), (292, 9, 0, 840), (295, 9, 1, 843)]
def pe_gT (o : Nat) : List (Nat × Nat × Nat × Nat) := match o with
  | 0 => pe_g0
  | 1 => pe_g1
  | 2 => pe_g2
  | 3 => pe_g3
  | 4 => pe_g4
  | 5 => pe_g5
  | 6 => pe_g6
  | 7 => pe_g7
  | 8 => pe_g8
  | 9 => pe_g9
  | 11 => pe_g11
  | 12 => pe_g12
  | 13 => pe_g13
  | 19 => pe_g19
  | 20 => pe_g20
  | _ => pe_g21
abbrev pe_m0 : MethodName × ByteArray × Nat × Option FieldType × Nat × Nat × Bool × Nat × Nat × Nat × Nat := (yX0_init, cX0_init, 2, none, 0, 1, true, 0, 109, 108, 52)
abbrev pe_m1 : MethodName × ByteArray × Nat × Option FieldType × Nat × Nat × Bool × Nat × Nat × Nat × Nat := (yX0_begin, cX0_begin, 4, none, 0, 0, false, 3, 528, 526, 527)
abbrev pe_m2 : MethodName × ByteArray × Nat × Option FieldType × Nat × Nat × Bool × Nat × Nat × Nat × Nat := (yX0_become, cX0_become, 3, none, 0, 0, false, 1, 471, 469, 470)
abbrev pe_m3 : MethodName × ByteArray × Nat × Option FieldType × Nat × Nat × Bool × Nat × Nat × Nat × Nat := (yX0_isEnded, cX0_isEnded, 1, (some .boolean), 0, 0, false, 0, 625, 623, 624)
abbrev pe_m4 : MethodName × ByteArray × Nat × Option FieldType × Nat × Nat × Bool × Nat × Nat × Nat × Nat := (yX0_canGo, cX0_canGo, 1, (some .boolean), 0, 0, false, 0, 536, 534, 535)
abbrev pe_m5 : MethodName × ByteArray × Nat × Option FieldType × Nat × Nat × Bool × Nat × Nat × Nat × Nat := (yX0_takeIn, cX0_takeIn, 2, none, 0, 0, false, 1, 548, 546, 547)
abbrev pe_m6 : MethodName × ByteArray × Nat × Option FieldType × Nat × Nat × Bool × Nat × Nat × Nat × Nat := (yX0_growOlder, cX0_growOlder, 1, none, 0, 0, false, 0, 659, 657, 658)
abbrev pe_m7 : MethodName × ByteArray × Nat × Option FieldType × Nat × Nat × Bool × Nat × Nat × Nat × Nat := (yX0_waitFor, cX0_waitFor, 3, none, 0, 0, false, 2, 617, 615, 616)
abbrev pe_m8 : MethodName × ByteArray × Nat × Option FieldType × Nat × Nat × Bool × Nat × Nat × Nat × Nat := (yX0_goOn, cX0_goOn, 1, none, 0, 0, false, 0, 609, 607, 608)
abbrev pe_m9 : MethodName × ByteArray × Nat × Option FieldType × Nat × Nat × Bool × Nat × Nat × Nat × Nat := (yX0_figureTold, cX0_figureTold, 2, (some .int), 0, 0, false, 1, 954, 952, 953)
abbrev pe_m10 : MethodName × ByteArray × Nat × Option FieldType × Nat × Nat × Bool × Nat × Nat × Nat × Nat := (yX0_closeTop, cX0_closeTop, 2, none, 0, 0, false, 0, 568, 566, 567)
abbrev pe_m11 : MethodName × ByteArray × Nat × Option FieldType × Nat × Nat × Bool × Nat × Nat × Nat × Nat := (yX1_init, cX1_init, 1, none, 1, 1, true, 0, 116, 115, 53)
abbrev pe_m12 : MethodName × ByteArray × Nat × Option FieldType × Nat × Nat × Bool × Nat × Nat × Nat × Nat := (yX1_begin, cX1_begin, 3, none, 1, 0, false, 2, 532, 530, 531)
abbrev pe_m13 : MethodName × ByteArray × Nat × Option FieldType × Nat × Nat × Bool × Nat × Nat × Nat × Nat := (yX1_become, cX1_become, 2, none, 1, 0, false, 1, 475, 473, 474)
abbrev pe_m14 : MethodName × ByteArray × Nat × Option FieldType × Nat × Nat × Bool × Nat × Nat × Nat × Nat := (yX2_init, cX2_init, 3, none, 2, 1, true, 0, 83, 82, 50)
abbrev pe_m15 : MethodName × ByteArray × Nat × Option FieldType × Nat × Nat × Bool × Nat × Nat × Nat × Nat := (yX2_become, cX2_become, 3, none, 2, 0, false, 1, 467, 465, 466)
abbrev pe_m16 : MethodName × ByteArray × Nat × Option FieldType × Nat × Nat × Bool × Nat × Nat × Nat × Nat := (yX2_allBits, cX2_allBits, 1, (some .int), 2, 0, false, 0, 962, 960, 961)
abbrev pe_m17 : MethodName × ByteArray × Nat × Option FieldType × Nat × Nat × Bool × Nat × Nat × Nat × Nat := (yX2_endedBits, cX2_endedBits, 3, (some .int), 2, 0, false, 0, 924, 922, 923)
abbrev pe_m19 : MethodName × ByteArray × Nat × Option FieldType × Nat × Nat × Bool × Nat × Nat × Nat × Nat := (yX2_ableBits, cX2_ableBits, 3, (some .int), 2, 0, false, 0, 966, 964, 965)
abbrev pe_m20 : MethodName × ByteArray × Nat × Option FieldType × Nat × Nat × Bool × Nat × Nat × Nat × Nat := (yX2_outsOfAll, cX2_outsOfAll, 3, (some .int), 2, 0, false, 0, 970, 968, 969)
abbrev pe_m21 : MethodName × ByteArray × Nat × Option FieldType × Nat × Nat × Bool × Nat × Nat × Nat × Nat := (yX2_codeOf, cX2_codeOf, 2, (some .int), 2, 0, false, 1, 1023, 1021, 1022)
abbrev pe_m22 : MethodName × ByteArray × Nat × Option FieldType × Nat × Nat × Bool × Nat × Nat × Nat × Nat := (yX2_causeOf, cX2_causeOf, 2, (some .int), 2, 0, false, 1, 1035, 1033, 1034)
abbrev pe_m23 : MethodName × ByteArray × Nat × Option FieldType × Nat × Nat × Bool × Nat × Nat × Nat × Nat := (yX2_faultsOf, cX2_faultsOf, 4, (some .int), 2, 0, false, 1, 979, 977, 978)
abbrev pe_m24 : MethodName × ByteArray × Nat × Option FieldType × Nat × Nat × Bool × Nat × Nat × Nat × Nat := (yX2_add, cX2_add, 3, (some .int), 2, 0, false, 2, 524, 522, 523)
abbrev pe_m25 : MethodName × ByteArray × Nat × Option FieldType × Nat × Nat × Bool × Nat × Nat × Nat × Nat := (yX2_sendTo, cX2_sendTo, 5, none, 2, 0, false, 2, 544, 542, 543)
abbrev pe_m26 : MethodName × ByteArray × Nat × Option FieldType × Nat × Nat × Bool × Nat × Nat × Nat × Nat := (yX2_closeDown, cX2_closeDown, 4, none, 2, 0, false, 1, 637, 635, 636)
abbrev pe_m27 : MethodName × ByteArray × Nat × Option FieldType × Nat × Nat × Bool × Nat × Nat × Nat × Nat := (yX2_makeRounds, cX2_makeRounds, 4, none, 2, 0, false, 1, 949, 947, 948)
abbrev pe_m28 : MethodName × ByteArray × Nat × Option FieldType × Nat × Nat × Bool × Nat × Nat × Nat × Nat := (yX2_makeRound, cX2_makeRound, 5, (some .boolean), 2, 0, false, 0, 645, 643, 644)
abbrev pe_m30 : MethodName × ByteArray × Nat × Option FieldType × Nat × Nat × Bool × Nat × Nat × Nat × Nat := (yX2_lineUp, cX2_lineUp, 5, (some .int), 2, 0, false, 0, 649, 648, 24)
abbrev pe_m31 : MethodName × ByteArray × Nat × Option FieldType × Nat × Nat × Bool × Nat × Nat × Nat × Nat := (yX2_makeStep, cX2_makeStep, 7, none, 2, 0, false, 2, 556, 555, 14)
abbrev pe_m32 : MethodName × ByteArray × Nat × Option FieldType × Nat × Nat × Bool × Nat × Nat × Nat × Nat := (yX2_makeLivelyStep, cX2_makeLivelyStep, 6, none, 2, 0, false, 3, 588, 587, 18)
abbrev pe_m33 : MethodName × ByteArray × Nat × Option FieldType × Nat × Nat × Bool × Nat × Nat × Nat × Nat := (yX2_goInto, cX2_goInto, 3, none, 2, 0, false, 2, 596, 595, 19)
abbrev pe_m34 : MethodName × ByteArray × Nat × Option FieldType × Nat × Nat × Bool × Nat × Nat × Nat × Nat := (yX2_sendAt, cX2_sendAt, 5, none, 2, 0, false, 2, 601, 600, 20)
abbrev pe_m35 : MethodName × ByteArray × Nat × Option FieldType × Nat × Nat × Bool × Nat × Nat × Nat × Nat := (yX2_getAt, cX2_getAt, 5, none, 2, 0, false, 2, 621, 620, 21)
abbrev pe_m36 : MethodName × ByteArray × Nat × Option FieldType × Nat × Nat × Bool × Nat × Nat × Nat × Nat := (yX2_haveEnd, cX2_haveEnd, 3, none, 2, 0, false, 2, 629, 628, 22)
abbrev pe_m37 : MethodName × ByteArray × Nat × Option FieldType × Nat × Nat × Bool × Nat × Nat × Nat × Nat := (yX2_tellJoining, cX2_tellJoining, 5, none, 2, 2, false, 3, 632, 631, 50)
abbrev pe_m38 : MethodName × ByteArray × Nat × Option FieldType × Nat × Nat × Bool × Nat × Nat × Nat × Nat := (yX2_endTop, cX2_endTop, 3, none, 2, 0, false, 1, 564, 563, 15)
abbrev pe_m39 : MethodName × ByteArray × Nat × Option FieldType × Nat × Nat × Bool × Nat × Nat × Nat × Nat := (yX2_newFault, cX2_newFault, 3, (some .int), 2, 0, false, 2, 584, 583, 17)
abbrev pe_m40 : MethodName × ByteArray × Nat × Option FieldType × Nat × Nat × Bool × Nat × Nat × Nat × Nat := (yX2_throwFault, cX2_throwFault, 4, none, 2, 0, false, 2, 572, 571, 16)
abbrev pe_m41 : MethodName × ByteArray × Nat × Option FieldType × Nat × Nat × Bool × Nat × Nat × Nat × Nat := (yX3_init, cX3_init, 3, none, 3, 1, true, 2, 278, 277, 55)
abbrev pe_m42 : MethodName × ByteArray × Nat × Option FieldType × Nat × Nat × Bool × Nat × Nat × Nat × Nat := (yX3_weight, cX3_weight, 1, (some .int), 3, 0, false, 0, 654, 652, 653)
abbrev pe_m43 : MethodName × ByteArray × Nat × Option FieldType × Nat × Nat × Bool × Nat × Nat × Nat × Nat := (yX3_yields, cX3_yields, 2, (some .int), 3, 0, false, 1, 592, 590, 591)
abbrev pe_m44 : MethodName × ByteArray × Nat × Option FieldType × Nat × Nat × Bool × Nat × Nat × Nat × Nat := (yX3_takes, cX3_takes, 3, (some .int), 3, 0, false, 2, 552, 550, 551)
abbrev pe_m48 : MethodName × ByteArray × Nat × Option FieldType × Nat × Nat × Bool × Nat × Nat × Nat × Nat := (yX4_init, cX4_init, 3, none, 4, 1, true, 2, 94, 93, 51)
abbrev pe_m49 : MethodName × ByteArray × Nat × Option FieldType × Nat × Nat × Bool × Nat × Nat × Nat × Nat := (yX4_length, cX4_length, 1, (some .int), 4, 0, false, 0, 560, 558, 559)
abbrev pe_m50 : MethodName × ByteArray × Nat × Option FieldType × Nat × Nat × Bool × Nat × Nat × Nat × Nat := (yX4_letter, cX4_letter, 2, (some .int), 4, 0, false, 1, 576, 574, 575)
abbrev pe_m51 : MethodName × ByteArray × Nat × Option FieldType × Nat × Nat × Bool × Nat × Nat × Nat × Nat := (yX4_number, cX4_number, 2, (some .int), 4, 0, false, 1, 580, 578, 579)
abbrev pe_m52 : MethodName × ByteArray × Nat × Option FieldType × Nat × Nat × Bool × Nat × Nat × Nat × Nat := (yX5_init, cX5_init, 1, none, 5, 1, true, 0, 206, 205, 54)
abbrev pe_m53 : MethodName × ByteArray × Nat × Option FieldType × Nat × Nat × Bool × Nat × Nat × Nat × Nat := (yX5_become, cX5_become, 3, none, 5, 0, false, 1, 479, 477, 478)
abbrev pe_m54 : MethodName × ByteArray × Nat × Option FieldType × Nat × Nat × Bool × Nat × Nat × Nat × Nat := (yX5_join, cX5_join, 2, none, 5, 0, false, 1, 613, 611, 612)
abbrev pe_m55 : MethodName × ByteArray × Nat × Option FieldType × Nat × Nat × Bool × Nat × Nat × Nat × Nat := (yX5_leave, cX5_leave, 4, none, 5, 0, false, 1, 605, 603, 604)
abbrev pe_m56 : MethodName × ByteArray × Nat × Option FieldType × Nat × Nat × Bool × Nat × Nat × Nat × Nat := (yX6_init, cX6_init, 3, none, 6, 1, true, 2, 383, 382, 56)
abbrev pe_m57 : MethodName × ByteArray × Nat × Option FieldType × Nat × Nat × Bool × Nat × Nat × Nat × Nat := (yX6_size, cX6_size, 1, (some .int), 6, 0, false, 0, 434, 432, 433)
abbrev pe_m58 : MethodName × ByteArray × Nat × Option FieldType × Nat × Nat × Bool × Nat × Nat × Nat × Nat := (yX6_has, cX6_has, 2, (some .boolean), 6, 0, false, 1, 404, 402, 403)
abbrev pe_m60 : MethodName × ByteArray × Nat × Option FieldType × Nat × Nat × Bool × Nat × Nat × Nat × Nat := (yX6_at, cX6_at, 2, (some .int), 6, 0, false, 1, 442, 440, 441)
abbrev pe_m61 : MethodName × ByteArray × Nat × Option FieldType × Nat × Nat × Bool × Nat × Nat × Nat × Nat := (yX6_become, cX6_become, 3, none, 6, 0, false, 2, 408, 406, 407)
abbrev pe_m63 : MethodName × ByteArray × Nat × Option FieldType × Nat × Nat × Bool × Nat × Nat × Nat × Nat := (yX7_init, cX7_init, 2, none, 7, 1, true, 1, 418, 417, 57)
abbrev pe_m64 : MethodName × ByteArray × Nat × Option FieldType × Nat × Nat × Bool × Nat × Nat × Nat × Nat := (yX7_statements, cX7_statements, 3, (some .int), 7, 0, false, 0, 430, 428, 429)
abbrev pe_m65 : MethodName × ByteArray × Nat × Option FieldType × Nat × Nat × Bool × Nat × Nat × Nat × Nat := (yX7_faultAt, cX7_faultAt, 1, (some .int), 7, 2, false, 1, 452, 451, 57)
abbrev pe_m66 : MethodName × ByteArray × Nat × Option FieldType × Nat × Nat × Bool × Nat × Nat × Nat × Nat := (yX7_endOfStatement, cX7_endOfStatement, 2, (some .int), 7, 0, false, 1, 438, 437, 5)
abbrev pe_m67 : MethodName × ByteArray × Nat × Option FieldType × Nat × Nat × Bool × Nat × Nat × Nat × Nat := (yX7_endOfNumbers, cX7_endOfNumbers, 5, (some .int), 7, 0, false, 2, 459, 458, 7)
abbrev pe_m68 : MethodName × ByteArray × Nat × Option FieldType × Nat × Nat × Bool × Nat × Nat × Nat × Nat := (yX7_endOfProgram, cX7_endOfProgram, 3, (some .int), 7, 0, false, 1, 446, 445, 6)
abbrev pe_m69 : MethodName × ByteArray × Nat × Option FieldType × Nat × Nat × Bool × Nat × Nat × Nat × Nat := (yX7_isDigit, cX7_isDigit, 1, (some .boolean), 7, 2, false, 1, 449, 448, 57)
abbrev pe_m70 : MethodName × ByteArray × Nat × Option FieldType × Nat × Nat × Bool × Nat × Nat × Nat × Nat := (yX7_isNumberedStep, cX7_isNumberedStep, 1, (some .boolean), 7, 2, false, 1, 455, 454, 57)
abbrev pe_m71 : MethodName × ByteArray × Nat × Option FieldType × Nat × Nat × Bool × Nat × Nat × Nat × Nat := (yX7_behindStatement, cX7_behindStatement, 3, (some .int), 7, 0, false, 1, 663, 661, 662)
abbrev pe_m72 : MethodName × ByteArray × Nat × Option FieldType × Nat × Nat × Bool × Nat × Nat × Nat × Nat := (yX7_digit, cX7_digit, 2, (some .int), 7, 0, false, 1, 490, 489, 9)
abbrev pe_m73 : MethodName × ByteArray × Nat × Option FieldType × Nat × Nat × Bool × Nat × Nat × Nat × Nat := (yX7_twoDigits, cX7_twoDigits, 2, (some .int), 7, 0, false, 1, 540, 539, 13)
abbrev pe_m74 : MethodName × ByteArray × Nat × Option FieldType × Nat × Nat × Bool × Nat × Nat × Nat × Nat := (yX7_isDone, cX7_isDone, 4, (some .boolean), 7, 0, false, 2, 486, 484, 485)
abbrev pe_m75 : MethodName × ByteArray × Nat × Option FieldType × Nat × Nat × Bool × Nat × Nat × Nat × Nat := (yX7_isProgramDone, cX7_isProgramDone, 5, (some .boolean), 7, 0, false, 2, 494, 493, 10)
abbrev pe_m76 : MethodName × ByteArray × Nat × Option FieldType × Nat × Nat × Bool × Nat × Nat × Nat × Nat := (yX7_programFrom, cX7_programFrom, 6, (some (.object "StepMachines$Program")), 7, 0, false, 1, 498, 497, 11)
abbrev pe_m77 : MethodName × ByteArray × Nat × Option FieldType × Nat × Nat × Bool × Nat × Nat × Nat × Nat := (yX7_isComingDone, cX7_isComingDone, 5, (some .boolean), 7, 0, false, 2, 518, 517, 12)
abbrev pe_m78 : MethodName × ByteArray × Nat × Option FieldType × Nat × Nat × Bool × Nat × Nat × Nat × Nat := (yX7_areRoundsDone, cX7_areRoundsDone, 4, (some .boolean), 7, 0, false, 2, 641, 640, 23)
abbrev pe_m79 : MethodName × ByteArray × Nat × Option FieldType × Nat × Nat × Bool × Nat × Nat × Nat × Nat := (yX8_init, cX8_init, 2, none, 8, 1, true, 0, 77, 76, 49)
abbrev pe_m80 : MethodName × ByteArray × Nat × Option FieldType × Nat × Nat × Bool × Nat × Nat × Nat × Nat := (yX8_text, cX8_text, 8, (some .int), 8, 0, false, 1, 413, 411, 412)
abbrev pe_m82 : MethodName × ByteArray × Nat × Option FieldType × Nat × Nat × Bool × Nat × Nat × Nat × Nat := (yX8_comes, cX8_comes, 4, (some .int), 8, 0, false, 2, 775, 773, 774)
abbrev pe_m83 : MethodName × ByteArray × Nat × Option FieldType × Nat × Nat × Bool × Nat × Nat × Nat × Nat := (yX8_coroutine, cX8_coroutine, 4, (some .int), 8, 0, false, 2, 974, 972, 973)
abbrev pe_m84 : MethodName × ByteArray × Nat × Option FieldType × Nat × Nat × Bool × Nat × Nat × Nat × Nat := (yX8_frame, cX8_frame, 6, (some .int), 8, 0, false, 3, 1015, 1013, 1014)
abbrev pe_m85 : MethodName × ByteArray × Nat × Option FieldType × Nat × Nat × Bool × Nat × Nat × Nat × Nat := (yX8_cause, cX8_cause, 5, (some .int), 8, 0, false, 2, 1031, 1029, 1030)
abbrev pe_m86 : MethodName × ByteArray × Nat × Option FieldType × Nat × Nat × Bool × Nat × Nat × Nat × Nat := (yX8_channel, cX8_channel, 5, (some .int), 8, 0, false, 3, 983, 981, 982)
abbrev pe_m87 : MethodName × ByteArray × Nat × Option FieldType × Nat × Nat × Bool × Nat × Nat × Nat × Nat := (yX8_send, cX8_send, 3, (some .int), 8, 0, false, 2, 795, 793, 794)
abbrev pe_m88 : MethodName × ByteArray × Nat × Option FieldType × Nat × Nat × Bool × Nat × Nat × Nat × Nat := (yX8_close, cX8_close, 2, (some .int), 8, 0, false, 1, 889, 887, 888)
abbrev pe_m89 : MethodName × ByteArray × Nat × Option FieldType × Nat × Nat × Bool × Nat × Nat × Nat × Nat := (yX8_width, cX8_width, 3, (some .int), 8, 0, false, 1, 900, 898, 899)
abbrev pe_m90 : MethodName × ByteArray × Nat × Option FieldType × Nat × Nat × Bool × Nat × Nat × Nat × Nat := (yX8_rounds, cX8_rounds, 3, (some .int), 8, 0, false, 1, 919, 917, 918)
abbrev pe_m91 : MethodName × ByteArray × Nat × Option FieldType × Nat × Nat × Bool × Nat × Nat × Nat × Nat := (yX8_then, cX8_then, 5, (some .int), 8, 0, false, 3, 945, 943, 944)
abbrev pe_m92 : MethodName × ByteArray × Nat × Option FieldType × Nat × Nat × Bool × Nat × Nat × Nat × Nat := (yX8_ends, cX8_ends, 4, (some .int), 8, 0, false, 1, 995, 993, 994)
abbrev pe_m93 : MethodName × ByteArray × Nat × Option FieldType × Nat × Nat × Bool × Nat × Nat × Nat × Nat := (yX8_stuck, cX8_stuck, 4, (some .int), 8, 0, false, 1, 991, 989, 990)
abbrev pe_m94 : MethodName × ByteArray × Nat × Option FieldType × Nat × Nat × Bool × Nat × Nat × Nat × Nat := (yX8_leastWidth, cX8_leastWidth, 4, (some .int), 8, 0, false, 1, 1003, 1001, 1002)
abbrev pe_m96 : MethodName × ByteArray × Nat × Option FieldType × Nat × Nat × Bool × Nat × Nat × Nat × Nat := (yX8_sendBest, cX8_sendBest, 7, (some .int), 8, 0, false, 2, 999, 997, 998)
abbrev pe_m106 : MethodName × ByteArray × Nat × Option FieldType × Nat × Nat × Bool × Nat × Nat × Nat × Nat := (yX8_image, cX8_image, 1, (some .int), 8, 0, false, 0, 941, 939, 940)
abbrev pe_m107 : MethodName × ByteArray × Nat × Option FieldType × Nat × Nat × Bool × Nat × Nat × Nat × Nat := (yX8_restore, cX8_restore, 1, (some .int), 8, 0, false, 0, 987, 985, 986)
abbrev pe_m108 : MethodName × ByteArray × Nat × Option FieldType × Nat × Nat × Bool × Nat × Nat × Nat × Nat := (yX8_count, cX8_count, 2, (some .int), 8, 0, false, 1, 958, 956, 957)
abbrev pe_m109 : MethodName × ByteArray × Nat × Option FieldType × Nat × Nat × Bool × Nat × Nat × Nat × Nat := (yX8_keep, cX8_keep, 5, (some .int), 8, 0, false, 4, 771, 769, 770)
abbrev pe_m110 : MethodName × ByteArray × Nat × Option FieldType × Nat × Nat × Bool × Nat × Nat × Nat × Nat := (yX8_row, cX8_row, 4, (some .int), 8, 0, false, 3, 376, 374, 375)
abbrev pe_m111 : MethodName × ByteArray × Nat × Option FieldType × Nat × Nat × Bool × Nat × Nat × Nat × Nat := (yX8_put, cX8_put, 5, (some .int), 8, 0, false, 3, 396, 394, 395)
abbrev pe_m115 : MethodName × ByteArray × Nat × Option FieldType × Nat × Nat × Bool × Nat × Nat × Nat × Nat := (yX8_isShelf, cX8_isShelf, 1, (some .boolean), 8, 2, false, 1, 379, 378, 49)
abbrev pe_m116 : MethodName × ByteArray × Nat × Option FieldType × Nat × Nat × Bool × Nat × Nat × Nat × Nat := (yX8_isProgram, cX8_isProgram, 1, (some .boolean), 8, 2, false, 1, 778, 777, 49)
abbrev pe_m117 : MethodName × ByteArray × Nat × Option FieldType × Nat × Nat × Bool × Nat × Nat × Nat × Nat := (yX8_isCoroutine, cX8_isCoroutine, 2, (some .boolean), 8, 0, false, 1, 799, 798, 31)
abbrev pe_m119 : MethodName × ByteArray × Nat × Option FieldType × Nat × Nat × Bool × Nat × Nat × Nat × Nat := (yX8_refusalOfRow, cX8_refusalOfRow, 2, (some .int), 8, 0, false, 1, 400, 399, 4)
abbrev pe_m120 : MethodName × ByteArray × Nat × Option FieldType × Nat × Nat × Bool × Nat × Nat × Nat × Nat := (yX8_refusalOfManner, cX8_refusalOfManner, 2, (some .int), 8, 0, false, 1, 782, 781, 28)
abbrev pe_m121 : MethodName × ByteArray × Nat × Option FieldType × Nat × Nat × Bool × Nat × Nat × Nat × Nat := (yX8_heldTold, cX8_heldTold, 2, (some .int), 8, 0, false, 1, 1019, 1018, 46)
abbrev pe_m122 : MethodName × ByteArray × Nat × Option FieldType × Nat × Nat × Bool × Nat × Nat × Nat × Nat := (yX8_mindOfNow, cX8_mindOfNow, 1, (some (.object "StepMachines$Machine")), 8, 0, false, 0, 463, 462, 8)
abbrev pe_m132 : MethodName × ByteArray × Nat × Option FieldType × Nat × Nat × Bool × Nat × Nat × Nat × Nat := (yX9_init, cX9_init, 3, none, 9, 1, true, 2, 835, 834, 63)
abbrev pe_m133 : MethodName × ByteArray × Nat × Option FieldType × Nat × Nat × Bool × Nat × Nat × Nat × Nat := (yX10_init, cX10_init, 4, none, 19, 1, true, 3, 733, 732, 62)
abbrev pe_m134 : MethodName × ByteArray × Nat × Option FieldType × Nat × Nat × Bool × Nat × Nat × Nat × Nat := (yX10_finishes, cX10_finishes, 2, (some .boolean), 19, 0, false, 0, 830, 828, 829)
abbrev pe_m135 : MethodName × ByteArray × Nat × Option FieldType × Nat × Nat × Bool × Nat × Nat × Nat × Nat := (yX10_told, cX10_told, 1, (some .int), 19, 0, false, 0, 1027, 1025, 1026)
abbrev pe_m136 : MethodName × ByteArray × Nat × Option FieldType × Nat × Nat × Bool × Nat × Nat × Nat × Nat := (yX11_init, cX11_init, 1, none, 20, 1, true, 0, 675, 674, 61)
abbrev pe_m137 : MethodName × ByteArray × Nat × Option FieldType × Nat × Nat × Bool × Nat × Nat × Nat × Nat := (yX11_top, cX11_top, 1, (some (.object "StepMachinesLaw$Frame")), 20, 0, false, 0, 817, 815, 816)
abbrev pe_m138 : MethodName × ByteArray × Nat × Option FieldType × Nat × Nat × Bool × Nat × Nat × Nat × Nat := (yX11_weight, cX11_weight, 2, (some .int), 20, 0, false, 0, 912, 910, 911)
abbrev pe_m139 : MethodName × ByteArray × Nat × Option FieldType × Nat × Nat × Bool × Nat × Nat × Nat × Nat := (yX11_throwing, cX11_throwing, 3, none, 20, 0, false, 1, 826, 824, 825)
abbrev pe_m140 : MethodName × ByteArray × Nat × Option FieldType × Nat × Nat × Bool × Nat × Nat × Nat × Nat := (yX11_closing, cX11_closing, 2, none, 20, 0, false, 0, 852, 850, 851)
abbrev pe_m141 : MethodName × ByteArray × Nat × Option FieldType × Nat × Nat × Bool × Nat × Nat × Nat × Nat := (yX11_ending, cX11_ending, 2, none, 20, 0, false, 0, 821, 819, 820)
abbrev pe_m142 : MethodName × ByteArray × Nat × Option FieldType × Nat × Nat × Bool × Nat × Nat × Nat × Nat := (yX11_sent, cX11_sent, 2, none, 20, 0, false, 1, 809, 807, 808)
abbrev pe_m143 : MethodName × ByteArray × Nat × Option FieldType × Nat × Nat × Bool × Nat × Nat × Nat × Nat := (yX11_chain, cX11_chain, 3, (some .int), 20, 0, false, 0, 1011, 1009, 1010)
abbrev pe_m144 : MethodName × ByteArray × Nat × Option FieldType × Nat × Nat × Bool × Nat × Nat × Nat × Nat := (yL_init, cL_init, 1, none, 21, 1, true, 0, 69, 68, 48)
abbrev pe_m145 : MethodName × ByteArray × Nat × Option FieldType × Nat × Nat × Bool × Nat × Nat × Nat × Nat := (yL_cell, cL_cell, 2, (some .int), 21, 2, false, 2, 364, 363, 48)
abbrev pe_m146 : MethodName × ByteArray × Nat × Option FieldType × Nat × Nat × Bool × Nat × Nat × Nat × Nat := (yL_some, cL_some, 3, (some .int), 21, 2, false, 3, 361, 360, 48)
abbrev pe_m147 : MethodName × ByteArray × Nat × Option FieldType × Nat × Nat × Bool × Nat × Nat × Nat × Nat := (yL_tell, cL_tell, 4, (some .int), 21, 0, false, 2, 372, 371, 3)
abbrev pe_m148 : MethodName × ByteArray × Nat × Option FieldType × Nat × Nat × Bool × Nat × Nat × Nat × Nat := (yL_bit, cL_bit, 2, (some .boolean), 21, 2, false, 2, 915, 914, 48)
abbrev pe_m149 : MethodName × ByteArray × Nat × Option FieldType × Nat × Nat × Bool × Nat × Nat × Nat × Nat := (yL_bits, cL_bits, 3, (some .int), 21, 2, false, 1, 937, 936, 48)
abbrev pe_m150 : MethodName × ByteArray × Nat × Option FieldType × Nat × Nat × Bool × Nat × Nat × Nat × Nat := (yL_frame, cL_frame, 2, (some (.object "StepMachinesLaw$Frame")), 21, 0, false, 1, 728, 727, 27)
abbrev pe_m151 : MethodName × ByteArray × Nat × Option FieldType × Nat × Nat × Bool × Nat × Nat × Nat × Nat := (yL_queue, cL_queue, 4, none, 21, 0, false, 2, 885, 884, 40)
abbrev pe_m152 : MethodName × ByteArray × Nat × Option FieldType × Nat × Nat × Bool × Nat × Nat × Nat × Nat := (yL_unqueue, cL_unqueue, 9, none, 21, 0, false, 1, 880, 879, 39)
abbrev pe_m153 : MethodName × ByteArray × Nat × Option FieldType × Nat × Nat × Bool × Nat × Nat × Nat × Nat := (yL_served, cL_served, 3, (some (.object "StepMachinesLaw$One")), 21, 0, false, 1, 876, 875, 38)
abbrev pe_m154 : MethodName × ByteArray × Nat × Option FieldType × Nat × Nat × Bool × Nat × Nat × Nat × Nat := (yL_joined, cL_joined, 3, none, 21, 0, false, 2, 860, 859, 35)
abbrev pe_m155 : MethodName × ByteArray × Nat × Option FieldType × Nat × Nat × Bool × Nat × Nat × Nat × Nat := (yL_settle, cL_settle, 3, none, 21, 0, false, 1, 856, 855, 34)
abbrev pe_m156 : MethodName × ByteArray × Nat × Option FieldType × Nat × Nat × Bool × Nat × Nat × Nat × Nat := (yL_blocked, cL_blocked, 5, none, 21, 0, false, 3, 872, 871, 37)
abbrev pe_m157 : MethodName × ByteArray × Nat × Option FieldType × Nat × Nat × Bool × Nat × Nat × Nat × Nat := (yL_step, cL_step, 8, none, 21, 0, false, 2, 813, 812, 33)
abbrev pe_m158 : MethodName × ByteArray × Nat × Option FieldType × Nat × Nat × Bool × Nat × Nat × Nat × Nat := (yL_does, cL_does, 7, none, 21, 0, false, 4, 867, 866, 36)
abbrev pe_m159 : MethodName × ByteArray × Nat × Option FieldType × Nat × Nat × Bool × Nat × Nat × Nat × Nat := (yL_could, cL_could, 2, (some .boolean), 21, 0, false, 1, 791, 790, 30)
abbrev pe_m160 : MethodName × ByteArray × Nat × Option FieldType × Nat × Nat × Bool × Nat × Nat × Nat × Nat := (yL_send, cL_send, 4, none, 21, 0, false, 2, 805, 804, 32)
abbrev pe_m161 : MethodName × ByteArray × Nat × Option FieldType × Nat × Nat × Bool × Nat × Nat × Nat × Nat := (yL_close, cL_close, 2, none, 21, 0, false, 1, 895, 894, 41)
abbrev pe_m162 : MethodName × ByteArray × Nat × Option FieldType × Nat × Nat × Bool × Nat × Nat × Nat × Nat := (yL_round, cL_round, 9, none, 21, 0, false, 1, 908, 907, 43)
abbrev pe_m163 : MethodName × ByteArray × Nat × Option FieldType × Nat × Nat × Bool × Nat × Nat × Nat × Nat := (yL_go, cL_go, 3, none, 21, 0, false, 1, 904, 903, 42)
abbrev pe_m164 : MethodName × ByteArray × Nat × Option FieldType × Nat × Nat × Bool × Nat × Nat × Nat × Nat := (yL_ended, cL_ended, 3, (some .int), 21, 0, false, 0, 934, 933, 44)
abbrev pe_m165 : MethodName × ByteArray × Nat × Option FieldType × Nat × Nat × Bool × Nat × Nat × Nat × Nat := (yL_outs, cL_outs, 3, (some .int), 21, 0, false, 0, 1039, 1038, 47)
abbrev pe_m166 : MethodName × ByteArray × Nat × Option FieldType × Nat × Nat × Bool × Nat × Nat × Nat × Nat := (yL_lay, cL_lay, 15, (some .int), 21, 0, false, 5, 358, 357, 2)
abbrev pe_m167 : MethodName × ByteArray × Nat × Option FieldType × Nat × Nat × Bool × Nat × Nat × Nat × Nat := (yL_joins, cL_joins, 5, none, 21, 0, false, 3, 671, 670, 26)
abbrev pe_m168 : MethodName × ByteArray × Nat × Option FieldType × Nat × Nat × Bool × Nat × Nat × Nat × Nat := (yL_come, cL_come, 4, (some .boolean), 21, 0, false, 3, 667, 666, 25)
abbrev pe_m169 : MethodName × ByteArray × Nat × Option FieldType × Nat × Nat × Bool × Nat × Nat × Nat × Nat := (yL_act, cL_act, 5, (some .boolean), 21, 0, false, 1, 787, 786, 29)
abbrev pe_m170 : MethodName × ByteArray × Nat × Option FieldType × Nat × Nat × Bool × Nat × Nat × Nat × Nat := (yL_begin, cL_begin, 8, (some .boolean), 21, 0, false, 3, 354, 353, 1)
abbrev pe_m171 : MethodName × ByteArray × Nat × Option FieldType × Nat × Nat × Bool × Nat × Nat × Nat × Nat := (yL_same, cL_same, 6, (some .boolean), 21, 0, false, 0, 1007, 1006, 45)
abbrev pe_m172 : MethodName × ByteArray × Nat × Option FieldType × Nat × Nat × Bool × Nat × Nat × Nat × Nat := (yL_holds, cL_holds, 11, (some .boolean), 21, 0, false, 1, 350, 349, 0)
abbrev pe_m244 : MethodName × ByteArray × Nat × Option FieldType × Nat × Nat × Bool × Nat × Nat × Nat × Nat := (yL_law, cL_law, 1, some .boolean, 21, 2, false, 1, 0, 0, 0)
abbrev pe_m245 : MethodName × ByteArray × Nat × Option FieldType × Nat × Nat × Bool × Nat × Nat × Nat × Nat := (yJ6_bitCount_0f7a4, cJ6_bitCount_0f7a4, 1, (some .int), 11, 2, false, 1, 927, 926, 64)
abbrev pe_m246 : MethodName × ByteArray × Nat × Option FieldType × Nat × Nat × Bool × Nat × Nat × Nat × Nat := (yJ7_copyOf_59c91, cJ7_copyOf_59c91, 3, (some (.array .int)), 13, 2, false, 2, 502, 501, 59)
/-- a method by its number: name, code, locals, what it answers, its class, 0 virtual 1 <init> 2 static, is it <init>, how many arguments, places: its code, instance or static, selects (virtual) or initialized; a number of nobody is 0's -/
def pe_me (i : Nat) : MethodName × ByteArray × Nat × Option FieldType × Nat × Nat × Bool × Nat × Nat × Nat × Nat := match i with
  | 0 => pe_m0
  | 1 => pe_m1
  | 2 => pe_m2
  | 3 => pe_m3
  | 4 => pe_m4
  | 5 => pe_m5
  | 6 => pe_m6
  | 7 => pe_m7
  | 8 => pe_m8
  | 9 => pe_m9
  | 10 => pe_m10
  | 11 => pe_m11
  | 12 => pe_m12
  | 13 => pe_m13
  | 14 => pe_m14
  | 15 => pe_m15
  | 16 => pe_m16
  | 17 => pe_m17
  | 19 => pe_m19
  | 20 => pe_m20
  | 21 => pe_m21
  | 22 => pe_m22
  | 23 => pe_m23
  | 24 => pe_m24
  | 25 => pe_m25
  | 26 => pe_m26
  | 27 => pe_m27
  | 28 => pe_m28
  | 30 => pe_m30
  | 31 => pe_m31
  | 32 => pe_m32
  | 33 => pe_m33
  | 34 => pe_m34
  | 35 => pe_m35
  | 36 => pe_m36
  | 37 => pe_m37
  | 38 => pe_m38
  | 39 => pe_m39
  | 40 => pe_m40
  | 41 => pe_m41
  | 42 => pe_m42
  | 43 => pe_m43
  | 44 => pe_m44
  | 48 => pe_m48
  | 49 => pe_m49
  | 50 => pe_m50
  | 51 => pe_m51
  | 52 => pe_m52
  | 53 => pe_m53
  | 54 => pe_m54
  | 55 => pe_m55
  | 56 => pe_m56
  | 57 => pe_m57
  | 58 => pe_m58
  | 60 => pe_m60
  | 61 => pe_m61
  | 63 => pe_m63
  | 64 => pe_m64
  | 65 => pe_m65
  | 66 => pe_m66
  | 67 => pe_m67
  | 68 => pe_m68
  | 69 => pe_m69
  | 70 => pe_m70
  | 71 => pe_m71
  | 72 => pe_m72
  | 73 => pe_m73
  | 74 => pe_m74
  | 75 => pe_m75
  | 76 => pe_m76
  | 77 => pe_m77
  | 78 => pe_m78
  | 79 => pe_m79
  | 80 => pe_m80
  | 82 => pe_m82
  | 83 => pe_m83
  | 84 => pe_m84
  | 85 => pe_m85
  | 86 => pe_m86
  | 87 => pe_m87
  | 88 => pe_m88
  | 89 => pe_m89
  | 90 => pe_m90
  | 91 => pe_m91
  | 92 => pe_m92
  | 93 => pe_m93
  | 94 => pe_m94
  | 96 => pe_m96
  | 106 => pe_m106
  | 107 => pe_m107
  | 108 => pe_m108
  | 109 => pe_m109
  | 110 => pe_m110
  | 111 => pe_m111
  | 115 => pe_m115
  | 116 => pe_m116
  | 117 => pe_m117
  | 119 => pe_m119
  | 120 => pe_m120
  | 121 => pe_m121
  | 122 => pe_m122
  | 132 => pe_m132
  | 133 => pe_m133
  | 134 => pe_m134
  | 135 => pe_m135
  | 136 => pe_m136
  | 137 => pe_m137
  | 138 => pe_m138
  | 139 => pe_m139
  | 140 => pe_m140
  | 141 => pe_m141
  | 142 => pe_m142
  | 143 => pe_m143
  | 144 => pe_m144
  | 145 => pe_m145
  | 146 => pe_m146
  | 147 => pe_m147
  | 148 => pe_m148
  | 149 => pe_m149
  | 150 => pe_m150
  | 151 => pe_m151
  | 152 => pe_m152
  | 153 => pe_m153
  | 154 => pe_m154
  | 155 => pe_m155
  | 156 => pe_m156
  | 157 => pe_m157
  | 158 => pe_m158
  | 159 => pe_m159
  | 160 => pe_m160
  | 161 => pe_m161
  | 162 => pe_m162
  | 163 => pe_m163
  | 164 => pe_m164
  | 165 => pe_m165
  | 166 => pe_m166
  | 167 => pe_m167
  | 168 => pe_m168
  | 169 => pe_m169
  | 170 => pe_m170
  | 171 => pe_m171
  | 172 => pe_m172
  | 244 => pe_m244
  | 245 => pe_m245
  | 246 => pe_m246
  | _ => pe_m0
def pe_mn : Nat := 247
def pe_ip : List Nat := [52, 53, 50, 55, 51, 54, 56, 57, 49, 63, 0, 64, 60, 59, 0, 0, 0, 0, 0, 62, 61, 48]
def pe_i0 : List (Nat × Nat × Nat) := [(50, 12, 529), (54, 13, 472), (58, 44, 549)]
def pe_i1 : List (Nat × Nat × Nat) := []
def pe_i2 : List (Nat × Nat × Nat) := [(61, 48, 92), (64, 0, 107), (66, 2, 468), (70, 53, 476), (79, 3, 622), (86, 4, 650), (95, 1, 525), (99, 5, 545), (103, 31, 553), (107, 55, 602), (110, 8, 606), (113, 10, 565), (116, 37, 630), (120, 28, 950), (123, 30, 646), (136, 6, 656), (143, 42, 651), (164, 49, 557), (167, 38, 561), (170, 50, 573), (174, 51, 577), (184, 39, 581), (187, 40, 569), (191, 32, 585), (195, 43, 589), (202, 33, 593), (205, 34, 598), (209, 35, 618), (212, 36, 626), (216, 7, 614), (219, 12, 597), (228, 54, 610)]
def pe_i3 : List (Nat × Nat × Nat) := []
def pe_i4 : List (Nat × Nat × Nat) := []
def pe_i5 : List (Nat × Nat × Nat) := []
def pe_i6 : List (Nat × Nat × Nat) := [(19, 58, 409)]
def pe_i7 : List (Nat × Nat × Nat) := [(19, 57, 431), (25, 66, 435), (29, 65, 450), (32, 60, 439), (35, 68, 443), (38, 67, 456), (42, 69, 447), (46, 70, 453), (49, 72, 487), (52, 75, 491), (56, 77, 515), (69, 4, 533), (75, 73, 537), (78, 25, 541), (82, 3, 633), (85, 26, 634), (92, 78, 638), (95, 76, 495), (105, 246, 500), (111, 48, 514), (116, 41, 520), (118, 24, 521), (125, 28, 642)]
def pe_i8 : List (Nat × Nat × Nat) := [(9, 14, 81), (35, 41, 276), (50, 119, 397), (59, 63, 416), (62, 64, 427), (66, 122, 460), (70, 74, 483), (74, 71, 660), (77, 15, 464), (81, 116, 776), (100, 120, 779), (103, 24, 783), (107, 117, 796), (126, 42, 975), (135, 23, 976), (138, 9, 951), (161, 121, 1016), (167, 22, 1032), (170, 21, 1020), (189, 4, 800), (193, 25, 801), (199, 3, 890), (202, 26, 891), (212, 28, 920), (215, 17, 921), (218, 245, 925), (223, 27, 946), (226, 19, 963), (229, 16, 959), (283, 20, 967), (286, 115, 377), (289, 56, 381), (290, 58, 401), (293, 61, 405)]
def pe_i9 : List (Nat × Nat × Nat) := []
def pe_i11 : List (Nat × Nat × Nat) := []
def pe_i12 : List (Nat × Nat × Nat) := []
def pe_i13 : List (Nat × Nat × Nat) := []
def pe_i19 : List (Nat × Nat × Nat) := []
def pe_i20 : List (Nat × Nat × Nat) := [(55, 137, 822), (58, 134, 827), (73, 132, 833), (83, 139, 823), (87, 140, 849)]
def pe_i21 : List (Nat × Nat × Nat) := [(9, 79, 75), (40, 145, 362), (45, 110, 373), (49, 111, 393), (52, 80, 410), (58, 133, 731), (73, 152, 877), (86, 132, 862), (89, 139, 863), (96, 154, 857), (100, 155, 853), (103, 153, 873), (107, 151, 882), (111, 137, 814), (120, 141, 818), (129, 158, 864), (164, 150, 725), (168, 156, 869), (172, 142, 806), (175, 157, 810), (179, 140, 896), (185, 159, 788), (192, 138, 909), (196, 148, 913), (200, 162, 905), (218, 146, 359), (229, 167, 668), (232, 109, 768), (236, 82, 772), (239, 87, 792), (242, 160, 802), (244, 88, 886), (247, 161, 892), (249, 89, 897), (251, 163, 901), (254, 90, 916), (257, 164, 931), (260, 149, 935), (263, 166, 355), (267, 147, 369), (270, 168, 664), (274, 169, 784), (277, 83, 971), (280, 143, 1008), (283, 84, 1012), (286, 135, 1024), (289, 85, 1028), (297, 86, 980), (300, 108, 955), (302, 165, 1036), (304, 144, 67), (305, 172, 347), (309, 170, 351), (313, 106, 938), (316, 91, 942), (319, 107, 984), (322, 93, 988), (325, 92, 992), (328, 96, 996), (331, 94, 1000), (334, 171, 1004)]
def pe_iT (o : Nat) : List (Nat × Nat × Nat) := match o with
  | 0 => pe_i0
  | 1 => pe_i1
  | 2 => pe_i2
  | 3 => pe_i3
  | 4 => pe_i4
  | 5 => pe_i5
  | 6 => pe_i6
  | 7 => pe_i7
  | 8 => pe_i8
  | 9 => pe_i9
  | 11 => pe_i11
  | 12 => pe_i12
  | 13 => pe_i13
  | 19 => pe_i19
  | 20 => pe_i20
  | _ => pe_i21
def pe_j0 : List (Nat × Nat × Nat) := [(17, 11, 114)]
def pe_j1 : List (Nat × Nat × Nat) := []
def pe_j2 : List (Nat × Nat × Nat) := [(65, 52, 204)]
def pe_j3 : List (Nat × Nat × Nat) := []
def pe_j4 : List (Nat × Nat × Nat) := []
def pe_j5 : List (Nat × Nat × Nat) := []
def pe_j6 : List (Nat × Nat × Nat) := []
def pe_j7 : List (Nat × Nat × Nat) := []
def pe_j8 : List (Nat × Nat × Nat) := []
def pe_j9 : List (Nat × Nat × Nat) := []
def pe_j11 : List (Nat × Nat × Nat) := []
def pe_j12 : List (Nat × Nat × Nat) := []
def pe_j13 : List (Nat × Nat × Nat) := []
def pe_j19 : List (Nat × Nat × Nat) := []
def pe_j20 : List (Nat × Nat × Nat) := []
def pe_j21 : List (Nat × Nat × Nat) := [(225, 136, 673)]
/-- the host of a nest -/
def pe_ho (o : Nat) : String := if o < 9 then "StepMachines" else "StepMachinesLaw"
def pe_jT (o : Nat) : List (Nat × Nat × Nat) := match o with
  | 0 => pe_j0
  | 1 => pe_j1
  | 2 => pe_j2
  | 3 => pe_j3
  | 4 => pe_j4
  | 5 => pe_j5
  | 6 => pe_j6
  | 7 => pe_j7
  | 8 => pe_j8
  | 9 => pe_j9
  | 11 => pe_j11
  | 12 => pe_j12
  | 13 => pe_j13
  | 19 => pe_j19
  | 20 => pe_j20
  | _ => pe_j21
def pe_a0 : List (Nat × Nat) := []
def pe_a1 : List (Nat × Nat) := []
def pe_a2 : List (Nat × Nat) := [(73, 480)]
def pe_a3 : List (Nat × Nat) := []
def pe_a4 : List (Nat × Nat) := []
def pe_a5 : List (Nat × Nat) := []
def pe_a6 : List (Nat × Nat) := []
def pe_a7 : List (Nat × Nat) := []
def pe_a8 : List (Nat × Nat) := []
def pe_a9 : List (Nat × Nat) := []
def pe_a11 : List (Nat × Nat) := []
def pe_a12 : List (Nat × Nat) := []
def pe_a13 : List (Nat × Nat) := [(150, 513)]
def pe_a19 : List (Nat × Nat) := []
def pe_a20 : List (Nat × Nat) := []
def pe_a21 : List (Nat × Nat) := [(61, 881)]
def pe_aT (o : Nat) : List (Nat × Nat) := match o with
  | 0 => pe_a0
  | 1 => pe_a1
  | 2 => pe_a2
  | 3 => pe_a3
  | 4 => pe_a4
  | 5 => pe_a5
  | 6 => pe_a6
  | 7 => pe_a7
  | 8 => pe_a8
  | 9 => pe_a9
  | 11 => pe_a11
  | 12 => pe_a12
  | 13 => pe_a13
  | 19 => pe_a19
  | 20 => pe_a20
  | _ => pe_a21
def pe_b0 : List (Nat × Nat) := []
def pe_b1 : List (Nat × Nat) := []
def pe_b2 : List (Nat × Nat) := [(127, 655)]
def pe_b3 : List (Nat × Nat) := []
def pe_b4 : List (Nat × Nat) := []
def pe_b5 : List (Nat × Nat) := []
def pe_b6 : List (Nat × Nat) := []
def pe_b7 : List (Nat × Nat) := []
def pe_b8 : List (Nat × Nat) := []
def pe_b9 : List (Nat × Nat) := []
def pe_b11 : List (Nat × Nat) := []
def pe_b12 : List (Nat × Nat) := []
def pe_b13 : List (Nat × Nat) := [(304, 510)]
def pe_b19 : List (Nat × Nat) := []
def pe_b20 : List (Nat × Nat) := []
def pe_b21 : List (Nat × Nat) := [(145, 868)]
def pe_bT (o : Nat) : List (Nat × Nat) := match o with
  | 0 => pe_b0
  | 1 => pe_b1
  | 2 => pe_b2
  | 3 => pe_b3
  | 4 => pe_b4
  | 5 => pe_b5
  | 6 => pe_b6
  | 7 => pe_b7
  | 8 => pe_b8
  | 9 => pe_b9
  | 11 => pe_b11
  | 12 => pe_b12
  | 13 => pe_b13
  | 19 => pe_b19
  | 20 => pe_b20
  | _ => pe_b21
def pe_ml : Nat := 244
def pe_o0 : List (Nat × Nat) := [(3, 110)]
def pe_c0 : List (Nat × Nat × Nat) := [(9, 1, 111)]
def pe_k0 : List (Nat × Int × Nat) := []
def pe_l0 : List (Nat × Int × Nat) := []
def pe_o1 : List (Nat × Nat) := [(3, 117)]
def pe_c1 : List (Nat × Nat × Nat) := []
def pe_k1 : List (Nat × Int × Nat) := []
def pe_l1 : List (Nat × Int × Nat) := []
def pe_o2 : List (Nat × Nat) := [(3, 84)]
def pe_c2 : List (Nat × Nat × Nat) := [(9, 4, 85), (17, 0, 87), (23, 5, 89)]
def pe_k2 : List (Nat × Int × Nat) := []
def pe_l2 : List (Nat × Int × Nat) := []
def pe_o3 : List (Nat × Nat) := [(3, 279)]
def pe_c3 : List (Nat × Nat × Nat) := []
def pe_k3 : List (Nat × Int × Nat) := []
def pe_l3 : List (Nat × Int × Nat) := []
def pe_o4 : List (Nat × Nat) := [(1, 95)]
def pe_c4 : List (Nat × Nat × Nat) := []
def pe_k4 : List (Nat × Int × Nat) := []
def pe_l4 : List (Nat × Int × Nat) := []
def pe_o5 : List (Nat × Nat) := [(3, 207)]
def pe_c5 : List (Nat × Nat × Nat) := []
def pe_k5 : List (Nat × Int × Nat) := []
def pe_l5 : List (Nat × Int × Nat) := []
def pe_o6 : List (Nat × Nat) := [(3, 384)]
def pe_c6 : List (Nat × Nat × Nat) := []
def pe_k6 : List (Nat × Int × Nat) := []
def pe_l6 : List (Nat × Int × Nat) := []
def pe_o7 : List (Nat × Nat) := [(3, 419)]
def pe_c7 : List (Nat × Nat × Nat) := [(103, 4, 499), (114, 3, 519)]
def pe_k7 : List (Nat × Int × Nat) := []
def pe_l7 : List (Nat × Int × Nat) := []
def pe_o8 : List (Nat × Nat) := [(1, 78)]
def pe_c8 : List (Nat × Nat × Nat) := [(7, 2, 79), (23, 3, 271), (29, 6, 273), (57, 7, 414)]
def pe_k8 : List (Nat × Int × Nat) := []
def pe_l8 : List (Nat × Int × Nat) := []
def pe_o9 : List (Nat × Nat) := [(1, 836)]
def pe_c9 : List (Nat × Nat × Nat) := []
def pe_k9 : List (Nat × Int × Nat) := []
def pe_l9 : List (Nat × Int × Nat) := []
def pe_o11 : List (Nat × Nat) := []
def pe_c11 : List (Nat × Nat × Nat) := []
def pe_k11 : List (Nat × Int × Nat) := [(265, 1431655765, 928), (266, 858993459, 929), (267, 252645135, 930)]
def pe_l11 : List (Nat × Int × Nat) := []
def pe_o12 : List (Nat × Nat) := []
def pe_c12 : List (Nat × Nat × Nat) := []
def pe_k12 : List (Nat × Int × Nat) := []
def pe_l12 : List (Nat × Int × Nat) := []
def pe_o13 : List (Nat × Nat) := []
def pe_c13 : List (Nat × Nat × Nat) := []
def pe_k13 : List (Nat × Int × Nat) := []
def pe_l13 : List (Nat × Int × Nat) := []
def pe_o19 : List (Nat × Nat) := [(1, 734)]
def pe_c19 : List (Nat × Nat × Nat) := []
def pe_k19 : List (Nat × Int × Nat) := []
def pe_l19 : List (Nat × Int × Nat) := []
def pe_o20 : List (Nat × Nat) := [(1, 676)]
def pe_c20 : List (Nat × Nat × Nat) := [(16, 19, 677), (63, 9, 831)]
def pe_k20 : List (Nat × Int × Nat) := []
def pe_l20 : List (Nat × Int × Nat) := []
def pe_o21 : List (Nat × Nat) := [(1, 70)]
def pe_c21 : List (Nat × Nat × Nat) := [(7, 8, 73), (11, 21, 65), (29, 20, 316), (56, 19, 729), (80, 9, 861)]
def pe_k21 : List (Nat × Int × Nat) := [(39, 790386105, 365), (44, 2147483647, 366)]
def pe_l21 : List (Nat × Int × Nat) := []
def pe_oT (o : Nat) : List (Nat × Nat) := match o with
  | 0 => pe_o0
  | 1 => pe_o1
  | 2 => pe_o2
  | 3 => pe_o3
  | 4 => pe_o4
  | 5 => pe_o5
  | 6 => pe_o6
  | 7 => pe_o7
  | 8 => pe_o8
  | 9 => pe_o9
  | 11 => pe_o11
  | 12 => pe_o12
  | 13 => pe_o13
  | 19 => pe_o19
  | 20 => pe_o20
  | _ => pe_o21
def pe_cT (o : Nat) : List (Nat × Nat × Nat) := match o with
  | 0 => pe_c0
  | 1 => pe_c1
  | 2 => pe_c2
  | 3 => pe_c3
  | 4 => pe_c4
  | 5 => pe_c5
  | 6 => pe_c6
  | 7 => pe_c7
  | 8 => pe_c8
  | 9 => pe_c9
  | 11 => pe_c11
  | 12 => pe_c12
  | 13 => pe_c13
  | 19 => pe_c19
  | 20 => pe_c20
  | _ => pe_c21
def pe_kT (o : Nat) : List (Nat × Int × Nat) := match o with
  | 0 => pe_k0
  | 1 => pe_k1
  | 2 => pe_k2
  | 3 => pe_k3
  | 4 => pe_k4
  | 5 => pe_k5
  | 6 => pe_k6
  | 7 => pe_k7
  | 8 => pe_k8
  | 9 => pe_k9
  | 11 => pe_k11
  | 12 => pe_k12
  | 13 => pe_k13
  | 19 => pe_k19
  | 20 => pe_k20
  | _ => pe_k21
def pe_lT (o : Nat) : List (Nat × Int × Nat) := match o with
  | 0 => pe_l0
  | 1 => pe_l1
  | 2 => pe_l2
  | 3 => pe_l3
  | 4 => pe_l4
  | 5 => pe_l5
  | 6 => pe_l6
  | 7 => pe_l7
  | 8 => pe_l8
  | 9 => pe_l9
  | 11 => pe_l11
  | 12 => pe_l12
  | 13 => pe_l13
  | 19 => pe_l19
  | 20 => pe_l20
  | _ => pe_l21
def pe_xa : Nat × Nat := (16, 314)
def pe_xm : Nat × Nat := (35, 318)
def pe_xs : Nat × Nat := (222, 367)
def pe_go {α : Type} (l : List (Nat × α)) (i : Nat) : Option α := match l with
  | [] => none
  | (a, b) :: l => if Nat.beq a i then some b else pe_go l i
theorem pe_go_mem {α : Type} : ∀ (l : List (Nat × α)) (i : Nat) (x : α), pe_go l i = some x → (i, x) ∈ l
  | [], _, _, h => by simp [pe_go] at h
  | (a, b) :: l, i, x, h => by
    unfold pe_go at h
    split at h
    · rename_i he
      rw [Nat.eq_of_beq_eq_true he]
      cases h
      exact List.mem_cons_self
    · exact List.mem_cons_of_mem _ (pe_go_mem l i x h)
theorem pe_f0_ok : ∀ q ∈ pe_f0, lw_tbl[q.2.2.2]? = some (.fieldLink (pe_rn 0) q.1 ((pe_cl q.2.1).2.1 q.2.2.1).1 ((pe_cl q.2.1).2.1 q.2.2.1).2.1 ((pe_cl q.2.1).2.1 q.2.2.1).2.2.1) ∧ pe_kc q.2.1 = true ∧ q.2.2.1 < (pe_cl q.2.1).2.2 := by decide +kernel
theorem pe_g0_ok : ∀ q ∈ pe_g0, lw_tbl[q.2.2.2]? = some (.fieldLinkNest (pe_rn 0) q.1 ((pe_cl q.2.1).2.1 q.2.2.1).1 ((pe_cl q.2.1).2.1 q.2.2.1).2.1 ((pe_cl q.2.1).2.1 q.2.2.1).2.2.1 (pe_ho 0)) ∧ pe_kc q.2.1 = true ∧ q.2.2.1 < (pe_cl q.2.1).2.2 := by decide +kernel
theorem pe_i0_ok : ∀ q ∈ pe_i0, lw_tbl[q.2.2]? = some (.methodLink (pe_rn 0) q.1 (pe_me q.2.1).1) ∧ q.2.1 < pe_mn := by decide +kernel
theorem pe_j0_ok : ∀ q ∈ pe_j0, lw_tbl[q.2.2]? = some (.methodLinkNest (pe_rn 0) q.1 (pe_me q.2.1).1 (pe_ho 0)) ∧ q.2.1 < pe_mn := by decide +kernel
theorem pe_a0_ok : ∀ q ∈ pe_a0, lw_tbl[q.2]? = some (.methodLink (pe_rn 0) q.1 arraycopyName) := by decide +kernel
theorem pe_b0_ok : ∀ q ∈ pe_b0, lw_tbl[q.2]? = some (.methodLink (pe_rn 0) q.1 Lib.Math.min.name) := by decide +kernel
theorem pe_o0_ok : ∀ q ∈ pe_o0, lw_tbl[q.2]? = some (.methodLink (pe_rn 0) q.1 objectInit) := by decide +kernel
theorem pe_c0_ok : ∀ q ∈ pe_c0, lw_tbl[q.2.2]? = some (.classLink (pe_rn 0) q.1 (pe_cl q.2.1).1) ∧ pe_kc q.2.1 = true := by decide +kernel
theorem pe_k0_ok : ∀ q ∈ pe_k0, lw_tbl[q.2.2]? = some (.constant (pe_rn 0) q.1 (Int32.ofInt q.2.1)) := by decide +kernel
theorem pe_l0_ok : ∀ q ∈ pe_l0, lw_tbl[q.2.2]? = some (.constantLong (pe_rn 0) q.1 (Int64.ofInt q.2.1)) := by decide +kernel
theorem pe_f1_ok : ∀ q ∈ pe_f1, lw_tbl[q.2.2.2]? = some (.fieldLink (pe_rn 1) q.1 ((pe_cl q.2.1).2.1 q.2.2.1).1 ((pe_cl q.2.1).2.1 q.2.2.1).2.1 ((pe_cl q.2.1).2.1 q.2.2.1).2.2.1) ∧ pe_kc q.2.1 = true ∧ q.2.2.1 < (pe_cl q.2.1).2.2 := by decide +kernel
theorem pe_g1_ok : ∀ q ∈ pe_g1, lw_tbl[q.2.2.2]? = some (.fieldLinkNest (pe_rn 1) q.1 ((pe_cl q.2.1).2.1 q.2.2.1).1 ((pe_cl q.2.1).2.1 q.2.2.1).2.1 ((pe_cl q.2.1).2.1 q.2.2.1).2.2.1 (pe_ho 1)) ∧ pe_kc q.2.1 = true ∧ q.2.2.1 < (pe_cl q.2.1).2.2 := by decide +kernel
theorem pe_i1_ok : ∀ q ∈ pe_i1, lw_tbl[q.2.2]? = some (.methodLink (pe_rn 1) q.1 (pe_me q.2.1).1) ∧ q.2.1 < pe_mn := by decide +kernel
theorem pe_j1_ok : ∀ q ∈ pe_j1, lw_tbl[q.2.2]? = some (.methodLinkNest (pe_rn 1) q.1 (pe_me q.2.1).1 (pe_ho 1)) ∧ q.2.1 < pe_mn := by decide +kernel
theorem pe_a1_ok : ∀ q ∈ pe_a1, lw_tbl[q.2]? = some (.methodLink (pe_rn 1) q.1 arraycopyName) := by decide +kernel
theorem pe_b1_ok : ∀ q ∈ pe_b1, lw_tbl[q.2]? = some (.methodLink (pe_rn 1) q.1 Lib.Math.min.name) := by decide +kernel
theorem pe_o1_ok : ∀ q ∈ pe_o1, lw_tbl[q.2]? = some (.methodLink (pe_rn 1) q.1 objectInit) := by decide +kernel
theorem pe_c1_ok : ∀ q ∈ pe_c1, lw_tbl[q.2.2]? = some (.classLink (pe_rn 1) q.1 (pe_cl q.2.1).1) ∧ pe_kc q.2.1 = true := by decide +kernel
theorem pe_k1_ok : ∀ q ∈ pe_k1, lw_tbl[q.2.2]? = some (.constant (pe_rn 1) q.1 (Int32.ofInt q.2.1)) := by decide +kernel
theorem pe_l1_ok : ∀ q ∈ pe_l1, lw_tbl[q.2.2]? = some (.constantLong (pe_rn 1) q.1 (Int64.ofInt q.2.1)) := by decide +kernel
theorem pe_f2_ok : ∀ q ∈ pe_f2, lw_tbl[q.2.2.2]? = some (.fieldLink (pe_rn 2) q.1 ((pe_cl q.2.1).2.1 q.2.2.1).1 ((pe_cl q.2.1).2.1 q.2.2.1).2.1 ((pe_cl q.2.1).2.1 q.2.2.1).2.2.1) ∧ pe_kc q.2.1 = true ∧ q.2.2.1 < (pe_cl q.2.1).2.2 := by decide +kernel
theorem pe_g2_ok : ∀ q ∈ pe_g2, lw_tbl[q.2.2.2]? = some (.fieldLinkNest (pe_rn 2) q.1 ((pe_cl q.2.1).2.1 q.2.2.1).1 ((pe_cl q.2.1).2.1 q.2.2.1).2.1 ((pe_cl q.2.1).2.1 q.2.2.1).2.2.1 (pe_ho 2)) ∧ pe_kc q.2.1 = true ∧ q.2.2.1 < (pe_cl q.2.1).2.2 := by decide +kernel
theorem pe_i2_ok : ∀ q ∈ pe_i2, lw_tbl[q.2.2]? = some (.methodLink (pe_rn 2) q.1 (pe_me q.2.1).1) ∧ q.2.1 < pe_mn := by decide +kernel
theorem pe_j2_ok : ∀ q ∈ pe_j2, lw_tbl[q.2.2]? = some (.methodLinkNest (pe_rn 2) q.1 (pe_me q.2.1).1 (pe_ho 2)) ∧ q.2.1 < pe_mn := by decide +kernel
theorem pe_a2_ok : ∀ q ∈ pe_a2, lw_tbl[q.2]? = some (.methodLink (pe_rn 2) q.1 arraycopyName) := by decide +kernel
theorem pe_b2_ok : ∀ q ∈ pe_b2, lw_tbl[q.2]? = some (.methodLink (pe_rn 2) q.1 Lib.Math.min.name) := by decide +kernel
theorem pe_o2_ok : ∀ q ∈ pe_o2, lw_tbl[q.2]? = some (.methodLink (pe_rn 2) q.1 objectInit) := by decide +kernel
theorem pe_c2_ok : ∀ q ∈ pe_c2, lw_tbl[q.2.2]? = some (.classLink (pe_rn 2) q.1 (pe_cl q.2.1).1) ∧ pe_kc q.2.1 = true := by decide +kernel
theorem pe_k2_ok : ∀ q ∈ pe_k2, lw_tbl[q.2.2]? = some (.constant (pe_rn 2) q.1 (Int32.ofInt q.2.1)) := by decide +kernel
theorem pe_l2_ok : ∀ q ∈ pe_l2, lw_tbl[q.2.2]? = some (.constantLong (pe_rn 2) q.1 (Int64.ofInt q.2.1)) := by decide +kernel
theorem pe_f3_ok : ∀ q ∈ pe_f3, lw_tbl[q.2.2.2]? = some (.fieldLink (pe_rn 3) q.1 ((pe_cl q.2.1).2.1 q.2.2.1).1 ((pe_cl q.2.1).2.1 q.2.2.1).2.1 ((pe_cl q.2.1).2.1 q.2.2.1).2.2.1) ∧ pe_kc q.2.1 = true ∧ q.2.2.1 < (pe_cl q.2.1).2.2 := by decide +kernel
theorem pe_g3_ok : ∀ q ∈ pe_g3, lw_tbl[q.2.2.2]? = some (.fieldLinkNest (pe_rn 3) q.1 ((pe_cl q.2.1).2.1 q.2.2.1).1 ((pe_cl q.2.1).2.1 q.2.2.1).2.1 ((pe_cl q.2.1).2.1 q.2.2.1).2.2.1 (pe_ho 3)) ∧ pe_kc q.2.1 = true ∧ q.2.2.1 < (pe_cl q.2.1).2.2 := by decide +kernel
theorem pe_i3_ok : ∀ q ∈ pe_i3, lw_tbl[q.2.2]? = some (.methodLink (pe_rn 3) q.1 (pe_me q.2.1).1) ∧ q.2.1 < pe_mn := by decide +kernel
theorem pe_j3_ok : ∀ q ∈ pe_j3, lw_tbl[q.2.2]? = some (.methodLinkNest (pe_rn 3) q.1 (pe_me q.2.1).1 (pe_ho 3)) ∧ q.2.1 < pe_mn := by decide +kernel
theorem pe_a3_ok : ∀ q ∈ pe_a3, lw_tbl[q.2]? = some (.methodLink (pe_rn 3) q.1 arraycopyName) := by decide +kernel
theorem pe_b3_ok : ∀ q ∈ pe_b3, lw_tbl[q.2]? = some (.methodLink (pe_rn 3) q.1 Lib.Math.min.name) := by decide +kernel
theorem pe_o3_ok : ∀ q ∈ pe_o3, lw_tbl[q.2]? = some (.methodLink (pe_rn 3) q.1 objectInit) := by decide +kernel
theorem pe_c3_ok : ∀ q ∈ pe_c3, lw_tbl[q.2.2]? = some (.classLink (pe_rn 3) q.1 (pe_cl q.2.1).1) ∧ pe_kc q.2.1 = true := by decide +kernel
theorem pe_k3_ok : ∀ q ∈ pe_k3, lw_tbl[q.2.2]? = some (.constant (pe_rn 3) q.1 (Int32.ofInt q.2.1)) := by decide +kernel
theorem pe_l3_ok : ∀ q ∈ pe_l3, lw_tbl[q.2.2]? = some (.constantLong (pe_rn 3) q.1 (Int64.ofInt q.2.1)) := by decide +kernel
theorem pe_f4_ok : ∀ q ∈ pe_f4, lw_tbl[q.2.2.2]? = some (.fieldLink (pe_rn 4) q.1 ((pe_cl q.2.1).2.1 q.2.2.1).1 ((pe_cl q.2.1).2.1 q.2.2.1).2.1 ((pe_cl q.2.1).2.1 q.2.2.1).2.2.1) ∧ pe_kc q.2.1 = true ∧ q.2.2.1 < (pe_cl q.2.1).2.2 := by decide +kernel
theorem pe_g4_ok : ∀ q ∈ pe_g4, lw_tbl[q.2.2.2]? = some (.fieldLinkNest (pe_rn 4) q.1 ((pe_cl q.2.1).2.1 q.2.2.1).1 ((pe_cl q.2.1).2.1 q.2.2.1).2.1 ((pe_cl q.2.1).2.1 q.2.2.1).2.2.1 (pe_ho 4)) ∧ pe_kc q.2.1 = true ∧ q.2.2.1 < (pe_cl q.2.1).2.2 := by decide +kernel
theorem pe_i4_ok : ∀ q ∈ pe_i4, lw_tbl[q.2.2]? = some (.methodLink (pe_rn 4) q.1 (pe_me q.2.1).1) ∧ q.2.1 < pe_mn := by decide +kernel
theorem pe_j4_ok : ∀ q ∈ pe_j4, lw_tbl[q.2.2]? = some (.methodLinkNest (pe_rn 4) q.1 (pe_me q.2.1).1 (pe_ho 4)) ∧ q.2.1 < pe_mn := by decide +kernel
theorem pe_a4_ok : ∀ q ∈ pe_a4, lw_tbl[q.2]? = some (.methodLink (pe_rn 4) q.1 arraycopyName) := by decide +kernel
theorem pe_b4_ok : ∀ q ∈ pe_b4, lw_tbl[q.2]? = some (.methodLink (pe_rn 4) q.1 Lib.Math.min.name) := by decide +kernel
theorem pe_o4_ok : ∀ q ∈ pe_o4, lw_tbl[q.2]? = some (.methodLink (pe_rn 4) q.1 objectInit) := by decide +kernel
theorem pe_c4_ok : ∀ q ∈ pe_c4, lw_tbl[q.2.2]? = some (.classLink (pe_rn 4) q.1 (pe_cl q.2.1).1) ∧ pe_kc q.2.1 = true := by decide +kernel
theorem pe_k4_ok : ∀ q ∈ pe_k4, lw_tbl[q.2.2]? = some (.constant (pe_rn 4) q.1 (Int32.ofInt q.2.1)) := by decide +kernel
theorem pe_l4_ok : ∀ q ∈ pe_l4, lw_tbl[q.2.2]? = some (.constantLong (pe_rn 4) q.1 (Int64.ofInt q.2.1)) := by decide +kernel
theorem pe_f5_ok : ∀ q ∈ pe_f5, lw_tbl[q.2.2.2]? = some (.fieldLink (pe_rn 5) q.1 ((pe_cl q.2.1).2.1 q.2.2.1).1 ((pe_cl q.2.1).2.1 q.2.2.1).2.1 ((pe_cl q.2.1).2.1 q.2.2.1).2.2.1) ∧ pe_kc q.2.1 = true ∧ q.2.2.1 < (pe_cl q.2.1).2.2 := by decide +kernel
theorem pe_g5_ok : ∀ q ∈ pe_g5, lw_tbl[q.2.2.2]? = some (.fieldLinkNest (pe_rn 5) q.1 ((pe_cl q.2.1).2.1 q.2.2.1).1 ((pe_cl q.2.1).2.1 q.2.2.1).2.1 ((pe_cl q.2.1).2.1 q.2.2.1).2.2.1 (pe_ho 5)) ∧ pe_kc q.2.1 = true ∧ q.2.2.1 < (pe_cl q.2.1).2.2 := by decide +kernel
theorem pe_i5_ok : ∀ q ∈ pe_i5, lw_tbl[q.2.2]? = some (.methodLink (pe_rn 5) q.1 (pe_me q.2.1).1) ∧ q.2.1 < pe_mn := by decide +kernel
theorem pe_j5_ok : ∀ q ∈ pe_j5, lw_tbl[q.2.2]? = some (.methodLinkNest (pe_rn 5) q.1 (pe_me q.2.1).1 (pe_ho 5)) ∧ q.2.1 < pe_mn := by decide +kernel
theorem pe_a5_ok : ∀ q ∈ pe_a5, lw_tbl[q.2]? = some (.methodLink (pe_rn 5) q.1 arraycopyName) := by decide +kernel
theorem pe_b5_ok : ∀ q ∈ pe_b5, lw_tbl[q.2]? = some (.methodLink (pe_rn 5) q.1 Lib.Math.min.name) := by decide +kernel
theorem pe_o5_ok : ∀ q ∈ pe_o5, lw_tbl[q.2]? = some (.methodLink (pe_rn 5) q.1 objectInit) := by decide +kernel
theorem pe_c5_ok : ∀ q ∈ pe_c5, lw_tbl[q.2.2]? = some (.classLink (pe_rn 5) q.1 (pe_cl q.2.1).1) ∧ pe_kc q.2.1 = true := by decide +kernel
theorem pe_k5_ok : ∀ q ∈ pe_k5, lw_tbl[q.2.2]? = some (.constant (pe_rn 5) q.1 (Int32.ofInt q.2.1)) := by decide +kernel
theorem pe_l5_ok : ∀ q ∈ pe_l5, lw_tbl[q.2.2]? = some (.constantLong (pe_rn 5) q.1 (Int64.ofInt q.2.1)) := by decide +kernel
theorem pe_f6_ok : ∀ q ∈ pe_f6, lw_tbl[q.2.2.2]? = some (.fieldLink (pe_rn 6) q.1 ((pe_cl q.2.1).2.1 q.2.2.1).1 ((pe_cl q.2.1).2.1 q.2.2.1).2.1 ((pe_cl q.2.1).2.1 q.2.2.1).2.2.1) ∧ pe_kc q.2.1 = true ∧ q.2.2.1 < (pe_cl q.2.1).2.2 := by decide +kernel
theorem pe_g6_ok : ∀ q ∈ pe_g6, lw_tbl[q.2.2.2]? = some (.fieldLinkNest (pe_rn 6) q.1 ((pe_cl q.2.1).2.1 q.2.2.1).1 ((pe_cl q.2.1).2.1 q.2.2.1).2.1 ((pe_cl q.2.1).2.1 q.2.2.1).2.2.1 (pe_ho 6)) ∧ pe_kc q.2.1 = true ∧ q.2.2.1 < (pe_cl q.2.1).2.2 := by decide +kernel
theorem pe_i6_ok : ∀ q ∈ pe_i6, lw_tbl[q.2.2]? = some (.methodLink (pe_rn 6) q.1 (pe_me q.2.1).1) ∧ q.2.1 < pe_mn := by decide +kernel
theorem pe_j6_ok : ∀ q ∈ pe_j6, lw_tbl[q.2.2]? = some (.methodLinkNest (pe_rn 6) q.1 (pe_me q.2.1).1 (pe_ho 6)) ∧ q.2.1 < pe_mn := by decide +kernel
theorem pe_a6_ok : ∀ q ∈ pe_a6, lw_tbl[q.2]? = some (.methodLink (pe_rn 6) q.1 arraycopyName) := by decide +kernel
theorem pe_b6_ok : ∀ q ∈ pe_b6, lw_tbl[q.2]? = some (.methodLink (pe_rn 6) q.1 Lib.Math.min.name) := by decide +kernel
theorem pe_o6_ok : ∀ q ∈ pe_o6, lw_tbl[q.2]? = some (.methodLink (pe_rn 6) q.1 objectInit) := by decide +kernel
theorem pe_c6_ok : ∀ q ∈ pe_c6, lw_tbl[q.2.2]? = some (.classLink (pe_rn 6) q.1 (pe_cl q.2.1).1) ∧ pe_kc q.2.1 = true := by decide +kernel
theorem pe_k6_ok : ∀ q ∈ pe_k6, lw_tbl[q.2.2]? = some (.constant (pe_rn 6) q.1 (Int32.ofInt q.2.1)) := by decide +kernel
theorem pe_l6_ok : ∀ q ∈ pe_l6, lw_tbl[q.2.2]? = some (.constantLong (pe_rn 6) q.1 (Int64.ofInt q.2.1)) := by decide +kernel
theorem pe_f7_ok : ∀ q ∈ pe_f7, lw_tbl[q.2.2.2]? = some (.fieldLink (pe_rn 7) q.1 ((pe_cl q.2.1).2.1 q.2.2.1).1 ((pe_cl q.2.1).2.1 q.2.2.1).2.1 ((pe_cl q.2.1).2.1 q.2.2.1).2.2.1) ∧ pe_kc q.2.1 = true ∧ q.2.2.1 < (pe_cl q.2.1).2.2 := by decide +kernel
theorem pe_g7_ok : ∀ q ∈ pe_g7, lw_tbl[q.2.2.2]? = some (.fieldLinkNest (pe_rn 7) q.1 ((pe_cl q.2.1).2.1 q.2.2.1).1 ((pe_cl q.2.1).2.1 q.2.2.1).2.1 ((pe_cl q.2.1).2.1 q.2.2.1).2.2.1 (pe_ho 7)) ∧ pe_kc q.2.1 = true ∧ q.2.2.1 < (pe_cl q.2.1).2.2 := by decide +kernel
theorem pe_i7_ok : ∀ q ∈ pe_i7, lw_tbl[q.2.2]? = some (.methodLink (pe_rn 7) q.1 (pe_me q.2.1).1) ∧ q.2.1 < pe_mn := by decide +kernel
theorem pe_j7_ok : ∀ q ∈ pe_j7, lw_tbl[q.2.2]? = some (.methodLinkNest (pe_rn 7) q.1 (pe_me q.2.1).1 (pe_ho 7)) ∧ q.2.1 < pe_mn := by decide +kernel
theorem pe_a7_ok : ∀ q ∈ pe_a7, lw_tbl[q.2]? = some (.methodLink (pe_rn 7) q.1 arraycopyName) := by decide +kernel
theorem pe_b7_ok : ∀ q ∈ pe_b7, lw_tbl[q.2]? = some (.methodLink (pe_rn 7) q.1 Lib.Math.min.name) := by decide +kernel
theorem pe_o7_ok : ∀ q ∈ pe_o7, lw_tbl[q.2]? = some (.methodLink (pe_rn 7) q.1 objectInit) := by decide +kernel
theorem pe_c7_ok : ∀ q ∈ pe_c7, lw_tbl[q.2.2]? = some (.classLink (pe_rn 7) q.1 (pe_cl q.2.1).1) ∧ pe_kc q.2.1 = true := by decide +kernel
theorem pe_k7_ok : ∀ q ∈ pe_k7, lw_tbl[q.2.2]? = some (.constant (pe_rn 7) q.1 (Int32.ofInt q.2.1)) := by decide +kernel
theorem pe_l7_ok : ∀ q ∈ pe_l7, lw_tbl[q.2.2]? = some (.constantLong (pe_rn 7) q.1 (Int64.ofInt q.2.1)) := by decide +kernel
theorem pe_f8_ok : ∀ q ∈ pe_f8, lw_tbl[q.2.2.2]? = some (.fieldLink (pe_rn 8) q.1 ((pe_cl q.2.1).2.1 q.2.2.1).1 ((pe_cl q.2.1).2.1 q.2.2.1).2.1 ((pe_cl q.2.1).2.1 q.2.2.1).2.2.1) ∧ pe_kc q.2.1 = true ∧ q.2.2.1 < (pe_cl q.2.1).2.2 := by decide +kernel
theorem pe_g8_ok : ∀ q ∈ pe_g8, lw_tbl[q.2.2.2]? = some (.fieldLinkNest (pe_rn 8) q.1 ((pe_cl q.2.1).2.1 q.2.2.1).1 ((pe_cl q.2.1).2.1 q.2.2.1).2.1 ((pe_cl q.2.1).2.1 q.2.2.1).2.2.1 (pe_ho 8)) ∧ pe_kc q.2.1 = true ∧ q.2.2.1 < (pe_cl q.2.1).2.2 := by decide +kernel
theorem pe_i8_ok : ∀ q ∈ pe_i8, lw_tbl[q.2.2]? = some (.methodLink (pe_rn 8) q.1 (pe_me q.2.1).1) ∧ q.2.1 < pe_mn := by decide +kernel
theorem pe_j8_ok : ∀ q ∈ pe_j8, lw_tbl[q.2.2]? = some (.methodLinkNest (pe_rn 8) q.1 (pe_me q.2.1).1 (pe_ho 8)) ∧ q.2.1 < pe_mn := by decide +kernel
theorem pe_a8_ok : ∀ q ∈ pe_a8, lw_tbl[q.2]? = some (.methodLink (pe_rn 8) q.1 arraycopyName) := by decide +kernel
theorem pe_b8_ok : ∀ q ∈ pe_b8, lw_tbl[q.2]? = some (.methodLink (pe_rn 8) q.1 Lib.Math.min.name) := by decide +kernel
theorem pe_o8_ok : ∀ q ∈ pe_o8, lw_tbl[q.2]? = some (.methodLink (pe_rn 8) q.1 objectInit) := by decide +kernel
theorem pe_c8_ok : ∀ q ∈ pe_c8, lw_tbl[q.2.2]? = some (.classLink (pe_rn 8) q.1 (pe_cl q.2.1).1) ∧ pe_kc q.2.1 = true := by decide +kernel
theorem pe_k8_ok : ∀ q ∈ pe_k8, lw_tbl[q.2.2]? = some (.constant (pe_rn 8) q.1 (Int32.ofInt q.2.1)) := by decide +kernel
theorem pe_l8_ok : ∀ q ∈ pe_l8, lw_tbl[q.2.2]? = some (.constantLong (pe_rn 8) q.1 (Int64.ofInt q.2.1)) := by decide +kernel
theorem pe_f9_ok : ∀ q ∈ pe_f9, lw_tbl[q.2.2.2]? = some (.fieldLink (pe_rn 9) q.1 ((pe_cl q.2.1).2.1 q.2.2.1).1 ((pe_cl q.2.1).2.1 q.2.2.1).2.1 ((pe_cl q.2.1).2.1 q.2.2.1).2.2.1) ∧ pe_kc q.2.1 = true ∧ q.2.2.1 < (pe_cl q.2.1).2.2 := by decide +kernel
theorem pe_g9_ok : ∀ q ∈ pe_g9, lw_tbl[q.2.2.2]? = some (.fieldLinkNest (pe_rn 9) q.1 ((pe_cl q.2.1).2.1 q.2.2.1).1 ((pe_cl q.2.1).2.1 q.2.2.1).2.1 ((pe_cl q.2.1).2.1 q.2.2.1).2.2.1 (pe_ho 9)) ∧ pe_kc q.2.1 = true ∧ q.2.2.1 < (pe_cl q.2.1).2.2 := by decide +kernel
theorem pe_i9_ok : ∀ q ∈ pe_i9, lw_tbl[q.2.2]? = some (.methodLink (pe_rn 9) q.1 (pe_me q.2.1).1) ∧ q.2.1 < pe_mn := by decide +kernel
theorem pe_j9_ok : ∀ q ∈ pe_j9, lw_tbl[q.2.2]? = some (.methodLinkNest (pe_rn 9) q.1 (pe_me q.2.1).1 (pe_ho 9)) ∧ q.2.1 < pe_mn := by decide +kernel
theorem pe_a9_ok : ∀ q ∈ pe_a9, lw_tbl[q.2]? = some (.methodLink (pe_rn 9) q.1 arraycopyName) := by decide +kernel
theorem pe_b9_ok : ∀ q ∈ pe_b9, lw_tbl[q.2]? = some (.methodLink (pe_rn 9) q.1 Lib.Math.min.name) := by decide +kernel
theorem pe_o9_ok : ∀ q ∈ pe_o9, lw_tbl[q.2]? = some (.methodLink (pe_rn 9) q.1 objectInit) := by decide +kernel
theorem pe_c9_ok : ∀ q ∈ pe_c9, lw_tbl[q.2.2]? = some (.classLink (pe_rn 9) q.1 (pe_cl q.2.1).1) ∧ pe_kc q.2.1 = true := by decide +kernel
theorem pe_k9_ok : ∀ q ∈ pe_k9, lw_tbl[q.2.2]? = some (.constant (pe_rn 9) q.1 (Int32.ofInt q.2.1)) := by decide +kernel
theorem pe_l9_ok : ∀ q ∈ pe_l9, lw_tbl[q.2.2]? = some (.constantLong (pe_rn 9) q.1 (Int64.ofInt q.2.1)) := by decide +kernel
theorem pe_f11_ok : ∀ q ∈ pe_f11, lw_tbl[q.2.2.2]? = some (.fieldLink (pe_rn 11) q.1 ((pe_cl q.2.1).2.1 q.2.2.1).1 ((pe_cl q.2.1).2.1 q.2.2.1).2.1 ((pe_cl q.2.1).2.1 q.2.2.1).2.2.1) ∧ pe_kc q.2.1 = true ∧ q.2.2.1 < (pe_cl q.2.1).2.2 := by decide +kernel
theorem pe_g11_ok : ∀ q ∈ pe_g11, lw_tbl[q.2.2.2]? = some (.fieldLinkNest (pe_rn 11) q.1 ((pe_cl q.2.1).2.1 q.2.2.1).1 ((pe_cl q.2.1).2.1 q.2.2.1).2.1 ((pe_cl q.2.1).2.1 q.2.2.1).2.2.1 (pe_ho 11)) ∧ pe_kc q.2.1 = true ∧ q.2.2.1 < (pe_cl q.2.1).2.2 := by decide +kernel
theorem pe_i11_ok : ∀ q ∈ pe_i11, lw_tbl[q.2.2]? = some (.methodLink (pe_rn 11) q.1 (pe_me q.2.1).1) ∧ q.2.1 < pe_mn := by decide +kernel
theorem pe_j11_ok : ∀ q ∈ pe_j11, lw_tbl[q.2.2]? = some (.methodLinkNest (pe_rn 11) q.1 (pe_me q.2.1).1 (pe_ho 11)) ∧ q.2.1 < pe_mn := by decide +kernel
theorem pe_a11_ok : ∀ q ∈ pe_a11, lw_tbl[q.2]? = some (.methodLink (pe_rn 11) q.1 arraycopyName) := by decide +kernel
theorem pe_b11_ok : ∀ q ∈ pe_b11, lw_tbl[q.2]? = some (.methodLink (pe_rn 11) q.1 Lib.Math.min.name) := by decide +kernel
theorem pe_o11_ok : ∀ q ∈ pe_o11, lw_tbl[q.2]? = some (.methodLink (pe_rn 11) q.1 objectInit) := by decide +kernel
theorem pe_c11_ok : ∀ q ∈ pe_c11, lw_tbl[q.2.2]? = some (.classLink (pe_rn 11) q.1 (pe_cl q.2.1).1) ∧ pe_kc q.2.1 = true := by decide +kernel
theorem pe_k11_ok : ∀ q ∈ pe_k11, lw_tbl[q.2.2]? = some (.constant (pe_rn 11) q.1 (Int32.ofInt q.2.1)) := by decide +kernel
theorem pe_l11_ok : ∀ q ∈ pe_l11, lw_tbl[q.2.2]? = some (.constantLong (pe_rn 11) q.1 (Int64.ofInt q.2.1)) := by decide +kernel
theorem pe_f12_ok : ∀ q ∈ pe_f12, lw_tbl[q.2.2.2]? = some (.fieldLink (pe_rn 12) q.1 ((pe_cl q.2.1).2.1 q.2.2.1).1 ((pe_cl q.2.1).2.1 q.2.2.1).2.1 ((pe_cl q.2.1).2.1 q.2.2.1).2.2.1) ∧ pe_kc q.2.1 = true ∧ q.2.2.1 < (pe_cl q.2.1).2.2 := by decide +kernel
theorem pe_g12_ok : ∀ q ∈ pe_g12, lw_tbl[q.2.2.2]? = some (.fieldLinkNest (pe_rn 12) q.1 ((pe_cl q.2.1).2.1 q.2.2.1).1 ((pe_cl q.2.1).2.1 q.2.2.1).2.1 ((pe_cl q.2.1).2.1 q.2.2.1).2.2.1 (pe_ho 12)) ∧ pe_kc q.2.1 = true ∧ q.2.2.1 < (pe_cl q.2.1).2.2 := by decide +kernel
theorem pe_i12_ok : ∀ q ∈ pe_i12, lw_tbl[q.2.2]? = some (.methodLink (pe_rn 12) q.1 (pe_me q.2.1).1) ∧ q.2.1 < pe_mn := by decide +kernel
theorem pe_j12_ok : ∀ q ∈ pe_j12, lw_tbl[q.2.2]? = some (.methodLinkNest (pe_rn 12) q.1 (pe_me q.2.1).1 (pe_ho 12)) ∧ q.2.1 < pe_mn := by decide +kernel
theorem pe_a12_ok : ∀ q ∈ pe_a12, lw_tbl[q.2]? = some (.methodLink (pe_rn 12) q.1 arraycopyName) := by decide +kernel
theorem pe_b12_ok : ∀ q ∈ pe_b12, lw_tbl[q.2]? = some (.methodLink (pe_rn 12) q.1 Lib.Math.min.name) := by decide +kernel
theorem pe_o12_ok : ∀ q ∈ pe_o12, lw_tbl[q.2]? = some (.methodLink (pe_rn 12) q.1 objectInit) := by decide +kernel
theorem pe_c12_ok : ∀ q ∈ pe_c12, lw_tbl[q.2.2]? = some (.classLink (pe_rn 12) q.1 (pe_cl q.2.1).1) ∧ pe_kc q.2.1 = true := by decide +kernel
theorem pe_k12_ok : ∀ q ∈ pe_k12, lw_tbl[q.2.2]? = some (.constant (pe_rn 12) q.1 (Int32.ofInt q.2.1)) := by decide +kernel
theorem pe_l12_ok : ∀ q ∈ pe_l12, lw_tbl[q.2.2]? = some (.constantLong (pe_rn 12) q.1 (Int64.ofInt q.2.1)) := by decide +kernel
theorem pe_f13_ok : ∀ q ∈ pe_f13, lw_tbl[q.2.2.2]? = some (.fieldLink (pe_rn 13) q.1 ((pe_cl q.2.1).2.1 q.2.2.1).1 ((pe_cl q.2.1).2.1 q.2.2.1).2.1 ((pe_cl q.2.1).2.1 q.2.2.1).2.2.1) ∧ pe_kc q.2.1 = true ∧ q.2.2.1 < (pe_cl q.2.1).2.2 := by decide +kernel
theorem pe_g13_ok : ∀ q ∈ pe_g13, lw_tbl[q.2.2.2]? = some (.fieldLinkNest (pe_rn 13) q.1 ((pe_cl q.2.1).2.1 q.2.2.1).1 ((pe_cl q.2.1).2.1 q.2.2.1).2.1 ((pe_cl q.2.1).2.1 q.2.2.1).2.2.1 (pe_ho 13)) ∧ pe_kc q.2.1 = true ∧ q.2.2.1 < (pe_cl q.2.1).2.2 := by decide +kernel
theorem pe_i13_ok : ∀ q ∈ pe_i13, lw_tbl[q.2.2]? = some (.methodLink (pe_rn 13) q.1 (pe_me q.2.1).1) ∧ q.2.1 < pe_mn := by decide +kernel
theorem pe_j13_ok : ∀ q ∈ pe_j13, lw_tbl[q.2.2]? = some (.methodLinkNest (pe_rn 13) q.1 (pe_me q.2.1).1 (pe_ho 13)) ∧ q.2.1 < pe_mn := by decide +kernel
theorem pe_a13_ok : ∀ q ∈ pe_a13, lw_tbl[q.2]? = some (.methodLink (pe_rn 13) q.1 arraycopyName) := by decide +kernel
theorem pe_b13_ok : ∀ q ∈ pe_b13, lw_tbl[q.2]? = some (.methodLink (pe_rn 13) q.1 Lib.Math.min.name) := by decide +kernel
theorem pe_o13_ok : ∀ q ∈ pe_o13, lw_tbl[q.2]? = some (.methodLink (pe_rn 13) q.1 objectInit) := by decide +kernel
theorem pe_c13_ok : ∀ q ∈ pe_c13, lw_tbl[q.2.2]? = some (.classLink (pe_rn 13) q.1 (pe_cl q.2.1).1) ∧ pe_kc q.2.1 = true := by decide +kernel
theorem pe_k13_ok : ∀ q ∈ pe_k13, lw_tbl[q.2.2]? = some (.constant (pe_rn 13) q.1 (Int32.ofInt q.2.1)) := by decide +kernel
theorem pe_l13_ok : ∀ q ∈ pe_l13, lw_tbl[q.2.2]? = some (.constantLong (pe_rn 13) q.1 (Int64.ofInt q.2.1)) := by decide +kernel
theorem pe_f19_ok : ∀ q ∈ pe_f19, lw_tbl[q.2.2.2]? = some (.fieldLink (pe_rn 19) q.1 ((pe_cl q.2.1).2.1 q.2.2.1).1 ((pe_cl q.2.1).2.1 q.2.2.1).2.1 ((pe_cl q.2.1).2.1 q.2.2.1).2.2.1) ∧ pe_kc q.2.1 = true ∧ q.2.2.1 < (pe_cl q.2.1).2.2 := by decide +kernel
theorem pe_g19_ok : ∀ q ∈ pe_g19, lw_tbl[q.2.2.2]? = some (.fieldLinkNest (pe_rn 19) q.1 ((pe_cl q.2.1).2.1 q.2.2.1).1 ((pe_cl q.2.1).2.1 q.2.2.1).2.1 ((pe_cl q.2.1).2.1 q.2.2.1).2.2.1 (pe_ho 19)) ∧ pe_kc q.2.1 = true ∧ q.2.2.1 < (pe_cl q.2.1).2.2 := by decide +kernel
theorem pe_i19_ok : ∀ q ∈ pe_i19, lw_tbl[q.2.2]? = some (.methodLink (pe_rn 19) q.1 (pe_me q.2.1).1) ∧ q.2.1 < pe_mn := by decide +kernel
theorem pe_j19_ok : ∀ q ∈ pe_j19, lw_tbl[q.2.2]? = some (.methodLinkNest (pe_rn 19) q.1 (pe_me q.2.1).1 (pe_ho 19)) ∧ q.2.1 < pe_mn := by decide +kernel
theorem pe_a19_ok : ∀ q ∈ pe_a19, lw_tbl[q.2]? = some (.methodLink (pe_rn 19) q.1 arraycopyName) := by decide +kernel
theorem pe_b19_ok : ∀ q ∈ pe_b19, lw_tbl[q.2]? = some (.methodLink (pe_rn 19) q.1 Lib.Math.min.name) := by decide +kernel
theorem pe_o19_ok : ∀ q ∈ pe_o19, lw_tbl[q.2]? = some (.methodLink (pe_rn 19) q.1 objectInit) := by decide +kernel
theorem pe_c19_ok : ∀ q ∈ pe_c19, lw_tbl[q.2.2]? = some (.classLink (pe_rn 19) q.1 (pe_cl q.2.1).1) ∧ pe_kc q.2.1 = true := by decide +kernel
theorem pe_k19_ok : ∀ q ∈ pe_k19, lw_tbl[q.2.2]? = some (.constant (pe_rn 19) q.1 (Int32.ofInt q.2.1)) := by decide +kernel
theorem pe_l19_ok : ∀ q ∈ pe_l19, lw_tbl[q.2.2]? = some (.constantLong (pe_rn 19) q.1 (Int64.ofInt q.2.1)) := by decide +kernel
theorem pe_f20_ok : ∀ q ∈ pe_f20, lw_tbl[q.2.2.2]? = some (.fieldLink (pe_rn 20) q.1 ((pe_cl q.2.1).2.1 q.2.2.1).1 ((pe_cl q.2.1).2.1 q.2.2.1).2.1 ((pe_cl q.2.1).2.1 q.2.2.1).2.2.1) ∧ pe_kc q.2.1 = true ∧ q.2.2.1 < (pe_cl q.2.1).2.2 := by decide +kernel
theorem pe_g20_ok : ∀ q ∈ pe_g20, lw_tbl[q.2.2.2]? = some (.fieldLinkNest (pe_rn 20) q.1 ((pe_cl q.2.1).2.1 q.2.2.1).1 ((pe_cl q.2.1).2.1 q.2.2.1).2.1 ((pe_cl q.2.1).2.1 q.2.2.1).2.2.1 (pe_ho 20)) ∧ pe_kc q.2.1 = true ∧ q.2.2.1 < (pe_cl q.2.1).2.2 := by decide +kernel
theorem pe_i20_ok : ∀ q ∈ pe_i20, lw_tbl[q.2.2]? = some (.methodLink (pe_rn 20) q.1 (pe_me q.2.1).1) ∧ q.2.1 < pe_mn := by decide +kernel
theorem pe_j20_ok : ∀ q ∈ pe_j20, lw_tbl[q.2.2]? = some (.methodLinkNest (pe_rn 20) q.1 (pe_me q.2.1).1 (pe_ho 20)) ∧ q.2.1 < pe_mn := by decide +kernel
theorem pe_a20_ok : ∀ q ∈ pe_a20, lw_tbl[q.2]? = some (.methodLink (pe_rn 20) q.1 arraycopyName) := by decide +kernel
theorem pe_b20_ok : ∀ q ∈ pe_b20, lw_tbl[q.2]? = some (.methodLink (pe_rn 20) q.1 Lib.Math.min.name) := by decide +kernel
theorem pe_o20_ok : ∀ q ∈ pe_o20, lw_tbl[q.2]? = some (.methodLink (pe_rn 20) q.1 objectInit) := by decide +kernel
theorem pe_c20_ok : ∀ q ∈ pe_c20, lw_tbl[q.2.2]? = some (.classLink (pe_rn 20) q.1 (pe_cl q.2.1).1) ∧ pe_kc q.2.1 = true := by decide +kernel
theorem pe_k20_ok : ∀ q ∈ pe_k20, lw_tbl[q.2.2]? = some (.constant (pe_rn 20) q.1 (Int32.ofInt q.2.1)) := by decide +kernel
theorem pe_l20_ok : ∀ q ∈ pe_l20, lw_tbl[q.2.2]? = some (.constantLong (pe_rn 20) q.1 (Int64.ofInt q.2.1)) := by decide +kernel
theorem pe_f21_ok : ∀ q ∈ pe_f21, lw_tbl[q.2.2.2]? = some (.fieldLink (pe_rn 21) q.1 ((pe_cl q.2.1).2.1 q.2.2.1).1 ((pe_cl q.2.1).2.1 q.2.2.1).2.1 ((pe_cl q.2.1).2.1 q.2.2.1).2.2.1) ∧ pe_kc q.2.1 = true ∧ q.2.2.1 < (pe_cl q.2.1).2.2 := by decide +kernel
theorem pe_g21_ok : ∀ q ∈ pe_g21, lw_tbl[q.2.2.2]? = some (.fieldLinkNest (pe_rn 21) q.1 ((pe_cl q.2.1).2.1 q.2.2.1).1 ((pe_cl q.2.1).2.1 q.2.2.1).2.1 ((pe_cl q.2.1).2.1 q.2.2.1).2.2.1 (pe_ho 21)) ∧ pe_kc q.2.1 = true ∧ q.2.2.1 < (pe_cl q.2.1).2.2 := by decide +kernel
theorem pe_i21_ok : ∀ q ∈ pe_i21, lw_tbl[q.2.2]? = some (.methodLink (pe_rn 21) q.1 (pe_me q.2.1).1) ∧ q.2.1 < pe_mn := by decide +kernel
theorem pe_j21_ok : ∀ q ∈ pe_j21, lw_tbl[q.2.2]? = some (.methodLinkNest (pe_rn 21) q.1 (pe_me q.2.1).1 (pe_ho 21)) ∧ q.2.1 < pe_mn := by decide +kernel
theorem pe_a21_ok : ∀ q ∈ pe_a21, lw_tbl[q.2]? = some (.methodLink (pe_rn 21) q.1 arraycopyName) := by decide +kernel
theorem pe_b21_ok : ∀ q ∈ pe_b21, lw_tbl[q.2]? = some (.methodLink (pe_rn 21) q.1 Lib.Math.min.name) := by decide +kernel
theorem pe_o21_ok : ∀ q ∈ pe_o21, lw_tbl[q.2]? = some (.methodLink (pe_rn 21) q.1 objectInit) := by decide +kernel
theorem pe_c21_ok : ∀ q ∈ pe_c21, lw_tbl[q.2.2]? = some (.classLink (pe_rn 21) q.1 (pe_cl q.2.1).1) ∧ pe_kc q.2.1 = true := by decide +kernel
theorem pe_k21_ok : ∀ q ∈ pe_k21, lw_tbl[q.2.2]? = some (.constant (pe_rn 21) q.1 (Int32.ofInt q.2.1)) := by decide +kernel
theorem pe_l21_ok : ∀ q ∈ pe_l21, lw_tbl[q.2.2]? = some (.constantLong (pe_rn 21) q.1 (Int64.ofInt q.2.1)) := by decide +kernel
theorem pe_x_ok : lw_tbl[pe_xa.2]? = some (.classLink RL pe_xa.1 "[I") ∧ lw_tbl[pe_xm.2]? = some (.classLink RL pe_xm.1 "[[I") ∧ lw_tbl[pe_xs.2]? = some (.fieldLink RL pe_xs.1 RL "SIGNS" "[I") := by decide +kernel
end
section
/-- a method's rows stand in the table -/
def pe_mok (i : Nat) : Prop := match pe_me i with
  | (y, b, ml, rt, o, sty, _, na, pc, pi, ps) => lw_tbl[pc]? = some (.code y b ml rt) ∧ lw_tbl[pi]? = some (if sty = 2 then .static y else .instanceMethod y) ∧ (sty = 0 → lw_tbl[ps]? = some (.selects y.cls y y)) ∧ lw_tbl[pe_ip.getD o 0]? = some (.initialized y.cls) ∧ y.cls = pe_rn o ∧ (sty = 1 → y.name = "<init>" ∧ rt = none) ∧ sty < 3 ∧ plainName y.cls = true ∧ (y.cls ≠ "java/lang/invoke/MethodHandle" ∧ y.cls ≠ "java/lang/invoke/VarHandle") ∧ (parseMethodDescriptor y.desc).map (fun d => d.parameters.length) = some na ∧ ml ≤ 20 ∧ (rt = none ∨ rt = some .int ∨ rt = some .boolean ∨ rt = some .long ∨ (∃ C ∈ [RX0, RX1, RX2, RX3, RX4, RX5, RX6, RX7, RX8, RX9, RX10, RX11, RL], rt = some (.object C)) ∨ rt = some (.array .int))
theorem pe_mok0 : pe_mok 0 := by unfold pe_mok; decide +kernel
theorem pe_mok1 : pe_mok 1 := by unfold pe_mok; decide +kernel
theorem pe_mok2 : pe_mok 2 := by unfold pe_mok; decide +kernel
theorem pe_mok3 : pe_mok 3 := by unfold pe_mok; decide +kernel
theorem pe_mok4 : pe_mok 4 := by unfold pe_mok; decide +kernel
theorem pe_mok5 : pe_mok 5 := by unfold pe_mok; decide +kernel
theorem pe_mok6 : pe_mok 6 := by unfold pe_mok; decide +kernel
theorem pe_mok7 : pe_mok 7 := by unfold pe_mok; decide +kernel
theorem pe_mok8 : pe_mok 8 := by unfold pe_mok; decide +kernel
theorem pe_mok9 : pe_mok 9 := by unfold pe_mok; decide +kernel
theorem pe_mok10 : pe_mok 10 := by unfold pe_mok; decide +kernel
theorem pe_mok11 : pe_mok 11 := by unfold pe_mok; decide +kernel
theorem pe_mok12 : pe_mok 12 := by unfold pe_mok; decide +kernel
theorem pe_mok13 : pe_mok 13 := by unfold pe_mok; decide +kernel
theorem pe_mok14 : pe_mok 14 := by unfold pe_mok; decide +kernel
theorem pe_mok15 : pe_mok 15 := by unfold pe_mok; decide +kernel
theorem pe_mok16 : pe_mok 16 := by unfold pe_mok; decide +kernel
theorem pe_mok17 : pe_mok 17 := by unfold pe_mok; decide +kernel
theorem pe_mok19 : pe_mok 19 := by unfold pe_mok; decide +kernel
theorem pe_mok20 : pe_mok 20 := by unfold pe_mok; decide +kernel
theorem pe_mok21 : pe_mok 21 := by unfold pe_mok; decide +kernel
theorem pe_mok22 : pe_mok 22 := by unfold pe_mok; decide +kernel
theorem pe_mok23 : pe_mok 23 := by unfold pe_mok; decide +kernel
theorem pe_mok24 : pe_mok 24 := by unfold pe_mok; decide +kernel
theorem pe_mok25 : pe_mok 25 := by unfold pe_mok; decide +kernel
theorem pe_mok26 : pe_mok 26 := by unfold pe_mok; decide +kernel
theorem pe_mok27 : pe_mok 27 := by unfold pe_mok; decide +kernel
theorem pe_mok28 : pe_mok 28 := by unfold pe_mok; decide +kernel
theorem pe_mok30 : pe_mok 30 := by unfold pe_mok; decide +kernel
theorem pe_mok31 : pe_mok 31 := by unfold pe_mok; decide +kernel
theorem pe_mok32 : pe_mok 32 := by unfold pe_mok; decide +kernel
theorem pe_mok33 : pe_mok 33 := by unfold pe_mok; decide +kernel
theorem pe_mok34 : pe_mok 34 := by unfold pe_mok; decide +kernel
theorem pe_mok35 : pe_mok 35 := by unfold pe_mok; decide +kernel
theorem pe_mok36 : pe_mok 36 := by unfold pe_mok; decide +kernel
theorem pe_mok37 : pe_mok 37 := by unfold pe_mok; decide +kernel
theorem pe_mok38 : pe_mok 38 := by unfold pe_mok; decide +kernel
theorem pe_mok39 : pe_mok 39 := by unfold pe_mok; decide +kernel
theorem pe_mok40 : pe_mok 40 := by unfold pe_mok; decide +kernel
theorem pe_mok41 : pe_mok 41 := by unfold pe_mok; decide +kernel
theorem pe_mok42 : pe_mok 42 := by unfold pe_mok; decide +kernel
theorem pe_mok43 : pe_mok 43 := by unfold pe_mok; decide +kernel
theorem pe_mok44 : pe_mok 44 := by unfold pe_mok; decide +kernel
theorem pe_mok48 : pe_mok 48 := by unfold pe_mok; decide +kernel
theorem pe_mok49 : pe_mok 49 := by unfold pe_mok; decide +kernel
theorem pe_mok50 : pe_mok 50 := by unfold pe_mok; decide +kernel
theorem pe_mok51 : pe_mok 51 := by unfold pe_mok; decide +kernel
theorem pe_mok52 : pe_mok 52 := by unfold pe_mok; decide +kernel
theorem pe_mok53 : pe_mok 53 := by unfold pe_mok; decide +kernel
theorem pe_mok54 : pe_mok 54 := by unfold pe_mok; decide +kernel
theorem pe_mok55 : pe_mok 55 := by unfold pe_mok; decide +kernel
theorem pe_mok56 : pe_mok 56 := by unfold pe_mok; decide +kernel
theorem pe_mok57 : pe_mok 57 := by unfold pe_mok; decide +kernel
theorem pe_mok58 : pe_mok 58 := by unfold pe_mok; decide +kernel
theorem pe_mok60 : pe_mok 60 := by unfold pe_mok; decide +kernel
theorem pe_mok61 : pe_mok 61 := by unfold pe_mok; decide +kernel
theorem pe_mok63 : pe_mok 63 := by unfold pe_mok; decide +kernel
theorem pe_mok64 : pe_mok 64 := by unfold pe_mok; decide +kernel
theorem pe_mok65 : pe_mok 65 := by unfold pe_mok; decide +kernel
theorem pe_mok66 : pe_mok 66 := by unfold pe_mok; decide +kernel
theorem pe_mok67 : pe_mok 67 := by unfold pe_mok; decide +kernel
theorem pe_mok68 : pe_mok 68 := by unfold pe_mok; decide +kernel
theorem pe_mok69 : pe_mok 69 := by unfold pe_mok; decide +kernel
theorem pe_mok70 : pe_mok 70 := by unfold pe_mok; decide +kernel
theorem pe_mok71 : pe_mok 71 := by unfold pe_mok; decide +kernel
theorem pe_mok72 : pe_mok 72 := by unfold pe_mok; decide +kernel
theorem pe_mok73 : pe_mok 73 := by unfold pe_mok; decide +kernel
theorem pe_mok74 : pe_mok 74 := by unfold pe_mok; decide +kernel
theorem pe_mok75 : pe_mok 75 := by unfold pe_mok; decide +kernel
theorem pe_mok76 : pe_mok 76 := by unfold pe_mok; decide +kernel
theorem pe_mok77 : pe_mok 77 := by unfold pe_mok; decide +kernel
theorem pe_mok78 : pe_mok 78 := by unfold pe_mok; decide +kernel
theorem pe_mok79 : pe_mok 79 := by unfold pe_mok; decide +kernel
theorem pe_mok80 : pe_mok 80 := by unfold pe_mok; decide +kernel
theorem pe_mok82 : pe_mok 82 := by unfold pe_mok; decide +kernel
theorem pe_mok83 : pe_mok 83 := by unfold pe_mok; decide +kernel
theorem pe_mok84 : pe_mok 84 := by unfold pe_mok; decide +kernel
theorem pe_mok85 : pe_mok 85 := by unfold pe_mok; decide +kernel
theorem pe_mok86 : pe_mok 86 := by unfold pe_mok; decide +kernel
theorem pe_mok87 : pe_mok 87 := by unfold pe_mok; decide +kernel
theorem pe_mok88 : pe_mok 88 := by unfold pe_mok; decide +kernel
theorem pe_mok89 : pe_mok 89 := by unfold pe_mok; decide +kernel
theorem pe_mok90 : pe_mok 90 := by unfold pe_mok; decide +kernel
theorem pe_mok91 : pe_mok 91 := by unfold pe_mok; decide +kernel
theorem pe_mok92 : pe_mok 92 := by unfold pe_mok; decide +kernel
theorem pe_mok93 : pe_mok 93 := by unfold pe_mok; decide +kernel
theorem pe_mok94 : pe_mok 94 := by unfold pe_mok; decide +kernel
theorem pe_mok96 : pe_mok 96 := by unfold pe_mok; decide +kernel
theorem pe_mok106 : pe_mok 106 := by unfold pe_mok; decide +kernel
theorem pe_mok107 : pe_mok 107 := by unfold pe_mok; decide +kernel
theorem pe_mok108 : pe_mok 108 := by unfold pe_mok; decide +kernel
theorem pe_mok109 : pe_mok 109 := by unfold pe_mok; decide +kernel
theorem pe_mok110 : pe_mok 110 := by unfold pe_mok; decide +kernel
theorem pe_mok111 : pe_mok 111 := by unfold pe_mok; decide +kernel
theorem pe_mok115 : pe_mok 115 := by unfold pe_mok; decide +kernel
theorem pe_mok116 : pe_mok 116 := by unfold pe_mok; decide +kernel
theorem pe_mok117 : pe_mok 117 := by unfold pe_mok; decide +kernel
theorem pe_mok119 : pe_mok 119 := by unfold pe_mok; decide +kernel
theorem pe_mok120 : pe_mok 120 := by unfold pe_mok; decide +kernel
theorem pe_mok121 : pe_mok 121 := by unfold pe_mok; decide +kernel
theorem pe_mok122 : pe_mok 122 := by unfold pe_mok; decide +kernel
theorem pe_mok132 : pe_mok 132 := by unfold pe_mok; decide +kernel
theorem pe_mok133 : pe_mok 133 := by unfold pe_mok; decide +kernel
theorem pe_mok134 : pe_mok 134 := by unfold pe_mok; decide +kernel
theorem pe_mok135 : pe_mok 135 := by unfold pe_mok; decide +kernel
theorem pe_mok136 : pe_mok 136 := by unfold pe_mok; decide +kernel
theorem pe_mok137 : pe_mok 137 := by unfold pe_mok; decide +kernel
theorem pe_mok138 : pe_mok 138 := by unfold pe_mok; decide +kernel
theorem pe_mok139 : pe_mok 139 := by unfold pe_mok; decide +kernel
theorem pe_mok140 : pe_mok 140 := by unfold pe_mok; decide +kernel
theorem pe_mok141 : pe_mok 141 := by unfold pe_mok; decide +kernel
theorem pe_mok142 : pe_mok 142 := by unfold pe_mok; decide +kernel
theorem pe_mok143 : pe_mok 143 := by unfold pe_mok; decide +kernel
theorem pe_mok144 : pe_mok 144 := by unfold pe_mok; decide +kernel
theorem pe_mok145 : pe_mok 145 := by unfold pe_mok; decide +kernel
theorem pe_mok146 : pe_mok 146 := by unfold pe_mok; decide +kernel
theorem pe_mok147 : pe_mok 147 := by unfold pe_mok; decide +kernel
theorem pe_mok148 : pe_mok 148 := by unfold pe_mok; decide +kernel
theorem pe_mok149 : pe_mok 149 := by unfold pe_mok; decide +kernel
theorem pe_mok150 : pe_mok 150 := by unfold pe_mok; decide +kernel
theorem pe_mok151 : pe_mok 151 := by unfold pe_mok; decide +kernel
theorem pe_mok152 : pe_mok 152 := by unfold pe_mok; decide +kernel
theorem pe_mok153 : pe_mok 153 := by unfold pe_mok; decide +kernel
theorem pe_mok154 : pe_mok 154 := by unfold pe_mok; decide +kernel
theorem pe_mok155 : pe_mok 155 := by unfold pe_mok; decide +kernel
theorem pe_mok156 : pe_mok 156 := by unfold pe_mok; decide +kernel
theorem pe_mok157 : pe_mok 157 := by unfold pe_mok; decide +kernel
theorem pe_mok158 : pe_mok 158 := by unfold pe_mok; decide +kernel
theorem pe_mok159 : pe_mok 159 := by unfold pe_mok; decide +kernel
theorem pe_mok160 : pe_mok 160 := by unfold pe_mok; decide +kernel
theorem pe_mok161 : pe_mok 161 := by unfold pe_mok; decide +kernel
theorem pe_mok162 : pe_mok 162 := by unfold pe_mok; decide +kernel
theorem pe_mok163 : pe_mok 163 := by unfold pe_mok; decide +kernel
theorem pe_mok164 : pe_mok 164 := by unfold pe_mok; decide +kernel
theorem pe_mok165 : pe_mok 165 := by unfold pe_mok; decide +kernel
theorem pe_mok166 : pe_mok 166 := by unfold pe_mok; decide +kernel
theorem pe_mok167 : pe_mok 167 := by unfold pe_mok; decide +kernel
theorem pe_mok168 : pe_mok 168 := by unfold pe_mok; decide +kernel
theorem pe_mok169 : pe_mok 169 := by unfold pe_mok; decide +kernel
theorem pe_mok170 : pe_mok 170 := by unfold pe_mok; decide +kernel
end
section
set_option maxRecDepth 100000 in
set_option maxHeartbeats 4000000 in
theorem pe_mok171 : pe_mok 171 := by
  unfold pe_mok
  refine ⟨rfl, ?_⟩
  decide +kernel
end
section
set_option maxRecDepth 100000 in
set_option maxHeartbeats 4000000 in
theorem pe_mok172 : pe_mok 172 := by
  unfold pe_mok
  refine ⟨rfl, ?_⟩
  decide +kernel
end
section
theorem pe_mok245 : pe_mok 245 := by unfold pe_mok; decide +kernel
theorem pe_mok246 : pe_mok 246 := by unfold pe_mok; decide +kernel
set_option maxRecDepth 20000 in
theorem pe_mok_all : ∀ i, i < pe_mn → i ≠ pe_ml → pe_mok i := by
  intro i hi hl
  match i, hi, hl with
  | 0, _, _ => exact pe_mok0
  | 1, _, _ => exact pe_mok1
  | 2, _, _ => exact pe_mok2
  | 3, _, _ => exact pe_mok3
  | 4, _, _ => exact pe_mok4
  | 5, _, _ => exact pe_mok5
  | 6, _, _ => exact pe_mok6
  | 7, _, _ => exact pe_mok7
  | 8, _, _ => exact pe_mok8
  | 9, _, _ => exact pe_mok9
  | 10, _, _ => exact pe_mok10
  | 11, _, _ => exact pe_mok11
  | 12, _, _ => exact pe_mok12
  | 13, _, _ => exact pe_mok13
  | 14, _, _ => exact pe_mok14
  | 15, _, _ => exact pe_mok15
  | 16, _, _ => exact pe_mok16
  | 17, _, _ => exact pe_mok17
  | 18, _, _ => exact pe_mok0
  | 19, _, _ => exact pe_mok19
  | 20, _, _ => exact pe_mok20
  | 21, _, _ => exact pe_mok21
  | 22, _, _ => exact pe_mok22
  | 23, _, _ => exact pe_mok23
  | 24, _, _ => exact pe_mok24
  | 25, _, _ => exact pe_mok25
  | 26, _, _ => exact pe_mok26
  | 27, _, _ => exact pe_mok27
  | 28, _, _ => exact pe_mok28
  | 29, _, _ => exact pe_mok0
  | 30, _, _ => exact pe_mok30
  | 31, _, _ => exact pe_mok31
  | 32, _, _ => exact pe_mok32
  | 33, _, _ => exact pe_mok33
  | 34, _, _ => exact pe_mok34
  | 35, _, _ => exact pe_mok35
  | 36, _, _ => exact pe_mok36
  | 37, _, _ => exact pe_mok37
  | 38, _, _ => exact pe_mok38
  | 39, _, _ => exact pe_mok39
  | 40, _, _ => exact pe_mok40
  | 41, _, _ => exact pe_mok41
  | 42, _, _ => exact pe_mok42
  | 43, _, _ => exact pe_mok43
  | 44, _, _ => exact pe_mok44
  | 45, _, _ => exact pe_mok0
  | 46, _, _ => exact pe_mok0
  | 47, _, _ => exact pe_mok0
  | 48, _, _ => exact pe_mok48
  | 49, _, _ => exact pe_mok49
  | 50, _, _ => exact pe_mok50
  | 51, _, _ => exact pe_mok51
  | 52, _, _ => exact pe_mok52
  | 53, _, _ => exact pe_mok53
  | 54, _, _ => exact pe_mok54
  | 55, _, _ => exact pe_mok55
  | 56, _, _ => exact pe_mok56
  | 57, _, _ => exact pe_mok57
  | 58, _, _ => exact pe_mok58
  | 59, _, _ => exact pe_mok0
  | 60, _, _ => exact pe_mok60
  | 61, _, _ => exact pe_mok61
  | 62, _, _ => exact pe_mok0
  | 63, _, _ => exact pe_mok63
  | 64, _, _ => exact pe_mok64
  | 65, _, _ => exact pe_mok65
  | 66, _, _ => exact pe_mok66
  | 67, _, _ => exact pe_mok67
  | 68, _, _ => exact pe_mok68
  | 69, _, _ => exact pe_mok69
  | 70, _, _ => exact pe_mok70
  | 71, _, _ => exact pe_mok71
  | 72, _, _ => exact pe_mok72
  | 73, _, _ => exact pe_mok73
  | 74, _, _ => exact pe_mok74
  | 75, _, _ => exact pe_mok75
  | 76, _, _ => exact pe_mok76
  | 77, _, _ => exact pe_mok77
  | 78, _, _ => exact pe_mok78
  | 79, _, _ => exact pe_mok79
  | 80, _, _ => exact pe_mok80
  | 81, _, _ => exact pe_mok0
  | 82, _, _ => exact pe_mok82
  | 83, _, _ => exact pe_mok83
  | 84, _, _ => exact pe_mok84
  | 85, _, _ => exact pe_mok85
  | 86, _, _ => exact pe_mok86
  | 87, _, _ => exact pe_mok87
  | 88, _, _ => exact pe_mok88
  | 89, _, _ => exact pe_mok89
  | 90, _, _ => exact pe_mok90
  | 91, _, _ => exact pe_mok91
  | 92, _, _ => exact pe_mok92
  | 93, _, _ => exact pe_mok93
  | 94, _, _ => exact pe_mok94
  | 95, _, _ => exact pe_mok0
  | 96, _, _ => exact pe_mok96
  | 97, _, _ => exact pe_mok0
  | 98, _, _ => exact pe_mok0
  | 99, _, _ => exact pe_mok0
  | 100, _, _ => exact pe_mok0
  | 101, _, _ => exact pe_mok0
  | 102, _, _ => exact pe_mok0
  | 103, _, _ => exact pe_mok0
  | 104, _, _ => exact pe_mok0
  | 105, _, _ => exact pe_mok0
  | 106, _, _ => exact pe_mok106
  | 107, _, _ => exact pe_mok107
  | 108, _, _ => exact pe_mok108
  | 109, _, _ => exact pe_mok109
  | 110, _, _ => exact pe_mok110
  | 111, _, _ => exact pe_mok111
  | 112, _, _ => exact pe_mok0
  | 113, _, _ => exact pe_mok0
  | 114, _, _ => exact pe_mok0
  | 115, _, _ => exact pe_mok115
  | 116, _, _ => exact pe_mok116
  | 117, _, _ => exact pe_mok117
  | 118, _, _ => exact pe_mok0
  | 119, _, _ => exact pe_mok119
  | 120, _, _ => exact pe_mok120
  | 121, _, _ => exact pe_mok121
  | 122, _, _ => exact pe_mok122
  | 123, _, _ => exact pe_mok0
  | 124, _, _ => exact pe_mok0
  | 125, _, _ => exact pe_mok0
  | 126, _, _ => exact pe_mok0
  | 127, _, _ => exact pe_mok0
  | 128, _, _ => exact pe_mok0
  | 129, _, _ => exact pe_mok0
  | 130, _, _ => exact pe_mok0
  | 131, _, _ => exact pe_mok0
  | 132, _, _ => exact pe_mok132
  | 133, _, _ => exact pe_mok133
  | 134, _, _ => exact pe_mok134
  | 135, _, _ => exact pe_mok135
  | 136, _, _ => exact pe_mok136
  | 137, _, _ => exact pe_mok137
  | 138, _, _ => exact pe_mok138
  | 139, _, _ => exact pe_mok139
  | 140, _, _ => exact pe_mok140
  | 141, _, _ => exact pe_mok141
  | 142, _, _ => exact pe_mok142
  | 143, _, _ => exact pe_mok143
  | 144, _, _ => exact pe_mok144
  | 145, _, _ => exact pe_mok145
  | 146, _, _ => exact pe_mok146
  | 147, _, _ => exact pe_mok147
  | 148, _, _ => exact pe_mok148
  | 149, _, _ => exact pe_mok149
  | 150, _, _ => exact pe_mok150
  | 151, _, _ => exact pe_mok151
  | 152, _, _ => exact pe_mok152
  | 153, _, _ => exact pe_mok153
  | 154, _, _ => exact pe_mok154
  | 155, _, _ => exact pe_mok155
  | 156, _, _ => exact pe_mok156
  | 157, _, _ => exact pe_mok157
  | 158, _, _ => exact pe_mok158
  | 159, _, _ => exact pe_mok159
  | 160, _, _ => exact pe_mok160
  | 161, _, _ => exact pe_mok161
  | 162, _, _ => exact pe_mok162
  | 163, _, _ => exact pe_mok163
  | 164, _, _ => exact pe_mok164
  | 165, _, _ => exact pe_mok165
  | 166, _, _ => exact pe_mok166
  | 167, _, _ => exact pe_mok167
  | 168, _, _ => exact pe_mok168
  | 169, _, _ => exact pe_mok169
  | 170, _, _ => exact pe_mok170
  | 171, _, _ => exact pe_mok171
  | 172, _, _ => exact pe_mok172
  | 173, _, _ => exact pe_mok0
  | 174, _, _ => exact pe_mok0
  | 175, _, _ => exact pe_mok0
  | 176, _, _ => exact pe_mok0
  | 177, _, _ => exact pe_mok0
  | 178, _, _ => exact pe_mok0
  | 179, _, _ => exact pe_mok0
  | 180, _, _ => exact pe_mok0
  | 181, _, _ => exact pe_mok0
  | 182, _, _ => exact pe_mok0
  | 183, _, _ => exact pe_mok0
  | 184, _, _ => exact pe_mok0
  | 185, _, _ => exact pe_mok0
  | 186, _, _ => exact pe_mok0
  | 187, _, _ => exact pe_mok0
  | 188, _, _ => exact pe_mok0
  | 189, _, _ => exact pe_mok0
  | 190, _, _ => exact pe_mok0
  | 191, _, _ => exact pe_mok0
  | 192, _, _ => exact pe_mok0
  | 193, _, _ => exact pe_mok0
  | 194, _, _ => exact pe_mok0
  | 195, _, _ => exact pe_mok0
  | 196, _, _ => exact pe_mok0
  | 197, _, _ => exact pe_mok0
  | 198, _, _ => exact pe_mok0
  | 199, _, _ => exact pe_mok0
  | 200, _, _ => exact pe_mok0
  | 201, _, _ => exact pe_mok0
  | 202, _, _ => exact pe_mok0
  | 203, _, _ => exact pe_mok0
  | 204, _, _ => exact pe_mok0
  | 205, _, _ => exact pe_mok0
  | 206, _, _ => exact pe_mok0
  | 207, _, _ => exact pe_mok0
  | 208, _, _ => exact pe_mok0
  | 209, _, _ => exact pe_mok0
  | 210, _, _ => exact pe_mok0
  | 211, _, _ => exact pe_mok0
  | 212, _, _ => exact pe_mok0
  | 213, _, _ => exact pe_mok0
  | 214, _, _ => exact pe_mok0
  | 215, _, _ => exact pe_mok0
  | 216, _, _ => exact pe_mok0
  | 217, _, _ => exact pe_mok0
  | 218, _, _ => exact pe_mok0
  | 219, _, _ => exact pe_mok0
  | 220, _, _ => exact pe_mok0
  | 221, _, _ => exact pe_mok0
  | 222, _, _ => exact pe_mok0
  | 223, _, _ => exact pe_mok0
  | 224, _, _ => exact pe_mok0
  | 225, _, _ => exact pe_mok0
  | 226, _, _ => exact pe_mok0
  | 227, _, _ => exact pe_mok0
  | 228, _, _ => exact pe_mok0
  | 229, _, _ => exact pe_mok0
  | 230, _, _ => exact pe_mok0
  | 231, _, _ => exact pe_mok0
  | 232, _, _ => exact pe_mok0
  | 233, _, _ => exact pe_mok0
  | 234, _, _ => exact pe_mok0
  | 235, _, _ => exact pe_mok0
  | 236, _, _ => exact pe_mok0
  | 237, _, _ => exact pe_mok0
  | 238, _, _ => exact pe_mok0
  | 239, _, _ => exact pe_mok0
  | 240, _, _ => exact pe_mok0
  | 241, _, _ => exact pe_mok0
  | 242, _, _ => exact pe_mok0
  | 243, _, _ => exact pe_mok0
  | 244, _, h => exact absurd rfl h
  | 245, _, _ => exact pe_mok245
  | 246, _, _ => exact pe_mok246
  | i + 247, h, _ => exact absurd h (Nat.not_lt.mpr (Nat.le_add_left 247 i))
theorem pe_ini_ok : ∀ i, i < pe_mn → ((pe_me i).2.2.2.2.2.2.1 = true ↔ (pe_me i).2.2.2.2.2.1 = 1) := by decide +kernel
theorem pe_tgood : lw_tbl.all (fun w => goodWord w || true) = true := by decide +kernel
end
section
/-! A STEP of the pure machine, and what runs -/
abbrev pe_R2 : Type := List Prop × pe_S
def pe_psh (len : Nat) (v : pe_V) (S : pe_S) : Option pe_R2 := some ([], (S.1 + len, S.2.1, v :: S.2.2.1, S.2.2.2))
def pe_ldi (len k : Nat) (S : pe_S) : Option pe_R2 := match pe_ld S.2.1 k with
  | some (.inl x) => pe_psh len (.inl x) S
  | _ => none
def pe_ldl (len k : Nat) (S : pe_S) : Option pe_R2 := match pe_ld S.2.1 k with
  | some (.inr (.inl x)) => pe_psh len (.inr (.inl x)) S
  | _ => none
def pe_lda (len k : Nat) (S : pe_S) : Option pe_R2 := match pe_ld S.2.1 k with
  | some (.inr (.inr x)) => pe_psh len (.inr (.inr x)) S
  | _ => none
def pe_sti (len k : Nat) (S : pe_S) : Option pe_R2 := match S.2.2.1 with
  | .inl x :: st => if k < S.2.1.length then some ([], (S.1 + len, pe_st1 S.2.1 k (.inl x), st, S.2.2.2)) else none
  | _ => none
def pe_stl (len k : Nat) (S : pe_S) : Option pe_R2 := match S.2.2.1 with
  | .inr (.inl x) :: st => if k + 1 < S.2.1.length then some ([], (S.1 + len, pe_st2 S.2.1 k (.inr (.inl x)), st, S.2.2.2)) else none
  | _ => none
def pe_sta (len k : Nat) (S : pe_S) : Option pe_R2 := match S.2.2.1 with
  | .inr (.inr x) :: st => if k < S.2.1.length then some ([], (S.1 + len, pe_st1 S.2.1 k (.inr (.inr x)), st, S.2.2.2)) else none
  | _ => none
def pe_ii (f : Int → Int → List Prop × Int) (S : pe_S) : Option pe_R2 := match S.2.2.1 with
  | .inl y :: .inl x :: st => some ((f x y).1, (S.1 + 1, S.2.1, .inl (f x y).2 :: st, S.2.2.2))
  | _ => none
def pe_ll (f : Int → Int → List Prop × Int) (S : pe_S) : Option pe_R2 := match S.2.2.1 with
  | .inr (.inl y) :: .inr (.inl x) :: st => some ((f x y).1, (S.1 + 1, S.2.1, .inr (.inl (f x y).2) :: st, S.2.2.2))
  | _ => none
def pe_x1 (f : Int → pe_V) (S : pe_S) : Option pe_R2 := match S.2.2.1 with
  | .inl x :: st => some ([], (S.1 + 1, S.2.1, f x :: st, S.2.2.2))
  | _ => none
def pe_y1 (f : Int → pe_V) (S : pe_S) : Option pe_R2 := match S.2.2.1 with
  | .inr (.inl x) :: st => some ([], (S.1 + 1, S.2.1, f x :: st, S.2.2.2))
  | _ => none
def pe_cb (c : Jvm.ClassFile.Cond) (x y : Int) : Bool := match c with
  | .eq => decide (x = y)
  | .ne => decide (¬ x = y)
  | .lt => decide (x < y)
  | .ge => decide (y ≤ x)
  | .gt => decide (y < x)
  | .le => decide (x ≤ y)
def pe_br (c : Bool) (off : Int) (S : pe_S) (st : List pe_V) : Option pe_R2 := match (S.1 : Int) + off with
  | .ofNat t => some ([], (cond c t (S.1 + 3), S.2.1, st, S.2.2.2))
  | _ => none
def pe_sw (d : Int) (ps : List (Int × Int)) (x : Int) : Int := match ps with
  | [] => d
  | (a, o) :: ps => if x = a then o else pe_sw d ps x
def pe_tbl (lo : Int) (os : List Int) : List (Int × Int) := match os with
  | [] => []
  | o :: os => (lo, o) :: pe_tbl (lo + 1) os
def pe_ok (pc : Nat) (os : List Int) : Bool := os.all (fun o => decide (0 ≤ (pc : Int) + o))
def pe_jmp (os : List Int) (off : Int → Int) (S : pe_S) : Option pe_R2 := match S.2.2.1 with
  | .inl x :: st => if pe_ok S.1 os then some ([], (((S.1 : Int) + off (pe_w x)).toNat, S.2.1, st, S.2.2.2)) else none
  | _ => none
def pe_fd (o i : Nat) : Option (Nat × Nat × Nat) := match pe_go (pe_fT o) i with
  | some x => some x
  | none => pe_go (pe_gT o) i
def pe_fty (c j : Nat) : Nat := pe_tc (pe_ty c j)
def pe_fin (c j : Nat) : Bool := ((pe_cl c).2.1 j).2.2.2
def pe_gf (o i : Nat) (S : pe_S) : Option pe_R2 := match S.2.2.1, pe_fd o i with
  | .inr (.inr r) :: st, some (c, j, _) => match pe_fty c j with
    | 0 => some ([pe_K S.2.2.2 r = c], (S.1 + 3, S.2.1, .inl (pe_I S.2.2.2 r j) :: st, S.2.2.2))
    | 3 => some ([pe_K S.2.2.2 r = c], (S.1 + 3, S.2.1, .inl (pe_I S.2.2.2 r j) :: st, S.2.2.2))
    | 2 => some ([pe_K S.2.2.2 r = c], (S.1 + 3, S.2.1, .inr (.inr (pe_R S.2.2.2 r j)) :: st, S.2.2.2))
    | _ => none
  | _, _ => none
def pe_pf (o : Nat) (ini : Bool) (i : Nat) (S : pe_S) : Option pe_R2 := match S.2.2.1, pe_fd o i with
  | .inl x :: .inr (.inr r) :: st, some (c, j, _) => if pe_fin c j && !(ini && Nat.beq o c) then none else match pe_fty c j with
    | 0 => some ([pe_K S.2.2.2 r = c], (S.1 + 3, S.2.1, st, pe_wI S.2.2.2 r j x))
    | 3 => some ([pe_K S.2.2.2 r = c, x = 0 ∨ x = 1], (S.1 + 3, S.2.1, st, pe_wI S.2.2.2 r j x))
    | _ => none
  | .inr (.inr q) :: .inr (.inr r) :: st, some (c, j, _) => if pe_fin c j && !(ini && Nat.beq o c) then none else match pe_fty c j with
    | 2 => some ([pe_K S.2.2.2 r = c], (S.1 + 3, S.2.1, st, pe_wR S.2.2.2 r j q))
    | _ => none
  | _, _ => none
/-- an array's element read: its kinds -/
def pe_al (g : Nat → Prop) (v : pe_H → Nat → Int → pe_V) (S : pe_S) : Option pe_R2 := match S.2.2.1 with
  | .inl x :: .inr (.inr r) :: st => some ([g (pe_K S.2.2.2 r), 0 ≤ pe_w x, pe_w x < pe_L S.2.2.2 r], (S.1 + 1, S.2.1, v S.2.2.2 r (pe_w x) :: st, S.2.2.2))
  | _ => none
def pe_as (S : pe_S) : Option pe_R2 := match S.2.2.1 with
  | .inl y :: .inl x :: .inr (.inr r) :: st => some ([pe_K S.2.2.2 r = 10, 0 ≤ pe_w x, pe_w x < pe_L S.2.2.2 r, 2 ≤ r], (S.1 + 1, S.2.1, st, pe_wI S.2.2.2 r (pe_w x) y))
  | _ => none
def pe_rs (S : pe_S) : Option pe_R2 := match S.2.2.1 with
  | .inr (.inr q) :: .inl x :: .inr (.inr r) :: st => some ([12 ≤ pe_K S.2.2.2 r ∧ pe_K S.2.2.2 r < 19, q = 0 ∨ pe_K S.2.2.2 r = pe_ak (pe_K S.2.2.2 q), 0 ≤ pe_w x, pe_w x < pe_L S.2.2.2 r, 2 ≤ r], (S.1 + 1, S.2.1, st, pe_wR S.2.2.2 r (pe_w x) q))
  | _ => none
def pe_nw (o i : Nat) (S : pe_S) : Option pe_R2 := match pe_go (pe_cT o) i with
  | some (c, _) => some ([], (S.1 + 3, S.2.1, .inr (.inr (pe_n S.2.2.2)) :: S.2.2.1, pe_new S.2.2.2 c 0 (pe_cl c).2.2))
  | _ => none
def pe_na (k len : Nat) (S : pe_S) : Option pe_R2 := match S.2.2.1 with
  | .inl x :: st => some ([0 ≤ pe_w x, pe_w x ≤ 10000], (S.1 + len, S.2.1, .inr (.inr (pe_n S.2.2.2)) :: st, pe_new S.2.2.2 k (pe_w x) (pe_w x).toNat))
  | _ => none
/-- the law's own: references into its arrays -/
def pe_rsL (S : pe_S) : Option pe_R2 := match S.2.2.1 with
  | .inr (.inr q) :: .inl x :: .inr (.inr r) :: st => some ([22 ≤ pe_K S.2.2.2 r ∧ pe_K S.2.2.2 r < 25, q = 0 ∨ (3 ≤ q ∧ pe_K S.2.2.2 q = pe_ek (pe_K S.2.2.2 r)), 0 ≤ pe_w x, pe_w x < pe_L S.2.2.2 r, 3 ≤ r], (S.1 + 1, S.2.1, st, pe_wR S.2.2.2 r (pe_w x) q))
  | _ => none
/-- an array of n arrays of m ints each: numbers in this order -/
def pe_mn2 (σ : pe_H) (n m : Int) : pe_H := (σ.1 + 1 + n.toNat, σ.2.1 + n.toNat + n.toNat * m.toNat, (fun a => if a = σ.1 then 24 else if σ.1 < a ∧ a < σ.1 + 1 + n.toNat then 10 else σ.2.2.1 a), (fun a => if a = σ.1 then n else if σ.1 < a ∧ a < σ.1 + 1 + n.toNat then m else σ.2.2.2.1 a), (fun a k => if σ.1 ≤ a ∧ a < σ.1 + 1 + n.toNat then 0 else σ.2.2.2.2.1 a k), (fun a k => if a = σ.1 then σ.1 + 1 + k.toNat else if σ.1 < a ∧ a < σ.1 + 1 + n.toNat then 0 else σ.2.2.2.2.2 a k))
def pe_mna (S : pe_S) : Option pe_R2 := match S.2.2.1 with
  | .inl y :: .inl x :: st => some ([0 ≤ pe_w x, pe_w x ≤ 1000, 0 ≤ pe_w y, pe_w y ≤ 1000], (S.1 + 4, S.2.1, .inr (.inr (pe_n S.2.2.2)) :: st, pe_mn2 S.2.2.2 (pe_w x) (pe_w y)))
  | _ => none
/-- ints copied from one array to another (or the same) -/
def pe_cpy (σ : pe_H) (s : Nat) (sp : Int) (d : Nat) (dp n : Int) : pe_H := (σ.1, σ.2.1, σ.2.2.1, σ.2.2.2.1, (fun a k => if a = d ∧ dp ≤ k ∧ k < dp + n then σ.2.2.2.2.1 s (sp + (k - dp)) else σ.2.2.2.2.1 a k), σ.2.2.2.2.2)
def pe_min (S : pe_S) : Option pe_R2 := match S.2.2.1 with
  | .inl y :: .inl x :: st => if pe_cat st ≤ 8 then some ([], (S.1 + 3, S.2.1, .inl (if pe_w y < pe_w x then y else x) :: st, S.2.2.2)) else none
  | _ => none
def pe_acp (S : pe_S) : Option pe_R2 := match S.2.2.1 with
  | .inl n :: .inl dp :: .inr (.inr d) :: .inl sp :: .inr (.inr s) :: st => if pe_cat st ≤ 8 then some ([pe_K S.2.2.2 s = 10, pe_K S.2.2.2 d = 10, 2 ≤ d, 0 ≤ pe_w sp, 0 ≤ pe_w dp, 0 ≤ pe_w n, pe_w sp + pe_w n ≤ pe_L S.2.2.2 s, pe_w dp + pe_w n ≤ pe_L S.2.2.2 d], (S.1 + 3, S.2.1, st, pe_cpy S.2.2.2 s (pe_w sp) d (pe_w dp) (pe_w n))) else none
  | _ => none
/-- an array of ints made like another -/
def pe_cln (S : pe_S) : Option pe_R2 := match S.2.2.1 with
  | .inr (.inr r) :: st => if pe_cat st ≤ 8 then some ([pe_K S.2.2.2 r = 10, 2 ≤ r], (S.1 + 3, S.2.1, .inr (.inr (pe_n S.2.2.2)) :: st, pe_cpy (pe_new S.2.2.2 10 (pe_L S.2.2.2 r) (pe_L S.2.2.2 r).toNat) r 0 (pe_n S.2.2.2) 0 (pe_L S.2.2.2 r))) else none
  | _ => none
def pe_cst (S : pe_S) : Option pe_R2 := match S.2.2.1 with
  | .inr (.inr r) :: st => some ([pe_K S.2.2.2 r = 10, 2 ≤ r], (S.1 + 3, S.2.1, .inr (.inr r) :: st, S.2.2.2))
  | _ => none
def pe_nx (o : Nat) (ini : Bool) (i : Instr) (S : pe_S) : Option pe_R2 := match i with
  | .iload k => pe_ldi 2 k S
  | .iload_n k => pe_ldi 1 k.val S
  | .lload k => pe_ldl 2 k S
  | .lload_n k => pe_ldl 1 k.val S
  | .aload k => pe_lda 2 k S
  | .aload_n k => pe_lda 1 k.val S
  | .istore k => pe_sti 2 k S
  | .istore_n k => pe_sti 1 k.val S
  | .lstore k => pe_stl 2 k S
  | .lstore_n k => pe_stl 1 k.val S
  | .astore k => pe_sta 2 k S
  | .astore_n k => pe_sta 1 k.val S
  | .iconst n => pe_psh 1 (.inl n) S
  | .bipush n => if -128 ≤ n ∧ n < 128 then pe_psh 2 (.inl n) S else none
  | .sipush n => if -32768 ≤ n ∧ n < 32768 then pe_psh 3 (.inl n) S else none
  | .lconst n => pe_psh 1 (.inr (.inl (n.val : Int))) S
  | .aconst_null => pe_psh 1 (.inr (.inr 0)) S
  | .ldc_w k => match pe_go (pe_kT o) k with
    | some (v, _) => pe_psh 3 (.inl v) S
    | _ => none
  | .ldc k => match pe_go (pe_kT o) k with
    | some (v, _) => pe_psh 2 (.inl v) S
    | _ => none
  | .ldc2_w k => match pe_go (pe_lT o) k with
    | some (v, _) => pe_psh 3 (.inr (.inl v)) S
    | _ => none
  | .iadd => pe_ii (fun x y => ([], x + y)) S
  | .isub => pe_ii (fun x y => ([], x - y)) S
  | .imul => pe_ii (fun x y => ([], x * y)) S
  | .idiv => pe_ii (fun x y => ([¬ pe_w y = 0], Int.tdiv (pe_w x) (pe_w y))) S
  | .irem => pe_ii (fun x y => ([¬ pe_w y = 0], Int.tmod (pe_w x) (pe_w y))) S
  | .iand => pe_ii (fun x y => ([], pe_and x y)) S
  | .ior => pe_ii (fun x y => ([], pe_or x y)) S
  | .ixor => pe_ii (fun x y => ([], pe_xor x y)) S
  | .ishl => pe_ii (fun x y => ([], pe_shl x y)) S
  | .ishr => pe_ii (fun x y => ([], pe_shr x y)) S
  | .iushr => pe_ii (fun x y => ([], pe_ushr x y)) S
  | .ladd => pe_ll (fun x y => ([], x + y)) S
  | .lsub => pe_ll (fun x y => ([], x - y)) S
  | .lmul => pe_ll (fun x y => ([], x * y)) S
  | .ldiv => pe_ll (fun x y => ([¬ pe_wl y = 0], Int.tdiv (pe_wl x) (pe_wl y))) S
  | .lrem => pe_ll (fun x y => ([¬ pe_wl y = 0], Int.tmod (pe_wl x) (pe_wl y))) S
  | .ineg => pe_x1 (fun x => .inl (-x)) S
  | .i2l => pe_x1 (fun x => .inr (.inl (pe_w x))) S
  | .i2b => pe_x1 (fun x => .inl (pe_i2b x)) S
  | .i2s => pe_x1 (fun x => .inl (pe_i2s x)) S
  | .l2i => pe_y1 (fun x => .inl x) S
  | .lcmp => match S.2.2.1 with
    | .inr (.inl y) :: .inr (.inl x) :: st => some ([], (S.1 + 1, S.2.1, .inl (pe_lcmp x y) :: st, S.2.2.2))
    | _ => none
  | .iinc k n => match pe_ld S.2.1 k with
    | some (.inl x) => if k < S.2.1.length then some ([], (S.1 + 3, pe_st1 S.2.1 k (.inl (x + n)), S.2.2.1, S.2.2.2)) else none
    | _ => none
  | .dup => match S.2.2.1 with
    | .inl x :: st => some ([], (S.1 + 1, S.2.1, .inl x :: .inl x :: st, S.2.2.2))
    | .inr (.inr x) :: st => some ([], (S.1 + 1, S.2.1, .inr (.inr x) :: .inr (.inr x) :: st, S.2.2.2))
    | _ => none
  | .dup2 => match S.2.2.1 with
    | .inl x :: .inr (.inr y) :: st => some ([], (S.1 + 1, S.2.1, .inl x :: .inr (.inr y) :: .inl x :: .inr (.inr y) :: st, S.2.2.2))
    | _ => none
  | .pop => match S.2.2.1 with
    | .inl _ :: st => some ([], (S.1 + 1, S.2.1, st, S.2.2.2))
    | .inr (.inr _) :: st => some ([], (S.1 + 1, S.2.1, st, S.2.2.2))
    | _ => none
  | .goto off => pe_br true off S S.2.2.1
  | .if_icmp c off => match S.2.2.1 with
    | .inl y :: .inl x :: st => pe_br (pe_cb c (pe_w x) (pe_w y)) off S st
    | _ => none
  | .ifCond c off => match S.2.2.1 with
    | .inl x :: st => pe_br (pe_cb c (pe_w x) 0) off S st
    | _ => none
  | .ifnull off => match S.2.2.1 with
    | .inr (.inr x) :: st => pe_br (decide (x = 0)) off S st
    | _ => none
  | .ifnonnull off => match S.2.2.1 with
    | .inr (.inr x) :: st => pe_br (decide (¬ x = 0)) off S st
    | _ => none
  | .tableswitch d lo hi os => if hi + 1 = lo + (os.toList.length : Int) then pe_jmp (d :: os.toList) (pe_sw d (pe_tbl lo os.toList)) S else none
  | .lookupswitch d ps => if (ps.toList.zip (ps.toList.drop 1)).all (fun (a, next) => decide (a.1 < next.1)) = true then pe_jmp (d :: ps.toList.map (·.2)) (pe_sw d ps.toList) S else none
  | .getfield k => pe_gf o k S
  | .putfield k => pe_pf o ini k S
  | .iaload => if Nat.blt o 19 then pe_al (fun k => k = 10) (fun σ r j => .inl (pe_I σ r j)) S else pe_al (fun k => k = 10 ∨ k = 25) (fun σ r j => .inl (pe_I σ r j)) S
  | .aaload => if Nat.blt o 19 then pe_al (fun k => 12 ≤ k ∧ k < 19) (fun σ r j => .inr (.inr (pe_R σ r j))) S else pe_al (fun k => 22 ≤ k ∧ k < 25) (fun σ r j => .inr (.inr (pe_R σ r j))) S
  | .iastore => pe_as S
  | .aastore => if Nat.blt o 19 then pe_rs S else pe_rsL S
  | .arraylength => match S.2.2.1 with
    | .inr (.inr r) :: st => if Nat.blt o 19 then some ([10 ≤ pe_K S.2.2.2 r ∧ pe_K S.2.2.2 r < 19], (S.1 + 1, S.2.1, .inl (pe_L S.2.2.2 r) :: st, S.2.2.2)) else some ([pe_K S.2.2.2 r = 10 ∨ (22 ≤ pe_K S.2.2.2 r ∧ pe_K S.2.2.2 r < 26)], (S.1 + 1, S.2.1, .inl (pe_L S.2.2.2 r) :: st, S.2.2.2))
    | _ => none
  | .new k => pe_nw o k S
  | .newarray .int => pe_na 10 2 S
  | .anewarray k => match pe_go (pe_cT o) k with
    | some (c, _) => if c < 7 then pe_na (pe_ak c) 3 S else if c = 19 then pe_na 22 3 S else if c = 20 then pe_na 23 3 S else none
    | none => if Nat.beq o 21 && Nat.beq k pe_xa.1 then pe_na 24 3 S else none
  | .multianewarray k n => if Nat.beq o 21 && (Nat.beq k pe_xm.1 && Nat.beq n 2) then pe_mna S else none
  | .getstatic k => if Nat.beq o 21 && Nat.beq k pe_xs.1 then pe_psh 3 (.inr (.inr 2)) S else none
  | .invokespecial k => match S.2.2.1, pe_go (pe_oT o) k with
    | .inr (.inr r) :: st, some _ => if pe_cat st ≤ 8 then some ([¬ r = 0], (S.1 + 3, S.2.1, st, S.2.2.2)) else none
    | _, _ => none
  | .invokestatic k => match pe_go (pe_bT o) k with
    | some _ => pe_min S
    | none => match pe_go (pe_aT o) k with
      | some _ => pe_acp S
      | none => none
  | .invokevirtual k => if Nat.beq o 13 && Nat.beq k 316 then pe_cln S else none
  | .checkcast k => if Nat.beq o 13 && Nat.beq k 317 then pe_cst S else none
  | _ => none
/-- a call: the method, its arguments (the receiver first), what is left on the stack, what is asked -/
def pe_pop : Nat → List pe_V → List pe_V → Option (List pe_V × List pe_V)
  | 0, acc, st => some (acc, st)
  | _ + 1, _, [] => none
  | n + 1, acc, v :: st => pe_pop n (v :: acc) st
def pe_ivk (tab : List (Nat × Nat × Nat)) (i : Nat) (S : pe_S) (sty : Nat → Bool) : Option (Nat × List pe_V × List pe_V) := match pe_go tab i with
  | some (m, _) => if sty (pe_me m).2.2.2.2.2.1 then match pe_pop (if (pe_me m).2.2.2.2.2.1 = 2 then (pe_me m).2.2.2.2.2.2.2.1 else (pe_me m).2.2.2.2.2.2.2.1 + 1) [] S.2.2.1 with
    | some (as, st) => if pe_cat st ≤ 8 then some (m, as, st) else none
    | none => none
    else none
  | none => none
def pe_call (o : Nat) (i : Instr) (S : pe_S) : Option (Nat × List pe_V × List pe_V) := match i with
  | .invokevirtual k => pe_ivk (pe_iT o) k S (fun t => Nat.beq t 0)
  | .invokespecial k => match pe_go (pe_jT o) k with
    | some _ => pe_ivk (pe_jT o) k S (fun t => Nat.beq t 1)
    | none => pe_ivk (pe_iT o) k S (fun t => Nat.beq t 1)
  | .invokestatic k => pe_ivk (pe_iT o) k S (fun t => Nat.beq t 2)
  | _ => none
/-- what a virtual call asks of its receiver -/
def pe_recv (m : Nat) (as : List pe_V) (σ : pe_H) : Prop := if (pe_me m).2.2.2.2.2.1 = 0 then match as with
    | .inr (.inr r) :: _ => pe_K σ r = (pe_me m).2.2.2.2.1 ∧ pe_kc (pe_me m).2.2.2.2.1 = true
    | _ => False
  else if (pe_me m).2.2.2.2.2.1 = 1 then match as with
    | .inr (.inr r) :: _ => ¬ r = 0
    | _ => False
  else True
/-- an answer -/
def pe_ret (rt : Option FieldType) (i : Instr) (S : pe_S) : Option (List Prop × Option pe_V) := match i, S.2.2.1, rt with
  | .return_, [], none => some ([], none)
  | .ireturn, [.inl x], some .int => some ([], some (.inl x))
  | .ireturn, [.inl x], some .boolean => some ([x = 0 ∨ x = 1], some (.inl x))
  | .lreturn, [.inr (.inl x)], some .long => some ([], some (.inr (.inl x)))
  | .areturn, [.inr (.inr x)], some (.object _) => some ([], some (.inr (.inr x)))
  | .areturn, [.inr (.inr x)], some (.array _) => some ([], some (.inr (.inr x)))
  | _, _, _ => none
def pe_ln (i : Instr) : Nat := match i with
  | .iload _ => 2
  | .lload _ => 2
  | .aload _ => 2
  | .istore _ => 2
  | .lstore _ => 2
  | .astore _ => 2
  | .bipush _ => 2
  | .ldc _ => 2
  | .sipush _ => 3
  | .ldc_w _ => 3
  | .ldc2_w _ => 3
  | .iinc _ _ => 3
  | .goto _ => 3
  | .if_icmp _ _ => 3
  | .ifCond _ _ => 3
  | .ifnull _ => 3
  | .ifnonnull _ => 3
  | .getfield _ => 3
  | .putfield _ => 3
  | .new _ => 3
  | .newarray _ => 2
  | .anewarray _ => 3
  | .checkcast _ => 3
  | .getstatic _ => 3
  | .multianewarray _ _ => 4
  | .invokevirtual _ => 3
  | .invokespecial _ => 3
  | .invokestatic _ => 3
  | .tableswitch _ _ _ _ => 0
  | .lookupswitch _ _ => 0
  | _ => 1
abbrev pe_CR : Type := Nat → List pe_V → pe_H → Option pe_V → pe_H → Prop
def pe_stp (C : pe_CR) (o : Nat) (ini : Bool) (rt : Option FieldType) (b : ByteArray) (S : pe_S) (P : pe_S → Prop) (Q : Option pe_V → pe_H → Prop) : Prop :=
  ∃ (i : Instr) (len : Nat), decode b S.1 = .ok (i, len) ∧ (pe_ln i = len ∨ pe_ln i = 0) ∧
    ((∃ φ S', pe_nx o ini i S = some (φ, S') ∧ pe_all φ ∧ P S') ∨
     (∃ m as st r σ', pe_call o i S = some (m, as, st) ∧ pe_recv m as S.2.2.2 ∧ C m as S.2.2.2 r σ' ∧ P (S.1 + 3, S.2.1, r.toList ++ st, σ')) ∨
     (∃ φ r, pe_ret rt i S = some (φ, r) ∧ pe_all φ ∧ Q r S.2.2.2))
/-- from S the method comes to its answer r with the heap σ' -/
def pe_Ev (C : pe_CR) (o : Nat) (ini : Bool) (rt : Option FieldType) (b : ByteArray) (S : pe_S) (r : Option pe_V) (σ' : pe_H) : Prop :=
  ∀ P : pe_S → Prop, (∀ S, pe_stp C o ini rt b S P (fun r0 σ0 => r0 = r ∧ σ0 = σ') → P S) → P S
/-- the first locals: longs take two -/
def pe_lc : List pe_V → List (Option pe_V)
  | [] => []
  | .inr (.inl x) :: l => some (.inr (.inl x)) :: none :: pe_lc l
  | v :: l => some v :: pe_lc l
def pe_lo (as : List pe_V) (n : Nat) : List (Option pe_V) := pe_lc as ++ List.replicate (n - (pe_lc as).length) none
def pe_C : Nat → pe_CR
  | 0 => fun _ _ _ _ _ => False
  | d + 1 => fun m as σ r σ' => (pe_lc as).length ≤ (pe_me m).2.2.1 ∧ m < pe_mn ∧ m ≠ pe_ml ∧ pe_Ev (pe_C d) (pe_me m).2.2.2.2.1 (pe_me m).2.2.2.2.2.2.1 (pe_me m).2.2.2.1 (pe_me m).2.1 (0, pe_lo as (pe_me m).2.2.1, [], σ) r σ'
end
section
/-! SOUND, 1: values, numbers, locals -/
def pe_rf (ad : Nat → Nat) (r : Nat) : Value := if r = 0 then .null else .ref (ad r)
def pe_e (ad : Nat → Nat) (v : pe_V) : Value := match v with
  | .inl x => .int (Int32.ofInt x)
  | .inr (.inl x) => .long (Int64.ofInt x)
  | .inr (.inr r) => pe_rf ad r
def pe_vt (ad : Nat → Nat) (t : Nat) (x : Int) (r : Nat) : Value := match t with
  | 1 => .long (Int64.ofInt x)
  | 2 => pe_rf ad r
  | _ => .int (Int32.ofInt x)
theorem pe_of_w (x : Int) : Int32.ofInt (pe_w x) = Int32.ofInt x := by unfold pe_w; exact Int32.ofInt_toInt _
theorem pe_of_wl (x : Int) : Int64.ofInt (pe_wl x) = Int64.ofInt x := by unfold pe_wl; exact Int64.ofInt_toInt _
theorem pe_w_id {x : Int} (h1 : -2147483648 ≤ x) (h2 : x < 2147483648) : pe_w x = x := by
  unfold pe_w
  exact Int32.toInt_ofInt_of_le (by simpa using h1) (by simpa using h2)
theorem pe_w_lt (x : Int) : -2147483648 ≤ pe_w x ∧ pe_w x < 2147483648 := by
  unfold pe_w
  have h1 := Int32.le_toInt (Int32.ofInt x)
  have h2 := Int32.toInt_lt (Int32.ofInt x)
  exact ⟨by simpa using h1, by simpa using h2⟩
theorem pe_add (x y : Int) : Int32.ofInt x + Int32.ofInt y = Int32.ofInt (x + y) := (Int32.ofInt_add x y).symm
theorem pe_sub (x y : Int) : Int32.ofInt x - Int32.ofInt y = Int32.ofInt (x - y) := (Int32.ofInt_sub x y).symm
theorem pe_mul (x y : Int) : Int32.ofInt x * Int32.ofInt y = Int32.ofInt (x * y) := (Int32.ofInt_mul x y).symm
theorem pe_neg (x : Int) : -Int32.ofInt x = Int32.ofInt (-x) := (Int32.ofInt_neg x).symm
theorem pe_div (x y : Int) : Int32.ofInt x / Int32.ofInt y = Int32.ofInt (Int.tdiv (pe_w x) (pe_w y)) := by
  unfold pe_w
  apply Int32.toInt_inj.mp
  rw [Int32.toInt_div, Int32.toInt_ofInt (n := Int.tdiv _ _)]
theorem pe_rem (x y : Int) : Int32.ofInt x - Int32.ofInt x / Int32.ofInt y * Int32.ofInt y = Int32.ofInt (Int.tmod (pe_w x) (pe_w y)) := by
  rw [pe_div, Int.tmod_def]
  have h1 : Int32.ofInt x = Int32.ofInt (pe_w x) := (pe_of_w x).symm
  have h2 : Int32.ofInt y = Int32.ofInt (pe_w y) := (pe_of_w y).symm
  rw [h1, h2, pe_mul, pe_sub, Int.mul_comm (pe_w y)]
theorem pe_addl (x y : Int) : Int64.ofInt x + Int64.ofInt y = Int64.ofInt (x + y) := (Int64.ofInt_add x y).symm
theorem pe_subl (x y : Int) : Int64.ofInt x - Int64.ofInt y = Int64.ofInt (x - y) := (Int64.ofInt_sub x y).symm
theorem pe_mull (x y : Int) : Int64.ofInt x * Int64.ofInt y = Int64.ofInt (x * y) := (Int64.ofInt_mul x y).symm
theorem pe_divl (x y : Int) : Int64.ofInt x / Int64.ofInt y = Int64.ofInt (Int.tdiv (pe_wl x) (pe_wl y)) := by
  unfold pe_wl
  apply Int64.toInt_inj.mp
  rw [Int64.toInt_div, Int64.toInt_ofInt (n := Int.tdiv _ _)]
theorem pe_reml (x y : Int) : Int64.ofInt x - Int64.ofInt x / Int64.ofInt y * Int64.ofInt y = Int64.ofInt (Int.tmod (pe_wl x) (pe_wl y)) := by
  rw [pe_divl, Int.tmod_def]
  have h1 : Int64.ofInt x = Int64.ofInt (pe_wl x) := (pe_of_wl x).symm
  have h2 : Int64.ofInt y = Int64.ofInt (pe_wl y) := (pe_of_wl y).symm
  rw [h1, h2, pe_mull, pe_subl, Int.mul_comm (pe_wl y)]
theorem pe_zero (y : Int) : Int32.ofInt y = 0 ↔ pe_w y = 0 := by
  unfold pe_w
  constructor
  · intro h; rw [h]; rfl
  · intro h
    rw [← Int32.ofInt_toInt (Int32.ofInt y), h]; rfl
theorem pe_zerol (y : Int) : Int64.ofInt y = 0 ↔ pe_wl y = 0 := by
  unfold pe_wl
  constructor
  · intro h; rw [h]; rfl
  · intro h
    rw [← Int64.ofInt_toInt (Int64.ofInt y), h]; rfl
theorem pe_eq (x y : Int) : Int32.ofInt x = Int32.ofInt y ↔ pe_w x = pe_w y := by
  unfold pe_w
  exact ⟨fun h => by rw [h], fun h => Int32.toInt_inj.mp h⟩
theorem pe_lt (x y : Int) : Int32.ofInt x < Int32.ofInt y ↔ pe_w x < pe_w y := Int32.lt_iff_toInt_lt
theorem pe_le (x y : Int) : Int32.ofInt x ≤ Int32.ofInt y ↔ pe_w x ≤ pe_w y := Int32.le_iff_toInt_le
theorem pe_clamp {x : Int} (h : 0 ≤ pe_w x) : ((Int32.ofInt x).toNatClampNeg : Int) = pe_w x := by
  unfold pe_w at h ⊢
  have h1 : (Int32.ofInt x).toNatClampNeg = (Int32.ofInt x).toInt.toNat := rfl
  rw [h1]
  omega
theorem pe_i2l_ok (x : Int) : (Int32.ofInt x).toInt64 = Int64.ofInt (pe_w x) := by
  unfold pe_w
  apply Int64.toInt_inj.mp
  rw [Int32.toInt_toInt64, Int64.toInt_ofInt_of_le]
  · have := Int32.le_toInt (Int32.ofInt x); simp at this ⊢; omega
  · have := Int32.toInt_lt (Int32.ofInt x); simp at this ⊢; omega
theorem pe_l2i_ok (x : Int) : (Int64.ofInt x).toInt32 = Int32.ofInt x := by
  apply Int32.toInt_inj.mp
  rw [Int64.toInt_toInt32, Int64.toInt_ofInt, Int32.toInt_ofInt]
  exact Int.bmod_bmod_of_dvd (by decide)

-- locals
theorem pe_ld_lt : ∀ (l : List (Option pe_V)) (i : Nat) (v : pe_V), pe_ld l i = some v → i < l.length
  | [], _, _, h => by simp [pe_ld] at h
  | _ :: _, 0, _, _ => by simp
  | _ :: l, n + 1, v, h => by
    have := pe_ld_lt l n v h
    simp only [List.length_cons]; omega
theorem pe_sto_len : ∀ (l : List (Option pe_V)) (i : Nat) (v : Option pe_V), (pe_sto l i v).length = l.length
  | [], _, _ => rfl
  | _ :: _, 0, _ => rfl
  | _ :: l, n + 1, v => by simp only [pe_sto, List.length_cons, pe_sto_len l n v]
theorem pe_ld_sto : ∀ (l : List (Option pe_V)) (i : Nat) (v : Option pe_V) (j : Nat), pe_ld (pe_sto l i v) j = if j = i then (if i < l.length then v else none) else pe_ld l j
  | [], i, v, j => by simp [pe_sto, pe_ld]
  | _ :: _, 0, v, 0 => by simp [pe_sto, pe_ld]
  | _ :: _, 0, v, j + 1 => by simp [pe_sto, pe_ld]
  | _ :: _, n + 1, v, 0 => by simp [pe_sto, pe_ld]
  | _ :: l, n + 1, v, j + 1 => by simp [pe_sto, pe_ld, pe_ld_sto l n v j]
theorem pe_kil_len (l : List (Option pe_V)) (i : Nat) : (pe_kil l i).length = l.length := by
  cases i with
  | zero => rfl
  | succ n => exact pe_sto_len _ _ _
theorem pe_nl_some {a : Option pe_V} {v : pe_V} (h : pe_nl a = some v) : a = some v ∧ ∀ x : Int, v ≠ .inr (.inl x) := by
  rcases a with _ | (x | (x | x))
  · simp [pe_nl] at h
  · simp [pe_nl] at h; subst h; exact ⟨rfl, fun y q => by simp at q⟩
  · simp [pe_nl] at h
  · simp [pe_nl] at h; subst h; exact ⟨rfl, fun y q => by simp at q⟩
theorem pe_ld_kil {l : List (Option pe_V)} {i j : Nat} {v : pe_V} (h : pe_ld (pe_kil l i) j = some v) : pe_ld l j = some v ∧ (j + 1 = i → ∀ x : Int, v ≠ .inr (.inl x)) := by
  cases i with
  | zero => exact ⟨h, fun q => by omega⟩
  | succ n =>
    unfold pe_kil at h
    rw [pe_ld_sto] at h
    by_cases hj : j = n
    · subst hj
      rw [if_pos rfl] at h
      split at h
      · obtain ⟨h1, h2⟩ := pe_nl_some h
        exact ⟨h1, fun _ => h2⟩
      · simp at h
    · rw [if_neg hj] at h
      exact ⟨h, fun q => by omega⟩
def pe_lv (ad : Nat → Nat) (Ls : Array Slot) (ls : List (Option pe_V)) : Prop := Ls.size = ls.length ∧ lv_wf Ls ∧ ∀ (i : Nat) (v : pe_V), pe_ld ls i = some v → Ls[i]? = some (.val (pe_e ad v))
def pe_kn (ad : Nat → Nat) (ls : List (Option pe_V)) : List (Nat × Value) := (List.range ls.length).filterMap (fun j => (pe_ld ls j).map (fun v => (j, pe_e ad v)))
theorem pe_kn_mem {ad : Nat → Nat} {ls : List (Option pe_V)} {j : Nat} {v : pe_V} (h : pe_ld ls j = some v) : (j, pe_e ad v) ∈ pe_kn ad ls := List.mem_filterMap.mpr ⟨j, List.mem_range.mpr (pe_ld_lt ls j v h), by simp [h]⟩
theorem pe_lv_has {ad : Nat → Nat} {Ls : Array Slot} {ls : List (Option pe_V)} (h : pe_lv ad Ls ls) : lv_has Ls ls.length (pe_kn ad ls) := by
  refine ⟨h.1, h.2.1, fun q hq => ?_⟩
  obtain ⟨j, -, hj⟩ := List.mem_filterMap.mp hq
  cases hv : pe_ld ls j with
  | none => rw [hv] at hj; simp at hj
  | some v =>
    rw [hv] at hj
    simp at hj
    subst hj
    exact h.2.2 j v hv
theorem pe_cat_e {ad : Nat → Nat} {v : pe_V} (h : ∀ x : Int, v ≠ .inr (.inl x)) : (pe_e ad v).category = 1 := by
  rcases v with x | (x | r)
  · rfl
  · exact absurd rfl (h x)
  · show (pe_rf ad r).category = 1
    unfold pe_rf; split <;> rfl
theorem pe_lv_st1 {ad : Nat → Nat} {Ls' : Array Slot} {ls : List (Option pe_V)} {i : Nat} {v : pe_V} (hi : i < ls.length)
    (h : lv_has Ls' ls.length ((i, pe_e ad v) :: (pe_kn ad ls).filter (fun q => !(q.1 == i) && !(q.1 + 1 == i && q.2.category == 2)))) : pe_lv ad Ls' (pe_st1 ls i v) := by
  unfold pe_st1
  refine ⟨by rw [pe_sto_len, pe_kil_len]; exact h.1, h.2.1, fun j w hj => ?_⟩
  rw [pe_ld_sto] at hj
  by_cases hji : j = i
  · subst hji
    rw [if_pos rfl, pe_kil_len, if_pos hi] at hj
    cases hj
    exact h.2.2 (j, pe_e ad v) List.mem_cons_self
  · rw [if_neg hji] at hj
    obtain ⟨h1, h2⟩ := pe_ld_kil hj
    refine h.2.2 (j, pe_e ad w) (List.mem_cons_of_mem _ (List.mem_filter.mpr ⟨pe_kn_mem h1, ?_⟩))
    by_cases hn : j + 1 = i
    · simp [hji, pe_cat_e (ad := ad) (h2 hn)]
    · simp [hji, hn]
theorem pe_lv_st2 {ad : Nat → Nat} {Ls' : Array Slot} {ls : List (Option pe_V)} {i : Nat} {v : pe_V} (hi : i + 1 < ls.length)
    (h : lv_has Ls' ls.length ((i, pe_e ad v) :: (pe_kn ad ls).filter (fun q => !(q.1 == i) && (!(q.1 == i + 1) && !(q.1 + 1 == i && q.2.category == 2))))) : pe_lv ad Ls' (pe_st2 ls i v) := by
  unfold pe_st2
  refine ⟨by rw [pe_sto_len, pe_sto_len, pe_kil_len]; exact h.1, h.2.1, fun j w hj => ?_⟩
  rw [pe_ld_sto] at hj
  by_cases hji : j = i
  · subst hji
    rw [if_pos rfl, pe_sto_len, pe_kil_len, if_pos (by omega)] at hj
    cases hj
    exact h.2.2 (j, pe_e ad v) List.mem_cons_self
  · rw [if_neg hji, pe_ld_sto] at hj
    by_cases hj1 : j = i + 1
    · rw [if_pos hj1] at hj
      split at hj <;> simp at hj
    · rw [if_neg hj1] at hj
      obtain ⟨h1, h2⟩ := pe_ld_kil hj
      refine h.2.2 (j, pe_e ad w) (List.mem_cons_of_mem _ (List.mem_filter.mpr ⟨pe_kn_mem h1, ?_⟩))
      by_cases hn : j + 1 = i
      · simp [hji, hj1, pe_cat_e (ad := ad) (h2 hn)]
      · simp [hji, hj1, hn]
theorem pe_cat_ok (ad : Nat → Nat) : ∀ st : List pe_V, ((st.map (pe_e ad)).map fun v => v.category).sum = pe_cat st
  | [] => rfl
  | .inl x :: l => by simp [pe_cat, pe_e, Value.category, ← pe_cat_ok ad l]
  | .inr (.inl x) :: l => by simp [pe_cat, pe_e, Value.category, ← pe_cat_ok ad l]
  | .inr (.inr r) :: l => by
    have h : (pe_e ad (.inr (.inr r))).category = 1 := pe_cat_e (fun x q => by simp at q)
    simp only [List.map_cons, List.sum_cons, h, pe_cat, ← pe_cat_ok ad l]
end
section
/-! SOUND, 2: the pure heap in the machine's -/
/-- numbers: 1 the script, 2 the law's static array, from 3 on what is made -/
def pe_ad (b : Nat × Nat) (n0 r : Nat) : Nat := if r = 1 then b.1 else if r = 2 then b.2 else n0 + (r - 3)
theorem pe_ad_inj {b : Nat × Nat} {n0 r q : Nat} (hb : b.1 < n0 ∧ b.2 < n0 ∧ b.1 ≠ b.2) (hr : 0 < r) (hq : 0 < q) (h : pe_ad b n0 r = pe_ad b n0 q) : r = q := by
  unfold pe_ad at h
  obtain ⟨h1, h2, h3⟩ := hb
  split at h
  · split at h
    · omega
    · split at h
      · exact absurd h h3
      · omega
  · split at h
    · split at h
      · exact absurd h.symm h3
      · split at h <;> omega
    · split at h
      · omega
      · split at h <;> omega
/-- the script's class may be another than that of the arrays made here -/
def pe_ca (r k : Nat) : Nat := if r = 1 then 9 else k
theorem pe_ca2 {r k : Nat} (h : 2 ≤ r) : pe_ca r k = k := if_neg (by omega)
/-- an array of arrays of ints can be made, the law's static array is where it is -/
def pe_G2 (cA : Nat → ClassId) (b : Nat × Nat) (n0 : Nat) (H0 : Heap) (s : State) : Prop := (ArrOfT s (cA 25) .int ∧ (∀ c, c = 19 ∨ c = 20 → va_AO (pe_cl c).1 s)) ∧ (∃ k : Class, s.vm.classes[cA 24]? = some k ∧ k.kind = .array (cA 10) (.array .int)) ∧ (Cond.arrayOver (.array .int)).before #[] s = true ∧ va_Z RL "SIGNS" "[I" (.ref b.2) (fun q => n0 ≤ q) s H0
def pe_G (D : va_G) (cA : Nat → ClassId) (b : Nat × Nat) (n0 : Nat) (H0 : Heap) (s : State) : Prop := (∀ c, pe_kc c = true → u_Kn s (pe_cl c).1 (pe_cl c).2.1 (pe_cl c).2.2 (D.1 c) (D.2 c)) ∧ (∀ k, pe_ka k = true → k ≠ 25 → ArrOfT s (cA k) (pe_aty k) ∧ va_RA s (cA k) (pe_aty k)) ∧ (∀ c, c < 7 → va_AO (pe_cl c).1 s) ∧ va_Nw (.castable "[I" "java/lang/Cloneable") s ∧ ArrOfT s (cA 9) .int ∧ pe_G2 cA b n0 H0 s
theorem pe_AOA.moved {t : FieldType} {u U : State} (hvm : u.vm.Alike U.vm) (h : (Cond.arrayOver (.array t)).before #[] u = true) : (Cond.arrayOver (.array t)).before #[] U = true := by
  obtain ⟨comp, c, k, h1, h2, h3, h4, h5⟩ := arrayOverA_spec h
  obtain ⟨k', hk', he⟩ := hvm.2.2 _ _ h3
  have hb : U.vm.bare = u.vm.bare := by first | exact hvm.bare_eq | exact hvm.bare_eq.symm
  have e1 := va_idx_bare U.vm comp
  have e2 := va_idx_bare u.vm comp
  rw [hb] at e1
  have hi := e1.symm.trans (e2.trans h2)
  have hn : U.vm.findClass ("[" ++ (FieldType.array t).toString) = some c := by rw [hvm.findClass]; exact h5
  have hc : U.vm.findClass (FieldType.array t).toString = some comp := by rw [hvm.findClass]; exact h1
  simp only [Cond.before, Cond.holds, Cond.value, hc, Option.bind_some, beq_iff_eq]
  rw [Option.bind_eq_some_iff]
  refine ⟨c, hi, ?_⟩
  rw [Option.map_eq_some_iff]
  exact ⟨k', hk', by rw [he]; simp [h4, hn]⟩
theorem pe_G2.moved {cA : Nat → ClassId} {b : Nat × Nat} {n0 : Nat} {H0 : Heap} {u U : State} (hvm : u.vm.Alike U.vm) (h : pe_G2 cA b n0 H0 u) : pe_G2 cA b n0 H0 U := by
  obtain ⟨⟨h1, h2⟩, ⟨k, h3, h4⟩, h5, h6⟩ := h
  obtain ⟨k', hk', he⟩ := hvm.2.2 _ _ h3
  exact ⟨⟨arrOfT_moved hvm h1, fun c hc => va_AO.moved hvm (h2 c hc)⟩, ⟨k', hk', by rw [he]; exact h4⟩, pe_AOA.moved hvm h5, va_Z.moved hvm h6⟩
theorem pe_G.moved {D : va_G} {cA : Nat → ClassId} {b : Nat × Nat} {n0 : Nat} {H0 : Heap} {u U : State} (hvm : u.vm.Alike U.vm) (h : pe_G D cA b n0 H0 u) : pe_G D cA b n0 H0 U := ⟨fun c hc => u_Kn_moved hvm (h.1 c hc), fun k h1 h2 => ⟨arrOfT_moved hvm (h.2.1 k h1 h2).1, (h.2.1 k h1 h2).2.moved hvm⟩, fun c hc => va_AO.moved hvm (h.2.2.1 c hc), va_tabs rfl (rfl : (u.setVm U.vm).vm = U.vm) (by rw [Cond.castable_setVm hvm]; exact h.2.2.2.1), arrOfT_moved hvm h.2.2.2.2.1, h.2.2.2.2.2.moved hvm⟩
def pe_ce (D : va_G) (cA : Nat → ClassId) (ad : Nat → Nat) (σ : pe_H) (H : Heap) (r : Nat) : Prop :=
  (pe_kc (pe_K σ r) = true → t_OB (ad r) (D.1 (pe_K σ r)) (pe_cl (pe_K σ r)).2.2 (D.2 (pe_K σ r)) H (fun j => pe_vt ad (pe_fty (pe_K σ r) j) (pe_I σ r j) (pe_R σ r j))) ∧
  (pe_ka (pe_K σ r) = true → ∃ cell : Cell, H[ad r]? = some cell ∧ cell.cls = cA (pe_ca r (pe_K σ r)) ∧ cell.vm ≠ .unknown ∧ (∀ q, cell.vm ≠ .statics q) ∧ (cell.slots.size : Int) = pe_L σ r ∧ ∀ j : Nat, j < cell.slots.size → cell.slots[j]? = some (pe_vt ad (pe_tc (pe_aty (pe_K σ r))) (pe_I σ r j) (pe_R σ r j)))
def pe_Hd (D : va_G) (cA : Nat → ClassId) (b : Nat × Nat) (n0 : Nat) (H0 : Heap) (σ : pe_H) (H : Heap) : Prop :=
  ((b.1 < n0 ∧ b.2 < n0 ∧ b.1 ≠ b.2) ∧ pe_K σ 2 = 25) ∧ 3 ≤ pe_n σ ∧ H.size = n0 + (pe_n σ - 3) ∧ (∀ q : Nat, q < n0 → H[q]? = H0[q]?) ∧ pe_K σ 1 = 10 ∧ (∀ r, pe_K σ r < 26 → 0 < r ∧ r < pe_n σ ∧ pe_ce D cA (pe_ad b n0) σ H r)
theorem pe_ce.congr {D : va_G} {cA : Nat → ClassId} {ad : Nat → Nat} {σ σ' : pe_H} {H H' : Heap} {r : Nat} (h : pe_ce D cA ad σ H r) (hk : pe_K σ' r = pe_K σ r) (hl : pe_L σ' r = pe_L σ r) (hi : ∀ j, pe_I σ' r j = pe_I σ r j) (hr : ∀ j, pe_R σ' r j = pe_R σ r j) (hH : H'[ad r]? = H[ad r]?) : pe_ce D cA ad σ' H' r := by
  refine ⟨fun hc => ?_, fun hc => ?_⟩
  · rw [hk] at hc ⊢
    have h1 := (h.1 hc).kept hH
    exact h1.to (fun j _ => by rw [hi, hr])
  · rw [hk] at hc ⊢
    obtain ⟨cell, h1, h2, h3, h4, h5, h6⟩ := h.2 hc
    exact ⟨cell, by rw [hH]; exact h1, h2, h3, h4, by rw [hl]; exact h5, fun j hj => by rw [hi, hr]; exact h6 j hj⟩
/-- one cell written -/
theorem pe_Hd.upd {D : va_G} {cA : Nat → ClassId} {b : Nat × Nat} {n0 : Nat} {H0 H H' : Heap} {σ σ' : pe_H} {r : Nat} (h : pe_Hd D cA b n0 H0 σ H) (hn : pe_n σ' = pe_n σ) (hK : pe_K σ' = pe_K σ) (hL : pe_L σ' = pe_L σ) (hI : ∀ q, q ≠ r → ∀ j, pe_I σ' q j = pe_I σ q j) (hR : ∀ q, q ≠ r → ∀ j, pe_R σ' q j = pe_R σ q j)
    (h2 : 3 ≤ r) (hz : H'.size = H.size) (ho : ∀ q, q ≠ pe_ad b n0 r → H'[q]? = H[q]?) (hc : pe_ce D cA (pe_ad b n0) σ' H' r) : pe_Hd D cA b n0 H0 σ' H' := by
  obtain ⟨g1, g2, g3, g4, g5, g6⟩ := h
  refine ⟨⟨g1.1, by rw [hK]; exact g1.2⟩, by rw [hn]; exact g2, by rw [hz, hn]; exact g3, fun q hq => ?_, by rw [hK]; exact g5, fun q hq => ?_⟩
  · have : q ≠ pe_ad b n0 r := by unfold pe_ad; rw [if_neg (by omega), if_neg (by omega)]; omega
    rw [ho q this]; exact g4 q hq
  · rw [hK] at hq
    obtain ⟨k1, k2, k3⟩ := g6 q hq
    refine ⟨k1, by rw [hn]; exact k2, ?_⟩
    by_cases hqr : q = r
    · rw [hqr]; exact hc
    · exact k3.congr (by rw [hK]) (by rw [hL]) (hI q hqr) (hR q hqr) (ho _ (fun e => hqr (pe_ad_inj g1.1 k1 (by omega) e)))
/-- one cell more -/
theorem pe_Hd.new {D : va_G} {cA : Nat → ClassId} {b : Nat × Nat} {n0 : Nat} {H0 H H' : Heap} {σ σ' : pe_H} (h : pe_Hd D cA b n0 H0 σ H) (hn : pe_n σ' = pe_n σ + 1) (hK : ∀ q, q ≠ pe_n σ → pe_K σ' q = pe_K σ q) (hL : ∀ q, q ≠ pe_n σ → pe_L σ' q = pe_L σ q) (hI : ∀ q, q ≠ pe_n σ → ∀ j, pe_I σ' q j = pe_I σ q j) (hR : ∀ q, q ≠ pe_n σ → ∀ j, pe_R σ' q j = pe_R σ q j)
    (hz : H'.size = H.size + 1) (ho : ∀ q, q < H.size → H'[q]? = H[q]?) (hc : pe_ce D cA (pe_ad b n0) σ' H' (pe_n σ)) : pe_Hd D cA b n0 H0 σ' H' := by
  obtain ⟨g1, g2, g3, g4, g5, g6⟩ := h
  refine ⟨⟨g1.1, by rw [hK 2 (by omega)]; exact g1.2⟩, by omega, by omega, fun q hq => ?_, by rw [hK 1 (by omega)]; exact g5, fun q hq => ?_⟩
  · rw [ho q (by omega)]; exact g4 q hq
  · by_cases hqr : q = pe_n σ
    · subst hqr; exact ⟨by omega, by omega, hc⟩
    · rw [hK q hqr] at hq
      obtain ⟨k1, k2, k3⟩ := g6 q hq
      refine ⟨k1, by omega, k3.congr (hK q hqr) (hL q hqr) (hI q hqr) (hR q hqr) (ho _ ?_)⟩
      obtain ⟨⟨g11, g12, -⟩, -⟩ := g1
      unfold pe_ad
      split
      · omega
      · split <;> omega
theorem pe_ad_n {D : va_G} {cA : Nat → ClassId} {b : Nat × Nat} {n0 : Nat} {H0 H : Heap} {σ : pe_H} (h : pe_Hd D cA b n0 H0 σ H) : pe_ad b n0 (pe_n σ) = H.size := by
  obtain ⟨g1, g2, g3, -⟩ := h
  unfold pe_ad; rw [if_neg (by omega), if_neg (by omega)]; exact g3.symm
-- the tables' words that hold for every call
def pe_TB : List Cond := lw_tbl.filter goodWord
theorem pe_tb {pl : Nat} {w : Cond} (h : lw_tbl[pl]? = some w) (hg : goodWord w = true) : w ∈ pe_TB := List.mem_filter.mpr ⟨List.mem_of_getElem? h, hg⟩
theorem pe_u_in10 : ∀ c, c < 10 → (u_ws (pe_cl c).1 (pe_cl c).2.1 (pe_cl c).2.2).all (fun w => decide (w ∈ lw_tbl) && goodWord w) = true := by decide +kernel
theorem pe_u_inL : (u_ws (pe_cl 19).1 (pe_cl 19).2.1 (pe_cl 19).2.2).all (fun w => decide (w ∈ lw_tbl) && goodWord w) = true ∧ (u_ws (pe_cl 20).1 (pe_cl 20).2.1 (pe_cl 20).2.2).all (fun w => decide (w ∈ lw_tbl) && goodWord w) = true ∧ (u_ws (pe_cl 21).1 (pe_cl 21).2.1 (pe_cl 21).2.2).all (fun w => decide (w ∈ lw_tbl) && goodWord w) = true := by decide +kernel
theorem pe_kcs {c : Nat} (h : pe_kc c = true) : c < 10 ∨ c = 19 ∨ c = 20 ∨ c = 21 := by
  unfold pe_kc at h
  simp only [Bool.or_eq_true, Bool.and_eq_true, Nat.blt_eq, Nat.ble_eq] at h
  omega
/-- what holds of all kinds of objects -/
theorem pe_kall {P : Nat → Prop} (h : ∀ c, c < 10 → P c) (h1 : P 19) (h2 : P 20) (h3 : P 21) : ∀ c, pe_kc c = true → P c := fun c hc => by
  rcases pe_kcs hc with q | q | q | q
  · exact h c q
  · rw [q]; exact h1
  · rw [q]; exact h2
  · rw [q]; exact h3
theorem pe_u_in : ∀ c, pe_kc c = true → (u_ws (pe_cl c).1 (pe_cl c).2.1 (pe_cl c).2.2).all (fun w => decide (w ∈ lw_tbl) && goodWord w) = true := pe_kall pe_u_in10 pe_u_inL.1 pe_u_inL.2.1 pe_u_inL.2.2
theorem pe_u_tb {c : Nat} (hc : pe_kc c = true) : ∀ w ∈ u_ws (pe_cl c).1 (pe_cl c).2.1 (pe_cl c).2.2, w ∈ pe_TB := fun w hw => by
  have h := List.all_eq_true.mp (pe_u_in c hc) w hw
  simp only [Bool.and_eq_true, decide_eq_true_eq] at h
  exact List.mem_filter.mpr h
theorem pe_tyok : ∀ c, pe_kc c = true → ∀ k, k < (pe_cl c).2.2 → parseFieldDescriptor ((pe_cl c).2.1 k).2.2.1 = some (pe_ty c k) := pe_kall (by decide +kernel) (by decide +kernel) (by decide +kernel) (by decide +kernel)
theorem pe_nmok : ∀ c, pe_kc c = true → ∀ a, a < (pe_cl c).2.2 → ∀ b, b < (pe_cl c).2.2 → a ≠ b → ((pe_cl c).2.1 a).2.1 ≠ ((pe_cl c).2.1 b).2.1 := pe_kall (by decide +kernel) (by decide +kernel) (by decide +kernel) (by decide +kernel)
theorem pe_dcok : ∀ c, pe_kc c = true → ∀ k, k < (pe_cl c).2.2 → ((pe_cl c).2.1 k).1 = pe_rn c ∧ (pe_cl c).1 = pe_rn c := pe_kall (by decide +kernel) (by decide +kernel) (by decide +kernel) (by decide +kernel)
theorem pe_fok : ∀ o i c j pl, pe_go (pe_fT o) i = some (c, j, pl) → pe_kc c = true ∧ j < (pe_cl c).2.2 ∧ lw_tbl[pl]? = some (.fieldLink (pe_rn o) i ((pe_cl c).2.1 j).1 ((pe_cl c).2.1 j).2.1 ((pe_cl c).2.1 j).2.2.1) := by
  intro o i c j pl h
  have hm := pe_go_mem _ _ _ h
  have key : ∀ o, ∀ q ∈ pe_fT o, lw_tbl[q.2.2.2]? = some (.fieldLink (pe_rn o) q.1 ((pe_cl q.2.1).2.1 q.2.2.1).1 ((pe_cl q.2.1).2.1 q.2.2.1).2.1 ((pe_cl q.2.1).2.1 q.2.2.1).2.2.1) ∧ pe_kc q.2.1 = true ∧ q.2.2.1 < (pe_cl q.2.1).2.2 := by
    intro o
    match o with
    | 0 => exact pe_f0_ok
    | 1 => exact pe_f1_ok
    | 2 => exact pe_f2_ok
    | 3 => exact pe_f3_ok
    | 4 => exact pe_f4_ok
    | 5 => exact pe_f5_ok
    | 6 => exact pe_f6_ok
    | 7 => exact pe_f7_ok
    | 8 => exact pe_f8_ok
    | 9 => exact pe_f9_ok
    | 10 => exact pe_f21_ok
    | 11 => exact pe_f11_ok
    | 12 => exact pe_f12_ok
    | 13 => exact pe_f13_ok
    | 14 => exact pe_f21_ok
    | 15 => exact pe_f21_ok
    | 16 => exact pe_f21_ok
    | 17 => exact pe_f21_ok
    | 18 => exact pe_f21_ok
    | 19 => exact pe_f19_ok
    | 20 => exact pe_f20_ok
    | 21 => exact pe_f21_ok
    | n + 22 => exact pe_f21_ok
  obtain ⟨h1, h2, h3⟩ := key o _ hm
  exact ⟨h2, h3, h1⟩
theorem pe_gok : ∀ o i c j pl, pe_go (pe_gT o) i = some (c, j, pl) → pe_kc c = true ∧ j < (pe_cl c).2.2 ∧ lw_tbl[pl]? = some (.fieldLinkNest (pe_rn o) i ((pe_cl c).2.1 j).1 ((pe_cl c).2.1 j).2.1 ((pe_cl c).2.1 j).2.2.1 (pe_ho o)) := by
  intro o i c j pl h
  have hm := pe_go_mem _ _ _ h
  have key : ∀ o, ∀ q ∈ pe_gT o, lw_tbl[q.2.2.2]? = some (.fieldLinkNest (pe_rn o) q.1 ((pe_cl q.2.1).2.1 q.2.2.1).1 ((pe_cl q.2.1).2.1 q.2.2.1).2.1 ((pe_cl q.2.1).2.1 q.2.2.1).2.2.1 (pe_ho o)) ∧ pe_kc q.2.1 = true ∧ q.2.2.1 < (pe_cl q.2.1).2.2 := by
    intro o
    match o with
    | 0 => exact pe_g0_ok
    | 1 => exact pe_g1_ok
    | 2 => exact pe_g2_ok
    | 3 => exact pe_g3_ok
    | 4 => exact pe_g4_ok
    | 5 => exact pe_g5_ok
    | 6 => exact pe_g6_ok
    | 7 => exact pe_g7_ok
    | 8 => exact pe_g8_ok
    | 9 => exact pe_g9_ok
    | 10 => exact pe_g21_ok
    | 11 => exact pe_g11_ok
    | 12 => exact pe_g12_ok
    | 13 => exact pe_g13_ok
    | 14 => exact pe_g21_ok
    | 15 => exact pe_g21_ok
    | 16 => exact pe_g21_ok
    | 17 => exact pe_g21_ok
    | 18 => exact pe_g21_ok
    | 19 => exact pe_g19_ok
    | 20 => exact pe_g20_ok
    | 21 => exact pe_g21_ok
    | n + 22 => exact pe_g21_ok
  obtain ⟨h1, h2, h3⟩ := key o _ hm
  exact ⟨h2, h3, h1⟩
/-- the words of links in a nest: of methods, of fields -/
def pe_N (s : State) : Prop := (∀ o i m pl, pe_go (pe_jT o) i = some (m, pl) → va_Nw (.methodLinkNest (pe_rn o) i (pe_me m).1 (pe_ho o)) s) ∧ ∀ o i c j pl, pe_go (pe_gT o) i = some (c, j, pl) → va_Nw (.fieldLinkNest (pe_rn o) i ((pe_cl c).2.1 j).1 ((pe_cl c).2.1 j).2.1 ((pe_cl c).2.1 j).2.2.1 (pe_ho o)) s
theorem pe_N.warm {s U : State} (hW : s.WarmedH U.vm) (h : pe_N s) : pe_N U := ⟨fun o i m pl hg => (h.1 o i m pl hg).warmM hW, fun o i c j pl hg => (h.2 o i c j pl hg).warmF hW⟩
theorem pe_N.same {s U : State} (hv : s.vm = U.vm) (h : pe_N s) : pe_N U := ⟨fun o i m pl hg => (h.1 o i m pl hg).same rfl hv, fun o i c j pl hg => (h.2 o i c j pl hg).same rfl hv⟩
/-- a field's link: of the class itself, or of its nest -/
theorem pe_fdk {args : Array Value} {s : State} {o i c j pl : Nat} (hts : ∀ w ∈ pe_TB, w.before args s = true) (hN : pe_N s) (h : pe_fd o i = some (c, j, pl)) : pe_kc c = true ∧ j < (pe_cl c).2.2 ∧ ((Cond.fieldLink (pe_rn o) i ((pe_cl c).2.1 j).1 ((pe_cl c).2.1 j).2.1 ((pe_cl c).2.1 j).2.2.1).before args s = true ∨ va_Nw (.fieldLinkNest (pe_rn o) i ((pe_cl c).2.1 j).1 ((pe_cl c).2.1 j).2.1 ((pe_cl c).2.1 j).2.2.1 (pe_ho o)) s) := by
  unfold pe_fd at h
  split at h
  · rename_i x hx
    cases h
    obtain ⟨h1, h2, h3⟩ := pe_fok _ _ _ _ _ hx
    exact ⟨h1, h2, Or.inl (hts _ (pe_tb h3 rfl))⟩
  · obtain ⟨h1, h2, h3⟩ := pe_gok _ _ _ _ _ h
    exact ⟨h1, h2, Or.inr (hN.2 _ _ _ _ _ h)⟩
end
section
/-! SOUND, 3: a step of the pure machine is the machine's -/
section PEW
variable {p : Program} {l : Launch} {e : Env} {R : Room} {s : State} {m : MethodId} {args : Array Value} {below : List Frame} {meth : Method} {c : Code} {Q : State → Prop} {cc : ByteArray}
variable {D : va_G} {cA : Nat → ClassId} {b : Nat × Nat} {n0 : Nat} {H0 : Heap} {nS uS nF uF nL : Nat}
def pe_PW (p : Program) (l : Launch) (e : Env) (R : Room) (s : State) (m : MethodId) (args : Array Value) (below : List Frame) (meth : Method) (c : Code) (Q : State → Prop) (D : va_G) (cA : Nat → ClassId) (b : Nat × Nat) (n0 : Nat) (H0 : Heap) (nS uS nF uF nL : Nat) (S : pe_S) : Prop :=
  pe_n S.2.2.2 ≤ nF ∧ pe_u S.2.2.2 ≤ uF ∧ (nS ≤ pe_n S.2.2.2 → uS ≤ pe_u S.2.2.2 → S.2.1.length = nL → ∀ (H : Heap) (Ls : Array Slot) (locs : List Loc), pe_Hd D cA b n0 H0 S.2.2.2 H → pe_lv (pe_ad b n0) Ls S.2.1 → (∀ q ∈ locs, n0 ≤ q.base) →
    W p l e R s m args below meth c H locs (pe_n S.2.2.2 - nS) (pe_u S.2.2.2 - uS) Q (F0 m S.1 Ls (S.2.2.1.map (pe_e (pe_ad b n0)))))
theorem pe_same {pc pc' : Nat} {ls ls' : List (Option pe_V)} {st st' : List pe_V} {σ : pe_H} (hlen : ls'.length = ls.length)
    (row : ∀ (H : Heap) (Ls : Array Slot) (locs : List Loc) (k z : Nat), pe_lv (pe_ad b n0) Ls ls → (∀ Ls' : Array Slot, pe_lv (pe_ad b n0) Ls' ls' → W p l e R s m args below meth c H locs k z Q (F0 m pc' Ls' (st'.map (pe_e (pe_ad b n0))))) → W p l e R s m args below meth c H locs k z Q (F0 m pc Ls (st.map (pe_e (pe_ad b n0)))))
    (h : pe_PW p l e R s m args below meth c Q D cA b n0 H0 nS uS nF uF nL (pc', ls', st', σ)) : pe_PW p l e R s m args below meth c Q D cA b n0 H0 nS uS nF uF nL (pc, ls, st, σ) :=
  ⟨h.1, h.2.1, fun h1 h2 h3 H Ls locs hH hL hlocs => row H Ls locs _ _ hL fun Ls' hL' => h.2.2 h1 h2 (hlen.trans h3) H Ls' locs hH hL' hlocs⟩
/-- locals stay -/
theorem pe_sm {pc pc' : Nat} {ls : List (Option pe_V)} {st st' : List pe_V} {σ : pe_H}
    (row : ∀ (H : Heap) (Ls : Array Slot) (locs : List Loc) (k z : Nat), pe_lv (pe_ad b n0) Ls ls → W p l e R s m args below meth c H locs k z Q (F0 m pc' Ls (st'.map (pe_e (pe_ad b n0)))) → W p l e R s m args below meth c H locs k z Q (F0 m pc Ls (st.map (pe_e (pe_ad b n0)))))
    (h : pe_PW p l e R s m args below meth c Q D cA b n0 H0 nS uS nF uF nL (pc', ls, st', σ)) : pe_PW p l e R s m args below meth c Q D cA b n0 H0 nS uS nF uF nL (pc, ls, st, σ) :=
  pe_same rfl (fun H Ls locs k z hL kk => row H Ls locs k z hL (kk Ls hL)) h
theorem pe_lvi {ad : Nat → Nat} {Ls : Array Slot} {ls : List (Option pe_V)} {i : Nat} {v : pe_V} (h : pe_lv ad Ls ls) (hv : pe_ld ls i = some v) : Ls[i]? = some (.val (pe_e ad v)) := h.2.2 i v hv
-- loads
theorem pe_r_ldi {S S' : pe_S} {φ : List Prop} {len k : Nat} (hx : p.tables.exec = Jvm.exec) (hb : c.code = cc) (hs : pe_ldi len k S = some (φ, S'))
    (hd : (len = 2 ∧ decode cc S.1 = .ok (.iload k, 2)) ∨ (∃ k' : Fin 4, k'.val = k ∧ len = 1 ∧ decode cc S.1 = .ok (.iload_n k', 1)))
    (h : pe_PW p l e R s m args below meth c Q D cA b n0 H0 nS uS nF uF nL S') : pe_PW p l e R s m args below meth c Q D cA b n0 H0 nS uS nF uF nL S := by
  obtain ⟨pc, ls, st, σ⟩ := S
  unfold pe_ldi at hs
  split at hs
  · rename_i x hv
    unfold pe_psh at hs
    cases hs
    refine pe_sm (fun H Ls locs k0 z hL kk => ?_) h
    rcases hd with ⟨rfl, hd⟩ | ⟨k', rfl, rfl, hd⟩
    · exact lv_iload hx hb hd (pe_lvi hL hv) kk
    · exact lv_iload_n hx hb hd rfl (pe_lvi hL hv) kk
  · cases hs
theorem pe_r_ldl {S S' : pe_S} {φ : List Prop} {len k : Nat} (hx : p.tables.exec = Jvm.exec) (hb : c.code = cc) (hs : pe_ldl len k S = some (φ, S'))
    (hd : (len = 2 ∧ decode cc S.1 = .ok (.lload k, 2)) ∨ (∃ k' : Fin 4, k'.val = k ∧ len = 1 ∧ decode cc S.1 = .ok (.lload_n k', 1)))
    (h : pe_PW p l e R s m args below meth c Q D cA b n0 H0 nS uS nF uF nL S') : pe_PW p l e R s m args below meth c Q D cA b n0 H0 nS uS nF uF nL S := by
  obtain ⟨pc, ls, st, σ⟩ := S
  unfold pe_ldl at hs
  split at hs
  · rename_i x hv
    unfold pe_psh at hs
    cases hs
    refine pe_sm (fun H Ls locs k0 z hL kk => ?_) h
    rcases hd with ⟨rfl, hd⟩ | ⟨k', rfl, rfl, hd⟩
    · exact lv_lload hx hb hd (pe_lvi hL hv) kk
    · exact lv_lload_n hx hb hd rfl (pe_lvi hL hv) kk
  · cases hs
theorem pe_r_nul (hx : p.tables.exec = Jvm.exec) (hb : c.code = cc) {H : Heap} {locs : List Loc} {k z pc i : Nat} {ls : Array Slot} {rest : List Value} {v : Value} (hv : v = .null ∨ ∃ x, v = .ref x) (hl : ls[i]? = some (.val v))
    (hd : decode cc pc = .ok (.aload i, 2)) (kk : W p l e R s m args below meth c H locs k z Q (F0 m (pc + 2) ls (v :: rest))) : W p l e R s m args below meth c H locs k z Q (F0 m pc ls rest) := by
  rcases hv with rfl | ⟨x, rfl⟩
  · exact lv_aloadN hx hb hd hl kk
  · exact lv_aload hx hb hd hl kk
theorem pe_r_nul1 (hx : p.tables.exec = Jvm.exec) (hb : c.code = cc) {H : Heap} {locs : List Loc} {k z pc : Nat} {i : Fin 4} {ls : Array Slot} {rest : List Value} {v : Value} (hv : v = .null ∨ ∃ x, v = .ref x) (hl : ls[i.val]? = some (.val v))
    (hd : decode cc pc = .ok (.aload_n i, 1)) (kk : W p l e R s m args below meth c H locs k z Q (F0 m (pc + 1) ls (v :: rest))) : W p l e R s m args below meth c H locs k z Q (F0 m pc ls rest) := by
  rcases hv with rfl | ⟨x, rfl⟩
  · exact lv_aload_nN hx hb hd rfl hl kk
  · exact lv_aload_n hx hb hd rfl hl kk
theorem pe_rf_or (ad : Nat → Nat) (r : Nat) : pe_rf ad r = .null ∨ ∃ x, pe_rf ad r = .ref x := by
  unfold pe_rf; split
  · exact Or.inl rfl
  · exact Or.inr ⟨_, rfl⟩
theorem pe_r_lda {S S' : pe_S} {φ : List Prop} {len k : Nat} (hx : p.tables.exec = Jvm.exec) (hb : c.code = cc) (hs : pe_lda len k S = some (φ, S'))
    (hd : (len = 2 ∧ decode cc S.1 = .ok (.aload k, 2)) ∨ (∃ k' : Fin 4, k'.val = k ∧ len = 1 ∧ decode cc S.1 = .ok (.aload_n k', 1)))
    (h : pe_PW p l e R s m args below meth c Q D cA b n0 H0 nS uS nF uF nL S') : pe_PW p l e R s m args below meth c Q D cA b n0 H0 nS uS nF uF nL S := by
  obtain ⟨pc, ls, st, σ⟩ := S
  unfold pe_lda at hs
  split at hs
  · rename_i x hv
    unfold pe_psh at hs
    cases hs
    refine pe_sm (fun H Ls locs k0 z hL kk => ?_) h
    rcases hd with ⟨rfl, hd⟩ | ⟨k', rfl, rfl, hd⟩
    · exact pe_r_nul hx hb (pe_rf_or _ _) (pe_lvi hL hv) hd kk
    · exact pe_r_nul1 hx hb (pe_rf_or _ _) (pe_lvi hL hv) hd kk
  · cases hs
-- stores
theorem pe_r_sti {S S' : pe_S} {φ : List Prop} {len k : Nat} (hx : p.tables.exec = Jvm.exec) (hb : c.code = cc) (hs : pe_sti len k S = some (φ, S'))
    (hd : (len = 2 ∧ decode cc S.1 = .ok (.istore k, 2)) ∨ (∃ k' : Fin 4, k'.val = k ∧ len = 1 ∧ decode cc S.1 = .ok (.istore_n k', 1)))
    (h : pe_PW p l e R s m args below meth c Q D cA b n0 H0 nS uS nF uF nL S') : pe_PW p l e R s m args below meth c Q D cA b n0 H0 nS uS nF uF nL S := by
  obtain ⟨pc, ls, st, σ⟩ := S
  unfold pe_sti at hs
  split at hs
  · rename_i x st' he
    split at hs
    · rename_i hk
      cases hs
      dsimp only at he hk h
      subst he
      refine pe_same (by unfold pe_st1; rw [pe_sto_len, pe_kil_len]) (fun H Ls locs k0 z hL kk => ?_) h
      rcases hd with ⟨rfl, hd⟩ | ⟨k', rfl, rfl, hd⟩
      · exact lv_istore hx hb hd (pe_lv_has hL) hk rfl (fun ls' hl' => kk ls' (pe_lv_st1 (v := .inl x) hk hl'))
      · exact lv_istore_n hx hb hd rfl (pe_lv_has hL) hk rfl (fun ls' hl' => kk ls' (pe_lv_st1 (v := .inl x) hk hl'))
    · cases hs
  · cases hs
theorem pe_r_stl {S S' : pe_S} {φ : List Prop} {len k : Nat} (hx : p.tables.exec = Jvm.exec) (hb : c.code = cc) (hs : pe_stl len k S = some (φ, S'))
    (hd : (len = 2 ∧ decode cc S.1 = .ok (.lstore k, 2)) ∨ (∃ k' : Fin 4, k'.val = k ∧ len = 1 ∧ decode cc S.1 = .ok (.lstore_n k', 1)))
    (h : pe_PW p l e R s m args below meth c Q D cA b n0 H0 nS uS nF uF nL S') : pe_PW p l e R s m args below meth c Q D cA b n0 H0 nS uS nF uF nL S := by
  obtain ⟨pc, ls, st, σ⟩ := S
  unfold pe_stl at hs
  split at hs
  · rename_i x st' he
    split at hs
    · rename_i hk
      cases hs
      dsimp only at he hk h
      subst he
      refine pe_same (by unfold pe_st2; rw [pe_sto_len, pe_sto_len, pe_kil_len]) (fun H Ls locs k0 z hL kk => ?_) h
      rcases hd with ⟨rfl, hd⟩ | ⟨k', rfl, rfl, hd⟩
      · exact lv_lstore hx hb hd (pe_lv_has hL) hk rfl (fun ls' hl' => kk ls' (pe_lv_st2 (v := .inr (.inl x)) hk hl'))
      · exact lv_lstore_n hx hb hd rfl (pe_lv_has hL) hk rfl (fun ls' hl' => kk ls' (pe_lv_st2 (v := .inr (.inl x)) hk hl'))
    · cases hs
  · cases hs
theorem pe_r_sta {S S' : pe_S} {φ : List Prop} {len k : Nat} (hx : p.tables.exec = Jvm.exec) (hb : c.code = cc) (hs : pe_sta len k S = some (φ, S')) (hd : (len = 2 ∧ decode cc S.1 = .ok (.astore k, 2)) ∨ (∃ k' : Fin 4, k'.val = k ∧ len = 1 ∧ decode cc S.1 = .ok (.astore_n k', 1)))
    (h : pe_PW p l e R s m args below meth c Q D cA b n0 H0 nS uS nF uF nL S') : pe_PW p l e R s m args below meth c Q D cA b n0 H0 nS uS nF uF nL S := by
  obtain ⟨pc, ls, st, σ⟩ := S
  unfold pe_sta at hs
  split at hs
  · rename_i x st' he
    split at hs
    · rename_i hk
      cases hs
      dsimp only at he hk h
      subst he
      refine pe_same (by unfold pe_st1; rw [pe_sto_len, pe_kil_len]) (fun H Ls locs k0 z hL kk => ?_) h
      have key : ∀ v : Value, (v = .null ∨ ∃ x, v = .ref x) → v = pe_rf (pe_ad b n0) x → W p l e R s m args below meth c H locs k0 z Q (F0 m pc Ls (v :: st'.map (pe_e (pe_ad b n0)))) := by
        intro v hv hvx
        rcases hv with rfl | ⟨y, rfl⟩
        · rcases hd with ⟨rfl, hd⟩ | ⟨k', rfl, rfl, hd⟩
          · exact lv_astoreN hx hb hd (pe_lv_has hL) hk rfl (fun ls' hl' => kk ls' (pe_lv_st1 (v := .inr (.inr x)) hk (by rw [hvx] at hl'; exact hl')))
          · exact lv_astore_nN hx hb hd rfl (pe_lv_has hL) hk rfl (fun ls' hl' => kk ls' (pe_lv_st1 (v := .inr (.inr x)) hk (by rw [hvx] at hl'; exact hl')))
        · rcases hd with ⟨rfl, hd⟩ | ⟨k', rfl, rfl, hd⟩
          · exact lv_astore hx hb hd (pe_lv_has hL) hk rfl (fun ls' hl' => kk ls' (pe_lv_st1 (v := .inr (.inr x)) hk (by rw [hvx] at hl'; exact hl')))
          · exact lv_astore_n hx hb hd rfl (pe_lv_has hL) hk rfl (fun ls' hl' => kk ls' (pe_lv_st1 (v := .inr (.inr x)) hk (by rw [hvx] at hl'; exact hl')))
      exact key _ (pe_rf_or _ _) rfl
    · cases hs
  · cases hs
theorem pe_r_iadd {S S' : pe_S} {φ : List Prop} (hx : p.tables.exec = Jvm.exec) (hb : c.code = cc) (hs : pe_ii (fun x y => ([], x + y)) S = some (φ, S')) (hφ : pe_all φ) (hd : decode cc S.1 = .ok (.iadd, 1))
    (h : pe_PW p l e R s m args below meth c Q D cA b n0 H0 nS uS nF uF nL S') : pe_PW p l e R s m args below meth c Q D cA b n0 H0 nS uS nF uF nL S := by
  obtain ⟨pc, ls, st, σ⟩ := S
  unfold pe_ii at hs
  split at hs
  · rename_i y x st' he
    cases hs
    dsimp only at he h
    subst he
    refine pe_sm (fun H Ls locs k0 z hL kk => ?_) h
    refine lv_iadd (x := Int32.ofInt x) (y := Int32.ofInt y) hx hb hd ?_
    rw [pe_add]; exact kk
  · cases hs

theorem pe_r_isub {S S' : pe_S} {φ : List Prop} (hx : p.tables.exec = Jvm.exec) (hb : c.code = cc) (hs : pe_ii (fun x y => ([], x - y)) S = some (φ, S')) (hφ : pe_all φ) (hd : decode cc S.1 = .ok (.isub, 1))
    (h : pe_PW p l e R s m args below meth c Q D cA b n0 H0 nS uS nF uF nL S') : pe_PW p l e R s m args below meth c Q D cA b n0 H0 nS uS nF uF nL S := by
  obtain ⟨pc, ls, st, σ⟩ := S
  unfold pe_ii at hs
  split at hs
  · rename_i y x st' he
    cases hs
    dsimp only at he h
    subst he
    refine pe_sm (fun H Ls locs k0 z hL kk => ?_) h
    refine lv_isub (x := Int32.ofInt x) (y := Int32.ofInt y) hx hb hd ?_
    rw [pe_sub]; exact kk
  · cases hs

theorem pe_r_imul {S S' : pe_S} {φ : List Prop} (hx : p.tables.exec = Jvm.exec) (hb : c.code = cc) (hs : pe_ii (fun x y => ([], x * y)) S = some (φ, S')) (hφ : pe_all φ) (hd : decode cc S.1 = .ok (.imul, 1))
    (h : pe_PW p l e R s m args below meth c Q D cA b n0 H0 nS uS nF uF nL S') : pe_PW p l e R s m args below meth c Q D cA b n0 H0 nS uS nF uF nL S := by
  obtain ⟨pc, ls, st, σ⟩ := S
  unfold pe_ii at hs
  split at hs
  · rename_i y x st' he
    cases hs
    dsimp only at he h
    subst he
    refine pe_sm (fun H Ls locs k0 z hL kk => ?_) h
    refine lv_imul (x := Int32.ofInt x) (y := Int32.ofInt y) hx hb hd ?_
    rw [pe_mul]; exact kk
  · cases hs

theorem pe_r_ladd {S S' : pe_S} {φ : List Prop} (hx : p.tables.exec = Jvm.exec) (hb : c.code = cc) (hs : pe_ll (fun x y => ([], x + y)) S = some (φ, S')) (hφ : pe_all φ) (hd : decode cc S.1 = .ok (.ladd, 1))
    (h : pe_PW p l e R s m args below meth c Q D cA b n0 H0 nS uS nF uF nL S') : pe_PW p l e R s m args below meth c Q D cA b n0 H0 nS uS nF uF nL S := by
  obtain ⟨pc, ls, st, σ⟩ := S
  unfold pe_ll at hs
  split at hs
  · rename_i y x st' he
    cases hs
    dsimp only at he h
    subst he
    refine pe_sm (fun H Ls locs k0 z hL kk => ?_) h
    refine lv_ladd (x := Int64.ofInt x) (y := Int64.ofInt y) hx hb hd ?_
    rw [pe_addl]; exact kk
  · cases hs

theorem pe_r_lsub {S S' : pe_S} {φ : List Prop} (hx : p.tables.exec = Jvm.exec) (hb : c.code = cc) (hs : pe_ll (fun x y => ([], x - y)) S = some (φ, S')) (hφ : pe_all φ) (hd : decode cc S.1 = .ok (.lsub, 1))
    (h : pe_PW p l e R s m args below meth c Q D cA b n0 H0 nS uS nF uF nL S') : pe_PW p l e R s m args below meth c Q D cA b n0 H0 nS uS nF uF nL S := by
  obtain ⟨pc, ls, st, σ⟩ := S
  unfold pe_ll at hs
  split at hs
  · rename_i y x st' he
    cases hs
    dsimp only at he h
    subst he
    refine pe_sm (fun H Ls locs k0 z hL kk => ?_) h
    refine lv_lsub (x := Int64.ofInt x) (y := Int64.ofInt y) hx hb hd ?_
    rw [pe_subl]; exact kk
  · cases hs

theorem pe_r_lmul {S S' : pe_S} {φ : List Prop} (hx : p.tables.exec = Jvm.exec) (hb : c.code = cc) (hs : pe_ll (fun x y => ([], x * y)) S = some (φ, S')) (hφ : pe_all φ) (hd : decode cc S.1 = .ok (.lmul, 1))
    (h : pe_PW p l e R s m args below meth c Q D cA b n0 H0 nS uS nF uF nL S') : pe_PW p l e R s m args below meth c Q D cA b n0 H0 nS uS nF uF nL S := by
  obtain ⟨pc, ls, st, σ⟩ := S
  unfold pe_ll at hs
  split at hs
  · rename_i y x st' he
    cases hs
    dsimp only at he h
    subst he
    refine pe_sm (fun H Ls locs k0 z hL kk => ?_) h
    refine lv_lmul (x := Int64.ofInt x) (y := Int64.ofInt y) hx hb hd ?_
    rw [pe_mull]; exact kk
  · cases hs

theorem pe_r_idiv {S S' : pe_S} {φ : List Prop} (hx : p.tables.exec = Jvm.exec) (hb : c.code = cc) (hs : pe_ii (fun x y => ([¬ pe_w y = 0], Int.tdiv (pe_w x) (pe_w y))) S = some (φ, S')) (hφ : pe_all φ) (hd : decode cc S.1 = .ok (.idiv, 1))
    (h : pe_PW p l e R s m args below meth c Q D cA b n0 H0 nS uS nF uF nL S') : pe_PW p l e R s m args below meth c Q D cA b n0 H0 nS uS nF uF nL S := by
  obtain ⟨pc, ls, st, σ⟩ := S
  unfold pe_ii at hs
  split at hs
  · rename_i y x st' he
    cases hs
    dsimp only at he h
    subst he
    refine pe_sm (fun H Ls locs k0 z hL kk => ?_) h
    refine lv_idiv (x := Int32.ofInt x) (y := Int32.ofInt y) hx hb hd (fun q => hφ ((pe_zero y).mp q)) ?_
    rw [pe_div]; exact kk
  · cases hs

theorem pe_r_irem {S S' : pe_S} {φ : List Prop} (hx : p.tables.exec = Jvm.exec) (hb : c.code = cc) (hs : pe_ii (fun x y => ([¬ pe_w y = 0], Int.tmod (pe_w x) (pe_w y))) S = some (φ, S')) (hφ : pe_all φ) (hd : decode cc S.1 = .ok (.irem, 1))
    (h : pe_PW p l e R s m args below meth c Q D cA b n0 H0 nS uS nF uF nL S') : pe_PW p l e R s m args below meth c Q D cA b n0 H0 nS uS nF uF nL S := by
  obtain ⟨pc, ls, st, σ⟩ := S
  unfold pe_ii at hs
  split at hs
  · rename_i y x st' he
    cases hs
    dsimp only at he h
    subst he
    refine pe_sm (fun H Ls locs k0 z hL kk => ?_) h
    refine lv_irem (x := Int32.ofInt x) (y := Int32.ofInt y) hx hb hd (fun q => hφ ((pe_zero y).mp q)) ?_
    rw [pe_rem]; exact kk
  · cases hs

theorem pe_r_ldiv {S S' : pe_S} {φ : List Prop} (hx : p.tables.exec = Jvm.exec) (hb : c.code = cc) (hs : pe_ll (fun x y => ([¬ pe_wl y = 0], Int.tdiv (pe_wl x) (pe_wl y))) S = some (φ, S')) (hφ : pe_all φ) (hd : decode cc S.1 = .ok (.ldiv, 1))
    (h : pe_PW p l e R s m args below meth c Q D cA b n0 H0 nS uS nF uF nL S') : pe_PW p l e R s m args below meth c Q D cA b n0 H0 nS uS nF uF nL S := by
  obtain ⟨pc, ls, st, σ⟩ := S
  unfold pe_ll at hs
  split at hs
  · rename_i y x st' he
    cases hs
    dsimp only at he h
    subst he
    refine pe_sm (fun H Ls locs k0 z hL kk => ?_) h
    refine lv_ldiv (x := Int64.ofInt x) (y := Int64.ofInt y) hx hb hd (fun q => hφ ((pe_zerol y).mp q)) ?_
    rw [pe_divl]; exact kk
  · cases hs

theorem pe_r_lrem {S S' : pe_S} {φ : List Prop} (hx : p.tables.exec = Jvm.exec) (hb : c.code = cc) (hs : pe_ll (fun x y => ([¬ pe_wl y = 0], Int.tmod (pe_wl x) (pe_wl y))) S = some (φ, S')) (hφ : pe_all φ) (hd : decode cc S.1 = .ok (.lrem, 1))
    (h : pe_PW p l e R s m args below meth c Q D cA b n0 H0 nS uS nF uF nL S') : pe_PW p l e R s m args below meth c Q D cA b n0 H0 nS uS nF uF nL S := by
  obtain ⟨pc, ls, st, σ⟩ := S
  unfold pe_ll at hs
  split at hs
  · rename_i y x st' he
    cases hs
    dsimp only at he h
    subst he
    refine pe_sm (fun H Ls locs k0 z hL kk => ?_) h
    refine lv_lrem (x := Int64.ofInt x) (y := Int64.ofInt y) hx hb hd (fun q => hφ ((pe_zerol y).mp q)) ?_
    rw [pe_reml]; exact kk
  · cases hs

theorem pe_r_iand {S S' : pe_S} {φ : List Prop} (hx : p.tables.exec = Jvm.exec) (hb : c.code = cc) (hs : pe_ii (fun x y => ([], pe_and x y)) S = some (φ, S')) (hφ : pe_all φ) (hd : decode cc S.1 = .ok (.iand, 1))
    (h : pe_PW p l e R s m args below meth c Q D cA b n0 H0 nS uS nF uF nL S') : pe_PW p l e R s m args below meth c Q D cA b n0 H0 nS uS nF uF nL S := by
  obtain ⟨pc, ls, st, σ⟩ := S
  unfold pe_ii at hs
  split at hs
  · rename_i y x st' he
    cases hs
    dsimp only at he h
    subst he
    refine pe_sm (fun H Ls locs k0 z hL kk => ?_) h
    refine lv_iand (x := Int32.ofInt x) (y := Int32.ofInt y) hx hb hd ?_
    rw [← Int32.ofInt_toInt ((Int32.ofInt x) &&& _)]; exact kk
  · cases hs

theorem pe_r_ior {S S' : pe_S} {φ : List Prop} (hx : p.tables.exec = Jvm.exec) (hb : c.code = cc) (hs : pe_ii (fun x y => ([], pe_or x y)) S = some (φ, S')) (hφ : pe_all φ) (hd : decode cc S.1 = .ok (.ior, 1))
    (h : pe_PW p l e R s m args below meth c Q D cA b n0 H0 nS uS nF uF nL S') : pe_PW p l e R s m args below meth c Q D cA b n0 H0 nS uS nF uF nL S := by
  obtain ⟨pc, ls, st, σ⟩ := S
  unfold pe_ii at hs
  split at hs
  · rename_i y x st' he
    cases hs
    dsimp only at he h
    subst he
    refine pe_sm (fun H Ls locs k0 z hL kk => ?_) h
    refine lv_ior (x := Int32.ofInt x) (y := Int32.ofInt y) hx hb hd ?_
    rw [← Int32.ofInt_toInt ((Int32.ofInt x) ||| _)]; exact kk
  · cases hs

theorem pe_r_ixor {S S' : pe_S} {φ : List Prop} (hx : p.tables.exec = Jvm.exec) (hb : c.code = cc) (hs : pe_ii (fun x y => ([], pe_xor x y)) S = some (φ, S')) (hφ : pe_all φ) (hd : decode cc S.1 = .ok (.ixor, 1))
    (h : pe_PW p l e R s m args below meth c Q D cA b n0 H0 nS uS nF uF nL S') : pe_PW p l e R s m args below meth c Q D cA b n0 H0 nS uS nF uF nL S := by
  obtain ⟨pc, ls, st, σ⟩ := S
  unfold pe_ii at hs
  split at hs
  · rename_i y x st' he
    cases hs
    dsimp only at he h
    subst he
    refine pe_sm (fun H Ls locs k0 z hL kk => ?_) h
    refine lv_ixor (x := Int32.ofInt x) (y := Int32.ofInt y) hx hb hd ?_
    rw [← Int32.ofInt_toInt ((Int32.ofInt x) ^^^ _)]; exact kk
  · cases hs

theorem pe_r_ishl {S S' : pe_S} {φ : List Prop} (hx : p.tables.exec = Jvm.exec) (hb : c.code = cc) (hs : pe_ii (fun x y => ([], pe_shl x y)) S = some (φ, S')) (hφ : pe_all φ) (hd : decode cc S.1 = .ok (.ishl, 1))
    (h : pe_PW p l e R s m args below meth c Q D cA b n0 H0 nS uS nF uF nL S') : pe_PW p l e R s m args below meth c Q D cA b n0 H0 nS uS nF uF nL S := by
  obtain ⟨pc, ls, st, σ⟩ := S
  unfold pe_ii at hs
  split at hs
  · rename_i y x st' he
    cases hs
    dsimp only at he h
    subst he
    refine pe_sm (fun H Ls locs k0 z hL kk => ?_) h
    refine lv_ishl (x := Int32.ofInt x) (y := Int32.ofInt y) hx hb hd ?_
    rw [← Int32.ofInt_toInt ((Int32.ofInt x) <<< _)]; exact kk
  · cases hs

theorem pe_r_ishr {S S' : pe_S} {φ : List Prop} (hx : p.tables.exec = Jvm.exec) (hb : c.code = cc) (hs : pe_ii (fun x y => ([], pe_shr x y)) S = some (φ, S')) (hφ : pe_all φ) (hd : decode cc S.1 = .ok (.ishr, 1))
    (h : pe_PW p l e R s m args below meth c Q D cA b n0 H0 nS uS nF uF nL S') : pe_PW p l e R s m args below meth c Q D cA b n0 H0 nS uS nF uF nL S := by
  obtain ⟨pc, ls, st, σ⟩ := S
  unfold pe_ii at hs
  split at hs
  · rename_i y x st' he
    cases hs
    dsimp only at he h
    subst he
    refine pe_sm (fun H Ls locs k0 z hL kk => ?_) h
    refine lv_ishr (x := Int32.ofInt x) (y := Int32.ofInt y) hx hb hd ?_
    rw [← Int32.ofInt_toInt ((Int32.ofInt x) >>> _)]; exact kk
  · cases hs

theorem pe_r_iushr {S S' : pe_S} {φ : List Prop} (hx : p.tables.exec = Jvm.exec) (hb : c.code = cc) (hs : pe_ii (fun x y => ([], pe_ushr x y)) S = some (φ, S')) (hφ : pe_all φ) (hd : decode cc S.1 = .ok (.iushr, 1))
    (h : pe_PW p l e R s m args below meth c Q D cA b n0 H0 nS uS nF uF nL S') : pe_PW p l e R s m args below meth c Q D cA b n0 H0 nS uS nF uF nL S := by
  obtain ⟨pc, ls, st, σ⟩ := S
  unfold pe_ii at hs
  split at hs
  · rename_i y x st' he
    cases hs
    dsimp only at he h
    subst he
    refine pe_sm (fun H Ls locs k0 z hL kk => ?_) h
    refine lv_iushr (x := Int32.ofInt x) (y := Int32.ofInt y) (v := Int32.ofInt (pe_ushr x y)) hx hb hd ?_ kk
    unfold pe_ushr; exact (Int32.ofInt_toInt _).symm
  · cases hs

end PEW
end
section
/-! SOUND, 4: the other steps that leave the heap -/
section PEW2
variable {p : Program} {l : Launch} {e : Env} {R : Room} {s : State} {m : MethodId} {args : Array Value} {below : List Frame} {meth : Method} {c : Code} {Q : State → Prop} {cc : ByteArray}
variable {D : va_G} {cA : Nat → ClassId} {b : Nat × Nat} {n0 : Nat} {H0 : Heap} {nS uS nF uF nL : Nat}

theorem pe_r_psh {S S' : pe_S} {φ : List Prop} {len : Nat} {v : pe_V} (hx : p.tables.exec = Jvm.exec) (hb : c.code = cc) (hs : pe_psh len v S = some (φ, S')) (row : ∀ (H : Heap) (Ls : Array Slot) (locs : List Loc) (k z : Nat) (rest : List Value), W p l e R s m args below meth c H locs k z Q (F0 m (S.1 + len) Ls (pe_e (pe_ad b n0) v :: rest)) → W p l e R s m args below meth c H locs k z Q (F0 m S.1 Ls rest))
    (h : pe_PW p l e R s m args below meth c Q D cA b n0 H0 nS uS nF uF nL S') : pe_PW p l e R s m args below meth c Q D cA b n0 H0 nS uS nF uF nL S := by
  obtain ⟨pc, ls, st, σ⟩ := S
  unfold pe_psh at hs
  cases hs
  exact pe_sm (fun H Ls locs k0 z hL kk => row H Ls locs k0 z _ kk) h

theorem pe_r_x1 {S S' : pe_S} {φ : List Prop} {f : Int → pe_V} (hx : p.tables.exec = Jvm.exec) (hb : c.code = cc) (hs : pe_x1 f S = some (φ, S')) (row : ∀ (x : Int) (H : Heap) (Ls : Array Slot) (locs : List Loc) (k z : Nat) (rest : List Value), W p l e R s m args below meth c H locs k z Q (F0 m (S.1 + 1) Ls (pe_e (pe_ad b n0) (f x) :: rest)) → W p l e R s m args below meth c H locs k z Q (F0 m S.1 Ls (.int (Int32.ofInt x) :: rest)))
    (h : pe_PW p l e R s m args below meth c Q D cA b n0 H0 nS uS nF uF nL S') : pe_PW p l e R s m args below meth c Q D cA b n0 H0 nS uS nF uF nL S := by
  obtain ⟨pc, ls, st, σ⟩ := S
  unfold pe_x1 at hs
  split at hs
  · rename_i x st' he
    cases hs
    dsimp only at he h row
    subst he
    exact pe_sm (fun H Ls locs k0 z hL kk => row x H Ls locs k0 z _ kk) h
  · cases hs

theorem pe_r_y1 {S S' : pe_S} {φ : List Prop} {f : Int → pe_V} (hx : p.tables.exec = Jvm.exec) (hb : c.code = cc) (hs : pe_y1 f S = some (φ, S')) (row : ∀ (x : Int) (H : Heap) (Ls : Array Slot) (locs : List Loc) (k z : Nat) (rest : List Value), W p l e R s m args below meth c H locs k z Q (F0 m (S.1 + 1) Ls (pe_e (pe_ad b n0) (f x) :: rest)) → W p l e R s m args below meth c H locs k z Q (F0 m S.1 Ls (.long (Int64.ofInt x) :: rest)))
    (h : pe_PW p l e R s m args below meth c Q D cA b n0 H0 nS uS nF uF nL S') : pe_PW p l e R s m args below meth c Q D cA b n0 H0 nS uS nF uF nL S := by
  obtain ⟨pc, ls, st, σ⟩ := S
  unfold pe_y1 at hs
  split at hs
  · rename_i x st' he
    cases hs
    dsimp only at he h row
    subst he
    exact pe_sm (fun H Ls locs k0 z hL kk => row x H Ls locs k0 z _ kk) h
  · cases hs

theorem pe_r_br {pc : Nat} {ls : List (Option pe_V)} {st0 st : List pe_V} {σ : pe_H} {S' : pe_S} {φ : List Prop} {q : Bool} {off : Int} (hs : pe_br q off (pc, ls, st0, σ) st = some (φ, S'))
    (row : ∀ (tgt : Nat), (pc : Int) + off = (tgt : Int) → ∀ (H : Heap) (Ls : Array Slot) (locs : List Loc) (k z : Nat), (q = true → W p l e R s m args below meth c H locs k z Q (F0 m tgt Ls (st.map (pe_e (pe_ad b n0))))) → (q = false → W p l e R s m args below meth c H locs k z Q (F0 m (pc + 3) Ls (st.map (pe_e (pe_ad b n0))))) → W p l e R s m args below meth c H locs k z Q (F0 m pc Ls (st0.map (pe_e (pe_ad b n0)))))
    (h : pe_PW p l e R s m args below meth c Q D cA b n0 H0 nS uS nF uF nL S') : pe_PW p l e R s m args below meth c Q D cA b n0 H0 nS uS nF uF nL (pc, ls, st0, σ) := by
  unfold pe_br at hs
  split at hs
  · rename_i t ht
    cases hs
    dsimp only at ht h
    refine pe_sm (fun H Ls locs k0 z hL kk => row t ht H Ls locs k0 z (fun hq => ?_) (fun hq => ?_)) h
    · rw [hq] at kk; exact kk
    · rw [hq] at kk; exact kk
  · cases hs

theorem pe_r_goto {S S' : pe_S} {φ : List Prop} {off : Int} (hx : p.tables.exec = Jvm.exec) (hb : c.code = cc) (hs : pe_br true off S S.2.2.1 = some (φ, S')) (hd : decode cc S.1 = .ok (.goto off, 3))
    (h : pe_PW p l e R s m args below meth c Q D cA b n0 H0 nS uS nF uF nL S') : pe_PW p l e R s m args below meth c Q D cA b n0 H0 nS uS nF uF nL S := by
  obtain ⟨pc, ls, st, σ⟩ := S
  exact pe_r_br hs (fun tgt ht H Ls locs k z h1 _ => lv_goto hx hb hd ht (h1 rfl)) h

theorem pe_w_icmp_eq (hx : p.tables.exec = Jvm.exec) (hb : c.code = cc) {pc : Nat} {off : Int} {tgt : Nat} {x y : Int} (hd : decode cc pc = .ok (.if_icmp .eq off, 3)) (ht : (pc : Int) + off = (tgt : Int)) {H : Heap} {Ls : Array Slot} {locs : List Loc} {k z : Nat} {rest : List Value}
    (h1 : pe_cb .eq (pe_w x) (pe_w y) = true → W p l e R s m args below meth c H locs k z Q (F0 m tgt Ls rest)) (h2 : pe_cb .eq (pe_w x) (pe_w y) = false → W p l e R s m args below meth c H locs k z Q (F0 m (pc + 3) Ls rest)) : W p l e R s m args below meth c H locs k z Q (F0 m pc Ls (.int (Int32.ofInt y) :: .int (Int32.ofInt x) :: rest)) :=
  lv_icmp_eq hx hb hd ht (fun q => h1 (by simp [pe_cb, (pe_eq x y).mp q])) (fun q => h2 (by simp only [pe_cb, decide_eq_false_iff_not]; exact fun w => q ((pe_eq x y).mpr w)))

theorem pe_w_icmp_ne (hx : p.tables.exec = Jvm.exec) (hb : c.code = cc) {pc : Nat} {off : Int} {tgt : Nat} {x y : Int} (hd : decode cc pc = .ok (.if_icmp .ne off, 3)) (ht : (pc : Int) + off = (tgt : Int)) {H : Heap} {Ls : Array Slot} {locs : List Loc} {k z : Nat} {rest : List Value}
    (h1 : pe_cb .ne (pe_w x) (pe_w y) = true → W p l e R s m args below meth c H locs k z Q (F0 m tgt Ls rest)) (h2 : pe_cb .ne (pe_w x) (pe_w y) = false → W p l e R s m args below meth c H locs k z Q (F0 m (pc + 3) Ls rest)) : W p l e R s m args below meth c H locs k z Q (F0 m pc Ls (.int (Int32.ofInt y) :: .int (Int32.ofInt x) :: rest)) :=
  lv_icmp_ne hx hb hd ht (fun q => h1 (by simp only [pe_cb, decide_eq_true_eq]; exact fun w => q ((pe_eq x y).mpr w))) (fun q => h2 (by simp [pe_cb, (pe_eq x y).mp q]))

theorem pe_w_icmp_lt (hx : p.tables.exec = Jvm.exec) (hb : c.code = cc) {pc : Nat} {off : Int} {tgt : Nat} {x y : Int} (hd : decode cc pc = .ok (.if_icmp .lt off, 3)) (ht : (pc : Int) + off = (tgt : Int)) {H : Heap} {Ls : Array Slot} {locs : List Loc} {k z : Nat} {rest : List Value}
    (h1 : pe_cb .lt (pe_w x) (pe_w y) = true → W p l e R s m args below meth c H locs k z Q (F0 m tgt Ls rest)) (h2 : pe_cb .lt (pe_w x) (pe_w y) = false → W p l e R s m args below meth c H locs k z Q (F0 m (pc + 3) Ls rest)) : W p l e R s m args below meth c H locs k z Q (F0 m pc Ls (.int (Int32.ofInt y) :: .int (Int32.ofInt x) :: rest)) :=
  lv_icmp_lt hx hb hd ht (fun q => h1 (by simp only [pe_cb, decide_eq_true_eq]; exact (pe_lt x y).mp q)) (fun q => h2 (by simp only [pe_cb, decide_eq_false_iff_not]; exact fun w => q ((pe_lt x y).mpr w)))

theorem pe_w_icmp_ge (hx : p.tables.exec = Jvm.exec) (hb : c.code = cc) {pc : Nat} {off : Int} {tgt : Nat} {x y : Int} (hd : decode cc pc = .ok (.if_icmp .ge off, 3)) (ht : (pc : Int) + off = (tgt : Int)) {H : Heap} {Ls : Array Slot} {locs : List Loc} {k z : Nat} {rest : List Value}
    (h1 : pe_cb .ge (pe_w x) (pe_w y) = true → W p l e R s m args below meth c H locs k z Q (F0 m tgt Ls rest)) (h2 : pe_cb .ge (pe_w x) (pe_w y) = false → W p l e R s m args below meth c H locs k z Q (F0 m (pc + 3) Ls rest)) : W p l e R s m args below meth c H locs k z Q (F0 m pc Ls (.int (Int32.ofInt y) :: .int (Int32.ofInt x) :: rest)) :=
  lv_icmp_ge hx hb hd ht (fun q => h1 (by simp only [pe_cb, decide_eq_true_eq]; exact (pe_le y x).mp q)) (fun q => h2 (by simp only [pe_cb, decide_eq_false_iff_not]; exact fun w => q ((pe_le y x).mpr w)))

theorem pe_w_icmp_gt (hx : p.tables.exec = Jvm.exec) (hb : c.code = cc) {pc : Nat} {off : Int} {tgt : Nat} {x y : Int} (hd : decode cc pc = .ok (.if_icmp .gt off, 3)) (ht : (pc : Int) + off = (tgt : Int)) {H : Heap} {Ls : Array Slot} {locs : List Loc} {k z : Nat} {rest : List Value}
    (h1 : pe_cb .gt (pe_w x) (pe_w y) = true → W p l e R s m args below meth c H locs k z Q (F0 m tgt Ls rest)) (h2 : pe_cb .gt (pe_w x) (pe_w y) = false → W p l e R s m args below meth c H locs k z Q (F0 m (pc + 3) Ls rest)) : W p l e R s m args below meth c H locs k z Q (F0 m pc Ls (.int (Int32.ofInt y) :: .int (Int32.ofInt x) :: rest)) :=
  lv_icmp_gt hx hb hd ht (fun q => h1 (by simp only [pe_cb, decide_eq_true_eq]; exact (pe_lt y x).mp q)) (fun q => h2 (by simp only [pe_cb, decide_eq_false_iff_not]; exact fun w => q ((pe_lt y x).mpr w)))

theorem pe_w_icmp_le (hx : p.tables.exec = Jvm.exec) (hb : c.code = cc) {pc : Nat} {off : Int} {tgt : Nat} {x y : Int} (hd : decode cc pc = .ok (.if_icmp .le off, 3)) (ht : (pc : Int) + off = (tgt : Int)) {H : Heap} {Ls : Array Slot} {locs : List Loc} {k z : Nat} {rest : List Value}
    (h1 : pe_cb .le (pe_w x) (pe_w y) = true → W p l e R s m args below meth c H locs k z Q (F0 m tgt Ls rest)) (h2 : pe_cb .le (pe_w x) (pe_w y) = false → W p l e R s m args below meth c H locs k z Q (F0 m (pc + 3) Ls rest)) : W p l e R s m args below meth c H locs k z Q (F0 m pc Ls (.int (Int32.ofInt y) :: .int (Int32.ofInt x) :: rest)) :=
  lv_icmp_le hx hb hd ht (fun q => h1 (by simp only [pe_cb, decide_eq_true_eq]; exact (pe_le x y).mp q)) (fun q => h2 (by simp only [pe_cb, decide_eq_false_iff_not]; exact fun w => q ((pe_le x y).mpr w)))

theorem pe_r_icmp {S S' : pe_S} {φ : List Prop} {q : Jvm.ClassFile.Cond} {off : Int} (hx : p.tables.exec = Jvm.exec) (hb : c.code = cc) (hs : (match S.2.2.1 with | .inl y :: .inl x :: st => pe_br (pe_cb q (pe_w x) (pe_w y)) off S st | _ => none) = some (φ, S')) (hd : decode cc S.1 = .ok (.if_icmp q off, 3))
    (h : pe_PW p l e R s m args below meth c Q D cA b n0 H0 nS uS nF uF nL S') : pe_PW p l e R s m args below meth c Q D cA b n0 H0 nS uS nF uF nL S := by
  obtain ⟨pc, ls, st, σ⟩ := S
  split at hs
  · rename_i y x st' he
    dsimp only at he hs hd
    subst he
    refine pe_r_br hs (fun tgt ht H Ls locs k z h1 h2 => ?_) h
    cases q with
    | eq => exact pe_w_icmp_eq hx hb hd ht h1 h2
    | ne => exact pe_w_icmp_ne hx hb hd ht h1 h2
    | lt => exact pe_w_icmp_lt hx hb hd ht h1 h2
    | ge => exact pe_w_icmp_ge hx hb hd ht h1 h2
    | gt => exact pe_w_icmp_gt hx hb hd ht h1 h2
    | le => exact pe_w_icmp_le hx hb hd ht h1 h2
  · cases hs

theorem pe_w0 : pe_w 0 = 0 := by decide
theorem pe_lt0 (x : Int) : Int32.ofInt x < 0 ↔ pe_w x < 0 := by have h := pe_lt x 0; rw [pe_w0] at h; exact h
theorem pe_gt0 (x : Int) : 0 < Int32.ofInt x ↔ 0 < pe_w x := by have h := pe_lt 0 x; rw [pe_w0] at h; exact h
theorem pe_le0 (x : Int) : Int32.ofInt x ≤ 0 ↔ pe_w x ≤ 0 := by have h := pe_le x 0; rw [pe_w0] at h; exact h
theorem pe_ge0 (x : Int) : 0 ≤ Int32.ofInt x ↔ 0 ≤ pe_w x := by have h := pe_le 0 x; rw [pe_w0] at h; exact h
theorem pe_w_if_eq (hx : p.tables.exec = Jvm.exec) (hb : c.code = cc) {pc : Nat} {off : Int} {tgt : Nat} {x : Int} (hd : decode cc pc = .ok (.ifCond .eq off, 3)) (ht : (pc : Int) + off = (tgt : Int)) {H : Heap} {Ls : Array Slot} {locs : List Loc} {k z : Nat} {rest : List Value}
    (h1 : pe_cb .eq (pe_w x) 0 = true → W p l e R s m args below meth c H locs k z Q (F0 m tgt Ls rest)) (h2 : pe_cb .eq (pe_w x) 0 = false → W p l e R s m args below meth c H locs k z Q (F0 m (pc + 3) Ls rest)) : W p l e R s m args below meth c H locs k z Q (F0 m pc Ls (.int (Int32.ofInt x) :: rest)) :=
  lv_if_eq hx hb hd ht (fun q => h1 (by simp only [pe_cb, decide_eq_true_eq]; exact (pe_zero x).mp q)) (fun q => h2 (by simp only [pe_cb, decide_eq_false_iff_not]; exact fun w => q ((pe_zero x).mpr w)))

theorem pe_w_if_ne (hx : p.tables.exec = Jvm.exec) (hb : c.code = cc) {pc : Nat} {off : Int} {tgt : Nat} {x : Int} (hd : decode cc pc = .ok (.ifCond .ne off, 3)) (ht : (pc : Int) + off = (tgt : Int)) {H : Heap} {Ls : Array Slot} {locs : List Loc} {k z : Nat} {rest : List Value}
    (h1 : pe_cb .ne (pe_w x) 0 = true → W p l e R s m args below meth c H locs k z Q (F0 m tgt Ls rest)) (h2 : pe_cb .ne (pe_w x) 0 = false → W p l e R s m args below meth c H locs k z Q (F0 m (pc + 3) Ls rest)) : W p l e R s m args below meth c H locs k z Q (F0 m pc Ls (.int (Int32.ofInt x) :: rest)) :=
  lv_if_ne hx hb hd ht (fun q => h1 (by simp only [pe_cb, decide_eq_true_eq]; exact fun w => q ((pe_zero x).mpr w))) (fun q => h2 (by simp [pe_cb, (pe_zero x).mp q]))

theorem pe_w_if_lt (hx : p.tables.exec = Jvm.exec) (hb : c.code = cc) {pc : Nat} {off : Int} {tgt : Nat} {x : Int} (hd : decode cc pc = .ok (.ifCond .lt off, 3)) (ht : (pc : Int) + off = (tgt : Int)) {H : Heap} {Ls : Array Slot} {locs : List Loc} {k z : Nat} {rest : List Value}
    (h1 : pe_cb .lt (pe_w x) 0 = true → W p l e R s m args below meth c H locs k z Q (F0 m tgt Ls rest)) (h2 : pe_cb .lt (pe_w x) 0 = false → W p l e R s m args below meth c H locs k z Q (F0 m (pc + 3) Ls rest)) : W p l e R s m args below meth c H locs k z Q (F0 m pc Ls (.int (Int32.ofInt x) :: rest)) :=
  lv_if_lt hx hb hd ht (fun q => h1 (by simp only [pe_cb, decide_eq_true_eq]; exact (pe_lt0 x).mp q)) (fun q => h2 (by simp only [pe_cb, decide_eq_false_iff_not]; exact fun w => q ((pe_lt0 x).mpr w)))

theorem pe_w_if_ge (hx : p.tables.exec = Jvm.exec) (hb : c.code = cc) {pc : Nat} {off : Int} {tgt : Nat} {x : Int} (hd : decode cc pc = .ok (.ifCond .ge off, 3)) (ht : (pc : Int) + off = (tgt : Int)) {H : Heap} {Ls : Array Slot} {locs : List Loc} {k z : Nat} {rest : List Value}
    (h1 : pe_cb .ge (pe_w x) 0 = true → W p l e R s m args below meth c H locs k z Q (F0 m tgt Ls rest)) (h2 : pe_cb .ge (pe_w x) 0 = false → W p l e R s m args below meth c H locs k z Q (F0 m (pc + 3) Ls rest)) : W p l e R s m args below meth c H locs k z Q (F0 m pc Ls (.int (Int32.ofInt x) :: rest)) :=
  lv_if_ge hx hb hd ht (fun q => h1 (by simp only [pe_cb, decide_eq_true_eq]; exact (pe_ge0 x).mp q)) (fun q => h2 (by simp only [pe_cb, decide_eq_false_iff_not]; exact fun w => q ((pe_ge0 x).mpr w)))

theorem pe_w_if_gt (hx : p.tables.exec = Jvm.exec) (hb : c.code = cc) {pc : Nat} {off : Int} {tgt : Nat} {x : Int} (hd : decode cc pc = .ok (.ifCond .gt off, 3)) (ht : (pc : Int) + off = (tgt : Int)) {H : Heap} {Ls : Array Slot} {locs : List Loc} {k z : Nat} {rest : List Value}
    (h1 : pe_cb .gt (pe_w x) 0 = true → W p l e R s m args below meth c H locs k z Q (F0 m tgt Ls rest)) (h2 : pe_cb .gt (pe_w x) 0 = false → W p l e R s m args below meth c H locs k z Q (F0 m (pc + 3) Ls rest)) : W p l e R s m args below meth c H locs k z Q (F0 m pc Ls (.int (Int32.ofInt x) :: rest)) :=
  lv_if_gt hx hb hd ht (fun q => h1 (by simp only [pe_cb, decide_eq_true_eq]; exact (pe_gt0 x).mp q)) (fun q => h2 (by simp only [pe_cb, decide_eq_false_iff_not]; exact fun w => q ((pe_gt0 x).mpr w)))

theorem pe_w_if_le (hx : p.tables.exec = Jvm.exec) (hb : c.code = cc) {pc : Nat} {off : Int} {tgt : Nat} {x : Int} (hd : decode cc pc = .ok (.ifCond .le off, 3)) (ht : (pc : Int) + off = (tgt : Int)) {H : Heap} {Ls : Array Slot} {locs : List Loc} {k z : Nat} {rest : List Value}
    (h1 : pe_cb .le (pe_w x) 0 = true → W p l e R s m args below meth c H locs k z Q (F0 m tgt Ls rest)) (h2 : pe_cb .le (pe_w x) 0 = false → W p l e R s m args below meth c H locs k z Q (F0 m (pc + 3) Ls rest)) : W p l e R s m args below meth c H locs k z Q (F0 m pc Ls (.int (Int32.ofInt x) :: rest)) :=
  lv_if_le hx hb hd ht (fun q => h1 (by simp only [pe_cb, decide_eq_true_eq]; exact (pe_le0 x).mp q)) (fun q => h2 (by simp only [pe_cb, decide_eq_false_iff_not]; exact fun w => q ((pe_le0 x).mpr w)))

theorem pe_r_if {S S' : pe_S} {φ : List Prop} {q : Jvm.ClassFile.Cond} {off : Int} (hx : p.tables.exec = Jvm.exec) (hb : c.code = cc) (hs : (match S.2.2.1 with | .inl x :: st => pe_br (pe_cb q (pe_w x) 0) off S st | _ => none) = some (φ, S')) (hd : decode cc S.1 = .ok (.ifCond q off, 3))
    (h : pe_PW p l e R s m args below meth c Q D cA b n0 H0 nS uS nF uF nL S') : pe_PW p l e R s m args below meth c Q D cA b n0 H0 nS uS nF uF nL S := by
  obtain ⟨pc, ls, st, σ⟩ := S
  split at hs
  · rename_i x st' he
    dsimp only at he hs hd
    subst he
    refine pe_r_br hs (fun tgt ht H Ls locs k z h1 h2 => ?_) h
    cases q with
    | eq => exact pe_w_if_eq hx hb hd ht h1 h2
    | ne => exact pe_w_if_ne hx hb hd ht h1 h2
    | lt => exact pe_w_if_lt hx hb hd ht h1 h2
    | ge => exact pe_w_if_ge hx hb hd ht h1 h2
    | gt => exact pe_w_if_gt hx hb hd ht h1 h2
    | le => exact pe_w_if_le hx hb hd ht h1 h2
  · cases hs

theorem pe_r_ifnull {S S' : pe_S} {φ : List Prop} {off : Int} (hx : p.tables.exec = Jvm.exec) (hb : c.code = cc) (hs : (match S.2.2.1 with | .inr (.inr x) :: st => pe_br (decide (x = 0)) off S st | _ => none) = some (φ, S')) (hd : decode cc S.1 = .ok (.ifnull off, 3))
    (h : pe_PW p l e R s m args below meth c Q D cA b n0 H0 nS uS nF uF nL S') : pe_PW p l e R s m args below meth c Q D cA b n0 H0 nS uS nF uF nL S := by
  obtain ⟨pc, ls, st, σ⟩ := S
  split at hs
  · rename_i x st' he
    dsimp only at he hs hd
    subst he
    refine pe_r_br hs (fun tgt ht H Ls locs k z h1 h2 => ?_) h
    show W p l e R s m args below meth c H locs k z Q (F0 m pc Ls (pe_rf (pe_ad b n0) x :: st'.map (pe_e (pe_ad b n0))))
    by_cases hx0 : x = 0
    · rw [show pe_rf (pe_ad b n0) x = .null by unfold pe_rf; rw [if_pos hx0]]
      exact lv_ifnullN hx hb hd ht (h1 (by simp [hx0]))
    · rw [show pe_rf (pe_ad b n0) x = .ref (pe_ad b n0 x) by unfold pe_rf; rw [if_neg hx0]]
      exact lv_ifnull hx hb hd (h2 (by simp [hx0]))
  · cases hs

theorem pe_r_ifnonnull {S S' : pe_S} {φ : List Prop} {off : Int} (hx : p.tables.exec = Jvm.exec) (hb : c.code = cc) (hs : (match S.2.2.1 with | .inr (.inr x) :: st => pe_br (decide (¬ x = 0)) off S st | _ => none) = some (φ, S')) (hd : decode cc S.1 = .ok (.ifnonnull off, 3))
    (h : pe_PW p l e R s m args below meth c Q D cA b n0 H0 nS uS nF uF nL S') : pe_PW p l e R s m args below meth c Q D cA b n0 H0 nS uS nF uF nL S := by
  obtain ⟨pc, ls, st, σ⟩ := S
  split at hs
  · rename_i x st' he
    dsimp only at he hs hd
    subst he
    refine pe_r_br hs (fun tgt ht H Ls locs k z h1 h2 => ?_) h
    show W p l e R s m args below meth c H locs k z Q (F0 m pc Ls (pe_rf (pe_ad b n0) x :: st'.map (pe_e (pe_ad b n0))))
    by_cases hx0 : x = 0
    · rw [show pe_rf (pe_ad b n0) x = .null by unfold pe_rf; rw [if_pos hx0]]
      exact lv_ifnonnullN hx hb hd (h2 (by simp [hx0]))
    · rw [show pe_rf (pe_ad b n0) x = .ref (pe_ad b n0 x) by unfold pe_rf; rw [if_neg hx0]]
      exact lv_ifnonnull hx hb hd ht (h1 (by simp [hx0]))
  · cases hs

theorem pe_r_lcmp {S S' : pe_S} {φ : List Prop} (hx : p.tables.exec = Jvm.exec) (hb : c.code = cc) (hs : (match S.2.2.1 with | .inr (.inl y) :: .inr (.inl x) :: st => some (([] : List Prop), (S.1 + 1, S.2.1, .inl (pe_lcmp x y) :: st, S.2.2.2)) | _ => none) = some (φ, S')) (hd : decode cc S.1 = .ok (.lcmp, 1))
    (h : pe_PW p l e R s m args below meth c Q D cA b n0 H0 nS uS nF uF nL S') : pe_PW p l e R s m args below meth c Q D cA b n0 H0 nS uS nF uF nL S := by
  obtain ⟨pc, ls, st, σ⟩ := S
  split at hs
  · rename_i y x st' he
    cases hs
    dsimp only at he h
    subst he
    refine pe_sm (fun H Ls locs k0 z hL kk => ?_) h
    refine W.lcmp (x := Int64.ofInt x) (y := Int64.ofInt y) hx hb hd ?_
    rw [show lg_cmp (Int64.ofInt x) (Int64.ofInt y) = Int32.ofInt (pe_lcmp x y) from ?_]
    · exact kk
    · unfold pe_lcmp pe_wl lg_cmp
      generalize Int64.ofInt x = X
      generalize Int64.ofInt y = Y
      have e1 : X < Y ↔ X.toInt < Y.toInt := Int64.lt_iff_toInt_lt
      have e2 : X = Y ↔ X.toInt = Y.toInt := Int64.toInt_inj.symm
      by_cases q1 : X.toInt < Y.toInt
      · have q3 : X < Y := e1.mpr q1
        have q4 : ¬ X = Y := fun w => by have := e2.mp w; omega
        have q5 : ¬ Y < X := fun w => by have := Int64.lt_iff_toInt_lt.mp w; omega
        simp [q1, q3, q4, q5] <;> rfl
      · have q3 : ¬ X < Y := fun w => q1 (e1.mp w)
        by_cases q2 : X.toInt = Y.toInt
        · have q4 : X = Y := e2.mpr q2
          subst q4
          simp <;> rfl
        · have q4 : ¬ X = Y := fun w => q2 (e2.mp w)
          have q5 : Y < X := Int64.lt_iff_toInt_lt.mpr (by omega)
          simp [q1, q2, q3, q4, q5] <;> rfl
  · cases hs

theorem pe_r_iinc {S S' : pe_S} {φ : List Prop} {i : Nat} {n : Int} (hx : p.tables.exec = Jvm.exec) (hb : c.code = cc) (hs : (match pe_ld S.2.1 i with | some (.inl x) => if i < S.2.1.length then some (([] : List Prop), (S.1 + 3, pe_st1 S.2.1 i (.inl (x + n)), S.2.2.1, S.2.2.2)) else none | _ => none) = some (φ, S')) (hd : decode cc S.1 = .ok (.iinc i n, 3))
    (h : pe_PW p l e R s m args below meth c Q D cA b n0 H0 nS uS nF uF nL S') : pe_PW p l e R s m args below meth c Q D cA b n0 H0 nS uS nF uF nL S := by
  obtain ⟨pc, ls, st, σ⟩ := S
  split at hs
  · rename_i x he
    split at hs
    · rename_i hk
      cases hs
      dsimp only at he h hk
      refine pe_same (by unfold pe_st1; rw [pe_sto_len, pe_kil_len]) (fun H Ls locs k0 z hL kk => ?_) h
      obtain ⟨j, hj⟩ := List.getElem?_of_mem (pe_kn_mem (ad := pe_ad b n0) he)
      exact lv_iinc (x := Int32.ofInt x) (v := Int32.ofInt (x + n)) (k := j) hx hb hd (pe_lv_has hL) hj (pe_add x n) hk rfl (fun ls' hl' => kk ls' (pe_lv_st1 (v := .inl (x + n)) hk hl'))
    · cases hs
  · cases hs

theorem pe_r_dup {S S' : pe_S} {φ : List Prop} (hx : p.tables.exec = Jvm.exec) (hb : c.code = cc) (hs : (match S.2.2.1 with | .inl x :: st => some (([] : List Prop), (S.1 + 1, S.2.1, .inl x :: .inl x :: st, S.2.2.2)) | .inr (.inr x) :: st => some ([], (S.1 + 1, S.2.1, .inr (.inr x) :: .inr (.inr x) :: st, S.2.2.2)) | _ => none) = some (φ, S')) (hd : decode cc S.1 = .ok (.dup, 1))
    (h : pe_PW p l e R s m args below meth c Q D cA b n0 H0 nS uS nF uF nL S') : pe_PW p l e R s m args below meth c Q D cA b n0 H0 nS uS nF uF nL S := by
  obtain ⟨pc, ls, st, σ⟩ := S
  split at hs
  · rename_i x st' he
    cases hs
    dsimp only at he h
    subst he
    exact pe_sm (fun H Ls locs k0 z hL kk => lv_dup hx hb hd rfl kk) h
  · rename_i x st' he
    cases hs
    dsimp only at he h
    subst he
    exact pe_sm (fun H Ls locs k0 z hL kk => lv_dup hx hb hd (pe_cat_e (ad := pe_ad b n0) (v := .inr (.inr x)) (fun y q => by simp at q)) kk) h
  · cases hs

theorem pe_r_pop {S S' : pe_S} {φ : List Prop} (hx : p.tables.exec = Jvm.exec) (hb : c.code = cc) (hs : (match S.2.2.1 with | .inl _ :: st => some (([] : List Prop), (S.1 + 1, S.2.1, st, S.2.2.2)) | .inr (.inr _) :: st => some ([], (S.1 + 1, S.2.1, st, S.2.2.2)) | _ => none) = some (φ, S')) (hd : decode cc S.1 = .ok (.pop, 1))
    (h : pe_PW p l e R s m args below meth c Q D cA b n0 H0 nS uS nF uF nL S') : pe_PW p l e R s m args below meth c Q D cA b n0 H0 nS uS nF uF nL S := by
  obtain ⟨pc, ls, st, σ⟩ := S
  split at hs
  · rename_i x st' he
    cases hs
    dsimp only at he h
    subst he
    exact pe_sm (fun H Ls locs k0 z hL kk => lv_pop hx hb hd rfl kk) h
  · rename_i x st' he
    cases hs
    dsimp only at he h
    subst he
    exact pe_sm (fun H Ls locs k0 z hL kk => lv_pop hx hb hd (pe_cat_e (ad := pe_ad b n0) (v := .inr (.inr x)) (fun y q => by simp at q)) kk) h
  · cases hs

theorem pe_r_dup2 {S S' : pe_S} {φ : List Prop} (hx : p.tables.exec = Jvm.exec) (hb : c.code = cc) (hs : (match S.2.2.1 with | .inl x :: .inr (.inr y) :: st => some (([] : List Prop), (S.1 + 1, S.2.1, .inl x :: .inr (.inr y) :: .inl x :: .inr (.inr y) :: st, S.2.2.2)) | _ => none) = some (φ, S')) (hd : decode cc S.1 = .ok (.dup2, 1))
    (h : pe_PW p l e R s m args below meth c Q D cA b n0 H0 nS uS nF uF nL S') : pe_PW p l e R s m args below meth c Q D cA b n0 H0 nS uS nF uF nL S := by
  obtain ⟨pc, ls, st, σ⟩ := S
  split at hs
  · rename_i x y st' he
    cases hs
    dsimp only at he h
    subst he
    exact pe_sm (fun H Ls locs k0 z hL kk => lv_dup2_11 hx hb hd rfl (pe_cat_e (ad := pe_ad b n0) (v := .inr (.inr y)) (fun y q => by simp at q)) kk) h
  · cases hs

end PEW2
end
section
/-! SOUND, 5: switches, fields, arrays, what is new -/
section PEW3
variable {p : Program} {l : Launch} {e : Env} {R : Room} {s : State} {m : MethodId} {args : Array Value} {below : List Frame} {meth : Method} {c : Code} {Q : State → Prop} {cc : ByteArray}
variable {D : va_G} {cA : Nat → ClassId} {b : Nat × Nat} {n0 : Nat} {H0 : Heap} {nS uS nF uF nL : Nat}

theorem pe_sw_mem : ∀ (d : Int) (ps : List (Int × Int)) (x : Int), pe_sw d ps x = d ∨ pe_sw d ps x ∈ ps.map (·.2)
  | d, [], x => Or.inl rfl
  | d, (a, o) :: ps, x => by
    unfold pe_sw
    split
    · exact Or.inr (by simp)
    · rcases pe_sw_mem d ps x with h | h
      · exact Or.inl h
      · exact Or.inr (List.mem_cons_of_mem _ h)
theorem pe_tbl_snd : ∀ (lo : Int) (os : List Int), (pe_tbl lo os).map (·.2) = os
  | _, [] => rfl
  | lo, o :: os => by simp [pe_tbl, pe_tbl_snd (lo + 1) os]
theorem pe_tbl_out : ∀ (d lo : Int) (os : List Int) (x : Int), (x < lo ∨ lo + os.length ≤ x) → pe_sw d (pe_tbl lo os) x = d
  | _, _, [], _, _ => rfl
  | d, lo, o :: os, x, h => by
    simp only [List.length_cons] at h
    unfold pe_tbl pe_sw
    rw [if_neg (by omega)]
    exact pe_tbl_out d (lo + 1) os x (by omega)
theorem pe_tbl_in : ∀ (d lo : Int) (os : List Int) (x : Int), lo ≤ x → x < lo + os.length → os[(x - lo).toNat]? = some (pe_sw d (pe_tbl lo os) x)
  | _, lo, [], x, h1, h2 => by simp at h2; omega
  | d, lo, o :: os, x, h1, h2 => by
    simp only [List.length_cons] at h2
    unfold pe_tbl pe_sw
    by_cases hx : x = lo
    · rw [if_pos hx, hx]; simp
    · rw [if_neg hx]
      have h3 := pe_tbl_in d (lo + 1) os x (by omega) (by omega)
      have e : (x - lo).toNat = (x - (lo + 1)).toNat + 1 := by omega
      rw [e, List.getElem?_cons_succ]
      exact h3
theorem pe_lsw : ∀ (q : List (Int × Int)) (d k : Int), Op.lookupswitch.offset q d k = pe_sw d q k
  | [], _, _ => rfl
  | (a, o) :: r, d, k => by
    rw [Op.lookupswitch.offset_cons]
    unfold pe_sw
    rw [pe_lsw r d k]
    by_cases h : a = k
    · rw [if_pos h, if_pos h.symm]
    · rw [if_neg h, if_neg (fun q => h q.symm)]
theorem pe_ok_ge {pc : Nat} {os : List Int} {o : Int} (h : pe_ok pc os = true) (ho : o ∈ os) : (pc : Int) + o = (((pc : Int) + o).toNat : Int) := by
  have h1 := List.all_eq_true.mp h o ho
  have h2 : 0 ≤ (pc : Int) + o := of_decide_eq_true h1
  omega
theorem pe_r_tsw {S S' : pe_S} {φ : List Prop} {d lo hi : Int} {os : Array Int} {len : Nat} (hx : p.tables.exec = Jvm.exec) (hb : c.code = cc) (hs : pe_jmp (d :: os.toList) (pe_sw d (pe_tbl lo os.toList)) S = some (φ, S')) (hl : hi + 1 = lo + (os.toList.length : Int)) (hd : decode cc S.1 = .ok (.tableswitch d lo hi os, len))
    (h : pe_PW p l e R s m args below meth c Q D cA b n0 H0 nS uS nF uF nL S') : pe_PW p l e R s m args below meth c Q D cA b n0 H0 nS uS nF uF nL S := by
  obtain ⟨pc, ls, st, σ⟩ := S
  unfold pe_jmp at hs
  split at hs
  · rename_i x st' he
    split at hs
    · rename_i hok
      cases hs
      dsimp only at he h hok hd
      subst he
      refine pe_sm (fun H Ls locs k0 z hL kk => ?_) h
      have hxx : (Int32.ofInt x).toInt = pe_w x := rfl
      by_cases hin : pe_w x < lo ∨ hi < pe_w x
      · have hsw : pe_sw d (pe_tbl lo os.toList) (pe_w x) = d := pe_tbl_out d lo os.toList (pe_w x) (by rcases hin with q | q; exact Or.inl q; exact Or.inr (by omega))
        rw [hsw] at kk
        exact lv_tableOut hx hb hd hin (pe_ok_ge hok List.mem_cons_self) kk
      · have h1 : ¬ pe_w x < lo := fun q => hin (Or.inl q)
        have h2 : ¬ hi < pe_w x := fun q => hin (Or.inr q)
        have h3 := pe_tbl_in d lo os.toList (pe_w x) (by omega) (by omega)
        refine lv_tableIn (off := pe_sw d (pe_tbl lo os.toList) (pe_w x)) hx hb hd h1 h2 ?_ (pe_ok_ge hok (List.mem_cons_of_mem _ (List.mem_of_getElem? h3))) kk
        rw [← Array.getElem?_toList]; exact h3
    · cases hs
  · cases hs

theorem pe_r_lsw {S S' : pe_S} {φ : List Prop} {d : Int} {ps : Array (Int × Int)} {len : Nat} (hx : p.tables.exec = Jvm.exec) (hb : c.code = cc) (hs : pe_jmp (d :: ps.toList.map (·.2)) (pe_sw d ps.toList) S = some (φ, S')) (hl : (ps.toList.zip (ps.toList.drop 1)).all (fun (a, next) => decide (a.1 < next.1)) = true) (hd : decode cc S.1 = .ok (.lookupswitch d ps, len))
    (h : pe_PW p l e R s m args below meth c Q D cA b n0 H0 nS uS nF uF nL S') : pe_PW p l e R s m args below meth c Q D cA b n0 H0 nS uS nF uF nL S := by
  obtain ⟨pc, ls, st, σ⟩ := S
  unfold pe_jmp at hs
  split at hs
  · rename_i x st' he
    split at hs
    · rename_i hok
      cases hs
      dsimp only at he h hok hd
      subst he
      refine pe_sm (fun H Ls locs k0 z hL kk => ?_) h
      refine lv_lookup (off := pe_sw d ps.toList (pe_w x)) hx hb hd hl ?_ (pe_ok_ge hok ?_) kk
      · show Op.lookupswitch.offset ps.toList d (pe_w x) = _
        exact pe_lsw _ _ _
      · rcases pe_sw_mem d ps.toList (pe_w x) with q | q
        · rw [q]; exact List.mem_cons_self
        · exact List.mem_cons_of_mem _ q
    · cases hs
  · cases hs

theorem pe_tc0 {t : FieldType} (h : pe_tc t = 0) : t = .int := by cases t <;> simp [pe_tc] at h ⊢
theorem pe_tc3 {t : FieldType} (h : pe_tc t = 3) : t = .boolean := by cases t <;> simp [pe_tc] at h ⊢
theorem pe_tc2 {t : FieldType} (h : pe_tc t = 2) : t.isReference = true := by cases t <;> simp [pe_tc] at h <;> rfl
theorem pe_nar2 {t : FieldType} (h : pe_tc t = 2) (ad : Nat → Nat) (r : Nat) : narrow t (pe_rf ad r) = pe_rf ad r ∧ fits t (pe_rf ad r) = true := by
  unfold pe_rf
  cases t <;> simp [pe_tc] at h <;> split <;> exact ⟨rfl, rfl⟩
theorem pe_kc_lt {c : Nat} (h : pe_kc c = true) : c < 26 := by have := pe_kcs h; omega
theorem pe_kc_10 {c : Nat} (h : c < 10) : pe_kc c = true := by unfold pe_kc; simp [Nat.blt_eq, h]
theorem pe_kas {k : Nat} (h : pe_ka k = true) : (10 ≤ k ∧ k < 19) ∨ (22 ≤ k ∧ k < 26) := by
  unfold pe_ka at h
  simp only [Bool.or_eq_true, Bool.and_eq_true, Nat.blt_eq, Nat.ble_eq] at h
  omega
theorem pe_ka_of {k : Nat} (h : (10 ≤ k ∧ k < 19) ∨ (22 ≤ k ∧ k < 26)) : pe_ka k = true := by
  unfold pe_ka
  simp only [Bool.or_eq_true, Bool.and_eq_true, Nat.blt_eq, Nat.ble_eq]
  omega
theorem pe_kca {k : Nat} (h : pe_kc k = true) (h' : pe_ka k = true) : False := by
  have := pe_kcs h
  have := pe_kas h'
  omega
/-- what is written has number 3 or more -/
theorem pe_r3 {D : va_G} {cA : Nat → ClassId} {b : Nat × Nat} {n0 : Nat} {H0 H : Heap} {σ : pe_H} {r : Nat} (hH : pe_Hd D cA b n0 H0 σ H) (h : pe_K σ r < 26) (h1 : pe_K σ r ≠ 10 ∨ 2 ≤ r) (h2 : pe_K σ r ≠ 25) : 3 ≤ r := by
  have r0 := (hH.2.2.2.2.2 r h).1
  have e1 := hH.2.2.2.2.1
  have e2 := hH.1.2
  rcases Nat.lt_or_ge r 3 with q | q
  · exfalso
    have : r = 1 ∨ r = 2 := by omega
    rcases this with rfl | rfl
    · rcases h1 with w | w
      · exact w e1
      · omega
    · exact h2 e2
  · exact q
theorem pe_rf_pos (ad : Nat → Nat) {r : Nat} (h : 0 < r) : pe_rf ad r = .ref (ad r) := by unfold pe_rf; rw [if_neg (by omega)]
theorem pe_w_getf (hx : p.tables.exec = Jvm.exec) (hb : c.code = cc) (hts : ∀ w ∈ pe_TB, w.before args s = true) {o i cI j pl : Nat} (hN : pe_N s) (hown : s.vm.findClass (pe_rn o) = some m.cls) (hG : pe_G D cA b n0 H0 s) {σ : pe_H} {H : Heap} (hH : pe_Hd D cA b n0 H0 σ H) (hf : pe_fd o i = some (cI, j, pl)) {r : Nat} (hk : pe_K σ r = cI)
    {pc : Nat} {Ls : Array Slot} {rest : List Value} {locs : List Loc} {k z : Nat} (hd : decode cc pc = .ok (.getfield i, 3)) (kk : W p l e R s m args below meth c H locs k z Q (F0 m (pc + 3) Ls (pe_vt (pe_ad b n0) (pe_fty cI j) (pe_I σ r j) (pe_R σ r j) :: rest))) : W p l e R s m args below meth c H locs k z Q (F0 m pc Ls (pe_rf (pe_ad b n0) r :: rest)) := by
  obtain ⟨hc10, hjN, hlk⟩ := pe_fdk hts hN hf
  obtain ⟨r0, -, hce⟩ := hH.2.2.2.2.2 r (by rw [hk]; exact pe_kc_lt hc10)
  have h1 := hce.1 (by rw [hk]; exact hc10)
  rw [hk] at h1
  obtain ⟨cell, q1, q2, q3, q4⟩ := h1
  obtain ⟨hS, hfc, kC, hkC, hkind⟩ := hG.1 cI hc10
  obtain ⟨cf, kf, fi, f, hi, hsl⟩ := hS j hjN
  rw [pe_rf_pos _ r0]
  rcases hlk with hlk | hlk
  · refine W.getf hx hb hown hlk hi (u_facts hfc hkC (u_lays hts (pe_u_tb hc10) hjN) hi).1 q1 (by rw [q3]; exact fun h => by cases h) (v := pe_vt (pe_ad b n0) (pe_fty cI j) (pe_I σ r j) (pe_R σ r j)) ?_ rfl rfl hd kk
    rw [hsl, q4 j hjN]
  · refine va_Wgetf hx hb hown (va_tabs (A' := args) rfl (rfl : s.vm = s.vm) hlk) hi (u_facts hfc hkC (u_lays hts (pe_u_tb hc10) hjN) hi).1 q1 (by rw [q3]; exact fun h => by cases h) (v := pe_vt (pe_ad b n0) (pe_fty cI j) (pe_I σ r j) (pe_R σ r j)) ?_ rfl rfl hd kk
    rw [hsl, q4 j hjN]
theorem pe_apart (hts : ∀ w ∈ pe_TB, w.before args s = true) (hG : pe_G D cA b n0 H0 s) {cI : Nat} (hc : pe_kc cI = true) : ∀ x y, x < (pe_cl cI).2.2 → y < (pe_cl cI).2.2 → x ≠ y → (D.2 cI) x ≠ (D.2 cI) y := by
  intro x y hx hy hne
  obtain ⟨hS, -⟩ := hG.1 cI hc
  obtain ⟨_, _, _, fa, hia, ea⟩ := hS x hx
  obtain ⟨_, _, _, fb, hib, eb⟩ := hS y hy
  rw [← ea, ← eb]
  refine u_apart (u_lays hts (pe_u_tb hc) hx) (u_lays hts (pe_u_tb hc) hy) hia hib ?_
  rw [(State.fieldFound?_type hia (pe_tyok cI hc x hx)).1, (State.fieldFound?_type hib (pe_tyok cI hc y hy)).1]
  exact pe_nmok cI hc x hx y hy hne
theorem pe_w_putf (hx : p.tables.exec = Jvm.exec) (hb : c.code = cc) (hts : ∀ w ∈ pe_TB, w.before args s = true) {o i cI j pl : Nat} {ini : Bool} (hN : pe_N s) (hown : s.vm.findClass (pe_rn o) = some m.cls) (hini : ini = true → meth.name = "<init>") (hG : pe_G D cA b n0 H0 s) {σ σ' : pe_H} {H : Heap} (hH : pe_Hd D cA b n0 H0 σ H) (hf : pe_fd o i = some (cI, j, pl)) {r : Nat} (hk : pe_K σ r = cI)
    (hfin : ¬ (pe_fin cI j && !(ini && Nat.beq o cI)) = true) {v : Value} (hn : narrow (pe_ty cI j) v = v) (hfit : fits (pe_ty cI j) v = true) (hn' : pe_n σ' = pe_n σ) (hK' : pe_K σ' = pe_K σ) (hL' : pe_L σ' = pe_L σ) (hI' : ∀ q (w : Int), ¬ (q = r ∧ w = (j : Int)) → pe_I σ' q w = pe_I σ q w) (hR' : ∀ q (w : Int), ¬ (q = r ∧ w = (j : Int)) → pe_R σ' q w = pe_R σ q w) (hv' : pe_vt (pe_ad b n0) (pe_fty cI j) (pe_I σ' r j) (pe_R σ' r j) = v)
    {pc : Nat} {Ls : Array Slot} {rest : List Value} {locs : List Loc} {k z : Nat} (hlocs : ∀ q ∈ locs, n0 ≤ q.base) (hd : decode cc pc = .ok (.putfield i, 3)) (kk : ∀ (H' : Heap) (locs' : List Loc), pe_Hd D cA b n0 H0 σ' H' → (∀ q ∈ locs', n0 ≤ q.base) → W p l e R s m args below meth c H' locs' k z Q (F0 m (pc + 3) Ls rest)) : W p l e R s m args below meth c H locs k z Q (F0 m pc Ls (v :: pe_rf (pe_ad b n0) r :: rest)) := by
  obtain ⟨hc10, hjN, hlk⟩ := pe_fdk hts hN hf
  have hc26 := pe_kc_lt hc10
  obtain ⟨r0, -, hce⟩ := hH.2.2.2.2.2 r (by rw [hk]; exact hc26)
  have hr2 : 3 ≤ r := pe_r3 hH (by rw [hk]; exact hc26) (Or.inl (by rw [hk]; exact fun q => pe_kca hc10 (pe_ka_of (by omega)))) (by rw [hk]; exact fun q => pe_kca hc10 (pe_ka_of (by omega)))
  have h1 := hce.1 (by rw [hk]; exact hc10)
  rw [hk] at h1
  obtain ⟨cell, q1, q2, q3, q4⟩ := h1
  have hap := pe_apart (args := args) hts hG hc10
  obtain ⟨hS, hfc, kC, hkC, hkind⟩ := hG.1 cI hc10
  obtain ⟨cf, kf, fi, f, hi, hsl⟩ := hS j hjN
  have hlay := hts _ (pe_u_tb hc10 _ (u_in_lay hjN))
  have hst := (u_facts hfc hkC (u_lays hts (pe_u_tb hc10) hjN) hi).1
  have hty := pe_tyok cI hc10 j hjN
  have hend : ∀ H' : Heap, H'[pe_ad b n0 r]? = some (cell.setSlot f.slot v) → H'.size = H.size → (∀ q, q ≠ pe_ad b n0 r → H'[q]? = H[q]?) → pe_Hd D cA b n0 H0 σ' H' := by
    intro H' e1 e2 e3
    refine hH.upd hn' hK' hL' (fun q hq w => hI' q w (fun a => hq a.1)) (fun q hq w => hR' q w (fun a => hq a.1)) hr2 e2 e3 ⟨fun _ => ?_, fun h10 => ?_⟩
    · rw [hK', hk]
      rw [hsl] at e1
      have h2 : t_OB (pe_ad b n0 r) (D.1 cI) (pe_cl cI).2.2 (D.2 cI) H' (updV (fun w : Nat => pe_vt (pe_ad b n0) (pe_fty cI w) (pe_I σ r w) (pe_R σ r w)) j v) := ⟨_, e1, q2, q3, t_set q4 hap hjN v⟩
      refine h2.to (fun w _ => ?_)
      unfold updV
      by_cases hw : w = j
      · rw [if_pos hw, hw, hv']
      · rw [if_neg hw, hI' r w (fun a => hw (by have := a.2; omega)), hR' r w (fun a => hw (by have := a.2; omega))]
    · rw [hK', hk] at h10; exact (pe_kca hc10 h10).elim
  have hbase : ∀ q ∈ locs ++ [(⟨pe_ad b n0 r, f.slot⟩ : Loc)], n0 ≤ q.base := by
    intro q hq
    rcases List.mem_append.mp hq with h | h
    · exact hlocs q h
    · rw [List.mem_singleton.mp h]
      show n0 ≤ pe_ad b n0 r
      unfold pe_ad; rw [if_neg (by omega), if_neg (by omega)]; omega
  rw [pe_rf_pos _ r0]
  by_cases hff : ((pe_cl cI).2.1 j).2.2.2 = true
  · unfold u_lay at hlay
    rw [if_pos hff] at hlay
    have hb2 : ini = true ∧ o = cI := by
      have e : pe_fin cI j = true := hff
      rw [e] at hfin
      simp only [Bool.true_and, Bool.not_eq_true', Bool.and_eq_false_iff, not_or, Bool.not_eq_false] at hfin
      exact ⟨hfin.1, Nat.eq_of_beq_eq_true hfin.2⟩
    have hcf : m.cls = cf := by
      obtain ⟨_, _, c', _, _, _, -, -, hf', -, -, -, hown2, -⟩ := Cond.laysFinal_spec hlay
      have e1 : c' = cf := by have := hi.symm.trans hf'; simp at this; exact this.1.symm
      rw [(pe_dcok cI hc10 j hjN).1, ← hb2.2] at hown2
      rw [← e1]; exact Option.some.inj (hown.symm.trans hown2)
    have h6 := u_fits hfc hkC hkind (Or.inr hlay) hi hty hn hfit
    rcases hlk with hlk | hlk
    · refine W.putFinK hx hb hown hlk hi hst hcf (hini hb2.1) (by rw [q2]; exact h6) q1 q3 (by rw [hsl]; exact k2_hasslot (q4 j hjN)) rfl rfl hd fun H' e1 e2 e3 => ?_
      exact kk H' _ (hend H' e1 e2 e3) hbase
    · have ha : pe_ad b n0 r < H.size := (Array.getElem?_eq_some_iff.mp q1).1
      refine va_Wputf hx hb hown (va_tabs (A' := args) rfl (rfl : s.vm = s.vm) hlk) hi hst (Or.inr ⟨hcf, hini hb2.1⟩) q1 (by rw [q3]; exact fun h => by cases h) (by rw [hsl]; exact k2_hasslot (q4 j hjN)) h6.1 (by rw [q2, q3]; exact h6.2) rfl rfl hd ?_
      exact kk _ _ (hend _ (by simp [Array.getElem?_setIfInBounds, ha]) (by simp) (fun q hq => by simp [Array.getElem?_setIfInBounds, Ne.symm hq])) hbase
  · unfold u_lay at hlay
    rw [if_neg hff] at hlay
    have h6 := u_store hfc hkC hkind hlay hi hty hn hfit
    rcases hlk with hlk | hlk
    · refine W.putK hx hb (f := f) ⟨hown, hlk, ⟨_, _, _, hi⟩, hst⟩ (by rw [q2]; exact h6) q1 q3 (by rw [hsl]; exact k2_hasslot (q4 j hjN)) rfl rfl hd fun H' e1 e2 e3 => ?_
      exact kk H' _ (hend H' e1 e2 e3) hbase
    · refine va_WputK hx hb (f := f) hown (va_tabs (A' := args) rfl (rfl : s.vm = s.vm) hlk) hi hst (by rw [q2]; exact h6) q1 q3 (by rw [hsl]; exact k2_hasslot (q4 j hjN)) rfl rfl hd fun H' e1 e2 e3 => ?_
      exact kk H' _ (hend H' e1 e2 e3) hbase
theorem pe_r_gf {S S' : pe_S} {φ : List Prop} {o i : Nat} (hx : p.tables.exec = Jvm.exec) (hb : c.code = cc) (hs : pe_gf o i S = some (φ, S')) (hφ : pe_all φ) (hts : ∀ w ∈ pe_TB, w.before args s = true) (hN : pe_N s) (hown : s.vm.findClass (pe_rn o) = some m.cls) (hG : pe_G D cA b n0 H0 s) (hd : decode cc S.1 = .ok (.getfield i, 3))
    (h : pe_PW p l e R s m args below meth c Q D cA b n0 H0 nS uS nF uF nL S') : pe_PW p l e R s m args below meth c Q D cA b n0 H0 nS uS nF uF nL S := by
  obtain ⟨pc, ls, st, σ⟩ := S
  unfold pe_gf at hs
  split at hs
  · rename_i r st' cI j pl he hf
    dsimp only at he hd
    subst he
    have fin : ∀ (v : pe_V) (hv : pe_vt (pe_ad b n0) (pe_fty cI j) (pe_I σ r j) (pe_R σ r j) = pe_e (pe_ad b n0) v) (hk : pe_K σ r = cI) (h' : pe_PW p l e R s m args below meth c Q D cA b n0 H0 nS uS nF uF nL (pc + 3, ls, v :: st', σ)), pe_PW p l e R s m args below meth c Q D cA b n0 H0 nS uS nF uF nL (pc, ls, .inr (.inr r) :: st', σ) :=
      fun v hv hk h' => ⟨h'.1, h'.2.1, fun h1 h2 h3 H Ls locs hH hL hlocs => pe_w_getf hx hb hts hN hown hG hH hf hk hd (by rw [hv]; exact h'.2.2 h1 h2 h3 H Ls locs hH hL hlocs)⟩
    split at hs
    · rename_i ht
      cases hs
      exact fin (.inl (pe_I σ r j)) (by rw [ht]; rfl) hφ h
    · rename_i ht
      cases hs
      exact fin (.inl (pe_I σ r j)) (by rw [ht]; rfl) hφ h
    · rename_i ht
      cases hs
      exact fin (.inr (.inr (pe_R σ r j))) (by rw [ht]; rfl) hφ h
    · cases hs
  · cases hs

theorem pe_r_pf {S S' : pe_S} {φ : List Prop} {o i : Nat} {ini : Bool} (hx : p.tables.exec = Jvm.exec) (hb : c.code = cc) (hs : pe_pf o ini i S = some (φ, S')) (hφ : pe_all φ) (hts : ∀ w ∈ pe_TB, w.before args s = true) (hN : pe_N s) (hown : s.vm.findClass (pe_rn o) = some m.cls) (hini : ini = true → meth.name = "<init>") (hG : pe_G D cA b n0 H0 s) (hd : decode cc S.1 = .ok (.putfield i, 3))
    (h : pe_PW p l e R s m args below meth c Q D cA b n0 H0 nS uS nF uF nL S') : pe_PW p l e R s m args below meth c Q D cA b n0 H0 nS uS nF uF nL S := by
  obtain ⟨pc, ls, st, σ⟩ := S
  unfold pe_pf at hs
  split at hs
  · rename_i x r st' cI j pl he hf
    dsimp only at he hd
    subst he
    split at hs
    · cases hs
    · rename_i hfin
      split at hs
      · rename_i ht
        cases hs
        exact ⟨h.1, h.2.1, fun h1 h2 h3 H Ls locs hH hL hlocs => pe_w_putf (σ' := pe_wI σ r j x) hx hb hts hN hown hini hG hH hf hφ hfin (by rw [pe_tc0 ht]; rfl) (by rw [pe_tc0 ht]; rfl) rfl rfl rfl (fun q w hq => if_neg hq) (fun q w hq => rfl) (by rw [ht, show pe_I (pe_wI σ r j x) r j = x from if_pos ⟨rfl, rfl⟩]; rfl) hlocs hd (fun H' locs' hH' hl' => h.2.2 h1 h2 h3 H' Ls locs' hH' hL hl')⟩
      · rename_i ht
        cases hs
        refine ⟨h.1, h.2.1, fun h1 h2 h3 H Ls locs hH hL hlocs => pe_w_putf (σ' := pe_wI σ r j x) hx hb hts hN hown hini hG hH hf hφ.1 hfin ?_ (by rw [pe_tc3 ht]; rcases hφ.2 with q | q <;> subst q <;> rfl) rfl rfl rfl (fun q w hq => if_neg hq) (fun q w hq => rfl) (by rw [ht, show pe_I (pe_wI σ r j x) r j = x from if_pos ⟨rfl, rfl⟩]; rfl) hlocs hd (fun H' locs' hH' hl' => h.2.2 h1 h2 h3 H' Ls locs' hH' hL hl')⟩
        rw [pe_tc3 ht]
        rcases hφ.2 with q | q <;> subst q <;> rfl
      · cases hs
  · rename_i x r st' cI j pl he hf
    dsimp only at he hd
    subst he
    split at hs
    · cases hs
    · rename_i hfin
      split at hs
      · rename_i ht
        cases hs
        exact ⟨h.1, h.2.1, fun h1 h2 h3 H Ls locs hH hL hlocs => pe_w_putf (σ' := pe_wR σ r j x) hx hb hts hN hown hini hG hH hf hφ hfin (pe_nar2 ht _ _).1 (pe_nar2 ht _ _).2 rfl rfl rfl (fun q w hq => rfl) (fun q w hq => if_neg hq) (by rw [ht, show pe_R (pe_wR σ r j x) r j = x from if_pos ⟨rfl, rfl⟩]; rfl) hlocs hd (fun H' locs' hH' hl' => h.2.2 h1 h2 h3 H' Ls locs' hH' hL hl')⟩
      · cases hs
  · cases hs

end PEW3
end
section
/-! SOUND, 6: arrays, what is new -/
theorem pe_insok : ∀ c, pe_kc c = true → Cond.instantiable (pe_cl c).1 (pe_cl c).2.2 ∈ lw_tbl ∧ Cond.initialized (pe_cl c).1 ∈ lw_tbl := pe_kall (by decide +kernel) (by decide +kernel) (by decide +kernel) (by decide +kernel)
theorem pe_tcok : ∀ c, pe_kc c = true → ∀ k, k < (pe_cl c).2.2 → pe_tc (pe_ty c k) ≠ 4 := pe_kall (by decide +kernel) (by decide +kernel) (by decide +kernel) (by decide +kernel)
theorem pe_akok : ∀ c, c < 7 → pe_aty (pe_ak c) = .object (pe_cl c).1 ∧ Cond.arrayOver (.object (pe_cl c).1) ∈ lw_tbl := by decide +kernel
theorem pe_acok : Cond.arrayClass .int ∈ lw_tbl := by decide +kernel
theorem pe_akL : (pe_aty 22 = .object (pe_cl 19).1 ∧ pe_aty 23 = .object (pe_cl 20).1) ∧ Cond.arrayOver (.object (pe_cl 19).1) ∈ lw_tbl ∧ Cond.arrayOver (.object (pe_cl 20).1) ∈ lw_tbl ∧ Cond.arrayOver (.array .int) ∈ lw_tbl := by decide +kernel
theorem pe_oiok : Cond.instanceMethod objectInit ∈ lw_tbl ∧ Cond.code objectInit ⟨#[0xb1]⟩ 1 none ∈ lw_tbl := by decide +kernel
theorem pe_cok : ∀ o i c pl, pe_go (pe_cT o) i = some (c, pl) → pe_kc c = true ∧ Cond.classLink (pe_rn o) i (pe_cl c).1 ∈ pe_TB := by
  intro o i c pl h
  have hm := pe_go_mem _ _ _ h
  have key : ∀ o, ∀ q ∈ pe_cT o, lw_tbl[q.2.2]? = some (.classLink (pe_rn o) q.1 (pe_cl q.2.1).1) ∧ pe_kc q.2.1 = true := by
    intro o
    match o with
    | 0 => exact pe_c0_ok
    | 1 => exact pe_c1_ok
    | 2 => exact pe_c2_ok
    | 3 => exact pe_c3_ok
    | 4 => exact pe_c4_ok
    | 5 => exact pe_c5_ok
    | 6 => exact pe_c6_ok
    | 7 => exact pe_c7_ok
    | 8 => exact pe_c8_ok
    | 9 => exact pe_c9_ok
    | 10 => exact pe_c21_ok
    | 11 => exact pe_c11_ok
    | 12 => exact pe_c12_ok
    | 13 => exact pe_c13_ok
    | 14 => exact pe_c21_ok
    | 15 => exact pe_c21_ok
    | 16 => exact pe_c21_ok
    | 17 => exact pe_c21_ok
    | 18 => exact pe_c21_ok
    | 19 => exact pe_c19_ok
    | 20 => exact pe_c20_ok
    | 21 => exact pe_c21_ok
    | n + 22 => exact pe_c21_ok
  obtain ⟨h1, h2⟩ := key o _ hm
  exact ⟨h2, pe_tb h1 rfl⟩
theorem pe_ook : ∀ o i pl, pe_go (pe_oT o) i = some pl → Cond.methodLink (pe_rn o) i objectInit ∈ pe_TB := by
  intro o i pl h
  have hm := pe_go_mem _ _ _ h
  have key : ∀ o, ∀ q ∈ pe_oT o, lw_tbl[q.2]? = some (.methodLink (pe_rn o) q.1 objectInit) := by
    intro o
    match o with
    | 0 => exact pe_o0_ok
    | 1 => exact pe_o1_ok
    | 2 => exact pe_o2_ok
    | 3 => exact pe_o3_ok
    | 4 => exact pe_o4_ok
    | 5 => exact pe_o5_ok
    | 6 => exact pe_o6_ok
    | 7 => exact pe_o7_ok
    | 8 => exact pe_o8_ok
    | 9 => exact pe_o9_ok
    | 10 => exact pe_o21_ok
    | 11 => exact pe_o11_ok
    | 12 => exact pe_o12_ok
    | 13 => exact pe_o13_ok
    | 14 => exact pe_o21_ok
    | 15 => exact pe_o21_ok
    | 16 => exact pe_o21_ok
    | 17 => exact pe_o21_ok
    | 18 => exact pe_o21_ok
    | 19 => exact pe_o19_ok
    | 20 => exact pe_o20_ok
    | 21 => exact pe_o21_ok
    | n + 22 => exact pe_o21_ok
  exact pe_tb (key o _ hm) rfl
theorem pe_kok : ∀ o i v pl, pe_go (pe_kT o) i = some (v, pl) → Cond.constant (pe_rn o) i (Int32.ofInt v) ∈ pe_TB := by
  intro o i v pl h
  have hm := pe_go_mem _ _ _ h
  have key : ∀ o, ∀ q ∈ pe_kT o, lw_tbl[q.2.2]? = some (.constant (pe_rn o) q.1 (Int32.ofInt q.2.1)) := by
    intro o
    match o with
    | 0 => exact pe_k0_ok
    | 1 => exact pe_k1_ok
    | 2 => exact pe_k2_ok
    | 3 => exact pe_k3_ok
    | 4 => exact pe_k4_ok
    | 5 => exact pe_k5_ok
    | 6 => exact pe_k6_ok
    | 7 => exact pe_k7_ok
    | 8 => exact pe_k8_ok
    | 9 => exact pe_k9_ok
    | 10 => exact pe_k21_ok
    | 11 => exact pe_k11_ok
    | 12 => exact pe_k12_ok
    | 13 => exact pe_k13_ok
    | 14 => exact pe_k21_ok
    | 15 => exact pe_k21_ok
    | 16 => exact pe_k21_ok
    | 17 => exact pe_k21_ok
    | 18 => exact pe_k21_ok
    | 19 => exact pe_k19_ok
    | 20 => exact pe_k20_ok
    | 21 => exact pe_k21_ok
    | n + 22 => exact pe_k21_ok
  exact pe_tb (key o _ hm) rfl
theorem pe_lok : ∀ o i v pl, pe_go (pe_lT o) i = some (v, pl) → Cond.constantLong (pe_rn o) i (Int64.ofInt v) ∈ pe_TB := by
  intro o i v pl h
  have hm := pe_go_mem _ _ _ h
  have key : ∀ o, ∀ q ∈ pe_lT o, lw_tbl[q.2.2]? = some (.constantLong (pe_rn o) q.1 (Int64.ofInt q.2.1)) := by
    intro o
    match o with
    | 0 => exact pe_l0_ok
    | 1 => exact pe_l1_ok
    | 2 => exact pe_l2_ok
    | 3 => exact pe_l3_ok
    | 4 => exact pe_l4_ok
    | 5 => exact pe_l5_ok
    | 6 => exact pe_l6_ok
    | 7 => exact pe_l7_ok
    | 8 => exact pe_l8_ok
    | 9 => exact pe_l9_ok
    | 10 => exact pe_l21_ok
    | 11 => exact pe_l11_ok
    | 12 => exact pe_l12_ok
    | 13 => exact pe_l13_ok
    | 14 => exact pe_l21_ok
    | 15 => exact pe_l21_ok
    | 16 => exact pe_l21_ok
    | 17 => exact pe_l21_ok
    | 18 => exact pe_l21_ok
    | 19 => exact pe_l19_ok
    | 20 => exact pe_l20_ok
    | 21 => exact pe_l21_ok
    | n + 22 => exact pe_l21_ok
  exact pe_tb (key o _ hm) rfl
theorem pe_in_tb {w : Cond} (h : w ∈ lw_tbl) (hg : goodWord w = true) : w ∈ pe_TB := List.mem_filter.mpr ⟨h, hg⟩
section PEW4
variable {p : Program} {l : Launch} {e : Env} {R : Room} {s : State} {m : MethodId} {args : Array Value} {below : List Frame} {meth : Method} {c : Code} {Q : State → Prop} {cc : ByteArray}
variable {D : va_G} {cA : Nat → ClassId} {b : Nat × Nat} {n0 : Nat} {H0 : Heap} {nS uS nF uF nL : Nat}
theorem pe_arr (hG : pe_G D cA b n0 H0 s) {k : Nat} (hk : pe_ka k = true) {cell : Cell} {r : Nat} (hc : cell.cls = cA (pe_ca r k)) (hv : ∀ q, cell.vm ≠ .statics q) (hr : r = 1 → k = 10) : s.isArrayOf cell (pe_aty k) := by
  refine ⟨hv, ?_⟩
  rw [hc]
  unfold pe_ca
  by_cases e : r = 1
  · rw [if_pos e, hr e]
    exact (hG.2.2.2.2.1 0 (fun _ => .null)).2
  · rw [if_neg e]
    by_cases e2 : k = 25
    · rw [e2]
      exact (hG.2.2.2.2.2.1.1 0 (fun _ => .null)).2
    · exact ((hG.2.1 k hk e2).1 0 (fun _ => .null)).2
theorem pe_idx {cell : Cell} {x : Int} {L : Int} (hz : (cell.slots.size : Int) = L) (h1 : 0 ≤ pe_w x) (h2 : pe_w x < L) : ¬ (Int32.ofInt x < 0 ∨ cell.slots.size ≤ (Int32.ofInt x).toNatClampNeg) ∧ ((Int32.ofInt x).toNatClampNeg : Int) = pe_w x ∧ (Int32.ofInt x).toNatClampNeg < cell.slots.size := by
  have h3 := pe_clamp h1
  refine ⟨fun h => ?_, h3, by omega⟩
  rcases h with h | h
  · have := (pe_lt0 x).mp h; omega
  · omega
theorem pe_vt2 (ad : Nat → Nat) (k : Nat) (h1 : (12 ≤ k ∧ k < 19) ∨ (22 ≤ k ∧ k < 25)) (x : Int) (r : Nat) : pe_vt ad (pe_tc (pe_aty k)) x r = pe_rf ad r := by
  unfold pe_aty
  split <;> first | omega | rfl
/-- an array's cell written -/
theorem pe_Hd.arr {σ σ' : pe_H} {H H' : Heap} {r : Nat} {cell : Cell} {i : Nat} {v : Value} (hH : pe_Hd D cA b n0 H0 σ H) (hka : pe_ka (pe_K σ r) = true) (h2 : 3 ≤ r) (hcell : H[pe_ad b n0 r]? = some cell) (g2 : cell.cls = cA (pe_ca r (pe_K σ r))) (g3 : cell.vm ≠ .unknown) (g4 : ∀ q, cell.vm ≠ .statics q) (g5 : (cell.slots.size : Int) = pe_L σ r) (g6 : ∀ j : Nat, j < cell.slots.size → cell.slots[j]? = some (pe_vt (pe_ad b n0) (pe_tc (pe_aty (pe_K σ r))) (pe_I σ r j) (pe_R σ r j)))
    (e1 : H'[pe_ad b n0 r]? = some (cell.setSlot i v)) (e2 : H'.size = H.size) (e3 : ∀ q, q ≠ pe_ad b n0 r → H'[q]? = H[q]?) (hi : i < cell.slots.size)
    (hn' : pe_n σ' = pe_n σ) (hK' : pe_K σ' = pe_K σ) (hL' : pe_L σ' = pe_L σ) (hI' : ∀ q (w : Int), ¬ (q = r ∧ w = (i : Int)) → pe_I σ' q w = pe_I σ q w) (hR' : ∀ q (w : Int), ¬ (q = r ∧ w = (i : Int)) → pe_R σ' q w = pe_R σ q w) (hv' : pe_vt (pe_ad b n0) (pe_tc (pe_aty (pe_K σ r))) (pe_I σ' r i) (pe_R σ' r i) = v) : pe_Hd D cA b n0 H0 σ' H' := by
  refine hH.upd hn' hK' hL' (fun q hq w => hI' q w (fun a => hq a.1)) (fun q hq w => hR' q w (fun a => hq a.1)) h2 e2 e3 ⟨fun h => ?_, fun _ => ⟨_, e1, by rw [hK']; exact g2, g3, g4, by rw [hL']; show ((cell.slots.setIfInBounds i v).size : Int) = _; rw [Array.size_setIfInBounds]; exact g5, fun j hj => ?_⟩⟩
  · rw [hK'] at h; exact (pe_kca h hka).elim
  · show (cell.slots.setIfInBounds i v)[j]? = _
    have hj' : j < cell.slots.size := by have : j < (cell.slots.setIfInBounds i v).size := hj; rw [Array.size_setIfInBounds] at this; exact this
    rw [hK']
    by_cases hji : j = i
    · subst hji
      rw [hv']
      simp [hi]
    · rw [Array.getElem?_setIfInBounds_ne (fun q => hji q.symm), hI' r j (fun a => hji (by have := a.2; omega)), hR' r j (fun a => hji (by have := a.2; omega))]
      exact g6 j hj'
theorem pe_base {locs : List Loc} {r i : Nat} (hlocs : ∀ q ∈ locs, n0 ≤ q.base) (h2 : 3 ≤ r) : ∀ q ∈ locs ++ [(⟨pe_ad b n0 r, i⟩ : Loc)], n0 ≤ q.base := by
  intro q hq
  rcases List.mem_append.mp hq with h | h
  · exact hlocs q h
  · rw [List.mem_singleton.mp h]
    show n0 ≤ pe_ad b n0 r
    unfold pe_ad; rw [if_neg (by omega), if_neg (by omega)]; omega

theorem pe_r_iaload {S S' : pe_S} {φ : List Prop} (hx : p.tables.exec = Jvm.exec) (hb : c.code = cc) {gk : Nat → Prop} (hgk : ∀ k, gk k → k = 10 ∨ k = 25) (hs : pe_al gk (fun σ r j => .inl (pe_I σ r j)) S = some (φ, S')) (hφ : pe_all φ) (hG : pe_G D cA b n0 H0 s) (hd : decode cc S.1 = .ok (.iaload, 1))
    (h : pe_PW p l e R s m args below meth c Q D cA b n0 H0 nS uS nF uF nL S') : pe_PW p l e R s m args below meth c Q D cA b n0 H0 nS uS nF uF nL S := by
  obtain ⟨pc, ls, st, σ⟩ := S
  unfold pe_al at hs
  split at hs
  · rename_i x r st' he
    cases hs
    dsimp only at he hd
    subst he
    obtain ⟨hk, hi1, hi2⟩ := hφ
    have hk : pe_K σ r = 10 ∨ pe_K σ r = 25 := hgk _ hk
    have hka : pe_ka (pe_K σ r) = true := pe_ka_of (by omega)
    refine ⟨h.1, h.2.1, fun h1 h2 h3 H Ls locs hH hL hlocs => ?_⟩
    have h19 : pe_K σ r < 26 := by omega
    obtain ⟨r0, -, hce⟩ := hH.2.2.2.2.2 r h19
    obtain ⟨cell, g1, g2, g3, g4, g5, g6⟩ := hce.2 hka
    obtain ⟨q1, q2, q3⟩ := pe_idx g5 hi1 hi2
    have hr := pe_arr hG hka g2 g4 (fun e => by rw [e]; exact hH.2.2.2.2.1)
    have hv := g6 _ q3
    rw [q2] at hv
    have hty : pe_aty (pe_K σ r) = .int := by rcases hk with q | q <;> rw [q] <;> rfl
    rw [hty] at hr hv
    show W p l e R s m args below meth c H locs _ _ Q (F0 m pc Ls (.int (Int32.ofInt x) :: pe_rf (pe_ad b n0) r :: st'.map (pe_e (pe_ad b n0))))
    rw [pe_rf_pos _ r0]
    exact W.iald hx hb g1 hr g3 q1 hv rfl rfl hd (h.2.2 h1 h2 h3 H Ls locs hH hL hlocs)
  · cases hs

theorem pe_r_aaload {S S' : pe_S} {φ : List Prop} (hx : p.tables.exec = Jvm.exec) (hb : c.code = cc) {gk : Nat → Prop} (hgk : ∀ k, gk k → (12 ≤ k ∧ k < 19) ∨ (22 ≤ k ∧ k < 25)) (hs : pe_al gk (fun σ r j => .inr (.inr (pe_R σ r j))) S = some (φ, S')) (hφ : pe_all φ) (hG : pe_G D cA b n0 H0 s) (hd : decode cc S.1 = .ok (.aaload, 1))
    (h : pe_PW p l e R s m args below meth c Q D cA b n0 H0 nS uS nF uF nL S') : pe_PW p l e R s m args below meth c Q D cA b n0 H0 nS uS nF uF nL S := by
  obtain ⟨pc, ls, st, σ⟩ := S
  unfold pe_al at hs
  split at hs
  · rename_i x r st' he
    cases hs
    dsimp only at he hd
    subst he
    obtain ⟨hk, hi1, hi2⟩ := hφ
    have hk : (12 ≤ pe_K σ r ∧ pe_K σ r < 19) ∨ (22 ≤ pe_K σ r ∧ pe_K σ r < 25) := hgk _ hk
    have hka : pe_ka (pe_K σ r) = true := pe_ka_of (by omega)
    refine ⟨h.1, h.2.1, fun h1 h2 h3 H Ls locs hH hL hlocs => ?_⟩
    have h19 : pe_K σ r < 26 := by omega
    obtain ⟨r0, -, hce⟩ := hH.2.2.2.2.2 r h19
    obtain ⟨cell, g1, g2, g3, g4, g5, g6⟩ := hce.2 hka
    obtain ⟨q1, q2, q3⟩ := pe_idx g5 hi1 hi2
    have hr := pe_arr hG hka g2 g4 (fun e => by rw [e]; exact hH.2.2.2.2.1)
    have hv := g6 _ q3
    rw [q2] at hv
    rw [pe_vt2 _ _ hk] at hv
    show W p l e R s m args below meth c H locs _ _ Q (F0 m pc Ls (.int (Int32.ofInt x) :: pe_rf (pe_ad b n0) r :: st'.map (pe_e (pe_ad b n0))))
    rw [pe_rf_pos _ r0]
    exact W.aald hx hb g1 hr (by unfold pe_aty; split <;> first | omega | rfl) g3 q1 hv rfl rfl hd (h.2.2 h1 h2 h3 H Ls locs hH hL hlocs)
  · cases hs

theorem pe_r_iastore {S S' : pe_S} {φ : List Prop} (hx : p.tables.exec = Jvm.exec) (hb : c.code = cc) (hs : pe_as S = some (φ, S')) (hφ : pe_all φ) (hG : pe_G D cA b n0 H0 s) (hd : decode cc S.1 = .ok (.iastore, 1))
    (h : pe_PW p l e R s m args below meth c Q D cA b n0 H0 nS uS nF uF nL S') : pe_PW p l e R s m args below meth c Q D cA b n0 H0 nS uS nF uF nL S := by
  obtain ⟨pc, ls, st, σ⟩ := S
  unfold pe_as at hs
  split at hs
  · rename_i y x r st' he
    cases hs
    dsimp only at he hd
    subst he
    obtain ⟨hk, hi1, hi2, hr2⟩ := hφ
    have hk : pe_K σ r = 10 := hk
    refine ⟨h.1, h.2.1, fun h1 h2 h3 H Ls locs hH hL hlocs => ?_⟩
    have h19 : pe_K σ r < 26 := by omega
    have hka : pe_ka (pe_K σ r) = true := pe_ka_of (by omega)
    have hH : pe_Hd D cA b n0 H0 σ H := hH
    have hr2 : 2 ≤ r := hr2
    have hr2 : 3 ≤ r := pe_r3 hH h19 (Or.inr hr2) (by omega)
    obtain ⟨r0, -, hce⟩ := hH.2.2.2.2.2 r h19
    obtain ⟨cell, g1, g2, g3, g4, g5, g6⟩ := hce.2 hka
    obtain ⟨q1, q2, q3⟩ := pe_idx g5 hi1 hi2
    have hr := pe_arr hG hka g2 g4 (fun e => by rw [e]; exact hH.2.2.2.2.1)
    show W p l e R s m args below meth c H locs _ _ Q (F0 m pc Ls (.int (Int32.ofInt y) :: .int (Int32.ofInt x) :: pe_rf (pe_ad b n0) r :: st'.map (pe_e (pe_ad b n0))))
    rw [pe_rf_pos _ r0]
    refine W.iast hx hb g1 (by rw [hk] at hr; exact hr) g3 q1 rfl rfl hd (fun H' e1 e2 e3 => ?_)
    exact h.2.2 h1 h2 h3 H' Ls _ (hH.arr (σ' := pe_wI σ r (pe_w x) y) hka hr2 g1 g2 g3 g4 g5 g6 e1 e2 e3 q3 rfl rfl rfl (fun q w hq => if_neg (by rw [← q2]; exact hq)) (fun q w hq => rfl) (by rw [hk, q2, show pe_I (pe_wI σ r (pe_w x) y) r (pe_w x) = y from if_pos ⟨rfl, rfl⟩]; rfl)) hL (pe_base hlocs hr2)
  · cases hs

theorem pe_aastN0 {locs : List Loc} {cells slots : Nat} {T : State} (X : Stand p l e R s m args below meth c T locs cells slots) (hexec : p.tables.exec = Jvm.exec) {a : Addr} {cell : Cell} {t : FieldType} {j : Int32} (hcell : T.heap[a]? = some cell) (harr : s.isArrayOf cell t) (href : t.isReference = true) (hknown : cell.vm ≠ .unknown)
    (hin : ¬ (j < 0 ∨ cell.slots.size ≤ j.toNatClampNeg)) {g : JFrame} (hg : g.method = m) {rest : List Value} (hstack : g.stack = .null :: .int j :: .ref a :: rest) (hdg : decode c.code g.pc = .ok (.aastore, 1)) :
    Stand p l e R s m args below meth c (T.setCell a (cell.setSlot j.toNatClampNeg .null)) (locs ++ [⟨a, j.toNatClampNeg⟩]) cells slots ∧
      ∀ target, Steps p.tables e below ((T.setCell a (cell.setSlot j.toNatClampNeg .null)).setTop { g with pc := g.pc + 1, stack := rest }) target → Steps p.tables e below (T.setTop g) target := by
  have hT := State.isArrayOf_alike X.warmed.alike harr
  have hf0 : fits t .null = true := by cases t <;> simp [FieldType.isReference] at href <;> rfl
  have hfit : T.fitsSlot cell.cls cell.vm j.toNatClampNeg .null = true := by
    obtain ⟨hobj, k, hk, comp, hkind⟩ := hT
    cases hvm : cell.vm <;> first | exact absurd hvm (hobj _) | simp [State.fitsSlot, State.slotType?, hk, hkind, hf0]
  refine ⟨X.stored hcell _ _, fun target hrest => ?_⟩
  subst hg
  jvm_step X.here [hexec, hdg]
  refine aastore.wp_of_null (c := cell) (t := t) X.here.top hstack hcell hT hin hknown (Nat.not_le.mp fun q => hin (Or.inr q)) hfit ?_
  intro acts
  rw [afterInstr_ok]
  exact hrest
theorem pe_WaastN {H : Heap} {locs : List Loc} {cells slots : Nat} (hexec : p.tables.exec = Jvm.exec) (hb : c.code = cc) {a : Addr} {cell : Cell} {t : FieldType} {j : Int32} (hcell : H[a]? = some cell) (harr : s.isArrayOf cell t) (href : t.isReference = true) (hknown : cell.vm ≠ .unknown) (hin : ¬ (j < 0 ∨ cell.slots.size ≤ j.toNatClampNeg))
    {g : JFrame} (hg : g.method = m) {rest : List Value} (hstack : g.stack = .null :: .int j :: .ref a :: rest) (hdg : decode cc g.pc = .ok (.aastore, 1))
    (kk : ∀ H' : Heap, H'[a]? = some (cell.setSlot j.toNatClampNeg .null) → H'.size = H.size → (∀ q, q ≠ a → H'[q]? = H[q]?) → W p l e R s m args below meth c H' (locs ++ [⟨a, j.toNatClampNeg⟩]) cells slots Q { g with pc := g.pc + 1, stack := rest }) : W p l e R s m args below meth c H locs cells slots Q g := by
  intro T hT X
  have hT' : T.heap[a]? = some cell := by rw [hT]; exact hcell
  obtain ⟨X', st⟩ := pe_aastN0 X hexec hT' harr href hknown hin hg hstack (by rw [hb]; exact hdg)
  have hlt : a < T.heap.size := (Array.getElem?_eq_some_iff.mp hT').1
  obtain ⟨t', a1, b1⟩ := kk _ (heapAt_setCell_self _ hlt) (by rw [size_setCell, hT]) (fun q hq => by rw [heapAt_setCell_ne _ (Ne.symm hq), hT]) (T.setCell a (cell.setSlot j.toNatClampNeg .null)) rfl X'
  exact ⟨t', st t' a1, b1⟩
theorem pe_r_aastore {S S' : pe_S} {φ : List Prop} (hx : p.tables.exec = Jvm.exec) (hb : c.code = cc) (hs : pe_rs S = some (φ, S')) (hφ : pe_all φ) (hG : pe_G D cA b n0 H0 s) (hd : decode cc S.1 = .ok (.aastore, 1))
    (h : pe_PW p l e R s m args below meth c Q D cA b n0 H0 nS uS nF uF nL S') : pe_PW p l e R s m args below meth c Q D cA b n0 H0 nS uS nF uF nL S := by
  obtain ⟨pc, ls, st, σ⟩ := S
  unfold pe_rs at hs
  split at hs
  · rename_i y x r st' he
    cases hs
    dsimp only at he hd
    subst he
    obtain ⟨⟨hk, h19⟩, hkq, hi1, hi2, hr2⟩ := hφ
    have hk : 12 ≤ pe_K σ r := hk
    have h19 : pe_K σ r < 19 := h19
    have hkq : y = 0 ∨ pe_K σ r = pe_ak (pe_K σ y) := hkq
    refine ⟨h.1, h.2.1, fun h1 h2 h3 H Ls locs hH hL hlocs => ?_⟩
    have hka : pe_ka (pe_K σ r) = true := pe_ka_of (by omega)
    have hH : pe_Hd D cA b n0 H0 σ H := hH
    have hr2 : 2 ≤ r := hr2
    have hr2 : 3 ≤ r := pe_r3 hH (by omega) (Or.inr hr2) (by omega)
    obtain ⟨r0, -, hce⟩ := hH.2.2.2.2.2 r (by omega)
    obtain ⟨cell, g1, g2, g3, g4, g5, g6⟩ := hce.2 hka
    obtain ⟨q1, q2, q3⟩ := pe_idx g5 hi1 hi2
    have hr := pe_arr hG hka g2 g4 (fun e => by rw [e]; exact hH.2.2.2.2.1)
    show W p l e R s m args below meth c H locs _ _ Q (F0 m pc Ls (pe_rf (pe_ad b n0) y :: .int (Int32.ofInt x) :: pe_rf (pe_ad b n0) r :: st'.map (pe_e (pe_ad b n0))))
    rw [pe_rf_pos _ r0]
    have hc7 : pe_K σ r - 12 < 7 := by omega
    have hak := (pe_akok (pe_K σ r - 12) hc7).1
    have hak2 : pe_ak (pe_K σ r - 12) = pe_K σ r := by unfold pe_ak; omega
    rw [hak2] at hak
    have hend : ∀ H' : Heap, H'[pe_ad b n0 r]? = some (cell.setSlot (Int32.ofInt x).toNatClampNeg (pe_rf (pe_ad b n0) y)) → H'.size = H.size → (∀ q, q ≠ pe_ad b n0 r → H'[q]? = H[q]?) → W p l e R s m args below meth c H' (locs ++ [(⟨pe_ad b n0 r, (Int32.ofInt x).toNatClampNeg⟩ : Loc)]) (pe_n σ - nS) (pe_u σ - uS) Q (F0 m (pc + 1) Ls (st'.map (pe_e (pe_ad b n0)))) := fun H' e1 e2 e3 =>
      h.2.2 h1 h2 h3 H' Ls _ (hH.arr (σ' := pe_wR σ r (pe_w x) y) hka hr2 g1 g2 g3 g4 g5 g6 e1 e2 e3 q3 rfl rfl rfl (fun q w hq => rfl) (fun q w hq => if_neg (by rw [← q2]; exact hq)) (by rw [pe_vt2 _ _ (Or.inl ⟨hk, h19⟩), q2, show pe_R (pe_wR σ r (pe_w x) y) r (pe_w x) = y from if_pos ⟨rfl, rfl⟩])) hL (pe_base hlocs hr2)
    by_cases hy : y = 0
    · have e0 : pe_rf (pe_ad b n0) y = .null := by unfold pe_rf; rw [if_pos hy]
      rw [e0] at hend ⊢
      exact va_WaastN hx hb g1 (by rw [hak] at hr; exact hr) g3 q1 rfl rfl hd (fun H' e1 e2 e3 => hend H' e1 e2 e3)
    · have hkq : pe_K σ r = pe_ak (pe_K σ y) := by rcases hkq with q | q; exact absurd q hy; exact q
      have hky : pe_K σ y = pe_K σ r - 12 := by unfold pe_ak at hkq; omega
      have hH : pe_Hd D cA b n0 H0 σ H := hH
      obtain ⟨y0, -, hcy⟩ := hH.2.2.2.2.2 y (by omega)
      obtain ⟨cv, v1, v2, v3, -⟩ := hcy.1 (pe_kc_10 (by omega))
      have e0 : pe_rf (pe_ad b n0) y = .ref (pe_ad b n0 y) := pe_rf_pos _ y0
      rw [e0] at hend ⊢
      have hcls := (hG.1 (pe_K σ r - 12) (pe_kc_10 (by omega))).2
      have hra := (hG.2.1 (pe_K σ r) hka (by omega)).2
      rw [hak] at hra
      obtain ⟨kA, comp, k1, k2, k3, -⟩ := hra
      have hcomp : comp = D.1 (pe_K σ r - 12) := Option.some.inj (k3.symm.trans hcls.1)
      subst hcomp
      obtain ⟨kC, hkC, -⟩ := hcls.2
      exact W.aast hx hb g1 g4 g3 (by rw [g2]; show s.vm.classes[cA (pe_ca r (pe_K σ r))]? = some kA; rw [pe_ca2 (by omega)]; exact k1) k2 rfl hkC ⟨fun q => q1 (Or.inl q), q3⟩ v1 (fun q h => by rw [v3] at h; cases h) (by rw [v2, hky]; exact hkC) (by rw [v2, hky]; exact va_assign hcls) rfl rfl hd (fun H' e1 e2 e3 => hend H' e1 e2 e3)
  · cases hs

theorem pe_r_aastoreL {S S' : pe_S} {φ : List Prop} (hx : p.tables.exec = Jvm.exec) (hb : c.code = cc) (hs : pe_rsL S = some (φ, S')) (hφ : pe_all φ) (hG : pe_G D cA b n0 H0 s) (hd : decode cc S.1 = .ok (.aastore, 1))
    (h : pe_PW p l e R s m args below meth c Q D cA b n0 H0 nS uS nF uF nL S') : pe_PW p l e R s m args below meth c Q D cA b n0 H0 nS uS nF uF nL S := by
  obtain ⟨pc, ls, st, σ⟩ := S
  unfold pe_rsL at hs
  split at hs
  · rename_i y x r st' he
    cases hs
    dsimp only at he hd
    subst he
    obtain ⟨⟨hk, h19⟩, hkq, hi1, hi2, hr2⟩ := hφ
    have hk : 22 ≤ pe_K σ r := hk
    have h19 : pe_K σ r < 25 := h19
    have hkq : y = 0 ∨ (3 ≤ y ∧ pe_K σ y = pe_ek (pe_K σ r)) := hkq
    refine ⟨h.1, h.2.1, fun h1 h2 h3 H Ls locs hH hL hlocs => ?_⟩
    have hka : pe_ka (pe_K σ r) = true := pe_ka_of (by omega)
    have hH : pe_Hd D cA b n0 H0 σ H := hH
    have hr2 : 3 ≤ r := hr2
    obtain ⟨r0, -, hce⟩ := hH.2.2.2.2.2 r (by omega)
    obtain ⟨cell, g1, g2, g3, g4, g5, g6⟩ := hce.2 hka
    obtain ⟨q1, q2, q3⟩ := pe_idx g5 hi1 hi2
    have hr := pe_arr hG hka g2 g4 (fun e => by rw [e]; exact hH.2.2.2.2.1)
    show W p l e R s m args below meth c H locs _ _ Q (F0 m pc Ls (pe_rf (pe_ad b n0) y :: .int (Int32.ofInt x) :: pe_rf (pe_ad b n0) r :: st'.map (pe_e (pe_ad b n0))))
    rw [pe_rf_pos _ r0]
    have hend : ∀ H' : Heap, H'[pe_ad b n0 r]? = some (cell.setSlot (Int32.ofInt x).toNatClampNeg (pe_rf (pe_ad b n0) y)) → H'.size = H.size → (∀ q, q ≠ pe_ad b n0 r → H'[q]? = H[q]?) → W p l e R s m args below meth c H' (locs ++ [(⟨pe_ad b n0 r, (Int32.ofInt x).toNatClampNeg⟩ : Loc)]) (pe_n σ - nS) (pe_u σ - uS) Q (F0 m (pc + 1) Ls (st'.map (pe_e (pe_ad b n0)))) := fun H' e1 e2 e3 =>
      h.2.2 h1 h2 h3 H' Ls _ (hH.arr (σ' := pe_wR σ r (pe_w x) y) hka hr2 g1 g2 g3 g4 g5 g6 e1 e2 e3 q3 rfl rfl rfl (fun q w hq => rfl) (fun q w hq => if_neg (by rw [← q2]; exact hq)) (by rw [pe_vt2 _ _ (Or.inr ⟨hk, h19⟩), q2, show pe_R (pe_wR σ r (pe_w x) y) r (pe_w x) = y from if_pos ⟨rfl, rfl⟩])) hL (pe_base hlocs hr2)
    by_cases hy : y = 0
    · have e0 : pe_rf (pe_ad b n0) y = .null := by unfold pe_rf; rw [if_pos hy]
      rw [e0] at hend ⊢
      have h3k : pe_K σ r = 22 ∨ pe_K σ r = 23 ∨ pe_K σ r = 24 := by omega
      rcases h3k with q | q | q
      · rw [q, pe_akL.1.1] at hr
        exact va_WaastN hx hb g1 hr g3 q1 rfl rfl hd (fun H' e1 e2 e3 => hend H' e1 e2 e3)
      · rw [q, pe_akL.1.2] at hr
        exact va_WaastN hx hb g1 hr g3 q1 rfl rfl hd (fun H' e1 e2 e3 => hend H' e1 e2 e3)
      · rw [q] at hr
        exact pe_WaastN hx hb g1 (t := .array .int) hr rfl g3 q1 rfl rfl hd (fun H' e1 e2 e3 => hend H' e1 e2 e3)
    · obtain ⟨hy3, hkq⟩ : 3 ≤ y ∧ pe_K σ y = pe_ek (pe_K σ r) := by
        rcases hkq with q | q
        · exact absurd q hy
        · exact q
      have hH : pe_Hd D cA b n0 H0 σ H := hH
      have key : ∀ (cI : Nat), pe_kc cI = true → pe_K σ y = cI → pe_aty (pe_K σ r) = .object (pe_cl cI).1 → W p l e R s m args below meth c H locs (pe_n σ - nS) (pe_u σ - uS) Q (F0 m pc Ls (pe_rf (pe_ad b n0) y :: .int (Int32.ofInt x) :: .ref (pe_ad b n0 r) :: st'.map (pe_e (pe_ad b n0)))) := fun cI hcI hky hak => by
        obtain ⟨y0, -, hcy⟩ := hH.2.2.2.2.2 y (by rw [hky]; exact pe_kc_lt hcI)
        obtain ⟨cv, v1, v2, v3, -⟩ := hcy.1 (by rw [hky]; exact hcI)
        have e0 : pe_rf (pe_ad b n0) y = .ref (pe_ad b n0 y) := pe_rf_pos _ y0
        rw [e0] at hend ⊢
        have hcls := (hG.1 cI hcI).2
        have hra := (hG.2.1 (pe_K σ r) hka (by omega)).2
        rw [hak] at hra
        obtain ⟨kA, comp, k1, k2, k3, -⟩ := hra
        have hcomp : comp = D.1 cI := Option.some.inj (k3.symm.trans hcls.1)
        subst hcomp
        obtain ⟨kC, hkC, -⟩ := hcls.2
        exact W.aast hx hb g1 g4 g3 (by rw [g2]; show s.vm.classes[cA (pe_ca r (pe_K σ r))]? = some kA; rw [pe_ca2 (by omega)]; exact k1) k2 rfl hkC ⟨fun q => q1 (Or.inl q), q3⟩ v1 (fun q h => by rw [v3] at h; cases h) (by rw [v2, hky]; exact hkC) (by rw [v2, hky]; exact va_assign hcls) rfl rfl hd (fun H' e1 e2 e3 => hend H' e1 e2 e3)
      have h3k : pe_K σ r = 22 ∨ pe_K σ r = 23 ∨ pe_K σ r = 24 := by omega
      rcases h3k with q | q | q
      · exact key 19 (by decide) (by rw [hkq, q]; rfl) (by rw [q]; exact pe_akL.1.1)
      · exact key 20 (by decide) (by rw [hkq, q]; rfl) (by rw [q]; exact pe_akL.1.2)
      · have hky : pe_K σ y = 10 := by rw [hkq, q]; rfl
        obtain ⟨y0, -, hcy⟩ := hH.2.2.2.2.2 y (by omega)
        obtain ⟨cv, v1, v2, v3, v4, -⟩ := hcy.2 (by rw [hky]; rfl)
        have e0 : pe_rf (pe_ad b n0) y = .ref (pe_ad b n0 y) := pe_rf_pos _ y0
        rw [e0] at hend ⊢
        obtain ⟨k, c1, c2⟩ := hG.2.2.2.2.2.2.1
        obtain ⟨-, kC, hkC, -⟩ := (hG.2.1 10 (by decide) (by decide)).1 0 (fun _ => .null)
        rw [hky, pe_ca2 (by omega)] at v2
        rw [q, pe_ca2 (by omega)] at g2
        exact W.aast hx hb g1 g4 g3 (by rw [g2]; exact c1) c2 rfl hkC ⟨fun q => q1 (Or.inl q), q3⟩ v1 v4 (by rw [v2]; exact hkC) (by rw [v2]; exact va_asg _ _) rfl rfl hd (fun H' e1 e2 e3 => hend H' e1 e2 e3)
  · cases hs

theorem pe_r_alen {S S' : pe_S} {φ : List Prop} (hx : p.tables.exec = Jvm.exec) (hb : c.code = cc) {gk : Nat → Prop} (hgk : ∀ k, gk k → pe_ka k = true) (hs : (match S.2.2.1 with | .inr (.inr r) :: st => some ([gk (pe_K S.2.2.2 r)], (S.1 + 1, S.2.1, .inl (pe_L S.2.2.2 r) :: st, S.2.2.2)) | _ => none) = some (φ, S')) (hφ : pe_all φ) (hG : pe_G D cA b n0 H0 s) (hd : decode cc S.1 = .ok (.arraylength, 1))
    (h : pe_PW p l e R s m args below meth c Q D cA b n0 H0 nS uS nF uF nL S') : pe_PW p l e R s m args below meth c Q D cA b n0 H0 nS uS nF uF nL S := by
  obtain ⟨pc, ls, st, σ⟩ := S
  split at hs
  · rename_i r st' he
    cases hs
    dsimp only at he hd
    subst he
    have hka : pe_ka (pe_K σ r) = true := hgk _ hφ
    have h19 : pe_K σ r < 26 := by have := pe_kas hka; omega
    refine ⟨h.1, h.2.1, fun h1 h2 h3 H Ls locs hH hL hlocs => ?_⟩
    obtain ⟨r0, -, hce⟩ := hH.2.2.2.2.2 r h19
    obtain ⟨cell, g1, g2, g3, g4, g5, g6⟩ := hce.2 hka
    show W p l e R s m args below meth c H locs _ _ Q (F0 m pc Ls (pe_rf (pe_ad b n0) r :: st'.map (pe_e (pe_ad b n0))))
    rw [pe_rf_pos _ r0]
    refine W.alen (n := Int32.ofInt (pe_L σ r)) hx hb g1 (pe_arr hG hka g2 g4 (fun e => by rw [e]; exact hH.2.2.2.2.1)) ?_ rfl rfl hd (h.2.2 h1 h2 h3 H Ls locs hH hL hlocs)
    rw [← g5]
    rfl
  · cases hs

theorem pe_r_nw {S S' : pe_S} {φ : List Prop} {o i : Nat} (hx : p.tables.exec = Jvm.exec) (hb : c.code = cc) (hs : pe_nw o i S = some (φ, S')) (hRc : nF - nS ≤ R.cells) (hRs : uF - uS ≤ R.slots) (hts : ∀ w ∈ pe_TB, w.before args s = true) (hown : s.vm.findClass (pe_rn o) = some m.cls) (hG : pe_G D cA b n0 H0 s) (hd : decode cc S.1 = .ok (.new i, 3))
    (h : pe_PW p l e R s m args below meth c Q D cA b n0 H0 nS uS nF uF nL S') : pe_PW p l e R s m args below meth c Q D cA b n0 H0 nS uS nF uF nL S := by
  obtain ⟨pc, ls, st, σ⟩ := S
  unfold pe_nw at hs
  split at hs
  · rename_i cI pl hc
    cases hs
    dsimp only at hd
    obtain ⟨hc10, hlk⟩ := pe_cok _ _ _ _ hc
    have hn1 : pe_n (pe_new σ cI 0 (pe_cl cI).2.2) = pe_n σ + 1 := rfl
    have hu1 : pe_u (pe_new σ cI 0 (pe_cl cI).2.2) = pe_u σ + (pe_cl cI).2.2 := rfl
    have hf1 : pe_n σ + 1 ≤ nF := h.1
    have hf2 : pe_u σ + (pe_cl cI).2.2 ≤ uF := h.2.1
    refine ⟨Nat.le_trans (Nat.le_succ _) hf1, Nat.le_trans (Nat.le_add_right _ _) hf2, fun h1 h2 h3 H Ls locs hH hL hlocs => ?_⟩
    have hH : pe_Hd D cA b n0 H0 σ H := hH
    have h1 : nS ≤ pe_n σ := h1
    have h2 : uS ≤ pe_u σ := h2
    have hKn := hG.1 cI hc10
    refine W.newcK hx hb hown (hts _ hlk) (hts _ (pe_in_tb (pe_insok cI hc10).1 rfl)) (hts _ (pe_in_tb (pe_insok cI hc10).2 rfl)) rfl hd (by show pe_n σ - nS + 1 ≤ _; omega) (by show pe_u σ - uS + _ ≤ _; omega) hKn.2.1 rfl fun H1 kC hkC e1 z1 o1 => ?_
    have hw := h.2.2 (by show nS ≤ pe_n σ + 1; omega) (by show uS ≤ pe_u σ + _; omega) h3 H1 Ls locs (hH.new (σ' := pe_new σ cI 0 (pe_cl cI).2.2) rfl (fun q hq => if_neg hq) (fun q hq => if_neg hq) (fun q hq j => if_neg hq) (fun q hq j => if_neg hq) z1 o1 ⟨fun _ => ?_, fun h10 => ?_⟩) hL hlocs
    · have e2 : pe_n (pe_new σ cI 0 (pe_cl cI).2.2) - nS = pe_n σ - nS + 1 := by rw [hn1]; omega
      have e3 : pe_u (pe_new σ cI 0 (pe_cl cI).2.2) - uS = pe_u σ - uS + (pe_cl cI).2.2 := by rw [hu1]; omega
      have hw : W p l e R s m args below meth c H1 locs (pe_n (pe_new σ cI 0 (pe_cl cI).2.2) - nS) (pe_u (pe_new σ cI 0 (pe_cl cI).2.2) - uS) Q (F0 m (pc + 3) Ls (pe_rf (pe_ad b n0) (pe_n σ) :: st.map (pe_e (pe_ad b n0)))) := hw
      rw [e2, e3, pe_rf_pos _ (by have := hH.2.1; omega), pe_ad_n hH] at hw
      exact hw
    · have ek : pe_K (pe_new σ cI 0 (pe_cl cI).2.2) (pe_n σ) = cI := if_pos rfl
      rw [ek]
      have hborn := u_born (H := H1) (o := H.size) (pe_ty cI) hts (pe_u_tb hc10) hKn hkC e1 (pe_tyok cI hc10)
      rw [← pe_ad_n hH] at hborn
      refine hborn.to (fun j hj => ?_)
      have ei : pe_I (pe_new σ cI 0 (pe_cl cI).2.2) (pe_n σ) j = 0 := if_pos rfl
      have er : pe_R (pe_new σ cI 0 (pe_cl cI).2.2) (pe_n σ) j = 0 := if_pos rfl
      rw [ei, er]
      have h4 := pe_tcok cI hc10 j hj
      unfold pe_fty
      generalize pe_ty cI j = ty at h4 ⊢
      cases ty <;> first | rfl | exact absurd rfl h4
    · have ek : pe_K (pe_new σ cI 0 (pe_cl cI).2.2) (pe_n σ) = cI := if_pos rfl
      rw [ek] at h10; exact (pe_kca hc10 h10).elim
  · cases hs

theorem pe_arrnew {σ : pe_H} {H H' : Heap} {k N : Nat} {cell : Cell} {x : Int} (hH : pe_Hd D cA b n0 H0 σ H) (hka : pe_ka k = true) (hx : x = (N : Int)) (e1 : H'[H.size]? = some cell) (z1 : H'.size = H.size + 1) (o1 : ∀ q, q < H.size → H'[q]? = H[q]?) (hc : cell.cls = cA k) (hv : cell.vm = .none) (hz : cell.slots.size = N) (hval : ∀ j : Nat, j < N → cell.slots[j]? = some (pe_vt (pe_ad b n0) (pe_tc (pe_aty k)) 0 0)) : pe_Hd D cA b n0 H0 (pe_new σ k x N) H' := by
  refine hH.new (σ' := pe_new σ k x N) rfl (fun q hq => if_neg hq) (fun q hq => if_neg hq) (fun q hq j => if_neg hq) (fun q hq j => if_neg hq) z1 o1 ⟨fun h => ?_, fun _ => ?_⟩
  · have ek : pe_K (pe_new σ k x N) (pe_n σ) = k := if_pos rfl
    rw [ek] at h; exact (pe_kca h hka).elim
  · have ek : pe_K (pe_new σ k x N) (pe_n σ) = k := if_pos rfl
    have el : pe_L (pe_new σ k x N) (pe_n σ) = x := if_pos rfl
    rw [ek, el]
    refine ⟨cell, by rw [pe_ad_n hH]; exact e1, (by rw [pe_ca2 (by have := hH.2.1; omega)]; exact hc), (by rw [hv]; exact fun h => by cases h), (fun q h => by rw [hv] at h; cases h), (by rw [hz, hx]), fun j hj => ?_⟩
    have ei : pe_I (pe_new σ k x N) (pe_n σ) j = 0 := if_pos rfl
    have er : pe_R (pe_new σ k x N) (pe_n σ) j = 0 := if_pos rfl
    rw [ei, er]
    exact hval j (by rw [← hz]; exact hj)
theorem pe_w_na (hx : p.tables.exec = Jvm.exec) (hb : c.code = cc) (hRc : nF - nS ≤ R.cells) (hRs : uF - uS ≤ R.slots) {pc len k : Nat} {ls : List (Option pe_V)} {st : List pe_V} {σ : pe_H} {x : Int} (hx0 : 0 ≤ pe_w x) (hx1 : pe_w x ≤ 10000) (hka : pe_ka k = true)
    (row : ∀ (H : Heap) (Ls : Array Slot) (locs : List Loc) (a z : Nat) (rest : List Value), a + 1 ≤ R.cells → z + (pe_w x).toNat ≤ R.slots → (∀ (H' : Heap) (cell : Cell), H'[H.size]? = some cell → H'.size = H.size + 1 → (∀ q, q < H.size → H'[q]? = H[q]?) → cell.cls = cA k → cell.vm = .none → cell.slots.size = (pe_w x).toNat → (∀ j : Nat, j < (pe_w x).toNat → cell.slots[j]? = some (pe_vt (pe_ad b n0) (pe_tc (pe_aty k)) 0 0)) → W p l e R s m args below meth c H' locs (a + 1) (z + (pe_w x).toNat) Q (F0 m (pc + len) Ls (.ref H.size :: rest))) → W p l e R s m args below meth c H locs a z Q (F0 m pc Ls (.int (Int32.ofInt x) :: rest)))
    (h : pe_PW p l e R s m args below meth c Q D cA b n0 H0 nS uS nF uF nL (pc + len, ls, .inr (.inr (pe_n σ)) :: st, pe_new σ k (pe_w x) (pe_w x).toNat)) : pe_PW p l e R s m args below meth c Q D cA b n0 H0 nS uS nF uF nL (pc, ls, .inl x :: st, σ) := by
  have hf1 : pe_n σ + 1 ≤ nF := h.1
  have hf2 : pe_u σ + (pe_w x).toNat ≤ uF := h.2.1
  refine ⟨Nat.le_trans (Nat.le_succ _) hf1, Nat.le_trans (Nat.le_add_right _ _) hf2, fun h1 h2 h3 H Ls locs hH hL hlocs => ?_⟩
  have hH : pe_Hd D cA b n0 H0 σ H := hH
  have h1 : nS ≤ pe_n σ := h1
  have h2 : uS ≤ pe_u σ := h2
  refine row H Ls locs _ _ _ (by show pe_n σ - nS + 1 ≤ _; omega) (by show pe_u σ - uS + _ ≤ _; omega) (fun H' cell e1 z1 o1 hc hv hz hval => ?_)
  have hw := h.2.2 (by show nS ≤ pe_n σ + 1; omega) (by show uS ≤ pe_u σ + _; omega) h3 H' Ls locs (pe_arrnew hH hka (by omega) e1 z1 o1 hc hv hz hval) hL hlocs
  have e2 : pe_n (pe_new σ k (pe_w x) (pe_w x).toNat) - nS = pe_n σ - nS + 1 := by show pe_n σ + 1 - nS = _; omega
  have e3 : pe_u (pe_new σ k (pe_w x) (pe_w x).toNat) - uS = pe_u σ - uS + (pe_w x).toNat := by show pe_u σ + _ - uS = _; omega
  have hw : W p l e R s m args below meth c H' locs (pe_n (pe_new σ k (pe_w x) (pe_w x).toNat) - nS) (pe_u (pe_new σ k (pe_w x) (pe_w x).toNat) - uS) Q (F0 m (pc + len) Ls (pe_rf (pe_ad b n0) (pe_n σ) :: st.map (pe_e (pe_ad b n0)))) := hw
  rw [e2, e3, pe_rf_pos _ (by have := hH.2.1; omega), pe_ad_n hH] at hw
  exact hw
theorem pe_r_na_int {S S' : pe_S} {φ : List Prop} (hx : p.tables.exec = Jvm.exec) (hb : c.code = cc) (hs : pe_na 10 2 S = some (φ, S')) (hRc : nF - nS ≤ R.cells) (hRs : uF - uS ≤ R.slots) (hφ : pe_all φ) (hts : ∀ w ∈ pe_TB, w.before args s = true) (hG : pe_G D cA b n0 H0 s) (hd : decode cc S.1 = .ok (.newarray .int, 2))
    (h : pe_PW p l e R s m args below meth c Q D cA b n0 H0 nS uS nF uF nL S') : pe_PW p l e R s m args below meth c Q D cA b n0 H0 nS uS nF uF nL S := by
  obtain ⟨pc, ls, st, σ⟩ := S
  unfold pe_na at hs
  split at hs
  · rename_i x st' he
    cases hs
    dsimp only at hd he
    subst he
    obtain ⟨hx0, hx1⟩ := hφ
    have hx0 : 0 ≤ pe_w x := hx0
    have hx1 : pe_w x ≤ 10000 := hx1
    refine pe_w_na hx hb hRc hRs hx0 hx1 (by decide) (fun H Ls locs a z rest ha hz kk => ?_) h
    have hN : (Int32.ofInt x).toNatClampNeg = (pe_w x).toNat := rfl
    refine va_newaK (atype := .int) hx hb (hts _ (pe_in_tb pe_acok rfl)) rfl hd rfl (fun q => by have := (pe_lt0 x).mp q; omega) hN (by show _ * 4 ≤ _; omega) ha hz rfl (fun H' cA' e1 z1 o1 hAr hfc => ?_)
    have hca : cA' = cA 10 := by
      have h4 := (hG.2.1 10 (by decide) (by decide)).2
      exact Option.some.inj (hfc.symm.trans h4)
    refine kk H' _ e1 z1 o1 hca rfl (arrV_size _ _ _) (fun j hj => ?_)
    rw [arrV_read _ _ hj]
    rfl
  · cases hs

theorem pe_r_an {S S' : pe_S} {φ : List Prop} {o i cI pl : Nat} (hx : p.tables.exec = Jvm.exec) (hb : c.code = cc) (hs : pe_na (pe_ak cI) 3 S = some (φ, S')) (hRc : nF - nS ≤ R.cells) (hRs : uF - uS ≤ R.slots) (hcI : pe_go (pe_cT o) i = some (cI, pl)) (hc7 : cI < 7) (hφ : pe_all φ) (hts : ∀ w ∈ pe_TB, w.before args s = true) (hown : s.vm.findClass (pe_rn o) = some m.cls) (hG : pe_G D cA b n0 H0 s) (hd : decode cc S.1 = .ok (.anewarray i, 3))
    (h : pe_PW p l e R s m args below meth c Q D cA b n0 H0 nS uS nF uF nL S') : pe_PW p l e R s m args below meth c Q D cA b n0 H0 nS uS nF uF nL S := by
  obtain ⟨pc, ls, st, σ⟩ := S
  unfold pe_na at hs
  split at hs
  · rename_i x st' he
    cases hs
    dsimp only at hd he
    subst he
    obtain ⟨hx0, hx1⟩ := hφ
    have hx0 : 0 ≤ pe_w x := hx0
    have hx1 : pe_w x ≤ 10000 := hx1
    refine pe_w_na hx hb hRc hRs hx0 hx1 (pe_ka_of (by unfold pe_ak; omega)) (fun H Ls locs a z rest ha hz kk => ?_) h
    have hN : (Int32.ofInt x).toNatClampNeg = (pe_w x).toNat := rfl
    refine W.anew (C := (pe_cl cI).1) hx hb hown (hts _ (pe_cok _ _ _ _ hcI).2) (va_AO.use (hG.2.2.1 cI hc7)) rfl hd rfl (fun q => by have := (pe_lt0 x).mp q; omega) (by rw [hN]; omega) ha (by rw [hN]; exact hz) (fun cA' kA comp h1 h2 h3 h4 => ?_)
    have hca : cA' = cA (pe_ak cI) := by
      have h5 := (hG.2.1 (pe_ak cI) (pe_ka_of (by unfold pe_ak; omega)) (by unfold pe_ak; omega)).2
      rw [(pe_akok cI hc7).1] at h5
      obtain ⟨_, _, -, -, -, h6⟩ := h5
      exact Option.some.inj (h1.symm.trans h6)
    have e := kk (H.push { cls := cA', slots := Array.replicate (Int32.ofInt x).toNatClampNeg .null, vm := .none }) ({ cls := cA', slots := Array.replicate (Int32.ofInt x).toNatClampNeg .null, vm := .none } : Cell) (by simp) (by simp) (fun q hq => by rw [Array.getElem?_push, if_neg (Nat.ne_of_lt hq)]) hca rfl (by rw [Array.size_replicate]; exact hN) (fun j hj => by
      rw [pe_vt2 _ _ (Or.inl (by unfold pe_ak; omega))]
      rw [← hN] at hj
      simp [hj, pe_rf])
    rw [← hN] at e
    exact e
  · cases hs

theorem pe_r_anL {S S' : pe_S} {φ : List Prop} {o i cI pl ak : Nat} (hx : p.tables.exec = Jvm.exec) (hb : c.code = cc) (hs : pe_na ak 3 S = some (φ, S')) (hRc : nF - nS ≤ R.cells) (hRs : uF - uS ≤ R.slots) (hcI : pe_go (pe_cT o) i = some (cI, pl)) (hc7 : (cI = 19 ∧ ak = 22) ∨ (cI = 20 ∧ ak = 23)) (hφ : pe_all φ) (hts : ∀ w ∈ pe_TB, w.before args s = true) (hown : s.vm.findClass (pe_rn o) = some m.cls) (hG : pe_G D cA b n0 H0 s) (hd : decode cc S.1 = .ok (.anewarray i, 3))
    (h : pe_PW p l e R s m args below meth c Q D cA b n0 H0 nS uS nF uF nL S') : pe_PW p l e R s m args below meth c Q D cA b n0 H0 nS uS nF uF nL S := by
  obtain ⟨pc, ls, st, σ⟩ := S
  unfold pe_na at hs
  split at hs
  · rename_i x st' he
    cases hs
    dsimp only at hd he
    subst he
    obtain ⟨hx0, hx1⟩ := hφ
    have hx0 : 0 ≤ pe_w x := hx0
    have hx1 : pe_w x ≤ 10000 := hx1
    refine pe_w_na hx hb hRc hRs hx0 hx1 (pe_ka_of (by omega)) (fun H Ls locs a z rest ha hz kk => ?_) h
    have hN : (Int32.ofInt x).toNatClampNeg = (pe_w x).toNat := rfl
    refine W.anew (C := (pe_cl cI).1) hx hb hown (hts _ (pe_cok _ _ _ _ hcI).2) (va_AO.use (hG.2.2.2.2.2.1.2 cI (by omega))) rfl hd rfl (fun q => by have := (pe_lt0 x).mp q; omega) (by rw [hN]; omega) ha (by rw [hN]; exact hz) (fun cA' kA comp h1 h2 h3 h4 => ?_)
    have hca : cA' = cA ak := by
      have h5 := (hG.2.1 ak (pe_ka_of (by omega)) (by omega)).2
      have hak : pe_aty ak = .object (pe_cl cI).1 := by
        rcases hc7 with ⟨q1, q2⟩ | ⟨q1, q2⟩
        · rw [q1, q2]; exact pe_akL.1.1
        · rw [q1, q2]; exact pe_akL.1.2
      rw [hak] at h5
      obtain ⟨_, _, -, -, -, h6⟩ := h5
      exact Option.some.inj (h1.symm.trans h6)
    have e := kk (H.push { cls := cA', slots := Array.replicate (Int32.ofInt x).toNatClampNeg .null, vm := .none }) ({ cls := cA', slots := Array.replicate (Int32.ofInt x).toNatClampNeg .null, vm := .none } : Cell) (by simp) (by simp) (fun q hq => by rw [Array.getElem?_push, if_neg (Nat.ne_of_lt hq)]) hca rfl (by rw [Array.size_replicate]; exact hN) (fun j hj => by
      rw [pe_vt2 _ _ (Or.inr (by omega))]
      rw [← hN] at hj
      simp [hj, pe_rf])
    rw [← hN] at e
    exact e
  · cases hs

theorem pe_r_anA {S S' : pe_S} {φ : List Prop} {i : Nat} (hx : p.tables.exec = Jvm.exec) (hb : c.code = cc) (hs : pe_na 24 3 S = some (φ, S')) (hRc : nF - nS ≤ R.cells) (hRs : uF - uS ≤ R.slots) (hi : i = pe_xa.1) (hφ : pe_all φ) (hts : ∀ w ∈ pe_TB, w.before args s = true) (hown : s.vm.findClass (pe_rn 21) = some m.cls) (hG : pe_G D cA b n0 H0 s) (hd : decode cc S.1 = .ok (.anewarray i, 3))
    (h : pe_PW p l e R s m args below meth c Q D cA b n0 H0 nS uS nF uF nL S') : pe_PW p l e R s m args below meth c Q D cA b n0 H0 nS uS nF uF nL S := by
  obtain ⟨pc, ls, st, σ⟩ := S
  unfold pe_na at hs
  split at hs
  · rename_i x st' he
    cases hs
    dsimp only at hd he
    subst he
    obtain ⟨hx0, hx1⟩ := hφ
    have hx0 : 0 ≤ pe_w x := hx0
    have hx1 : pe_w x ≤ 10000 := hx1
    refine pe_w_na hx hb hRc hRs hx0 hx1 (by decide) (fun H Ls locs a z rest ha hz kk => ?_) h
    have hN : (Int32.ofInt x).toNatClampNeg = (pe_w x).toNat := rfl
    refine W.anewA (t := .int) hx hb hown (hts _ (pe_tb (by rw [hi]; exact pe_x_ok.1) rfl)) hG.2.2.2.2.2.2.2.1 rfl hd rfl (fun q => by have := (pe_lt0 x).mp q; omega) (by rw [hN]; omega) ha (by rw [hN]; exact hz) (fun cA' kA comp h1 h2 h3 h4 => ?_)
    have hca : cA' = cA 24 := by
      exact Option.some.inj (h1.symm.trans (hG.2.1 24 (by decide) (by decide)).2)
    have e := kk (H.push { cls := cA', slots := Array.replicate (Int32.ofInt x).toNatClampNeg .null, vm := .none }) ({ cls := cA', slots := Array.replicate (Int32.ofInt x).toNatClampNeg .null, vm := .none } : Cell) (by simp) (by simp) (fun q hq => by rw [Array.getElem?_push, if_neg (Nat.ne_of_lt hq)]) hca rfl (by rw [Array.size_replicate]; exact hN) (fun j hj => by
      rw [pe_vt2 _ _ (Or.inr ⟨by decide, by decide⟩)]
      rw [← hN] at hj
      simp [hj, pe_rf])
    rw [← hN] at e
    exact e
  · cases hs

theorem pe_r_oi {S S' : pe_S} {φ : List Prop} {o i : Nat} (hx : p.tables.exec = Jvm.exec) (hb : c.code = cc) (hs : (match S.2.2.1, pe_go (pe_oT o) i with | .inr (.inr r) :: st, some _ => if pe_cat st ≤ 8 then some ([¬ r = 0], (S.1 + 3, S.2.1, st, S.2.2.2)) else none | _, _ => none) = some (φ, S')) (hf : 1 ≤ R.frames) (hlo : 20 ≤ R.locals) (hml : c.maxLocals = nL) (hφ : pe_all φ) (hts : ∀ w ∈ pe_TB, w.before args s = true) (hown : s.vm.findClass (pe_rn o) = some m.cls) (hd : decode cc S.1 = .ok (.invokespecial i, 3))
    (h : pe_PW p l e R s m args below meth c Q D cA b n0 H0 nS uS nF uF nL S') : pe_PW p l e R s m args below meth c Q D cA b n0 H0 nS uS nF uF nL S := by
  obtain ⟨pc, ls, st, σ⟩ := S
  split at hs
  · rename_i r st' pl he hg
    split at hs
    · rename_i hcat
      cases hs
      dsimp only at hd he
      subst he
      refine ⟨h.1, h.2.1, fun h1 h2 h3 H Ls locs hH hL hlocs => ?_⟩
      show W p l e R s m args below meth c H locs _ _ Q (F0 m pc Ls (pe_rf (pe_ad b n0) r :: st'.map (pe_e (pe_ad b n0))))
      have hφ : ¬ r = 0 := hφ
      rw [pe_rf_pos _ (by omega)]
      refine W.objInit hx hb hown (hts _ (pe_ook _ _ _ hg)) (hts _ (pe_in_tb pe_oiok.1 rfl)) (hts _ (pe_in_tb pe_oiok.2 rfl)) rfl (by rw [hml]; exact hL.1.trans h3) rfl hd hf ?_ ?_
      · rw [pe_cat_ok]
        show 2 * 0 + _ + 12 ≤ _
        omega
      · exact h.2.2 h1 h2 h3 H Ls locs hH hL hlocs
    · cases hs
  · cases hs

/-- the law's static array -/
theorem pe_r_gs {S S' : pe_S} {φ : List Prop} {k : Nat} (hx : p.tables.exec = Jvm.exec) (hb : c.code = cc) (hs : pe_psh 3 (.inr (.inr 2)) S = some (φ, S')) (hk : k = pe_xs.1) (hts : ∀ w ∈ pe_TB, w.before args s = true) (hown : s.vm.findClass (pe_rn 21) = some m.cls) (hG : pe_G D cA b n0 H0 s) (hd : decode cc S.1 = .ok (.getstatic k, 3))
    (h : pe_PW p l e R s m args below meth c Q D cA b n0 H0 nS uS nF uF nL S') : pe_PW p l e R s m args below meth c Q D cA b n0 H0 nS uS nF uF nL S := by
  obtain ⟨pc, ls, st, σ⟩ := S
  unfold pe_psh at hs
  cases hs
  refine ⟨h.1, h.2.1, fun h1 h2 h3 H Ls locs hH hL hlocs => ?_⟩
  obtain ⟨cf, kf, fi, f, a, cell, z1, z2, z3, z4, z5, z6, z7, z8⟩ := hG.2.2.2.2.2.2.2.2
  have hH : pe_Hd D cA b n0 H0 σ H := hH
  have za : H[a]? = some cell := by rw [hH.2.2.2.1 a (Nat.not_le.mp z8)]; exact z5
  have hw := h.2.2 h1 h2 h3 H Ls locs hH hL hlocs
  exact W.gets hx hb hown (hts _ (pe_tb (by rw [hk]; exact pe_x_ok.2.2) rfl)) z1 z2 z3 z4 za (fun e => by rw [e] at z6; cases z6) z7 rfl hd hw
end PEW4
end
section
/-! SOUND, 6b: System.arraycopy of ints, Math.min -/
theorem pe_aok : ∀ o i pl, pe_go (pe_aT o) i = some pl → Cond.methodLink (pe_rn o) i arraycopyName ∈ pe_TB := by
  intro o i pl h
  have hm := pe_go_mem _ _ _ h
  have key : ∀ o, ∀ q ∈ pe_aT o, lw_tbl[q.2]? = some (.methodLink (pe_rn o) q.1 arraycopyName) := by
    intro o
    match o with
    | 0 => exact pe_a0_ok
    | 1 => exact pe_a1_ok
    | 2 => exact pe_a2_ok
    | 3 => exact pe_a3_ok
    | 4 => exact pe_a4_ok
    | 5 => exact pe_a5_ok
    | 6 => exact pe_a6_ok
    | 7 => exact pe_a7_ok
    | 8 => exact pe_a8_ok
    | 9 => exact pe_a9_ok
    | 10 => exact pe_a21_ok
    | 11 => exact pe_a11_ok
    | 12 => exact pe_a12_ok
    | 13 => exact pe_a13_ok
    | 14 => exact pe_a21_ok
    | 15 => exact pe_a21_ok
    | 16 => exact pe_a21_ok
    | 17 => exact pe_a21_ok
    | 18 => exact pe_a21_ok
    | 19 => exact pe_a19_ok
    | 20 => exact pe_a20_ok
    | 21 => exact pe_a21_ok
    | n + 22 => exact pe_a21_ok
  exact pe_tb (key o _ hm) rfl
theorem pe_bok : ∀ o i pl, pe_go (pe_bT o) i = some pl → Cond.methodLink (pe_rn o) i Lib.Math.min.name ∈ pe_TB := by
  intro o i pl h
  have hm := pe_go_mem _ _ _ h
  have key : ∀ o, ∀ q ∈ pe_bT o, lw_tbl[q.2]? = some (.methodLink (pe_rn o) q.1 Lib.Math.min.name) := by
    intro o
    match o with
    | 0 => exact pe_b0_ok
    | 1 => exact pe_b1_ok
    | 2 => exact pe_b2_ok
    | 3 => exact pe_b3_ok
    | 4 => exact pe_b4_ok
    | 5 => exact pe_b5_ok
    | 6 => exact pe_b6_ok
    | 7 => exact pe_b7_ok
    | 8 => exact pe_b8_ok
    | 9 => exact pe_b9_ok
    | 10 => exact pe_b21_ok
    | 11 => exact pe_b11_ok
    | 12 => exact pe_b12_ok
    | 13 => exact pe_b13_ok
    | 14 => exact pe_b21_ok
    | 15 => exact pe_b21_ok
    | 16 => exact pe_b21_ok
    | 17 => exact pe_b21_ok
    | 18 => exact pe_b21_ok
    | 19 => exact pe_b19_ok
    | 20 => exact pe_b20_ok
    | 21 => exact pe_b21_ok
    | n + 22 => exact pe_b21_ok
  exact pe_tb (key o _ hm) rfl
theorem pe_acpok : Cond.native arraycopyName ∈ lw_tbl ∧ Cond.static arraycopyName ∈ lw_tbl ∧ Cond.initialized "java/lang/System" ∈ lw_tbl ∧ goodWord (Cond.native arraycopyName) = true := by decide +kernel
theorem pe_minok : Cond.static Lib.Math.min.name ∈ lw_tbl ∧ Cond.initialized "java/lang/Math" ∈ lw_tbl ∧ Cond.code Lib.Math.min.name Lib.Math.min.code 2 (some .int) ∈ lw_tbl := by decide +kernel
section PEW4B
variable {p : Program} {l : Launch} {e : Env} {R : Room} {s : State} {m : MethodId} {args : Array Value} {below : List Frame} {meth : Method} {c : Code} {Q : State → Prop} {cc : ByteArray}
variable {D : va_G} {cA : Nat → ClassId} {b : Nat × Nat} {n0 : Nat} {H0 : Heap} {nS uS nF uF nL : Nat}
theorem pe_r_min {S S' : pe_S} {φ : List Prop} {o i pl : Nat} (hx : p.tables.exec = Jvm.exec) (hb : c.code = cc) (hs : pe_min S = some (φ, S')) (hf : 1 ≤ R.frames) (hlo : 60 ≤ R.locals) (hml : c.maxLocals = nL) (hRc : nF - nS ≤ R.cells) (hRs : uF - uS ≤ R.slots) (hg : pe_go (pe_bT o) i = some pl) (hts : ∀ w ∈ pe_TB, w.before args s = true) (hown : s.vm.findClass (pe_rn o) = some m.cls) (hd : decode cc S.1 = .ok (.invokestatic i, 3))
    (h : pe_PW p l e R s m args below meth c Q D cA b n0 H0 nS uS nF uF nL S') : pe_PW p l e R s m args below meth c Q D cA b n0 H0 nS uS nF uF nL S := by
  obtain ⟨pc, ls, st, σ⟩ := S
  unfold pe_min at hs
  split at hs
  · rename_i y x st' he
    split at hs
    · rename_i hq
      cases hs
      dsimp only at he hd
      subst he
      refine ⟨h.1, h.2.1, fun h1 h2 h3 H Ls locs hH hL hlocs => ?_⟩
      have hf1 : pe_n σ ≤ nF := h.1
      have hf2 : pe_u σ ≤ uF := h.2.1
      refine va_mmin (x := Int32.ofInt x) (y := Int32.ofInt y) hx hb (by rw [hml]; exact (hL.1.trans h3).symm) hown (hts _ (pe_bok _ _ _ hg)) (hts _ (pe_in_tb pe_minok.1 rfl)) (hts _ (pe_in_tb pe_minok.2.1 rfl)) (hts _ (pe_in_tb pe_minok.2.2 rfl)) hf (by rw [pe_cat_ok]; omega) (by show pe_n σ - nS ≤ _; omega) (by show pe_u σ - uS ≤ _; omega) hd ?_
      have hw := h.2.2 h1 h2 h3 H Ls locs hH hL hlocs
      have e : (if Int32.ofInt y < Int32.ofInt x then Int32.ofInt y else Int32.ofInt x) = Int32.ofInt (if pe_w y < pe_w x then y else x) := by
        by_cases q : pe_w y < pe_w x
        · rw [if_pos q, if_pos ((pe_lt y x).mpr q)]
        · rw [if_neg q, if_neg (fun w => q ((pe_lt y x).mp w))]
      rw [e]
      exact hw
    · cases hs
  · cases hs
theorem pe_r_acp {S S' : pe_S} {φ : List Prop} {o i pl : Nat} (hx : p.tables.exec = Jvm.exec) (hb : c.code = cc) (hs : pe_acp S = some (φ, S')) (hf : 1 ≤ R.frames) (hlo : 60 ≤ R.locals) (hml : c.maxLocals = nL) (hφ : pe_all φ) (hg : pe_go (pe_aT o) i = some pl) (hts : ∀ w ∈ pe_TB, w.before args s = true) (hown : s.vm.findClass (pe_rn o) = some m.cls) (hG : pe_G D cA b n0 H0 s) (hd : decode cc S.1 = .ok (.invokestatic i, 3))
    (h : pe_PW p l e R s m args below meth c Q D cA b n0 H0 nS uS nF uF nL S') : pe_PW p l e R s m args below meth c Q D cA b n0 H0 nS uS nF uF nL S := by
  obtain ⟨pc, ls, st, σ⟩ := S
  unfold pe_acp at hs
  split at hs
  · rename_i n dp d sp sr st' he
    split at hs
    · rename_i hq
      cases hs
      dsimp only at he hd
      subst he
      obtain ⟨ks, kd, d2, hsp, hdp, hn, hL1, hL2⟩ := hφ
      have ks : pe_K σ sr = 10 := ks
      have kd : pe_K σ d = 10 := kd
      have hL1 : pe_w sp + pe_w n ≤ pe_L σ sr := hL1
      have hL2 : pe_w dp + pe_w n ≤ pe_L σ d := hL2
      refine ⟨h.1, h.2.1, fun h1 h2 h3 H Ls locs hH hL hlocs => ?_⟩
      have hH : pe_Hd D cA b n0 H0 σ H := hH
      have d2 : 2 ≤ d := d2
      have d3 : 3 ≤ d := pe_r3 hH (by omega) (Or.inr d2) (by omega)
      obtain ⟨s0, -, hcs⟩ := hH.2.2.2.2.2 sr (by omega)
      obtain ⟨d0, -, hcd⟩ := hH.2.2.2.2.2 d (by omega)
      obtain ⟨cs, a1, a2, a3, a4, a5, a6⟩ := hcs.2 (by rw [ks]; rfl)
      obtain ⟨cd, g1, g2, g3, g4, g5, g6⟩ := hcd.2 (by rw [kd]; rfl)
      have hrs := pe_arr hG (k := 10) (by decide) (by rw [← ks]; exact a2) a4 (fun _ => rfl)
      have hrd := pe_arr hG (k := 10) (by decide) (by rw [← kd]; exact g2) g4 (fun _ => rfl)
      obtain ⟨-, k0, hk0, cm0, hkk0⟩ := hrs
      obtain ⟨-, k1, hk1, cm1, hkk1⟩ := hrd
      rw [ks] at a6
      rw [kd] at g6
      have e1 := pe_clamp hsp
      have e2 := pe_clamp hdp
      have e3 := pe_clamp hn
      show W p l e R s m args below meth c H locs _ _ Q (F0 m pc Ls (.int (Int32.ofInt n) :: .int (Int32.ofInt dp) :: pe_rf (pe_ad b n0) d :: .int (Int32.ofInt sp) :: pe_rf (pe_ad b n0) sr :: st'.map (pe_e (pe_ad b n0))))
      rw [pe_rf_pos _ s0, pe_rf_pos _ d0]
      intro T hT X
      have gd : ∀ j : Nat, j < (Int32.ofInt n).toNatClampNeg → cs.slots.getD ((Int32.ofInt sp).toNatClampNeg + j) .null = .int (Int32.ofInt (pe_I σ sr (pe_w sp + j))) := by
        intro j hj
        rw [Array.getD_eq_getD_getElem?, a6 _ (by omega)]
        rw [show (((Int32.ofInt sp).toNatClampNeg + j : Nat) : Int) = pe_w sp + j by omega]
        rfl
      obtain ⟨vm', X', step⟩ := X.arraycopy hx hown (hts _ (pe_aok _ _ _ hg)) (hts _ (pe_in_tb pe_acpok.1 pe_acpok.2.2.2)) (hts _ (pe_in_tb pe_acpok.2.1 rfl)) (hts _ (pe_in_tb pe_acpok.2.2.1 rfl)) (src := pe_ad b n0 sr) (dst := pe_ad b n0 d) (cs := cs) (cd := cd) (srcPos := Int32.ofInt sp) (destPos := Int32.ofInt dp) (n := Int32.ofInt n) (by rw [hT]; exact a1) (by rw [hT]; exact g1)
        a4 g4 a3 g3 hk0 hk1 hkk0 hkk1 rfl (fun q => by have := (pe_lt0 sp).mp q; omega) (fun q => by have := (pe_lt0 dp).mp q; omega) (fun q => by have := (pe_lt0 n).mp q; omega)
        (by show ¬ pe_w sp + pe_w n > _; omega) (by show ¬ pe_w dp + pe_w n > _; omega)
        (fun vm₁ _ j hj => by rw [gd j hj]; exact ⟨rfl, trivial⟩)
        (g := F0 m pc Ls (.int (Int32.ofInt n) :: .int (Int32.ofInt dp) :: .ref (pe_ad b n0 d) :: .int (Int32.ofInt sp) :: .ref (pe_ad b n0 sr) :: st'.map (pe_e (pe_ad b n0)))) rfl (by rw [hml]; exact hL.1.trans h3) (rest := st'.map (pe_e (pe_ad b n0))) rfl (by rw [hb]; exact hd) hf (by rw [pe_cat_ok]; show 2 * 0 + _ + (5 + 2 + 11) ≤ _; omega)
      have hlen : (cs.stretch (Int32.ofInt sp).toNatClampNeg (Int32.ofInt n).toNatClampNeg).length = (Int32.ofInt n).toNatClampNeg := by simp [Cell.stretch]
      have hcopied : copied cs cd (Int32.ofInt sp) (Int32.ofInt dp) (Int32.ofInt n) = cd.storeRun (Int32.ofInt dp).toNatClampNeg (cs.stretch (Int32.ofInt sp).toNatClampNeg (Int32.ofInt n).toNatClampNeg) := rfl
      obtain ⟨f1, f2, f3, -⟩ := cd.storeRun_facts (Int32.ofInt dp).toNatClampNeg (cs.stretch (Int32.ofInt sp).toNatClampNeg (Int32.ofInt n).toNatClampNeg)
      rw [hcopied] at X' step
      generalize hcell : cd.storeRun (Int32.ofInt dp).toNatClampNeg (cs.stretch (Int32.ofInt sp).toNatClampNeg (Int32.ofInt n).toNatClampNeg) = ce at X' step f1 f2 f3
      have hl : pe_ad b n0 d < H.size := (Array.getElem?_eq_some_iff.mp g1).1
      have hheap : ((T.setVm vm').setCell (pe_ad b n0 d) ce).heap = H.setIfInBounds (pe_ad b n0 d) ce := by rw [← hT]; rfl
      have hres := h.2.2 h1 h2 h3 (H.setIfInBounds (pe_ad b n0 d) ce) Ls _ (hH.upd (σ' := pe_cpy σ sr (pe_w sp) d (pe_w dp) (pe_w n)) (r := d) rfl rfl rfl (fun q hq j => if_neg (fun a => hq a.1)) (fun q hq j => rfl) d3 (by simp) (fun q hq => by simp [Array.getElem?_setIfInBounds, Ne.symm hq]) ⟨fun q => ?_, fun q => ⟨ce, by simp [Array.getElem?_setIfInBounds, hl], by rw [f1]; exact g2, by rw [f2]; exact g3, by rw [f2]; exact g4, by rw [f3]; exact g5, fun j hj => ?_⟩⟩) hL (fun q hq => ?_) _ hheap X'
      · obtain ⟨t2, b1, b2⟩ := hres
        exact ⟨t2, step t2 b1, b2⟩
      · have e9 : pe_K (pe_cpy σ sr (pe_w sp) d (pe_w dp) (pe_w n)) d = 10 := kd
        rw [e9] at q
        cases q
      · have hj' : j < cd.slots.size := by rw [← f3]; exact hj
        have hget := cd.storeRun_get (Int32.ofInt dp).toNatClampNeg (cs.stretch (Int32.ofInt sp).toNatClampNeg (Int32.ofInt n).toNatClampNeg) j (by rw [hlen]; omega)
        rw [hcell, hlen] at hget
        rw [hget]
        have ek : pe_K (pe_cpy σ sr (pe_w sp) d (pe_w dp) (pe_w n)) d = 10 := kd
        rw [ek]
        by_cases hin : (Int32.ofInt dp).toNatClampNeg ≤ j ∧ j < (Int32.ofInt dp).toNatClampNeg + (Int32.ofInt n).toNatClampNeg
        · rw [if_pos hin]
          have ei : pe_I (pe_cpy σ sr (pe_w sp) d (pe_w dp) (pe_w n)) d j = pe_I σ sr (pe_w sp + ((j : Int) - pe_w dp)) := if_pos ⟨rfl, by omega, by omega⟩
          rw [ei]
          unfold Cell.stretch
          rw [List.getElem?_map, List.getElem?_range (by omega)]
          simp only [Option.map_some]
          rw [gd _ (by omega)]
          rw [show ((j - (Int32.ofInt dp).toNatClampNeg : Nat) : Int) = (j : Int) - pe_w dp by omega]
          rfl
        · rw [if_neg hin]
          have ei : pe_I (pe_cpy σ sr (pe_w sp) d (pe_w dp) (pe_w n)) d j = pe_I σ d j := if_neg (fun a => hin ⟨by omega, by omega⟩)
          rw [ei]
          exact g6 j hj'
      · rcases List.mem_append.mp hq with w | w
        · exact hlocs q w
        · obtain ⟨z, -, hz⟩ := List.mem_map.mp w
          rw [← hz]
          show n0 ≤ pe_ad b n0 d
          unfold pe_ad; rw [if_neg (by omega), if_neg (by omega)]; omega
    · cases hs
  · cases hs
end PEW4B
end
section
/-! SOUND, 6c: an array of ints made like another; the cast behind it -/
theorem pe_beq2 {o k x y : Nat} (h : (Nat.beq o x && Nat.beq k y) = true) : o = x ∧ k = y := by
  rw [Bool.and_eq_true] at h
  exact ⟨Nat.eq_of_beq_eq_true h.1, Nat.eq_of_beq_eq_true h.2⟩
theorem pe_clnok : Cond.methodLink "java/util/Arrays" 316 ⟨"[I", "clone", "()Ljava/lang/Object;"⟩ ∈ lw_tbl ∧ Cond.sameMethod "[I" "java/lang/Object" "clone" "()Ljava/lang/Object;" ∈ lw_tbl ∧ Cond.native ⟨"java/lang/Object", "clone", "()Ljava/lang/Object;"⟩ ∈ lw_tbl ∧ Cond.instanceMethod ⟨"java/lang/Object", "clone", "()Ljava/lang/Object;"⟩ ∈ lw_tbl ∧ Cond.selects "[I" ⟨"[I", "clone", "()Ljava/lang/Object;"⟩ ⟨"java/lang/Object", "clone", "()Ljava/lang/Object;"⟩ ∈ lw_tbl ∧ Cond.classLink "java/util/Arrays" 317 "[I" ∈ lw_tbl := by decide +kernel
theorem pe_clngd : goodWord (Cond.methodLink "java/util/Arrays" 316 ⟨"[I", "clone", "()Ljava/lang/Object;"⟩) = true ∧ goodWord (Cond.sameMethod "[I" "java/lang/Object" "clone" "()Ljava/lang/Object;") = true ∧ goodWord (Cond.native ⟨"java/lang/Object", "clone", "()Ljava/lang/Object;"⟩) = true ∧ goodWord (Cond.instanceMethod ⟨"java/lang/Object", "clone", "()Ljava/lang/Object;"⟩) = true ∧ goodWord (Cond.selects "[I" ⟨"[I", "clone", "()Ljava/lang/Object;"⟩ ⟨"java/lang/Object", "clone", "()Ljava/lang/Object;"⟩) = true ∧ goodWord (Cond.classLink "java/util/Arrays" 317 "[I") = true := by decide +kernel
section PEW4C
variable {p : Program} {l : Launch} {e : Env} {R : Room} {s : State} {m : MethodId} {args : Array Value} {below : List Frame} {meth : Method} {c : Code} {Q : State → Prop} {cc : ByteArray}
variable {D : va_G} {cA : Nat → ClassId} {b : Nat × Nat} {n0 : Nat} {H0 : Heap} {nS uS nF uF nL : Nat}
theorem pe_r_cst {S S' : pe_S} {φ : List Prop} (hx : p.tables.exec = Jvm.exec) (hb : c.code = cc) (hs : pe_cst S = some (φ, S')) (hφ : pe_all φ) (hts : ∀ w ∈ pe_TB, w.before args s = true) (hown : s.vm.findClass (pe_rn 13) = some m.cls) (hG : pe_G D cA b n0 H0 s) (hd : decode cc S.1 = .ok (.checkcast 317, 3))
    (h : pe_PW p l e R s m args below meth c Q D cA b n0 H0 nS uS nF uF nL S') : pe_PW p l e R s m args below meth c Q D cA b n0 H0 nS uS nF uF nL S := by
  obtain ⟨pc, ls, st, σ⟩ := S
  unfold pe_cst at hs
  split at hs
  · rename_i r st' he
    cases hs
    dsimp only at he hd
    subst he
    obtain ⟨kr, r2⟩ := hφ
    have kr : pe_K σ r = 10 := kr
    refine ⟨h.1, h.2.1, fun h1 h2 h3 H Ls locs hH hL hlocs => ?_⟩
    have hH : pe_Hd D cA b n0 H0 σ H := hH
    obtain ⟨r0, -, hcr⟩ := hH.2.2.2.2.2 r (by omega)
    obtain ⟨cr, a1, a2, a3, a4, a5, a6⟩ := hcr.2 (by rw [kr]; rfl)
    rw [kr, pe_ca2 r2] at a2
    have hfc := va_nm_int (hG.2.1 10 (by decide) (by decide)).2
    have hw := h.2.2 h1 h2 h3 H Ls locs hH hL hlocs
    show W p l e R s m args below meth c H locs _ _ Q (F0 m pc Ls (pe_rf (pe_ad b n0) r :: st'.map (pe_e (pe_ad b n0))))
    have hw : W p l e R s m args below meth c H locs _ _ Q (F0 m (pc + 3) Ls (pe_rf (pe_ad b n0) r :: st'.map (pe_e (pe_ad b n0)))) := hw
    rw [pe_rf_pos _ r0] at hw ⊢
    intro T hT X
    obtain ⟨vm', X', stp⟩ := X.checkcastYes hx (own := "java/util/Arrays") (name := "[I") hown (hts _ (pe_in_tb pe_clnok.2.2.2.2.2 pe_clngd.2.2.2.2.2)) (a := pe_ad b n0 r) (cell := cr) (by rw [hT]; exact a1) (by
        cases hv : cr.vm with
        | statics q => exact absurd hv (a4 q)
        | _ => rfl) hfc (by rw [a2]; exact va_asg _ _) (g := F0 m pc Ls (.ref (pe_ad b n0 r) :: st'.map (pe_e (pe_ad b n0)))) rfl rfl (by rw [hb]; exact hd)
    obtain ⟨t, b1, b2⟩ := hw (T.setVm vm') hT X'
    exact ⟨t, stp t b1, b2⟩
  · cases hs
theorem pe_r_cln {S S' : pe_S} {φ : List Prop} (hx : p.tables.exec = Jvm.exec) (hb : c.code = cc) (hs : pe_cln S = some (φ, S')) (hf : 1 ≤ R.frames) (hlo : 60 ≤ R.locals) (hml : c.maxLocals = nL) (hRc : nF - nS ≤ R.cells) (hRs : uF - uS ≤ R.slots) (hφ : pe_all φ) (hts : ∀ w ∈ pe_TB, w.before args s = true) (hown : s.vm.findClass (pe_rn 13) = some m.cls) (hG : pe_G D cA b n0 H0 s) (hd : decode cc S.1 = .ok (.invokevirtual 316, 3))
    (h : pe_PW p l e R s m args below meth c Q D cA b n0 H0 nS uS nF uF nL S') : pe_PW p l e R s m args below meth c Q D cA b n0 H0 nS uS nF uF nL S := by
  obtain ⟨pc, ls, st, σ⟩ := S
  unfold pe_cln at hs
  split at hs
  · rename_i r st' he
    split at hs
    · rename_i hq
      cases hs
      dsimp only at he hd
      subst he
      obtain ⟨kr, r2⟩ := hφ
      have kr : pe_K σ r = 10 := kr
      have r2 : 2 ≤ r := r2
      have hf1 : pe_n σ + 1 ≤ nF := h.1
      have hf2 : pe_u σ + (pe_L σ r).toNat ≤ uF := h.2.1
      refine ⟨Nat.le_trans (Nat.le_succ _) hf1, Nat.le_trans (Nat.le_add_right _ _) hf2, fun h1 h2 h3 H Ls locs hH hL hlocs => ?_⟩
      have hH : pe_Hd D cA b n0 H0 σ H := hH
      have h1 : nS ≤ pe_n σ := h1
      have h2 : uS ≤ pe_u σ := h2
      have hn2 : 2 ≤ pe_n σ := by have := hH.2.1; omega
      obtain ⟨r0, rn, hcr⟩ := hH.2.2.2.2.2 r (by omega)
      obtain ⟨cr, a1, a2, a3, a4, a5, a6⟩ := hcr.2 (by rw [kr]; rfl)
      rw [kr, pe_ca2 r2] at a2
      rw [kr] at a6
      have hfc := va_nm_int (hG.2.1 10 (by decide) (by decide)).2
      obtain ⟨c0, t0', f1, f2, f3⟩ := Cond.castable_spec (va_Nw.use (A := args) rfl hG.2.2.2.1)
      cases hfc.symm.trans f1
      have hrs := pe_arr hG (k := 10) (r := r) (by decide) (by rw [pe_ca2 r2]; exact a2) a4 (fun _ => rfl)
      obtain ⟨-, kS, hkS, cmS, hkindS⟩ := hrs
      show W p l e R s m args below meth c H locs _ _ Q (F0 m pc Ls (pe_rf (pe_ad b n0) r :: st'.map (pe_e (pe_ad b n0))))
      rw [pe_rf_pos _ r0]
      intro T hT X
      have hvmk : T.vm.classes[cr.cls]? = T.vm.classes[cr.cls]? := rfl
      have hrT : T.isArrayOf cr (pe_aty 10) := State.isArrayOf_alike X.warmed.alike (pe_arr hG (k := 10) (r := r) (by decide) (by rw [pe_ca2 r2]; exact a2) a4 (fun _ => rfl))
      obtain ⟨-, kT, hkT, cmT, hkindT⟩ := hrT
      obtain ⟨vm', X', stp⟩ := X.cloneArray hx (own := "java/util/Arrays") (ad := "[I") hown (hts _ (pe_in_tb pe_clnok.1 pe_clngd.1)) (hts _ (pe_in_tb pe_clnok.2.1 pe_clngd.2.1)) (hts _ (pe_in_tb pe_clnok.2.2.1 pe_clngd.2.2.1)) (hts _ (pe_in_tb pe_clnok.2.2.2.1 pe_clngd.2.2.2.1)) (hts _ (pe_in_tb pe_clnok.2.2.2.2.1 pe_clngd.2.2.2.2.1)) (a := pe_ad b n0 r) (cell := cr) (by rw [hT]; exact a1) a4 a3 (by rw [a2]; exact hfc) f2 (by rw [a2]; exact f3)
        (fun i v hv => by
          have hi : i < cr.slots.size := (Array.getElem?_eq_some_iff.mp hv).1
          have e := (a6 i hi).symm.trans hv
          cases e
          simp [State.fitsSlot, State.slotType?, hkT, hkindT, pe_aty, pe_tc, pe_vt, fits])
        (g := F0 m pc Ls (.ref (pe_ad b n0 r) :: st'.map (pe_e (pe_ad b n0)))) rfl (by rw [hml]; exact hL.1.trans h3) (rest := st'.map (pe_e (pe_ad b n0))) rfl (by rw [hb]; exact hd) hf (by rw [pe_cat_ok]; show 2 * 0 + _ + 14 ≤ _; omega) (by show pe_n σ - nS + 1 ≤ _; omega) (by show pe_u σ - uS + cr.slots.size ≤ _; omega) (hloader := Vm.clonesLoader_of_array hkS hkindS)
      generalize hH1 : H.push ({ cls := cr.cls, slots := cr.slots } : Cell) = H1
      have z1 : H1.size = H.size + 1 := by rw [← hH1, Array.size_push]
      have e1 : H1[H.size]? = some ({ cls := cr.cls, slots := cr.slots } : Cell) := by rw [← hH1, Array.getElem?_push_size]
      have o1 : ∀ q : Nat, q < H.size → H1[q]? = H[q]? := fun q hq => by rw [← hH1, Array.getElem?_push, if_neg (Nat.ne_of_lt hq)]
      generalize hσ' : pe_cpy (pe_new σ 10 (pe_L σ r) (pe_L σ r).toNat) r 0 (pe_n σ) 0 (pe_L σ r) = σ' at h
      have en : pe_n σ' = pe_n σ + 1 := by rw [← hσ']; rfl
      have eu : pe_u σ' = pe_u σ + (pe_L σ r).toNat := by rw [← hσ']; rfl
      have hrne : r ≠ pe_n σ := by omega
      have hres := h.2.2 (by show nS ≤ pe_n σ'; omega) (by show uS ≤ pe_u σ'; omega) h3 H1 Ls locs (hH.new en (fun q hq => by rw [← hσ']; exact if_neg hq) (fun q hq => by rw [← hσ']; exact if_neg hq) (fun q hq j => by rw [← hσ']; exact (if_neg (fun w => hq w.1)).trans (if_neg hq)) (fun q hq j => by rw [← hσ']; exact if_neg hq) z1 o1 ⟨fun q => ?_, fun q => ⟨_, by rw [pe_ad_n hH]; exact e1, ?_, (by show Cell.vm _ ≠ _; exact fun w => by cases w), (fun q w => by cases w), ?_, fun j hj => ?_⟩⟩) hL hlocs ((T.setVm vm').pushCell { cls := cr.cls, slots := cr.slots }) (by rw [← hH1, ← hT]; rfl) (by
          show Stand p l e R s m args below meth c _ locs (pe_n σ' - nS) (pe_u σ' - uS)
          rw [show pe_n σ' - nS = pe_n σ - nS + 1 by omega, show pe_u σ' - uS = pe_u σ - uS + cr.slots.size by omega]
          exact X')
      · obtain ⟨t2, b1, b2⟩ := hres
        refine ⟨t2, stp t2 ?_, b2⟩
        rw [hT]
        have b1 : Steps p.tables e below (((T.setVm vm').pushCell { cls := cr.cls, slots := cr.slots }).setTop (F0 m (pc + 3) Ls (pe_rf (pe_ad b n0) (pe_n σ) :: st'.map (pe_e (pe_ad b n0))))) t2 := b1
        rw [pe_rf_pos _ (by omega), pe_ad_n hH] at b1
        exact b1
      · have ek : pe_K σ' (pe_n σ) = 10 := by rw [← hσ']; exact if_pos rfl
        rw [ek] at q
        cases q
      · have : pe_K σ' (pe_n σ) = 10 := by rw [← hσ']; exact if_pos rfl
        rw [this, pe_ca2 hn2]; exact a2
      · have : pe_L σ' (pe_n σ) = pe_L σ r := by rw [← hσ']; exact if_pos rfl
        rw [this]; exact a5
      · have hj : j < cr.slots.size := hj
        have ek : pe_K σ' (pe_n σ) = 10 := by rw [← hσ']; exact if_pos rfl
        have ei : pe_I σ' (pe_n σ) j = pe_I σ r j := by
          rw [← hσ']
          show (if pe_n σ = pe_n σ ∧ 0 ≤ (j : Int) ∧ (j : Int) < 0 + pe_L σ r then (if r = pe_n σ then 0 else pe_I σ r (0 + ((j : Int) - 0))) else _) = _
          rw [if_pos ⟨rfl, by omega, by omega⟩, if_neg hrne]
          simp
        rw [ek, ei]
        have := a6 j hj
        simpa [pe_aty, pe_tc, pe_vt] using this
    · cases hs
  · cases hs
end PEW4C
end
section
/-! SOUND, 6d: an array of arrays of ints -/
/-- the outer array when i inner ones stand in it -/
def pe_oc (c : ClassId) (N h0 i : Nat) : Cell := arrV c N (fun j => if j < i then .ref (h0 + 1 + j) else .null)
theorem pe_oc0 (c : ClassId) (N h0 : Nat) : ({ cls := c, slots := Array.replicate N .null, vm := .none } : Cell) = pe_oc c N h0 0 := by
  rw [arrV_new]
  exact congrArg (arrV c N) (funext fun j => by simp)
theorem pe_ocs (c : ClassId) (N h0 i : Nat) : (pe_oc c N h0 i).setSlot i (.ref (h0 + 1 + i)) = pe_oc c N h0 (i + 1) := by
  unfold pe_oc
  rw [arrV_store]
  refine congrArg (arrV c N) (funext fun j => ?_)
  unfold updV
  by_cases e : j = i
  · subst e
    simp
  · rw [if_neg e]
    show (if j < i then Value.ref (h0 + 1 + j) else Value.null) = _
    by_cases h : j < i
    · rw [if_pos h, if_pos (by omega)]
    · rw [if_neg h, if_neg (by omega)]
/-- the machine's state when i inner arrays are made -/
def pe_fl (s : State) (cO cI : ClassId) (N M : Nat) : Nat → State
  | 0 => s.pushCell (pe_oc cO N s.heap.size 0)
  | i + 1 => ((pe_fl s cO cI N M i).pushCell (arrV cI M (fun _ => .int 0))).setCell s.heap.size (pe_oc cO N s.heap.size (i + 1))
theorem pe_fl_0 (s : State) (cO cI : ClassId) (N M : Nat) : ∀ i, (pe_fl s cO cI N M i).heap.size = s.heap.size + 1 + i ∧ (pe_fl s cO cI N M i).heap[s.heap.size]? = some (pe_oc cO N s.heap.size i) ∧ (pe_fl s cO cI N M i).vm = s.vm ∧ (pe_fl s cO cI N M i).slotsUsed = s.slotsUsed + N + i * M
  | 0 => ⟨by simp [pe_fl], by simp [pe_fl], rfl, by simp [pe_fl, pe_oc, arrV_size]⟩
  | i + 1 => by
    obtain ⟨a1, a2, a3, a4⟩ := pe_fl_0 s cO cI N M i
    have a0 : s.heap.size < (pe_fl s cO cI N M i).heap.size := by omega
    have a5 : ((pe_fl s cO cI N M i).pushCell (arrV cI M (fun _ => .int 0))).heap[s.heap.size]? = some (pe_oc cO N s.heap.size i) := by rw [State.heap_pushCell_of_lt (h := a0)]; exact a2
    refine ⟨?_, State.heap_setCell_self a5, by simp [pe_fl, a3], ?_⟩
    · simp [pe_fl, State.setCell, a1]; omega
    · simp [pe_fl, a4, arrV_size, Nat.succ_mul]; omega
theorem pe_fl_top (s : State) (f : JFrame) (cO cI : ClassId) (N M : Nat) : ∀ i, pe_fl (s.setTop f) cO cI N M i = (pe_fl s cO cI N M i).setTop f
  | 0 => rfl
  | i + 1 => by
    unfold pe_fl
    rw [pe_fl_top s f cO cI N M i, State.heap_setTop, State.pushCell_setTop, State.setCell_setTop]
theorem pe_fl_old (s : State) (cO cI : ClassId) (N M : Nat) {a : Nat} (ha : a < s.heap.size) : ∀ i, (pe_fl s cO cI N M i).heap[a]? = s.heap[a]?
  | 0 => State.heap_pushCell_of_lt _ _ ha
  | i + 1 => by
    have f1 := (pe_fl_0 s cO cI N M i).1
    show (((pe_fl s cO cI N M i).pushCell _).setCell s.heap.size _).heap[a]? = _
    have h1 : s.heap.size ≠ a := by omega
    have h2 : a < (pe_fl s cO cI N M i).heap.size := by omega
    rw [State.heap_setCell_other h1, State.heap_pushCell_of_lt (h := h2)]
    exact pe_fl_old s cO cI N M ha i
theorem pe_fl_in (s : State) (cO cI : ClassId) (N M : Nat) : ∀ i j, j < i → (pe_fl s cO cI N M i).heap[s.heap.size + 1 + j]? = some (arrV cI M (fun _ => .int 0))
  | 0, _, h => by omega
  | i + 1, j, h => by
    have f1 := (pe_fl_0 s cO cI N M i).1
    show (((pe_fl s cO cI N M i).pushCell _).setCell s.heap.size _).heap[s.heap.size + 1 + j]? = _
    have h1 : s.heap.size ≠ s.heap.size + 1 + j := by omega
    rw [State.heap_setCell_other h1]
    by_cases hj : j = i
    · subst hj
      rw [← f1]
      exact State.heap_pushCell_size _ _
    · have h2 : s.heap.size + 1 + j < (pe_fl s cO cI N M i).heap.size := by omega
      rw [State.heap_pushCell_of_lt (h := h2)]
      exact pe_fl_in s cO cI N M i j (by omega)
section
variable {E : CtlPost} {e : Env} {d : Bool} {acts : List Action} {s : State}
/-- one array of len alike defaults -/
theorem pe_wpa {c comp : ClassId} {k : Class} {type : FieldType} {len : Nat} {init : Value} (hk : s.vm.classes[c]? = some k) (hkind : k.kind = .array comp type) (hl : len ≤ e.platform.arrayLengthLimit) (hh : len * componentBytes type ≤ e.platform.maxHeapBytes) (hfit : fits type init = true) (hdef : init.isDefault = true) {Q : Addr → Pre}
    (h1 : s.heap.size < e.platform.maxCells) (h2 : s.slotsUsed + len ≤ e.platform.maxSlots) (hq : Q s.heap.size d acts (s.pushCell (arrV c len (fun _ => init)))) : wp (Jvm.newArray c len init) Q E e d acts s := by
  rw [← arrV_new] at hq
  have hf : ∀ i v, (Array.replicate len init)[i]? = some v → s.fitsSlot c .none i v = true := fun i v hv => by
    simp only [Array.getElem?_replicate] at hv
    split at hv
    · cases hv; simp [State.fitsSlot, State.slotType?, hk, hkind, hfit]
    · cases hv
  have ha : allocActs (Array.replicate len init) s.heap.size acts = acts := by
    unfold allocActs
    rw [if_pos]
    rw [Array.all_replicate]; split <;> simp [hdef]
  have hl' : ¬ len > e.platform.arrayLengthLimit := by omega
  have hh' : ¬ len * componentBytes type > e.platform.maxHeapBytes := by omega
  simp only [Jvm.newArray, Jvm.arrayFits, wp_bind', W.ask, W.ite, hl', if_false, wp_pure', W.theClass, hk, hkind, hh', W.alloc, W.stop, Option.some.injEq, exists_eq_left', Array.size_replicate, ha]
  rw [if_neg (by omega)]
  exact ⟨h1, h2, hf, hq⟩
/-- new int[n][m] -/
theorem pe_wpm {c comp cc : ClassId} {k kc : Class} {n m : Int32} {N M : Nat} (hk : s.vm.classes[c]? = some k) (hkind : k.kind = .array comp (.array .int)) (hkc : s.vm.classes[comp]? = some kc) (hkindc : kc.kind = .array cc .int) (hn : ¬ n < 0) (hm : ¬ m < 0) (hN : n.toNatClampNeg = N) (hM : m.toNatClampNeg = M)
    (hl1 : N ≤ e.platform.arrayLengthLimit) (hh1 : N * 4 ≤ e.platform.maxHeapBytes) (hl2 : M ≤ e.platform.arrayLengthLimit) (hh2 : M * 4 ≤ e.platform.maxHeapBytes) (hc : s.heap.size + 1 + N ≤ e.platform.maxCells) (hs : s.slotsUsed + N + N * M ≤ e.platform.maxSlots)
    {Q : Addr → Pre} (hq : ∀ d' acts', Q s.heap.size d' acts' (pe_fl s c comp N M N)) : wp (multianewarray.make c [n, m]) Q E e d acts s := by
  have hfind : ([m].find? (· < 0)) = none := by simp [hm]
  rw [multianewarray.make]
  simp only [wp_bind', W.ite, hn, if_false, wp_pure', W.theClass, hk, hkind, Option.some.injEq, exists_eq_left']
  rw [hN]
  refine pe_wpa hk hkind hl1 hh1 rfl rfl (by omega) (by omega) ?_
  rw [show arrV c N (fun _ => Value.null) = pe_oc c N s.heap.size 0 by rw [← arrV_new, pe_oc0 c N s.heap.size]]
  simp only [hfind]
  rw [ite_self, wp_bind', Std.Legacy.Range.forIn_eq_forIn_range']
  have hsz : ([:N] : Std.Legacy.Range).size = N := by simp [Std.Legacy.Range.size]
  rw [hsz]
  show wp (forIn (List.range' 0 N 1) PUnit.unit _) _ E e d acts _
  have hmul : ∀ i, i < N → i * M + M ≤ N * M := fun i hi => by
    have := Nat.mul_le_mul_right M (show i + 1 ≤ N from hi)
    rw [Nat.succ_mul] at this
    exact this
  refine wp_forIn_inv (fun rest s' => ∃ i, i ≤ N ∧ rest = List.range' i (N - i) ∧ s' = pe_fl s c comp N M i) _ _ ⟨0, Nat.zero_le _, rfl, rfl⟩ ?_ ?_
  · rintro x rest s' d' acts' Q' ⟨i, hi, hl, rfl⟩ hnext
    obtain ⟨f1, f2, f3, f4⟩ := pe_fl_0 s c comp N M i
    have hlt : i < N := by
      refine Nat.lt_of_le_of_ne hi (fun q => ?_)
      rw [q, Nat.sub_self] at hl
      cases hl
    rw [show N - i = (N - (i + 1)) + 1 by omega, List.range'_succ] at hl
    obtain ⟨rfl, hrest⟩ := List.cons.inj hl
    have h9 := hmul x hlt
    simp only [wp_bind']
    rw [multianewarray.make]
    simp only [wp_bind', W.ite, hm, if_false, wp_pure', W.theClass, f3, hkc, hkindc, Option.some.injEq, exists_eq_left']
    rw [hM]
    refine pe_wpa (by rw [f3]; exact hkc) hkindc hl2 hh2 rfl rfl (by omega) (by omega) ?_
    have a0 : s.heap.size < (pe_fl s c comp N M x).heap.size := by omega
    simp only [wp_bind', W.writeLoc, wp_pure']
    refine ⟨pe_oc c N s.heap.size x, by rw [State.heap_pushCell_of_lt (h := a0)]; exact f2, (fun q => by cases q), (by show x < (arrV _ _ _).slots.size; rw [arrV_size]; exact hlt), ?_, hnext _ _ _ ⟨x + 1, hlt, hrest, ?_⟩⟩
    · show State.fitsSlot _ c .none x _ = true
      simp [State.fitsSlot, State.slotType?, f3, hk, hkind, fits]
    · rw [f1, pe_ocs]
      rfl
  · rintro s' d' acts' ⟨i, hi, hl, rfl⟩
    have hiN : i = N := by
      refine Nat.le_antisymm hi (Nat.not_lt.mp fun q => ?_)
      rw [show N - i = (N - (i + 1)) + 1 by omega, List.range'_succ] at hl
      cases hl
    subst hiN
    simp only [wp_pure']
    exact hq _ _
end
section PEW4D
variable {p : Program} {l : Launch} {e : Env} {R : Room} {s : State} {m : MethodId} {args : Array Value} {below : List Frame} {meth : Method} {c : Code} {Q : State → Prop} {cc : ByteArray}
variable {D : va_G} {cA : Nat → ClassId} {b : Nat × Nat} {n0 : Nat} {H0 : Heap} {nS uS nF uF nL : Nat}
/-- 1 + N cells more: the outer array, the inner ones -/
theorem pe_Hd.mna {σ : pe_H} {H H' : Heap} {N M : Nat} {cO : Cell} {cI : Nat → Cell} (h : pe_Hd D cA b n0 H0 σ H) (hz : H'.size = H.size + 1 + N) (ho : ∀ q, q < H.size → H'[q]? = H[q]?)
    (eO : H'[H.size]? = some cO) (eI : ∀ i, i < N → H'[H.size + 1 + i]? = some (cI i)) (oc : cO.cls = cA 24) (ov : cO.vm = .none) (os : cO.slots.size = N) (of : ∀ j, j < N → cO.slots[j]? = some (.ref (H.size + 1 + j)))
    (ic : ∀ i, i < N → (cI i).cls = cA 10) (iv : ∀ i, i < N → (cI i).vm = .none) (is : ∀ i, i < N → (cI i).slots.size = M) (jf : ∀ i j, i < N → j < M → (cI i).slots[j]? = some (.int 0)) : pe_Hd D cA b n0 H0 (pe_mn2 σ N M) H' := by
  have hn := pe_ad_n h
  obtain ⟨⟨g0, g1⟩, g2, g3, g4, g5, g6⟩ := h
  obtain ⟨g01, g02, g03⟩ := g0
  have es : σ.1 = pe_n σ := rfl
  have kO : pe_K (pe_mn2 σ N M) (pe_n σ) = 24 := if_pos rfl
  have kI : ∀ r, pe_n σ < r → r < pe_n σ + 1 + N → pe_K (pe_mn2 σ N M) r = 10 := fun r h1 h2 => (if_neg (by omega)).trans (if_pos ⟨h1, by rw [Int.toNat_natCast]; omega⟩)
  have kE : ∀ r, r < pe_n σ ∨ pe_n σ + 1 + N ≤ r → pe_K (pe_mn2 σ N M) r = pe_K σ r := fun r hr => (if_neg (by have : σ.1 = pe_n σ := rfl; omega)).trans (if_neg (by have : σ.1 = pe_n σ := rfl; rw [Int.toNat_natCast]; omega))
  have hn' : pe_n (pe_mn2 σ N M) = pe_n σ + 1 + N := by show σ.1 + 1 + (N : Int).toNat = _; rw [Int.toNat_natCast]; rfl
  have hadI : ∀ i, pe_ad b n0 (pe_n σ + 1 + i) = H.size + 1 + i := fun i => by unfold pe_ad; rw [if_neg (by omega), if_neg (by omega)]; omega
  refine ⟨⟨⟨g01, g02, g03⟩, by rw [kE 2 (by omega)]; exact g1⟩, by omega, by rw [hn']; omega, fun q hq => by rw [ho q (by omega)]; exact g4 q hq, by rw [kE 1 (by omega)]; exact g5, fun r hr => ?_⟩
  by_cases e1 : r = pe_n σ
  · subst e1
    refine ⟨by omega, by omega, fun q => ?_, fun _ => ?_⟩
    · rw [kO] at q; cases q
    · rw [kO]
      refine ⟨cO, by rw [hn]; exact eO, by rw [oc, pe_ca2 (by omega)], (by rw [ov]; exact fun q => by cases q), (fun q w => by rw [ov] at w; cases w), ?_, fun j hj => ?_⟩
      · rw [os]
        exact (show pe_L (pe_mn2 σ N M) (pe_n σ) = (N : Int) from if_pos rfl).symm
      · have er : pe_R (pe_mn2 σ N M) (pe_n σ) j = pe_n σ + 1 + j := by
          show (if pe_n σ = σ.1 then σ.1 + 1 + (j : Int).toNat else _) = _
          rw [if_pos es.symm, Int.toNat_natCast]; rfl
        rw [of j (by omega), er]
        show _ = some (pe_rf (pe_ad b n0) (pe_n σ + 1 + j))
        unfold pe_rf
        rw [if_neg (by omega), hadI]
  · by_cases e2 : pe_n σ < r ∧ r < pe_n σ + 1 + N
    · have ek := kI r e2.1 e2.2
      obtain ⟨i, hi⟩ : ∃ i, r = pe_n σ + 1 + i := ⟨r - (pe_n σ + 1), by omega⟩
      subst hi
      have hiN : i < N := by omega
      refine ⟨by omega, by omega, fun q => ?_, fun _ => ?_⟩
      · rw [ek] at q; cases q
      · rw [ek]
        refine ⟨cI i, by rw [hadI]; exact eI i hiN, by rw [ic i hiN, pe_ca2 (by omega)], (by rw [iv i hiN]; exact fun q => by cases q), (fun q w => by rw [iv i hiN] at w; cases w), ?_, fun j hj => ?_⟩
        · rw [is i hiN]
          exact (show pe_L (pe_mn2 σ N M) (pe_n σ + 1 + i) = (M : Int) from (if_neg (by show ¬ _ = pe_n σ; omega)).trans (if_pos ⟨by show pe_n σ < _; omega, by show _ < pe_n σ + 1 + (N : Int).toNat; rw [Int.toNat_natCast]; omega⟩)).symm
        · have ei : pe_I (pe_mn2 σ N M) (pe_n σ + 1 + i) j = 0 := if_pos ⟨by show pe_n σ ≤ _; omega, by show _ < pe_n σ + 1 + (N : Int).toNat; rw [Int.toNat_natCast]; omega⟩
          rw [jf i j hiN (by rw [is i hiN] at hj; exact hj), ei]
          rfl
    · have hr2 : r < pe_n σ ∨ pe_n σ + 1 + N ≤ r := by omega
      rw [kE r hr2] at hr
      obtain ⟨k1, k2, k3⟩ := g6 r hr
      have hlt : pe_ad b n0 r < H.size := by
        unfold pe_ad
        split
        · omega
        · split <;> omega
      refine ⟨k1, by omega, k3.congr (kE r hr2) ?_ (fun j => ?_) (fun j => ?_) (ho _ hlt)⟩
      · exact (if_neg (by show ¬ r = pe_n σ; omega)).trans (if_neg (by show ¬ (pe_n σ < r ∧ r < pe_n σ + 1 + (N : Int).toNat); rw [Int.toNat_natCast]; omega))
      · exact if_neg (by show ¬ (pe_n σ ≤ r ∧ r < pe_n σ + 1 + (N : Int).toNat); rw [Int.toNat_natCast]; omega)
      · exact (if_neg (by show ¬ r = pe_n σ; omega)).trans (if_neg (by show ¬ (pe_n σ < r ∧ r < pe_n σ + 1 + (N : Int).toNat); rw [Int.toNat_natCast]; omega))
theorem pe_flX {locs : List Loc} {cells slots : Nat} {T : State} (X : Stand p l e R s m args below meth c T locs cells slots) (cO cI : ClassId) (N M : Nat) : ∀ i, Stand p l e R s m args below meth c (pe_fl T cO cI N M i) (locs ++ (List.range i).map fun j => ⟨T.heap.size, j⟩) (cells + 1 + i) (slots + N + i * M)
  | 0 => by
    have h := X.pushed (pe_oc cO N T.heap.size 0)
    rw [show (pe_oc cO N T.heap.size 0).slots.size = N from arrV_size _ _ _] at h
    simpa [pe_fl] using h
  | i + 1 => by
    have Xi := pe_flX X cO cI N M i
    obtain ⟨f1, f2, -, -⟩ := pe_fl_0 T cO cI N M i
    have a0 : T.heap.size < (pe_fl T cO cI N M i).heap.size := by omega
    have hcell : ((pe_fl T cO cI N M i).pushCell (arrV cI M (fun _ => .int 0))).heap[T.heap.size]? = some (pe_oc cO N T.heap.size i) := by rw [State.heap_pushCell_of_lt (h := a0)]; exact f2
    have h := (Xi.pushed (arrV cI M (fun _ => .int 0))).stored hcell i (.ref (T.heap.size + 1 + i))
    rw [arrV_size, pe_ocs] at h
    rw [show (locs ++ (List.range (i + 1)).map fun j => (⟨T.heap.size, j⟩ : Loc)) = (locs ++ (List.range i).map fun j => (⟨T.heap.size, j⟩ : Loc)) ++ [⟨T.heap.size, i⟩] by simp [List.range_succ, List.append_assoc], show slots + N + (i + 1) * M = slots + N + i * M + M by rw [Nat.succ_mul]; omega]
    exact h
theorem pe_mnaX {locs : List Loc} {cells slots : Nat} {T : State} (X : Stand p l e R s m args below meth c T locs cells slots) (hexec : p.tables.exec = Jvm.exec) {own : String} {index : Nat} (hown : s.vm.findClass own = some m.cls) {cO cI cc : ClassId} {kO kI : Class} (hlk : (Cond.classLink own index "[[I").before args s = true) (hfO : s.vm.findClass "[[I" = some cO) (hO : s.vm.classes[cO]? = some kO) (hOk : kO.kind = .array cI (.array .int)) (hI : s.vm.classes[cI]? = some kI) (hIk : kI.kind = .array cc .int)
    {g : JFrame} (hg : g.method = m) (hdg : decode c.code g.pc = .ok (.multianewarray index 2, 4)) {n k : Int32} {N M : Nat} {rest : List Value} (hstack : g.stack = .int k :: .int n :: rest) (hn : ¬ n < 0) (hk : ¬ k < 0) (hN : n.toNatClampNeg = N) (hM : k.toNatClampNeg = M) (hN1 : N ≤ 1000) (hM1 : M ≤ 1000) (hcells : cells + (1 + N) ≤ R.cells) (hslots : slots + (N + N * M) ≤ R.slots) :
    ∃ vm₁ : Vm, Stand p l e R s m args below meth c (pe_fl (T.setVm vm₁) cO cI N M N) locs (cells + 1 + N) (slots + N + N * M) ∧ ∀ target, Steps p.tables e below ((pe_fl (T.setVm vm₁) cO cI N M N).setTop { g with pc := g.pc + 4, stack := .ref T.heap.size :: rest }) target → Steps p.tables e below (T.setTop g) target := by
  subst hg
  have hpl : e.platform.magicAccessors = ({} : Platform).magicAccessors := by rw [X.admits.platform]
  obtain ⟨c0, hfc0, hcl⟩ := Cond.classLink_spec hown hlk e.platform hpl
  cases hfO.symm.trans hfc0
  obtain ⟨hg₁, hwarm₁, hready₁⟩ := State.classEntry (e := e) X.warmed hcl
  generalize T.vm.noted g.method.cls index (.cls cO) = vm₁ at hg₁ hwarm₁ hready₁
  have hal : s.vm.Alike vm₁ := hwarm₁.alike
  obtain ⟨kO', hO', eO⟩ := hal.2.2 _ _ hO
  obtain ⟨kI', hI', eI⟩ := hal.2.2 _ _ hI
  have X₁ := X.noted hwarm₁
  obtain ⟨hr1, hr2⟩ := X.roomAbove hcells hslots
  have XF := pe_flX X₁ cO cI N M N
  refine ⟨vm₁, XF.dropFresh (fun x hx => ?_), fun target hrest => ?_⟩
  · obtain ⟨j, -, rfl⟩ := List.mem_map.mp hx
    exact X.heapGrown
  have hl1 := Launch.admits_arrayLengthLimit X.admits
  have hl2 := Launch.admits_maxHeapBytes X.admits
  jvm_step X.here [hexec, hdg]
  simp only [multianewarray.sem, wp_bind', W.resolveClassAt_links (State.method?_setTop g X.here.top) hg₁]
  rw [W.popN, if_neg (by decide)]
  refine ⟨g, State.topJava?_setTop' (s := T.setVm vm₁) g X.here.top, [.int n, .int k], rest, rfl, hstack, ?_⟩
  simp only [List.mapM_cons, List.mapM_nil, wp_bind', wp_pure']
  refine pe_wpm (N := N) (M := M) (k := kO') (kc := kI') hO' (by rw [eO]; exact hOk) hI' (by rw [eI]; exact hIk) hn hk hN hM (by rw [hl1]; omega) (by rw [hl2]; omega) (by rw [hl1]; omega) (by rw [hl2]; omega) (by show T.heap.size + 1 + N ≤ _; omega) (by show T.slotsUsed + N + N * M ≤ _; omega) (fun d' acts' => ?_)
  have eS : ((T.setTop g).setVm vm₁).setTop { g with stack := rest } = (T.setVm vm₁).setTop { g with stack := rest } := by
    show ((T.setVm vm₁).setTop g).setTop _ = _
    rw [State.setTop_setTop]
  rw [eS, pe_fl_top]
  simp only [wp_bind', W.mark, W.pushRef, State.topJava?_setTop' _ XF.here.top, Option.some.injEq, exists_eq_left', State.setTop_setTop, State.heap_setTop]
  intro acts
  simp [jvm, XF.here.top]
  exact hrest
theorem pe_r_mna {S S' : pe_S} {φ : List Prop} {k : Nat} (hx : p.tables.exec = Jvm.exec) (hb : c.code = cc) (hs : pe_mna S = some (φ, S')) (hk : k = pe_xm.1) (hRc : nF - nS ≤ R.cells) (hRs : uF - uS ≤ R.slots) (hφ : pe_all φ) (hts : ∀ w ∈ pe_TB, w.before args s = true) (hown : s.vm.findClass (pe_rn 21) = some m.cls) (hG : pe_G D cA b n0 H0 s) (hd : decode cc S.1 = .ok (.multianewarray k 2, 4))
    (h : pe_PW p l e R s m args below meth c Q D cA b n0 H0 nS uS nF uF nL S') : pe_PW p l e R s m args below meth c Q D cA b n0 H0 nS uS nF uF nL S := by
  obtain ⟨pc, ls, st, σ⟩ := S
  unfold pe_mna at hs
  split at hs
  · rename_i y x st' he
    cases hs
    dsimp only at he hd
    subst he
    obtain ⟨hx0, hx1, hy0, hy1⟩ := hφ
    have hx0 : 0 ≤ pe_w x := hx0
    have hx1 : pe_w x ≤ 1000 := hx1
    have hy0 : 0 ≤ pe_w y := hy0
    have hy1 : pe_w y ≤ 1000 := hy1
    obtain ⟨N, hN⟩ : ∃ N : Nat, pe_w x = N := ⟨(pe_w x).toNat, by omega⟩
    obtain ⟨M, hM⟩ : ∃ M : Nat, pe_w y = M := ⟨(pe_w y).toNat, by omega⟩
    have cN : (Int32.ofInt x).toNatClampNeg = N := by have := pe_clamp hx0; omega
    have cM : (Int32.ofInt y).toNatClampNeg = M := by have := pe_clamp hy0; omega
    rw [hN, hM] at h
    have en : pe_n (pe_mn2 σ N M) = pe_n σ + 1 + N := by show σ.1 + 1 + (N : Int).toNat = _; rw [Int.toNat_natCast]; rfl
    have eu : pe_u (pe_mn2 σ N M) = pe_u σ + N + N * M := by show σ.2.1 + (N : Int).toNat + (N : Int).toNat * (M : Int).toNat = _; rw [Int.toNat_natCast, Int.toNat_natCast]; rfl
    have hf1 : pe_n (pe_mn2 σ N M) ≤ nF := h.1
    have hf2 : pe_u (pe_mn2 σ N M) ≤ uF := h.2.1
    refine ⟨by show pe_n σ ≤ nF; omega, by show pe_u σ ≤ uF; omega, fun h1 h2 h3 H Ls locs hH hL hlocs => ?_⟩
    have h1 : nS ≤ pe_n σ := h1
    have h2 : uS ≤ pe_u σ := h2
    have hH : pe_Hd D cA b n0 H0 σ H := hH
    show W p l e R s m args below meth c H locs (pe_n σ - nS) (pe_u σ - uS) Q (F0 m pc Ls (.int (Int32.ofInt y) :: .int (Int32.ofInt x) :: st'.map (pe_e (pe_ad b n0))))
    intro T hT X
    have hlk : (Cond.classLink (pe_rn 21) k "[[I").before args s = true := hts _ (pe_tb (by rw [hk]; exact pe_x_ok.2.1) rfl)
    obtain ⟨kO, c1, c2⟩ := hG.2.2.2.2.2.2.1
    obtain ⟨-, kC, hkC, cmC, hkCk⟩ := (hG.2.1 10 (by decide) (by decide)).1 0 (fun _ => .null)
    obtain ⟨vm₁, X', step⟩ := pe_mnaX X hx hown hlk (hG.2.1 24 (by decide) (by decide)).2 c1 c2 hkC hkCk (g := F0 m pc Ls (.int (Int32.ofInt y) :: .int (Int32.ofInt x) :: st'.map (pe_e (pe_ad b n0)))) rfl (by rw [hb]; exact hd) rfl (fun q => by have := (pe_lt0 x).mp q; omega) (fun q => by have := (pe_lt0 y).mp q; omega) cN cM (by omega) (by omega) (by omega) (by omega)
    generalize hF : pe_fl (T.setVm vm₁) (cA 24) (cA 10) N M N = F at X' step
    have hTh : (T.setVm vm₁).heap = H := hT
    obtain ⟨f1, f2, -, -⟩ := pe_fl_0 (T.setVm vm₁) (cA 24) (cA 10) N M N
    rw [hF, hTh] at f1 f2
    have hHd : pe_Hd D cA b n0 H0 (pe_mn2 σ N M) F.heap := by
      refine pe_Hd.mna (cI := fun _ => arrV (cA 10) M (fun _ => .int 0)) hH f1 (fun q hq => ?_) f2 (fun i hi => ?_) rfl rfl (arrV_size _ _ _) (fun j hj => ?_) (fun i _ => rfl) (fun i _ => rfl) (fun i _ => arrV_size _ _ _) (fun i j _ hj => arrV_read _ _ hj)
      · have := pe_fl_old (T.setVm vm₁) (cA 24) (cA 10) N M (a := q) (by rw [hTh]; exact hq) N
        rw [hF, hTh] at this
        exact this
      · have := pe_fl_in (T.setVm vm₁) (cA 24) (cA 10) N M N i hi
        rw [hF, hTh] at this
        exact this
      · have := arrV_read (cA 24) (fun j => if j < N then Value.ref (H.size + 1 + j) else .null) hj
        rw [if_pos hj] at this
        exact this
    have hw := h.2.2 (by show nS ≤ pe_n (pe_mn2 σ N M); omega) (by show uS ≤ pe_u (pe_mn2 σ N M); omega) h3 F.heap Ls locs hHd hL hlocs
    have hw : W p l e R s m args below meth c F.heap locs (pe_n (pe_mn2 σ N M) - nS) (pe_u (pe_mn2 σ N M) - uS) Q (F0 m (pc + 4) Ls (pe_rf (pe_ad b n0) (pe_n σ) :: st'.map (pe_e (pe_ad b n0)))) := hw
    rw [show pe_n (pe_mn2 σ N M) - nS = pe_n σ - nS + 1 + N by omega, show pe_u (pe_mn2 σ N M) - uS = pe_u σ - uS + N + N * M by omega, pe_rf_pos _ (by have := hH.2.1; omega), pe_ad_n hH] at hw
    obtain ⟨t, a1, b1⟩ := hw F rfl X'
    refine ⟨t, step t ?_, b1⟩
    rw [hT]
    exact a1
  · cases hs
end PEW4D
end
section
/-! SOUND, 7: a step, all instructions -/
theorem pe_mono {o : Nat} {ini : Bool} {i : Instr} {S S' : pe_S} {φ : List Prop} (hs : pe_nx o ini i S = some (φ, S')) : pe_n S.2.2.2 ≤ pe_n S'.2.2.2 ∧ pe_u S.2.2.2 ≤ pe_u S'.2.2.2 := by
  unfold pe_nx at hs
  split at hs
  all_goals try simp only [pe_ldi, pe_ldl, pe_lda, pe_sti, pe_stl, pe_sta, pe_psh, pe_ii, pe_ll, pe_x1, pe_y1, pe_br, pe_jmp, pe_gf, pe_pf, pe_al, pe_as, pe_rs, pe_rsL, pe_mna, pe_nw, pe_na, pe_min, pe_acp, pe_cln, pe_cst] at hs
  all_goals repeat' split at hs
  all_goals first
    | (cases hs; exact ⟨Nat.le_refl _, Nat.le_refl _⟩)
    | (cases hs; exact ⟨Nat.le_succ _, Nat.le_add_right _ _⟩)
    | (cases hs; exact ⟨Nat.le_trans (Nat.le_succ _) (Nat.le_add_right _ _), Nat.le_trans (Nat.le_add_right _ _) (Nat.le_add_right _ _)⟩)
    | cases hs
section PEW5
variable {p : Program} {l : Launch} {e : Env} {R : Room} {s : State} {m : MethodId} {args : Array Value} {below : List Frame} {meth : Method} {c : Code} {Q : State → Prop} {cc : ByteArray}
variable {D : va_G} {cA : Nat → ClassId} {b : Nat × Nat} {n0 : Nat} {H0 : Heap} {nS uS nF uF nL : Nat}

theorem pe_by8 {n : Int} (h1 : -128 ≤ n) (h2 : n < 128) : (Int8.ofInt n).toInt32 = Int32.ofInt n := by
  apply Int32.toInt_inj.mp
  rw [Int8.toInt_toInt32, Int8.toInt_ofInt_of_le (by simpa using h1) (by simpa using h2), Int32.toInt_ofInt_of_le (by simp; omega) (by simp; omega)]
theorem pe_sh16 {n : Int} (h1 : -32768 ≤ n) (h2 : n < 32768) : (Int16.ofInt n).toInt32 = Int32.ofInt n := by
  apply Int32.toInt_inj.mp
  rw [Int16.toInt_toInt32, Int16.toInt_ofInt_of_le (by simpa using h1) (by simpa using h2), Int32.toInt_ofInt_of_le (by simp; omega) (by simp; omega)]
theorem pe_row {S S' : pe_S} {φ : List Prop} {o : Nat} {ini : Bool} {i : Instr} {len : Nat} (hx : p.tables.exec = Jvm.exec) (hb : c.code = cc) (hf : 1 ≤ R.frames) (hlo : 60 ≤ R.locals) (hml : c.maxLocals = nL) (hRc : nF - nS ≤ R.cells) (hRs : uF - uS ≤ R.slots)
    (hts : ∀ w ∈ pe_TB, w.before args s = true) (hown : s.vm.findClass (pe_rn o) = some m.cls) (hN : pe_N s) (hini : ini = true → meth.name = "<init>") (hG : pe_G D cA b n0 H0 s) (hs : pe_nx o ini i S = some (φ, S')) (hφ : pe_all φ) (hd0 : decode cc S.1 = .ok (i, len)) (hlen : pe_ln i = len ∨ pe_ln i = 0)
    (h : pe_PW p l e R s m args below meth c Q D cA b n0 H0 nS uS nF uF nL S') : pe_PW p l e R s m args below meth c Q D cA b n0 H0 nS uS nF uF nL S := by
  have len_of : ∀ k, pe_ln i = k + 1 → decode cc S.1 = .ok (i, k + 1) := fun k hk => by
    rcases hlen with q | q
    · rw [← hk, q]; exact hd0
    · rw [hk] at q; exact absurd q (by omega)
  cases i with
  | iload k =>
    have hd := len_of 1 rfl
    have hs := hs
    unfold pe_nx at hs
    dsimp only at hs
    exact pe_r_ldi hx hb hs (Or.inl ⟨rfl, hd⟩) h
  | iload_n k =>
    have hd := len_of 0 rfl
    have hs := hs
    unfold pe_nx at hs
    dsimp only at hs
    exact pe_r_ldi hx hb hs (Or.inr ⟨k, rfl, rfl, hd⟩) h
  | lload k =>
    have hd := len_of 1 rfl
    have hs := hs
    unfold pe_nx at hs
    dsimp only at hs
    exact pe_r_ldl hx hb hs (Or.inl ⟨rfl, hd⟩) h
  | lload_n k =>
    have hd := len_of 0 rfl
    have hs := hs
    unfold pe_nx at hs
    dsimp only at hs
    exact pe_r_ldl hx hb hs (Or.inr ⟨k, rfl, rfl, hd⟩) h
  | aload k =>
    have hd := len_of 1 rfl
    have hs := hs
    unfold pe_nx at hs
    dsimp only at hs
    exact pe_r_lda hx hb hs (Or.inl ⟨rfl, hd⟩) h
  | aload_n k =>
    have hd := len_of 0 rfl
    have hs := hs
    unfold pe_nx at hs
    dsimp only at hs
    exact pe_r_lda hx hb hs (Or.inr ⟨k, rfl, rfl, hd⟩) h
  | istore k =>
    have hd := len_of 1 rfl
    have hs := hs
    unfold pe_nx at hs
    dsimp only at hs
    exact pe_r_sti hx hb hs (Or.inl ⟨rfl, hd⟩) h
  | istore_n k =>
    have hd := len_of 0 rfl
    have hs := hs
    unfold pe_nx at hs
    dsimp only at hs
    exact pe_r_sti hx hb hs (Or.inr ⟨k, rfl, rfl, hd⟩) h
  | lstore k =>
    have hd := len_of 1 rfl
    have hs := hs
    unfold pe_nx at hs
    dsimp only at hs
    exact pe_r_stl hx hb hs (Or.inl ⟨rfl, hd⟩) h
  | lstore_n k =>
    have hd := len_of 0 rfl
    have hs := hs
    unfold pe_nx at hs
    dsimp only at hs
    exact pe_r_stl hx hb hs (Or.inr ⟨k, rfl, rfl, hd⟩) h
  | astore k =>
    have hd := len_of 1 rfl
    have hs := hs
    unfold pe_nx at hs
    dsimp only at hs
    exact pe_r_sta hx hb hs (Or.inl ⟨rfl, hd⟩) h
  | astore_n k =>
    have hd := len_of 0 rfl
    have hs := hs
    unfold pe_nx at hs
    dsimp only at hs
    exact pe_r_sta hx hb hs (Or.inr ⟨k, rfl, rfl, hd⟩) h
  | iconst n =>
    have hd := len_of 0 rfl
    have hs := hs
    unfold pe_nx at hs
    dsimp only at hs
    exact pe_r_psh hx hb hs (fun H Ls locs k z rest kk => lv_iconst hx hb hd rfl kk) h
  | bipush n =>
    have hd := len_of 1 rfl
    have hs := hs
    unfold pe_nx at hs
    dsimp only at hs
    split at hs
    · rename_i hn
      refine pe_r_psh hx hb hs (fun H Ls locs k z rest kk => lv_bipush hx hb hd ?_ kk) h
      exact pe_by8 hn.1 hn.2
    · cases hs
  | sipush n =>
    have hd := len_of 2 rfl
    have hs := hs
    unfold pe_nx at hs
    dsimp only at hs
    split at hs
    · rename_i hn
      refine pe_r_psh hx hb hs (fun H Ls locs k z rest kk => lv_sipush hx hb hd ?_ kk) h
      exact pe_sh16 hn.1 hn.2
    · cases hs
  | lconst n =>
    have hd := len_of 0 rfl
    have hs := hs
    unfold pe_nx at hs
    dsimp only at hs
    exact pe_r_psh hx hb hs (fun H Ls locs k z rest kk => lv_lconst hx hb hd rfl kk) h
  | aconst_null =>
    have hd := len_of 0 rfl
    have hs := hs
    unfold pe_nx at hs
    dsimp only at hs
    exact pe_r_psh hx hb hs (fun H Ls locs k z rest kk => lv_null hx hb hd kk) h
  | ldc_w k =>
    have hd := len_of 2 rfl
    have hs := hs
    unfold pe_nx at hs
    dsimp only at hs
    split at hs
    · rename_i v pl hg
      exact pe_r_psh hx hb hs (fun H Ls locs k z rest kk => lv_ldcw hx hb hown (hts _ (pe_kok _ _ _ _ hg)) hd kk) h
    · cases hs
  | ldc k =>
    have hd := len_of 1 rfl
    have hs := hs
    unfold pe_nx at hs
    dsimp only at hs
    split at hs
    · rename_i v pl hg
      exact pe_r_psh hx hb hs (fun H Ls locs k z rest kk => W.ldc hx hb hown (hts _ (pe_kok _ _ _ _ hg)) rfl hd kk) h
    · cases hs
  | ldc2_w k =>
    have hd := len_of 2 rfl
    have hs := hs
    unfold pe_nx at hs
    dsimp only at hs
    split at hs
    · rename_i v pl hg
      exact pe_r_psh hx hb hs (fun H Ls locs k z rest kk => lv_ldc2 hx hb hown (hts _ (pe_lok _ _ _ _ hg)) hd kk) h
    · cases hs
  | iadd =>
    have hd := len_of 0 rfl
    have hs := hs
    unfold pe_nx at hs
    dsimp only at hs
    exact pe_r_iadd hx hb hs hφ hd h
  | isub =>
    have hd := len_of 0 rfl
    have hs := hs
    unfold pe_nx at hs
    dsimp only at hs
    exact pe_r_isub hx hb hs hφ hd h
  | imul =>
    have hd := len_of 0 rfl
    have hs := hs
    unfold pe_nx at hs
    dsimp only at hs
    exact pe_r_imul hx hb hs hφ hd h
  | idiv =>
    have hd := len_of 0 rfl
    have hs := hs
    unfold pe_nx at hs
    dsimp only at hs
    exact pe_r_idiv hx hb hs hφ hd h
  | irem =>
    have hd := len_of 0 rfl
    have hs := hs
    unfold pe_nx at hs
    dsimp only at hs
    exact pe_r_irem hx hb hs hφ hd h
  | iand =>
    have hd := len_of 0 rfl
    have hs := hs
    unfold pe_nx at hs
    dsimp only at hs
    exact pe_r_iand hx hb hs hφ hd h
  | ior =>
    have hd := len_of 0 rfl
    have hs := hs
    unfold pe_nx at hs
    dsimp only at hs
    exact pe_r_ior hx hb hs hφ hd h
  | ixor =>
    have hd := len_of 0 rfl
    have hs := hs
    unfold pe_nx at hs
    dsimp only at hs
    exact pe_r_ixor hx hb hs hφ hd h
  | ishl =>
    have hd := len_of 0 rfl
    have hs := hs
    unfold pe_nx at hs
    dsimp only at hs
    exact pe_r_ishl hx hb hs hφ hd h
  | ishr =>
    have hd := len_of 0 rfl
    have hs := hs
    unfold pe_nx at hs
    dsimp only at hs
    exact pe_r_ishr hx hb hs hφ hd h
  | iushr =>
    have hd := len_of 0 rfl
    have hs := hs
    unfold pe_nx at hs
    dsimp only at hs
    exact pe_r_iushr hx hb hs hφ hd h
  | ladd =>
    have hd := len_of 0 rfl
    have hs := hs
    unfold pe_nx at hs
    dsimp only at hs
    exact pe_r_ladd hx hb hs hφ hd h
  | lsub =>
    have hd := len_of 0 rfl
    have hs := hs
    unfold pe_nx at hs
    dsimp only at hs
    exact pe_r_lsub hx hb hs hφ hd h
  | lmul =>
    have hd := len_of 0 rfl
    have hs := hs
    unfold pe_nx at hs
    dsimp only at hs
    exact pe_r_lmul hx hb hs hφ hd h
  | ldiv =>
    have hd := len_of 0 rfl
    have hs := hs
    unfold pe_nx at hs
    dsimp only at hs
    exact pe_r_ldiv hx hb hs hφ hd h
  | lrem =>
    have hd := len_of 0 rfl
    have hs := hs
    unfold pe_nx at hs
    dsimp only at hs
    exact pe_r_lrem hx hb hs hφ hd h
  | ineg =>
    have hd := len_of 0 rfl
    have hs := hs
    unfold pe_nx at hs
    dsimp only at hs
    exact pe_r_x1 hx hb hs (fun x H Ls locs k z rest kk => lv_ineg hx hb hd (by rw [pe_neg]; exact kk)) h
  | i2l =>
    have hd := len_of 0 rfl
    have hs := hs
    unfold pe_nx at hs
    dsimp only at hs
    exact pe_r_x1 hx hb hs (fun x H Ls locs k z rest kk => lv_i2l hx hb hd (pe_i2l_ok x) kk) h
  | i2b =>
    have hd := len_of 0 rfl
    have hs := hs
    unfold pe_nx at hs
    dsimp only at hs
    exact pe_r_x1 hx hb hs (fun x H Ls locs k z rest kk => lv_i2b hx hb hd (by show _ = Int32.ofInt (pe_i2b x); unfold pe_i2b; exact (Int32.ofInt_toInt _).symm) kk) h
  | i2s =>
    have hd := len_of 0 rfl
    have hs := hs
    unfold pe_nx at hs
    dsimp only at hs
    exact pe_r_x1 hx hb hs (fun x H Ls locs k z rest kk => lv_i2s hx hb hd (by show _ = Int32.ofInt (pe_i2s x); unfold pe_i2s; exact (Int32.ofInt_toInt _).symm) kk) h
  | l2i =>
    have hd := len_of 0 rfl
    have hs := hs
    unfold pe_nx at hs
    dsimp only at hs
    exact pe_r_y1 hx hb hs (fun x H Ls locs k z rest kk => lv_l2i hx hb hd (pe_l2i_ok x) kk) h
  | lcmp =>
    have hd := len_of 0 rfl
    have hs := hs
    unfold pe_nx at hs
    dsimp only at hs
    exact pe_r_lcmp hx hb hs hd h
  | iinc k n =>
    have hd := len_of 2 rfl
    have hs := hs
    unfold pe_nx at hs
    dsimp only at hs
    exact pe_r_iinc hx hb hs hd h
  | dup =>
    have hd := len_of 0 rfl
    have hs := hs
    unfold pe_nx at hs
    dsimp only at hs
    exact pe_r_dup hx hb hs hd h
  | dup2 =>
    have hd := len_of 0 rfl
    have hs := hs
    unfold pe_nx at hs
    dsimp only at hs
    exact pe_r_dup2 hx hb hs hd h
  | pop =>
    have hd := len_of 0 rfl
    have hs := hs
    unfold pe_nx at hs
    dsimp only at hs
    exact pe_r_pop hx hb hs hd h
  | goto off =>
    have hd := len_of 2 rfl
    have hs := hs
    unfold pe_nx at hs
    dsimp only at hs
    exact pe_r_goto hx hb hs hd h
  | if_icmp q off =>
    have hd := len_of 2 rfl
    have hs := hs
    unfold pe_nx at hs
    dsimp only at hs
    exact pe_r_icmp hx hb hs hd h
  | ifCond q off =>
    have hd := len_of 2 rfl
    have hs := hs
    unfold pe_nx at hs
    dsimp only at hs
    exact pe_r_if hx hb hs hd h
  | ifnull off =>
    have hd := len_of 2 rfl
    have hs := hs
    unfold pe_nx at hs
    dsimp only at hs
    exact pe_r_ifnull hx hb hs hd h
  | ifnonnull off =>
    have hd := len_of 2 rfl
    have hs := hs
    unfold pe_nx at hs
    dsimp only at hs
    exact pe_r_ifnonnull hx hb hs hd h
  | tableswitch d lo hi os =>
    have hs := hs
    unfold pe_nx at hs
    dsimp only at hs
    split at hs
    · rename_i hl
      exact pe_r_tsw hx hb hs hl hd0 h
    · cases hs
  | lookupswitch d ps =>
    have hs := hs
    unfold pe_nx at hs
    dsimp only at hs
    split at hs
    · rename_i hl
      exact pe_r_lsw hx hb hs hl hd0 h
    · cases hs
  | getfield k =>
    have hd := len_of 2 rfl
    have hs := hs
    unfold pe_nx at hs
    dsimp only at hs
    exact pe_r_gf hx hb hs hφ hts hN hown hG hd h
  | putfield k =>
    have hd := len_of 2 rfl
    have hs := hs
    unfold pe_nx at hs
    dsimp only at hs
    exact pe_r_pf hx hb hs hφ hts hN hown hini hG hd h
  | iaload =>
    have hd := len_of 0 rfl
    have hs := hs
    unfold pe_nx at hs
    dsimp only at hs
    split at hs
    · exact pe_r_iaload hx hb (fun _ q => Or.inl q) hs hφ hG hd h
    · exact pe_r_iaload hx hb (fun _ q => q) hs hφ hG hd h
  | aaload =>
    have hd := len_of 0 rfl
    have hs := hs
    unfold pe_nx at hs
    dsimp only at hs
    split at hs
    · exact pe_r_aaload hx hb (fun _ q => Or.inl q) hs hφ hG hd h
    · exact pe_r_aaload hx hb (fun _ q => Or.inr q) hs hφ hG hd h
  | iastore =>
    have hd := len_of 0 rfl
    have hs := hs
    unfold pe_nx at hs
    dsimp only at hs
    exact pe_r_iastore hx hb hs hφ hG hd h
  | aastore =>
    have hd := len_of 0 rfl
    have hs := hs
    unfold pe_nx at hs
    dsimp only at hs
    split at hs
    · exact pe_r_aastore hx hb hs hφ hG hd h
    · exact pe_r_aastoreL hx hb hs hφ hG hd h
  | arraylength =>
    have hd := len_of 0 rfl
    have hs := hs
    unfold pe_nx at hs
    dsimp only at hs
    have key : ∀ gk : Nat → Prop, (∀ k, gk k → pe_ka k = true) → (match S.2.2.1 with | .inr (.inr r) :: st => some ([gk (pe_K S.2.2.2 r)], (S.1 + 1, S.2.1, .inl (pe_L S.2.2.2 r) :: st, S.2.2.2)) | _ => none) = some (φ, S') → pe_PW p l e R s m args below meth c Q D cA b n0 H0 nS uS nF uF nL S := fun gk hgk hs => pe_r_alen hx hb hgk hs hφ hG hd h
    by_cases ho : Nat.blt o 19 = true
    · refine key (fun k => 10 ≤ k ∧ k < 19) (fun k q => ?_) ?_
      · exact pe_ka_of (Or.inl q)
      · simp only [ho, if_true] at hs
        exact hs
    · refine key (fun k => k = 10 ∨ (22 ≤ k ∧ k < 26)) (fun k q => pe_ka_of (by omega)) ?_
      simp only [ho, if_false] at hs
      exact hs
  | new k =>
    have hd := len_of 2 rfl
    have hs := hs
    unfold pe_nx at hs
    dsimp only at hs
    exact pe_r_nw hx hb hs hRc hRs hts hown hG hd h
  | newarray t =>
    have hd := len_of 1 rfl
    have hs := hs
    unfold pe_nx at hs
    dsimp only at hs
    cases t with
    | int => exact pe_r_na_int hx hb hs hRc hRs hφ hts hG hd h
    | _ => cases hs
  | anewarray k =>
    have hd := len_of 2 rfl
    have hs2 := hs
    unfold pe_nx at hs2
    dsimp only at hs2
    split at hs2
    · rename_i cI pl hg
      split at hs2
      · rename_i hc7
        exact pe_r_an hx hb hs2 hRc hRs hg hc7 hφ hts hown hG hd h
      · split at hs2
        · rename_i hc
          exact pe_r_anL hx hb hs2 hRc hRs hg (Or.inl ⟨hc, rfl⟩) hφ hts hown hG hd h
        · split at hs2
          · rename_i hc
            exact pe_r_anL hx hb hs2 hRc hRs hg (Or.inr ⟨hc, rfl⟩) hφ hts hown hG hd h
          · cases hs2
    · split at hs2
      · rename_i hq
        obtain ⟨q1, q2⟩ := pe_beq2 hq
        subst q1
        exact pe_r_anA hx hb hs2 hRc hRs q2 hφ hts hown hG hd h
      · cases hs2
  | multianewarray k n =>
    have hd := len_of 3 rfl
    have hs2 := hs
    unfold pe_nx at hs2
    dsimp only at hs2
    split at hs2
    · rename_i hq
      rw [Bool.and_eq_true] at hq
      obtain ⟨q2, q3⟩ := pe_beq2 hq.2
      have q1 := Nat.eq_of_beq_eq_true hq.1
      subst q1
      subst q3
      exact pe_r_mna hx hb hs2 q2 hRc hRs hφ hts hown hG hd h
    · cases hs2
  | getstatic k =>
    have hd := len_of 2 rfl
    have hs2 := hs
    unfold pe_nx at hs2
    dsimp only at hs2
    split at hs2
    · rename_i hq
      obtain ⟨q1, q2⟩ := pe_beq2 hq
      subst q1
      exact pe_r_gs hx hb hs2 q2 hts hown hG hd h
    · cases hs2
  | invokespecial k =>
    have hd := len_of 2 rfl
    have hs := hs
    unfold pe_nx at hs
    dsimp only at hs
    exact pe_r_oi hx hb hs hf (by omega) hml hφ hts hown hd h
  | invokestatic k =>
    have hd := len_of 2 rfl
    have hs := hs
    unfold pe_nx at hs
    dsimp only at hs
    split at hs
    · rename_i pl hg
      exact pe_r_min hx hb hs hf hlo hml hRc hRs hg hts hown hd h
    · split at hs
      · rename_i pl hg
        exact pe_r_acp hx hb hs hf hlo hml hφ hg hts hown hG hd h
      · cases hs
  | invokevirtual k =>
    have hd := len_of 2 rfl
    have hs := hs
    unfold pe_nx at hs
    dsimp only at hs
    split at hs
    · rename_i hq
      obtain ⟨q1, q2⟩ := pe_beq2 hq
      subst q1
      subst q2
      exact pe_r_cln hx hb hs hf hlo hml hRc hRs hφ hts hown hG hd h
    · cases hs
  | checkcast k =>
    have hd := len_of 2 rfl
    have hs := hs
    unfold pe_nx at hs
    dsimp only at hs
    split at hs
    · rename_i hq
      obtain ⟨q1, q2⟩ := pe_beq2 hq
      subst q1
      subst q2
      exact pe_r_cst hx hb hs hφ hts hown hG hd h
    · cases hs
  | _ => exact absurd hs (by unfold pe_nx; simp)
end PEW5
end
section
/-! SOUND, 8: calls, answers, and all that runs in the pure machine runs -/
theorem pe_iok : ∀ o i m pl, pe_go (pe_iT o) i = some (m, pl) → Cond.methodLink (pe_rn o) i (pe_me m).1 ∈ pe_TB ∧ m < pe_mn := by
  intro o i m pl h
  have hm := pe_go_mem _ _ _ h
  have key : ∀ o, ∀ q ∈ pe_iT o, lw_tbl[q.2.2]? = some (.methodLink (pe_rn o) q.1 (pe_me q.2.1).1) ∧ q.2.1 < pe_mn := by
    intro o
    match o with
    | 0 => exact pe_i0_ok
    | 1 => exact pe_i1_ok
    | 2 => exact pe_i2_ok
    | 3 => exact pe_i3_ok
    | 4 => exact pe_i4_ok
    | 5 => exact pe_i5_ok
    | 6 => exact pe_i6_ok
    | 7 => exact pe_i7_ok
    | 8 => exact pe_i8_ok
    | 9 => exact pe_i9_ok
    | 10 => exact pe_i21_ok
    | 11 => exact pe_i11_ok
    | 12 => exact pe_i12_ok
    | 13 => exact pe_i13_ok
    | 14 => exact pe_i21_ok
    | 15 => exact pe_i21_ok
    | 16 => exact pe_i21_ok
    | 17 => exact pe_i21_ok
    | 18 => exact pe_i21_ok
    | 19 => exact pe_i19_ok
    | 20 => exact pe_i20_ok
    | 21 => exact pe_i21_ok
    | n + 22 => exact pe_i21_ok
  obtain ⟨h1, h2⟩ := key o _ hm
  exact ⟨pe_tb h1 rfl, h2⟩
theorem pe_jok : ∀ o i m pl, pe_go (pe_jT o) i = some (m, pl) → m < pe_mn := by
  intro o i m pl h
  have hm := pe_go_mem _ _ _ h
  have key : ∀ o, ∀ q ∈ pe_jT o, lw_tbl[q.2.2]? = some (.methodLinkNest (pe_rn o) q.1 (pe_me q.2.1).1 (pe_ho o)) ∧ q.2.1 < pe_mn := by
    intro o
    match o with
    | 0 => exact pe_j0_ok
    | 1 => exact pe_j1_ok
    | 2 => exact pe_j2_ok
    | 3 => exact pe_j3_ok
    | 4 => exact pe_j4_ok
    | 5 => exact pe_j5_ok
    | 6 => exact pe_j6_ok
    | 7 => exact pe_j7_ok
    | 8 => exact pe_j8_ok
    | 9 => exact pe_j9_ok
    | 10 => exact pe_j21_ok
    | 11 => exact pe_j11_ok
    | 12 => exact pe_j12_ok
    | 13 => exact pe_j13_ok
    | 14 => exact pe_j21_ok
    | 15 => exact pe_j21_ok
    | 16 => exact pe_j21_ok
    | 17 => exact pe_j21_ok
    | 18 => exact pe_j21_ok
    | 19 => exact pe_j19_ok
    | 20 => exact pe_j20_ok
    | 21 => exact pe_j21_ok
    | n + 22 => exact pe_j21_ok
  exact (key o _ hm).2
theorem pe_mokP {i : Nat} (h : pe_mok i) : lw_tbl[(pe_me i).2.2.2.2.2.2.2.2.1]? = some (.code (pe_me i).1 (pe_me i).2.1 (pe_me i).2.2.1 (pe_me i).2.2.2.1) ∧ lw_tbl[(pe_me i).2.2.2.2.2.2.2.2.2.1]? = some (if (pe_me i).2.2.2.2.2.1 = 2 then .static (pe_me i).1 else .instanceMethod (pe_me i).1) ∧ ((pe_me i).2.2.2.2.2.1 = 0 → lw_tbl[(pe_me i).2.2.2.2.2.2.2.2.2.2]? = some (.selects (pe_me i).1.cls (pe_me i).1 (pe_me i).1)) ∧ lw_tbl[pe_ip.getD (pe_me i).2.2.2.2.1 0]? = some (.initialized (pe_me i).1.cls) ∧ (pe_me i).1.cls = pe_rn (pe_me i).2.2.2.2.1 ∧ ((pe_me i).2.2.2.2.2.1 = 1 → (pe_me i).1.name = "<init>" ∧ (pe_me i).2.2.2.1 = none) ∧ (pe_me i).2.2.2.2.2.1 < 3 ∧ plainName (pe_me i).1.cls = true ∧ ((pe_me i).1.cls ≠ "java/lang/invoke/MethodHandle" ∧ (pe_me i).1.cls ≠ "java/lang/invoke/VarHandle") ∧ (parseMethodDescriptor (pe_me i).1.desc).map (fun d => d.parameters.length) = some (pe_me i).2.2.2.2.2.2.2.1 ∧ (pe_me i).2.2.1 ≤ 20 := by
  unfold pe_mok at h
  generalize pe_me i = t at h ⊢
  obtain ⟨y, b, ml, rt, o, sty, ini, na, pc, pi, ps⟩ := t
  obtain ⟨h1, h2, h3, h4, h5, h6, h7, h8, h9, h10, h11, -⟩ := h
  exact ⟨h1, h2, h3, h4, h5, h6, h7, h8, h9, h10, h11⟩
def pe_ws (m : Nat) : List Cond := Cond.code (pe_me m).1 (pe_me m).2.1 (pe_me m).2.2.1 (pe_me m).2.2.2.1 :: pe_TB
def pe_rm (d : Nat) (σ σ' : pe_H) : Room := { frames := d, cells := pe_n σ' - pe_n σ, slots := pe_u σ' - pe_u σ, locals := 40 * d + 60 }
def pe_Pc (D : va_G) (cA : Nat → ClassId) (b : Nat × Nat) (n0 : Nat) (H0 : Heap) (as : List pe_V) (σ : pe_H) : Array Value → State → Prop := fun v U => v = (as.map (pe_e (pe_ad b n0))).toArray ∧ pe_Hd D cA b n0 H0 σ U.heap ∧ pe_G D cA b n0 H0 U ∧ pe_N U
def pe_Qc (D : va_G) (cA : Nat → ClassId) (b : Nat × Nat) (n0 : Nat) (H0 : Heap) (r : Option pe_V) (σ' : pe_H) : Array Value → State → Outcome → State → Prop := fun _ _ o t => o = .returned (r.map (pe_e (pe_ad b n0))) ∧ pe_Hd D cA b n0 H0 σ' t.heap
def pe_Mt (l : Launch) (d m : Nat) (as : List pe_V) (σ : pe_H) (r : Option pe_V) (σ' : pe_H) : Prop := ∀ (D : va_G) (cA : Nat → ClassId) (b : Nat × Nat) (n0 : Nat) (H0 : Heap), Met l (pe_me m).1 (pe_ws m) (pe_rm d σ σ') (pe_Pc D cA b n0 H0 as σ) (pe_Qc D cA b n0 H0 r σ') (pe_n σ' - pe_n σ) (pe_u σ' - pe_u σ) (fun q => n0 ≤ q)
theorem pe_pop_ok : ∀ (n : Nat) (acc st as rest : List pe_V), pe_pop n acc st = some (as, rest) → ∃ xs : List pe_V, xs.length = n ∧ as = xs.reverse ++ acc ∧ st = xs ++ rest
  | 0, acc, st, as, rest, h => by
    unfold pe_pop at h
    cases h
    exact ⟨[], rfl, rfl, rfl⟩
  | n + 1, acc, [], as, rest, h => by unfold pe_pop at h; cases h
  | n + 1, acc, v :: st, as, rest, h => by
    unfold pe_pop at h
    obtain ⟨xs, h1, h2, h3⟩ := pe_pop_ok n (v :: acc) st as rest h
    exact ⟨v :: xs, by simp [h1], by rw [h2]; simp, by rw [h3]; rfl⟩
section PEW6
variable {p : Program} {l : Launch} {e : Env} {R : Room} {s : State} {m : MethodId} {args : Array Value} {below : List Frame} {meth : Method} {c : Code} {Q : State → Prop} {cc : ByteArray}
variable {D : va_G} {cA : Nat → ClassId} {b : Nat × Nat} {n0 : Nat} {H0 : Heap} {nS uS nF uF nL : Nat}
theorem pe_blind {as : List pe_V} {σ : pe_H} : FrameBlind (pe_Pc D cA b n0 H0 as σ) := fun a U g mk h => ⟨h.1, h.2.1, pe_G.moved (u := U) (U := U.calling g mk a) (Vm.Alike.refl U.vm) h.2.2.1, pe_N.same (s := U) (U := U.calling g mk a) rfl h.2.2.2⟩
set_option maxRecDepth 10000 in
theorem pe_wsgood {i : Nat} (hi : pe_mok i) : GoodIn pe_TB (pe_ws i) := by
  intro w hw
  have h1 : ∀ w ∈ pe_TB, w ∈ pe_TB ∧ ((w.onTables && w.keeps) = true ∨ ∃ ty, w = .arrayClass ty) := fun w h => ⟨h, good_of_word (List.mem_filter.mp h).2⟩
  rcases List.mem_cons.mp hw with h | h
  · rw [h]
    refine h1 _ ?_
    exact pe_tb (pe_mokP hi).1 rfl
  · exact h1 w h
theorem pe_finc {H : Heap} {locs : List Loc} {cells slots mc ms : Nat} {g : JFrame} {rest : List Value} {r : Option pe_V} {σ' : pe_H} {a : Array Value} (run : CallRun p l e R s m args below meth c H locs cells slots mc ms g rest (pe_Qc D cA b n0 H0 r σ' a) (fun q => n0 ≤ q)) (hlocs : ∀ q ∈ locs, n0 ≤ q.base)
    (kk : ∀ (H' : Heap) (locs' : List Loc), pe_Hd D cA b n0 H0 σ' H' → (∀ q ∈ locs', n0 ≤ q.base) → W p l e R s m args below meth c H' locs' (cells + mc) (slots + ms) Q { g with pc := g.pc + 3, stack := (r.map (pe_e (pe_ad b n0))).toList ++ rest }) : W p l e R s m args below meth c H locs cells slots Q g := by
  intro T hT X
  obtain ⟨v, st₀, t, T', L, h0, X', hL, e1, ⟨hv, hh⟩, st⟩ := run T hT X
  cases hv
  obtain ⟨t2, a1, b1⟩ := kk T'.heap (locs ++ L) (by rw [e1]; exact hh) (fun q hq => by
    rcases List.mem_append.mp hq with h | h
    · exact hlocs q h
    · exact hL q h) T' rfl X'
  exact ⟨t2, st t2 a1, b1⟩
/-- what every call needs of the tables -/
theorem pe_cb_ok {o i mi d : Nat} {σ σ' : pe_H} (hts : ∀ w ∈ pe_TB, w.before args s = true) (hmi : mi < pe_mn) (hml : mi ≠ pe_ml) (hl : Cond.methodLink (pe_rn o) i (pe_me mi).1 ∈ pe_TB) (hfr : d + 1 ≤ R.frames) (hlo : 40 * d + 100 ≤ R.locals) :
    CallB R s args (pe_rn o) i (pe_me mi).1 (pe_me mi).2.1 (pe_me mi).2.2.1 (pe_me mi).2.2.2.1 (pe_ws mi) (pe_rm d σ σ') (pe_n σ' - pe_n σ) (pe_u σ' - pe_u σ) (pe_me mi).2.2.2.2.2.2.2.1 := by
  have hok := pe_mok_all mi hmi hml
  have hg := pe_wsgood hok
  obtain ⟨k1, k2, k3, k4, k5, k6, k7, k8, k9, k10, k11⟩ := pe_mokP hok
  refine ⟨rfl, rfl, hfr, ?_, pay_in hts hg, List.mem_cons_self, hts _ (pe_tb k1 rfl), hts _ (pe_tb k4 rfl), k9, fun sig h => ?_, hts _ hl⟩
  · show 8 + ((pe_me mi).2.2.1 + 11) + (40 * d + 60) ≤ _
    omega
  · rw [h] at k10
    exact (Option.some.inj k10).symm
set_option maxRecDepth 10000 in
theorem pe_r_call {o d mi : Nat} {S : pe_S} {i : Instr} {len : Nat} {as st : List pe_V} {r : Option pe_V} {σ' : pe_H} (hx : p.tables.exec = Jvm.exec) (hb : c.code = cc) (hfr : d + 1 ≤ R.frames) (hlo : 40 * d + 100 ≤ R.locals) (hml : c.maxLocals = nL) (hRc : nF - nS ≤ R.cells) (hRs : uF - uS ≤ R.slots)
    (hts : ∀ w ∈ pe_TB, w.before args s = true) (hown : s.vm.findClass (pe_rn o) = some m.cls) (hG : pe_G D cA b n0 H0 s) (hN : pe_N s) (hc : pe_call o i S = some (mi, as, st)) (hr : pe_recv mi as S.2.2.2) (hd0 : decode cc S.1 = .ok (i, len)) (hlen : pe_ln i = len ∨ pe_ln i = 0)
    (hmi : mi ≠ pe_ml) (hM : pe_Mt l d mi as S.2.2.2 r σ') (hn : pe_n S.2.2.2 ≤ pe_n σ') (hu : pe_u S.2.2.2 ≤ pe_u σ')
    (h : pe_PW p l e R s m args below meth c Q D cA b n0 H0 nS uS nF uF nL (S.1 + 3, S.2.1, r.toList ++ st, σ')) : pe_PW p l e R s m args below meth c Q D cA b n0 H0 nS uS nF uF nL S := by
  have len_of : ∀ k, pe_ln i = k + 1 → decode cc S.1 = .ok (i, k + 1) := fun k hk => by
    rcases hlen with q | q
    · rw [← hk, q]; exact hd0
    · rw [hk] at q; exact absurd q (by omega)
  obtain ⟨pc, ls, st0, σ⟩ := S
  dsimp only at hr hd0 len_of hM hn hu h
  have hf1 : pe_n σ' ≤ nF := h.1
  have hf2 : pe_u σ' ≤ uF := h.2.1
  refine ⟨Nat.le_trans hn hf1, Nat.le_trans hu hf2, fun h1 h2 h3 H Ls locs hH hL hlocs => ?_⟩
  have h1 : nS ≤ pe_n σ := h1
  have h2 : uS ≤ pe_u σ := h2
  have hH : pe_Hd D cA b n0 H0 σ H := hH
  have hsz : Ls.size = nL := hL.1.trans h3
  have hPc : ∀ U : State, U.heap = H → s.WarmedH U.vm → pe_Pc D cA b n0 H0 as σ (as.map (pe_e (pe_ad b n0))).toArray U := fun U hU hW => ⟨rfl, by rw [hU]; exact hH, hG.moved hW.alike, hN.warm hW⟩
  have hfin : ∀ (run : CallRun p l e R s m args below meth c H locs (pe_n σ - nS) (pe_u σ - uS) (pe_n σ' - pe_n σ) (pe_u σ' - pe_u σ) (F0 m pc Ls (st0.map (pe_e (pe_ad b n0)))) (st.map (pe_e (pe_ad b n0))) (pe_Qc D cA b n0 H0 r σ' (as.map (pe_e (pe_ad b n0))).toArray) (fun q => n0 ≤ q)), W p l e R s m args below meth c H locs (pe_n σ - nS) (pe_u σ - uS) Q (F0 m pc Ls (st0.map (pe_e (pe_ad b n0)))) := fun run =>
    pe_finc run hlocs (fun H' locs' hH' hl' => by
      have hw := h.2.2 (Nat.le_trans h1 hn) (Nat.le_trans h2 hu) h3 H' Ls locs' hH' hL hl'
      dsimp only at hw
      rw [show pe_n σ' - nS = pe_n σ - nS + (pe_n σ' - pe_n σ) by omega, show pe_u σ' - uS = pe_u σ - uS + (pe_u σ' - pe_u σ) by omega] at hw
      rw [show List.map (pe_e (pe_ad b n0)) (r.toList ++ st) = (r.map (pe_e (pe_ad b n0))).toList ++ st.map (pe_e (pe_ad b n0)) by cases r <;> simp] at hw
      exact hw)
  have hroom : pe_n σ - nS + (pe_n σ' - pe_n σ) ≤ R.cells ∧ pe_u σ - uS + (pe_u σ' - pe_u σ) ≤ R.slots := ⟨by omega, by omega⟩
  have hcat : pe_cat st ≤ 8 → 2 * (F0 m pc Ls (st0.map (pe_e (pe_ad b n0)))).monitorRoom + ((st.map (pe_e (pe_ad b n0))).map fun v => v.category).sum ≤ 8 := fun hq => by
    rw [pe_cat_ok]
    show 2 * 0 + _ ≤ 8
    omega
  have S0 : CallFix p m c cc nL s args pe_TB (pe_rn o) := ⟨hx, hb, hml, hown, hts⟩
  have hMd := hM D cA b n0 H0
  have hivk : ∀ (tab : List (Nat × Nat × Nat)) (k t : Nat), t < 3 → pe_ivk tab k (pc, ls, st0, σ) (fun z => Nat.beq z t) = some (mi, as, st) → ∃ pl, pe_go tab k = some (mi, pl) ∧ (pe_me mi).2.2.2.2.2.1 = t ∧ pe_cat st ≤ 8 ∧ as.length = (if t = 2 then (pe_me mi).2.2.2.2.2.2.2.1 else (pe_me mi).2.2.2.2.2.2.2.1 + 1) ∧ st0 = as.reverse ++ st := by
    intro tab k t ht hk
    unfold pe_ivk at hk
    split at hk
    · rename_i m2 pl hg
      split at hk
      · rename_i ht2
        split at hk
        · rename_i as2 st2 hp
          split at hk
          · rename_i hq
            cases hk
            obtain ⟨xs, q1, q2, q3⟩ := pe_pop_ok _ _ _ _ _ hp
            have ht3 := Nat.eq_of_beq_eq_true ht2
            rw [ht3] at q1
            refine ⟨pl, hg, ht3, hq, ?_, ?_⟩
            · rw [q2]; simpa using q1
            · rw [q2]; simpa using q3
          · cases hk
        · cases hk
      · cases hk
    · cases hk
  cases i with
  | invokevirtual k =>
    have hd := len_of 2 rfl
    obtain ⟨pl, hg, ht, hq, hal, hst⟩ := hivk _ k 0 (by omega) hc
    obtain ⟨hlk, hmn⟩ := pe_iok _ _ _ _ hg
    have hok := pe_mok_all mi hmn hmi
    obtain ⟨k1, k2, k3, k4, k5, k6, k7, k8, k9, k10, k11⟩ := pe_mokP hok
    rw [if_neg (by omega)] at k2
    unfold pe_recv at hr
    rw [if_pos ht] at hr
    rcases as with _ | ⟨x | (x | rb), As⟩
    · exact hr.elim
    · exact hr.elim
    · exact hr.elim
    · have hr : pe_K σ rb = (pe_me mi).2.2.2.2.1 ∧ pe_kc (pe_me mi).2.2.2.2.1 = true := hr
      subst hst
      obtain ⟨r0, -, hce⟩ := hH.2.2.2.2.2 rb (by rw [hr.1]; exact pe_kc_lt hr.2)
      obtain ⟨cell, g1, g2, g3, -⟩ := hce.1 (by rw [hr.1]; exact hr.2)
      have hC : (pe_me mi).1.cls = (pe_cl (pe_me mi).2.2.2.2.1).1 := by
        rw [k5]
        have hz : ∀ q, pe_kc q = true → (pe_cl q).1 = pe_rn q := pe_kall (by decide +kernel) (by decide +kernel) (by decide +kernel) (by decide +kernel)
        exact (hz _ hr.2).symm
      have hstk : (F0 m pc Ls (((.inr (.inr rb) :: As).reverse ++ st).map (pe_e (pe_ad b n0)))).stack = (As.map (pe_e (pe_ad b n0))).reverse ++ .ref (pe_ad b n0 rb) :: st.map (pe_e (pe_ad b n0)) := by
        show List.map _ _ = _
        simp only [List.reverse_cons, List.map_append, List.map_cons, List.map_nil, List.append_assoc, List.singleton_append, List.map_reverse]
        rw [show pe_e (pe_ad b n0) (.inr (.inr rb)) = .ref (pe_ad b n0 rb) from pe_rf_pos _ r0]
      have hargs : ((.inr (.inr rb) :: As : List pe_V).map (pe_e (pe_ad b n0))) = .ref (pe_ad b n0 rb) :: As.map (pe_e (pe_ad b n0)) := by
        rw [List.map_cons, show pe_e (pe_ad b n0) (.inr (.inr rb)) = .ref (pe_ad b n0 rb) from pe_rf_pos _ r0]
      refine hfin ?_
      rw [hargs] at hPc ⊢
      exact W.runV S0 hMd (C := (pe_me mi).1.cls) (b := pe_ad b n0 rb) (As := As.map (pe_e (pe_ad b n0))) ⟨pe_cb_ok (σ := σ) (σ' := σ') hts hmn hmi hlk hfr hlo, hts _ (pe_tb k2 rfl), hts _ (pe_tb (k3 ht) rfl)⟩ ⟨pe_blind, ⟨cell, g1, by rw [g3]; rfl, by rw [hC, g2, hr.1]; exact (hG.1 _ hr.2).2.1⟩, hPc⟩ rfl (by rw [List.length_map]; simp at hal; exact hal) hsz hstk (hcat hq) hd hroom
  | invokespecial k =>
    have hd := len_of 2 rfl
    have key : ∀ (tab : List (Nat × Nat × Nat)), pe_ivk tab k (pc, ls, st0, σ) (fun z => Nat.beq z 1) = some (mi, as, st) → mi < pe_mn → (∀ pl, pe_go tab k = some (mi, pl) → (Cond.methodLink (pe_rn o) k (pe_me mi).1 ∈ pe_TB ∨ va_Nw (.methodLinkNest (pe_rn o) k (pe_me mi).1 (pe_ho o)) s)) → W p l e R s m args below meth c H locs (pe_n σ - nS) (pe_u σ - uS) Q (F0 m pc Ls (st0.map (pe_e (pe_ad b n0)))) := by
      intro tab hc hmn hlnk
      obtain ⟨pl, hg, ht, hq, hal, hst⟩ := hivk _ k 1 (by omega) hc
      have hlk := hlnk pl hg
      have hok := pe_mok_all mi hmn hmi
      have hgood := pe_wsgood hok
      obtain ⟨k1, k2, k3, k4, k5, k6, k7, k8, k9, k10, k11⟩ := pe_mokP hok
      rw [if_neg (by omega)] at k2
      unfold pe_recv at hr
      rw [if_neg (by omega), if_pos ht] at hr
      rcases as with _ | ⟨x | (x | rb), As⟩
      · exact hr.elim
      · exact hr.elim
      · exact hr.elim
      · have hr : ¬ rb = 0 := hr
        subst hst
        have r0 : 0 < rb := by omega
        have hstk : (F0 m pc Ls (((.inr (.inr rb) :: As).reverse ++ st).map (pe_e (pe_ad b n0)))).stack = (As.map (pe_e (pe_ad b n0))).reverse ++ .ref (pe_ad b n0 rb) :: st.map (pe_e (pe_ad b n0)) := by
          show List.map _ _ = _
          simp only [List.reverse_cons, List.map_append, List.map_cons, List.map_nil, List.append_assoc, List.singleton_append, List.map_reverse]
          rw [show pe_e (pe_ad b n0) (.inr (.inr rb)) = .ref (pe_ad b n0 rb) from pe_rf_pos _ r0]
        have hargs : ((.inr (.inr rb) :: As : List pe_V).map (pe_e (pe_ad b n0))) = .ref (pe_ad b n0 rb) :: As.map (pe_e (pe_ad b n0)) := by
          rw [List.map_cons, show pe_e (pe_ad b n0) (.inr (.inr rb)) = .ref (pe_ad b n0 rb) from pe_rf_pos _ r0]
        refine hfin ?_
        rw [hargs] at hPc ⊢
        obtain ⟨k61, k62⟩ := k6 ht
        rcases hlk with hlk | hlk
        · have hcb := pe_cb_ok (σ := σ) (σ' := σ') hts hmn hmi hlk hfr hlo
          rw [k62] at hcb
          exact W.runI S0 hMd (b := pe_ad b n0 rb) (As := As.map (pe_e (pe_ad b n0))) ⟨hcb, k61, hts _ (pe_tb k2 rfl)⟩ ⟨pe_blind, hPc⟩ rfl (by rw [List.length_map]; simp at hal; exact hal) hsz hstk (hcat hq) hd hroom
        · have hcn := va_cnB (own := pe_rn o) (host := pe_ho o) (index := k) (Ts := pe_TB) (rm := pe_rm d σ σ') (R := R) (maxL := (pe_me mi).2.2.1) (ws' := pe_TB) (y := (pe_me mi).1) (bytes := (pe_me mi).2.1) (ret := (pe_me mi).2.2.2.1) (ws := pe_ws mi) (mc := pe_n σ' - pe_n σ) (ms := pe_u σ' - pe_u σ) (pe_me mi).2.2.2.2.2.2.2.1 hts hgood rfl rfl rfl hlk (hts _ (pe_tb k4 rfl)) ⟨k9.1, k9.2, k10⟩ ⟨hfr, by show 8 + ((pe_me mi).2.2.1 + 11) + (40 * d + 60) ≤ _; omega⟩
          rw [k62] at hcn
          have run := va_runIN (e := e) (meth := meth) (below := below) (locs := locs) (H := H) S0 hMd (b := pe_ad b n0 rb) (As := As.map (pe_e (pe_ad b n0))) (rest := st.map (pe_e (pe_ad b n0))) (g := F0 m pc Ls (((.inr (.inr rb) :: As).reverse ++ st).map (pe_e (pe_ad b n0)))) ⟨hcn, k61, hts _ (pe_tb k2 rfl)⟩ ⟨pe_blind, hPc⟩ rfl (by rw [List.length_map]; simp at hal; exact hal) hsz hstk (hcat hq) hd hroom
          intro T hT X
          obtain ⟨v, st₀, t, T', L, a1, a2, a3, a4, -, a6, a7⟩ := run T hT X
          exact ⟨v, st₀, t, T', L, a1, a2, a3, a4, a6, a7⟩
    unfold pe_call at hc
    dsimp only at hc
    split at hc
    · rename_i x hj
      obtain ⟨pl, hg, -⟩ := hivk _ k 1 (by omega) hc
      exact key _ hc (pe_jok _ _ _ _ hg) (fun pl hg => Or.inr (hN.1 _ _ _ _ hg))
    · obtain ⟨pl, hg, -⟩ := hivk _ k 1 (by omega) hc
      exact key _ hc (pe_iok _ _ _ _ hg).2 (fun pl hg => Or.inl (pe_iok _ _ _ _ hg).1)
  | invokestatic k =>
    have hd := len_of 2 rfl
    obtain ⟨pl, hg, ht, hq, hal, hst⟩ := hivk _ k 2 (by omega) hc
    obtain ⟨hlk, hmn⟩ := pe_iok _ _ _ _ hg
    have hok := pe_mok_all mi hmn hmi
    obtain ⟨k1, k2, k3, k4, k5, k6, k7, k8, k9, k10, k11⟩ := pe_mokP hok
    rw [if_pos ht] at k2
    subst hst
    refine hfin ?_
    exact W.runS S0 hMd (As := as.map (pe_e (pe_ad b n0))) ⟨pe_cb_ok (σ := σ) (σ' := σ') hts hmn hmi hlk hfr hlo, hts _ (pe_tb k2 rfl)⟩ ⟨pe_blind, hPc⟩ rfl (by rw [List.length_map]; simpa using hal) hsz (by show List.map _ _ = _; simp) (hcat hq) hd hroom
  | _ => exact absurd hc (by unfold pe_call; simp)
end PEW6
end
section
/-! SOUND, 9: answers, and all that runs in the pure machine runs -/
theorem pe_e_cat2 (ad : Nat → Nat) (v : pe_V) : (pe_e ad v).category = 2 ↔ ∃ x : Int, v = .inr (.inl x) := by
  constructor
  · intro h
    rcases v with x | (x | r)
    · cases h
    · exact ⟨x, rfl⟩
    · have := pe_cat_e (ad := ad) (v := .inr (.inr r)) (fun y q => by simp at q)
      omega
  · rintro ⟨x, rfl⟩; rfl
theorem pe_lc_cons (v : pe_V) (l : List pe_V) (h : ∀ x : Int, v ≠ .inr (.inl x)) : pe_lc (v :: l) = some v :: pe_lc l := by
  rcases v with x | (x | r)
  · rfl
  · exact absurd rfl (h x)
  · rfl
theorem pe_sl_len (ad : Nat → Nat) : ∀ as : List pe_V, (lg_sl (as.map (pe_e ad))).length = (pe_lc as).length
  | [] => rfl
  | v :: l => by
    have ih := pe_sl_len ad l
    unfold lg_sl at ih ⊢
    rw [List.map_cons, List.flatMap_cons, List.length_append, ih]
    by_cases hv : ∃ x : Int, v = .inr (.inl x)
    · rw [if_pos ((pe_e_cat2 ad v).mpr hv)]
      obtain ⟨x, rfl⟩ := hv
      simp only [pe_lc, List.length_cons, List.length_nil]; omega
    · rw [if_neg (fun q => hv ((pe_e_cat2 ad v).mp q)), pe_lc_cons v l (fun x q => hv ⟨x, q⟩)]
      simp only [List.length_cons, List.length_nil]; omega
theorem pe_ld_rep (n i : Nat) : pe_ld (List.replicate n none) i = none := by
  induction n generalizing i with
  | zero => rfl
  | succ n ih =>
    rw [List.replicate_succ]
    cases i with
    | zero => rfl
    | succ i => exact ih i
theorem pe_ld_args (ad : Nat → Nat) (n : Nat) : ∀ (as : List pe_V) (k i : Nat) (v : pe_V), pe_ld (pe_lc as ++ List.replicate n none) i = some v → (k + i, pe_e ad v) ∈ lv_args k (as.map (pe_e ad))
  | [], k, i, v, h => by
    rw [show pe_lc [] ++ List.replicate n none = List.replicate n none from rfl, pe_ld_rep] at h
    cases h
  | w :: l, k, i, v, h => by
    rw [List.map_cons]
    unfold lv_args
    by_cases hv : ∃ x : Int, w = .inr (.inl x)
    · rw [if_pos ((pe_e_cat2 ad w).mpr hv)]
      obtain ⟨x, rfl⟩ := hv
      match i, h with
      | 0, h =>
        cases h
        exact List.mem_cons_self
      | 1, h => cases h
      | i + 2, h =>
        have h2 := pe_ld_args ad n l (k + 2) i v h
        rw [show k + (i + 2) = k + 2 + i by omega]
        exact List.mem_cons_of_mem _ h2
    · rw [if_neg (fun q => hv ((pe_e_cat2 ad w).mp q))]
      rw [pe_lc_cons w l (fun x q => hv ⟨x, q⟩)] at h
      match i, h with
      | 0, h =>
        cases h
        exact List.mem_cons_self
      | i + 1, h =>
        have h2 := pe_ld_args ad n l (k + 1) i v h
        rw [show k + (i + 1) = k + 1 + i by omega]
        exact List.mem_cons_of_mem _ h2
theorem pe_entry (ad : Nat → Nat) (as : List pe_V) (n : Nat) (h : (pe_lc as).length ≤ n) : pe_lv ad ((lg_sl (as.map (pe_e ad)) ++ List.replicate (n - (lg_sl (as.map (pe_e ad))).length) Slot.unset).toArray) (pe_lo as n) := by
  have hl := lv_entry (as.map (pe_e ad)) (n := n) (by rw [pe_sl_len]; exact h)
  refine ⟨by rw [hl.1]; unfold pe_lo; simp; omega, hl.2.1, fun i v hv => ?_⟩
  have := pe_ld_args ad _ as 0 i v hv
  rw [Nat.zero_add] at this
  exact hl.2.2 _ this
theorem pe_lo_len (as : List pe_V) (n : Nat) (h : (pe_lc as).length ≤ n) : (pe_lo as n).length = n := by unfold pe_lo; simp; omega
section PEW7
variable {p : Program} {l : Launch} {e : Env} {R : Room} {s : State} {m : MethodId} {args : Array Value} {below : List Frame} {meth : Method} {c : Code} {Q : State → Prop} {cc : ByteArray}
variable {D : va_G} {cA : Nat → ClassId} {b : Nat × Nat} {n0 : Nat} {H0 : Heap} {nS uS nF uF nL : Nat}
theorem pe_r_ret {S : pe_S} {φ : List Prop} {r : Option pe_V} {rt : Option FieldType} {i : Instr} {len : Nat} (hx : p.tables.exec = Jvm.exec) (hb : c.code = cc) (hr : meth.sig.returnType = rt) (hlocks : meth.locks = false) (hs : pe_ret rt i S = some (φ, r)) (hφ : pe_all φ) (hd0 : decode cc S.1 = .ok (i, len)) (hlen : pe_ln i = len ∨ pe_ln i = 0) :
    pe_PW p l e R s m args below meth c (MQ below (pe_Qc D cA b n0 H0 r S.2.2.2) args s (pe_n S.2.2.2 - nS) (pe_u S.2.2.2 - uS) (fun q => n0 ≤ q)) D cA b n0 H0 nS uS (pe_n S.2.2.2) (pe_u S.2.2.2) nL S := by
  have len_of : ∀ k, pe_ln i = k + 1 → decode cc S.1 = .ok (i, k + 1) := fun k hk => by
    rcases hlen with q | q
    · rw [← hk, q]; exact hd0
    · rw [hk] at q; exact absurd q (by omega)
  obtain ⟨pc, ls, st, σ⟩ := S
  refine ⟨Nat.le_refl _, Nat.le_refl _, fun h1 h2 h3 H Ls locs hH hL hlocs => ?_⟩
  dsimp only at len_of
  unfold pe_ret at hs
  split at hs
  · rename_i he
    cases hs
    have hd := len_of 0 rfl
    dsimp only at he
    subst he
    exact W.vret hx hb hr (fun t ht hW => ⟨rfl, by rw [ht]; exact hH⟩) hlocs hd
  · rename_i x he
    cases hs
    have hd := len_of 0 rfl
    dsimp only at he
    subst he
    exact W.iret (v := Int32.ofInt x) hx hb hr (fun t ht hW => ⟨rfl, by rw [ht]; exact hH⟩) hlocs hd
  · rename_i x he
    cases hs
    have hd := len_of 0 rfl
    dsimp only at he
    subst he
    have hφ : x = 0 ∨ x = 1 := hφ
    exact W.zret (v := Int32.ofInt x) (ty := .boolean) hx hb hr (by rcases hφ with q | q <;> subst q <;> rfl) (fun t ht hW => ⟨rfl, by rw [ht]; exact hH⟩) hlocs hd
  · rename_i x he
    cases hs
    have hd := len_of 0 rfl
    dsimp only at he
    subst he
    exact W.lret (v := Int64.ofInt x) hx hb hr (fun t ht hW => ⟨rfl, by rw [ht]; exact hH⟩) hlocs hd
  · rename_i x C he
    cases hs
    have hd := len_of 0 rfl
    dsimp only at he
    subst he
    exact W.aret (v := pe_rf (pe_ad b n0) x) hx hb hr (Or.inl ⟨_, rfl⟩) (pe_rf_or _ _) (fun t ht hW => ⟨rfl, by rw [ht]; exact hH⟩) hlocs hd
  · rename_i x C he
    cases hs
    have hd := len_of 0 rfl
    dsimp only at he
    subst he
    exact W.aret (v := pe_rf (pe_ad b n0) x) hx hb hr (Or.inr ⟨_, rfl⟩) (pe_rf_or _ _) (fun t ht hW => ⟨rfl, by rw [ht]; exact hH⟩) hlocs hd
  · cases hs
end PEW7
set_option maxRecDepth 10000 in
/-- ALL THAT THE PURE MACHINE COMES TO, THE MACHINE COMES TO -/
theorem pe_sound (l : Launch) : ∀ (d mi : Nat) (as : List pe_V) (σ : pe_H) (r : Option pe_V) (σ' : pe_H), pe_C d mi as σ r σ' → (pe_n σ ≤ pe_n σ' ∧ pe_u σ ≤ pe_u σ') ∧ pe_Mt l d mi as σ r σ' := by
  intro d
  induction d with
  | zero => intro mi as σ r σ' h; exact h.elim
  | succ d ih =>
    intro mi as σ r σ' h
    obtain ⟨hlen, hmn, hml, hEv⟩ := h
    have hmono : pe_n σ ≤ pe_n σ' ∧ pe_u σ ≤ pe_u σ' := by
      have := hEv (fun S => pe_n S.2.2.2 ≤ pe_n σ' ∧ pe_u S.2.2.2 ≤ pe_u σ') (fun S hS => by
        obtain ⟨i, len, -, -, h⟩ := hS
        rcases h with ⟨φ, S', hnx, -, hP⟩ | ⟨m2, as2, st, r2, σ2, -, -, hC, hP⟩ | ⟨φ, r0, -, -, -, hσ⟩
        · have h1 := pe_mono hnx
          exact ⟨Nat.le_trans h1.1 hP.1, Nat.le_trans h1.2 hP.2⟩
        · have h1 := (ih _ _ _ _ _ hC).1
          exact ⟨Nat.le_trans h1.1 hP.1, Nat.le_trans h1.2 hP.2⟩
        · rw [hσ]; exact ⟨Nat.le_refl _, Nat.le_refl _⟩)
      exact this
    refine ⟨hmono, fun D cA b n0 H0 => ?_⟩
    have hok := pe_mok_all mi hmn hml
    obtain ⟨k1, k2, k3, k4, k5, k6, k7, k8, k9, k10, k11⟩ := pe_mokP hok
    refine Met.ofW (cc := (pe_me mi).2.1) (maxL := (pe_me mi).2.2.1) (ret := (pe_me mi).2.2.2.1) k8 rfl ?_
    intro p e s m args below meth c s₁ B hml0 hPc
    obtain ⟨hargs, hH, hG, hN⟩ := hPc
    have hx := B.exec
    have hb := B.bytes
    have hr := B.returns
    have hlocks := B.notSynchronized
    have hts0 := atoms_spec (ws := pe_ws mi) B.pre
    have hts : ∀ w ∈ pe_TB, w.before args s = true := fun w h => hts0 w (List.mem_cons_of_mem _ h)
    have hown : s.vm.findClass (pe_rn (pe_me mi).2.2.2.2.1) = some m.cls := by rw [← k5]; exact findClass_of_methodNamed B.named
    have hini : (pe_me mi).2.2.2.2.2.2.1 = true → meth.name = "<init>" := fun h => by
      rw [(name_of_methodNamed B.named B.method).1]
      exact (k6 ((pe_ini_ok mi hmn).mp h)).1
    have key := hEv (pe_PW p l e (headSpec (pe_ws mi) (pe_rm (d + 1) σ σ')).room s m args below meth c (MQ below (pe_Qc D cA b n0 H0 r σ') args s (pe_n σ' - pe_n σ) (pe_u σ' - pe_u σ) (fun q => n0 ≤ q)) D cA b n0 H0 (pe_n σ) (pe_u σ) (pe_n σ') (pe_u σ') (pe_me mi).2.2.1) (fun S hS => by
      obtain ⟨i, len, hd, hln, h⟩ := hS
      rcases h with ⟨φ, S', hnx, hφ, hP⟩ | ⟨m2, as2, st, r2, σ2, hcl, hrc, hC, hP⟩ | ⟨φ, r0, hrt, hφ, hr0, hσ⟩
      · exact pe_row (o := (pe_me mi).2.2.2.2.1) (ini := (pe_me mi).2.2.2.2.2.2.1) hx hb (by show 1 ≤ d + 1; omega) (by show 60 ≤ 40 * (d + 1) + 60; omega) hml0 (Nat.le_refl _) (Nat.le_refl _) hts hown hN hini hG hnx hφ hd hln hP
      · obtain ⟨⟨q1, q2⟩, q3⟩ := ih _ _ _ _ _ hC
        have hm2 : m2 ≠ pe_ml := by
          intro q
          subst q
          cases d with
          | zero => exact hC.elim
          | succ d => exact hC.2.2.1 rfl
        exact pe_r_call (o := (pe_me mi).2.2.2.2.1) (d := d) hx hb (Nat.le_refl _) (by show 40 * d + 100 ≤ 40 * (d + 1) + 60; omega) hml0 (Nat.le_refl _) (Nat.le_refl _) hts hown hG hN hcl hrc hd hln hm2 q3 q1 q2 hP
      · subst hr0
        subst hσ
        exact pe_r_ret hx hb hr hlocks hrt hφ hd hln)
    have hw := key.2.2 (Nat.le_refl _) (Nat.le_refl _) (pe_lo_len _ _ hlen) s.heap _ [] hH (pe_entry (pe_ad b n0) as (pe_me mi).2.2.1 hlen) (fun q hq => by cases hq)
    rw [hargs, lg_entry_eq]
    rw [hargs] at hw
    simp only [Nat.sub_self] at hw
    exact hw
end
section
/-! WHAT MUST HOLD: rules over the pure machine (total correctness); blocks of instructions at once -/
def pe_X (d m : Nat) (S : pe_S) (Φ : Option pe_V → pe_H → Prop) : Prop := ∃ r σ', pe_Ev (pe_C d) (pe_me m).2.2.2.2.1 (pe_me m).2.2.2.2.2.2.1 (pe_me m).2.2.2.1 (pe_me m).2.1 S r σ' ∧ Φ r σ'
def pe_M (d m : Nat) (as : List pe_V) (σ : pe_H) (Φ : Option pe_V → pe_H → Prop) : Prop := ∃ r σ', pe_C d m as σ r σ' ∧ Φ r σ'
theorem pe_X.imp {d m : Nat} {S : pe_S} {Φ Ψ : Option pe_V → pe_H → Prop} (h : pe_X d m S Φ) (k : ∀ r σ', Φ r σ' → Ψ r σ') : pe_X d m S Ψ := by
  obtain ⟨r, σ', h1, h2⟩ := h
  exact ⟨r, σ', h1, k r σ' h2⟩
theorem pe_M.imp {d m : Nat} {as : List pe_V} {σ : pe_H} {Φ Ψ : Option pe_V → pe_H → Prop} (h : pe_M d m as σ Φ) (k : ∀ r σ', Φ r σ' → Ψ r σ') : pe_M d m as σ Ψ := by
  obtain ⟨r, σ', h1, h2⟩ := h
  exact ⟨r, σ', h1, k r σ' h2⟩
theorem pe_X_nx {d m : Nat} {S S' : pe_S} {Φ : Option pe_V → pe_H → Prop} {φ : List Prop} {i : Instr} {len : Nat} (hd : decode (pe_me m).2.1 S.1 = .ok (i, len)) (hl : pe_ln i = len ∨ pe_ln i = 0) (hs : pe_nx (pe_me m).2.2.2.2.1 (pe_me m).2.2.2.2.2.2.1 i S = some (φ, S')) (hφ : pe_all φ) (k : pe_X d m S' Φ) : pe_X d m S Φ := by
  obtain ⟨r, σ', h, hΦ⟩ := k
  exact ⟨r, σ', fun P hP => hP S ⟨i, len, hd, hl, Or.inl ⟨φ, S', hs, hφ, h P hP⟩⟩, hΦ⟩
def pe_chk (b : ByteArray) (T : List (Nat × Instr × Nat)) : Bool := T.all (fun q => decide (decode b q.1 = .ok (q.2.1, q.2.2)) && (Nat.beq (pe_ln q.2.1) q.2.2 || Nat.beq (pe_ln q.2.1) 0))
theorem pe_chk_at {b : ByteArray} {T : List (Nat × Instr × Nat)} (h : pe_chk b T = true) {q : Nat × Instr × Nat} (hq : q ∈ T) : decode b q.1 = .ok (q.2.1, q.2.2) ∧ (pe_ln q.2.1 = q.2.2 ∨ pe_ln q.2.1 = 0) := by
  have h1 := List.all_eq_true.mp h q hq
  simp only [Bool.and_eq_true, Bool.or_eq_true, decide_eq_true_eq] at h1
  exact ⟨h1.1, h1.2.elim (fun e => Or.inl (Nat.eq_of_beq_eq_true e)) (fun e => Or.inr (Nat.eq_of_beq_eq_true e))⟩
def pe_run (o : Nat) (ini : Bool) : List (Nat × Instr × Nat) → pe_S → Option pe_R2
  | [], S => some ([], S)
  | (pc, i, _) :: is, S => cond (Nat.beq S.1 pc) (match pe_nx o ini i S with
    | some (φ, S') => match pe_run o ini is S' with
      | some (ψ, S'') => some (φ ++ ψ, S'')
      | none => none
    | none => none) none
theorem pe_all_app : ∀ (φ ψ : List Prop), pe_all (φ ++ ψ) → pe_all φ ∧ pe_all ψ
  | [], ψ, h => ⟨trivial, h⟩
  | [a], [], h => ⟨h, trivial⟩
  | [a], b :: ψ, h => ⟨h.1, h.2⟩
  | a :: b :: φ, ψ, h => by
    obtain ⟨h1, h2⟩ := pe_all_app (b :: φ) ψ h.2
    exact ⟨⟨h.1, h1⟩, h2⟩
theorem pe_X_run {d m : Nat} {Φ : Option pe_V → pe_H → Prop} : ∀ (is : List (Nat × Instr × Nat)) (S S' : pe_S) (φ : List Prop), pe_chk (pe_me m).2.1 is = true → pe_run (pe_me m).2.2.2.2.1 (pe_me m).2.2.2.2.2.2.1 is S = some (φ, S') → pe_all φ → pe_X d m S' Φ → pe_X d m S Φ
  | [], S, S', φ, _, hr, _, k => by
    unfold pe_run at hr
    cases hr
    exact k
  | (pc, i, len) :: is, S, S', φ, hc, hr, hφ, k => by
    unfold pe_run at hr
    by_cases hb : Nat.beq S.1 pc = true
    · rw [hb] at hr
      dsimp only [cond] at hr
      split at hr
      · rename_i φ1 S1 hn
        split at hr
        · rename_i φ2 S2 hr2
          cases hr
          obtain ⟨h1, h2⟩ := pe_all_app φ1 φ2 hφ
          obtain ⟨h3, h4⟩ := pe_chk_at hc List.mem_cons_self
          have hpc := Nat.eq_of_beq_eq_true hb
          refine pe_X_nx (by rw [hpc]; exact h3) h4 hn h1 (pe_X_run is S1 S' φ2 ?_ hr2 h2 k)
          unfold pe_chk at hc ⊢
          rw [List.all_cons, Bool.and_eq_true] at hc
          exact hc.2
        · cases hr
      · cases hr
    · rw [Bool.eq_false_iff.mpr hb] at hr
      cases hr
theorem pe_chk_sub {b : ByteArray} {T : List (Nat × Instr × Nat)} (h : pe_chk b T = true) (a n : Nat) : pe_chk b ((T.drop a).take n) = true := by
  unfold pe_chk at h ⊢
  rw [List.all_eq_true] at h ⊢
  exact fun q hq => h q (List.mem_of_mem_drop (List.mem_of_mem_take hq))
/-- a method's class, is it <init>, answer, locals, code -/
def pe_ctx (m o : Nat) (ini : Bool) (rt : Option FieldType) (ml : Nat) (T : List (Nat × Instr × Nat)) : Prop := (pe_me m).2.2.2.2.1 = o ∧ (pe_me m).2.2.2.2.2.2.1 = ini ∧ (pe_me m).2.2.2.1 = rt ∧ (pe_me m).2.2.1 = ml ∧ pe_chk (pe_me m).2.1 T = true ∧ m < pe_mn ∧ m ≠ pe_ml
/-- a block: n instructions from the a-th on -/
theorem pe_blk {d m o ml : Nat} {ini : Bool} {rt : Option FieldType} {T : List (Nat × Instr × Nat)} (a n : Nat) (hc : pe_ctx m o ini rt ml T) {S : pe_S} (φ : List Prop) (S' : pe_S) {Φ : Option pe_V → pe_H → Prop} (hr : pe_run o ini ((T.drop a).take n) S = some (φ, S')) (hφ : pe_all φ) (k : pe_X d m S' Φ) : pe_X d m S Φ := by
  obtain ⟨h1, h2, h3, h4, h5, -⟩ := hc
  subst h1; subst h2
  exact pe_X_run _ S S' φ (pe_chk_sub h5 a n) hr hφ k
/-- a call, the a-th instruction -/
theorem pe_cal {d m o ml : Nat} {ini : Bool} {rt : Option FieldType} {T : List (Nat × Instr × Nat)} (a : Nat) (hc : pe_ctx m o ini rt ml T) {S : pe_S} {Φ : Option pe_V → pe_H → Prop} {pc : Nat} {i : Instr} {len m2 : Nat} {as st : List pe_V} (ha : T[a]? = some (pc, i, len)) (hpc : S.1 = pc) (hcl : pe_call o i S = some (m2, as, st)) (hr : pe_recv m2 as S.2.2.2)
    (k : pe_M d m2 as S.2.2.2 (fun r σ' => pe_X d m (S.1 + 3, S.2.1, r.toList ++ st, σ') Φ)) : pe_X d m S Φ := by
  obtain ⟨r1, σ1, hC, r, σ', h, hΦ⟩ := k
  obtain ⟨h1, h2, h30, h40, h5, -⟩ := hc
  subst h1
  obtain ⟨h3, h4⟩ := pe_chk_at h5 (List.mem_of_getElem? ha)
  exact ⟨r, σ', fun P hP => hP S ⟨i, len, by rw [hpc]; exact h3, h4, Or.inr (Or.inl ⟨m2, as, st, r1, σ1, hcl, hr, hC, h P hP⟩)⟩, hΦ⟩
/-- an answer, the a-th instruction -/
theorem pe_fine {d m o ml : Nat} {ini : Bool} {rt : Option FieldType} {T : List (Nat × Instr × Nat)} (a : Nat) (hc : pe_ctx m o ini rt ml T) {S : pe_S} {Φ : Option pe_V → pe_H → Prop} {pc : Nat} {i : Instr} {len : Nat} {φ : List Prop} {r : Option pe_V} (ha : T[a]? = some (pc, i, len)) (hpc : S.1 = pc) (hs : pe_ret rt i S = some (φ, r)) (hφ : pe_all φ) (k : Φ r S.2.2.2) : pe_X d m S Φ := by
  obtain ⟨h1, h2, h30, h40, h5, -⟩ := hc
  subst h30
  obtain ⟨h3, h4⟩ := pe_chk_at h5 (List.mem_of_getElem? ha)
  exact ⟨r, S.2.2.2, fun P hP => hP S ⟨i, len, by rw [hpc]; exact h3, h4, Or.inr (Or.inr ⟨φ, r, hs, hφ, rfl, rfl⟩)⟩, k⟩
/-- a method, from its entry -/
theorem pe_M_of {d m o ml : Nat} {ini : Bool} {rt : Option FieldType} {T : List (Nat × Instr × Nat)} (hc : pe_ctx m o ini rt ml T) {as : List pe_V} {σ : pe_H} {Φ : Option pe_V → pe_H → Prop} (h1 : (pe_lc as).length ≤ ml) (k : pe_X d m (0, pe_lo as ml, [], σ) Φ) : pe_M (d + 1) m as σ Φ := by
  obtain ⟨r, σ', h, hΦ⟩ := k
  obtain ⟨-, -, -, q4, -, q6, q7⟩ := hc
  subst q4
  exact ⟨r, σ', ⟨h1, q6, q7, h⟩, hΦ⟩
theorem pe_Ev.mono {C C' : pe_CR} (hC : ∀ m as σ r σ', C m as σ r σ' → C' m as σ r σ') {o : Nat} {ini : Bool} {rt : Option FieldType} {b : ByteArray} {S : pe_S} {r : Option pe_V} {σ' : pe_H} (h : pe_Ev C o ini rt b S r σ') : pe_Ev C' o ini rt b S r σ' := fun P hP => h P (fun S hS => hP S (by
  obtain ⟨i, len, h1, h2, h3⟩ := hS
  refine ⟨i, len, h1, h2, ?_⟩
  rcases h3 with q | ⟨m, as, st, r1, σ1, q1, q2, q3, q4⟩ | q
  · exact Or.inl q
  · exact Or.inr (Or.inl ⟨m, as, st, r1, σ1, q1, q2, hC _ _ _ _ _ q3, q4⟩)
  · exact Or.inr (Or.inr q)))
theorem pe_C_succ : ∀ (d m : Nat) (as : List pe_V) (σ : pe_H) (r : Option pe_V) (σ' : pe_H), pe_C d m as σ r σ' → pe_C (d + 1) m as σ r σ'
  | 0, _, _, _, _, _, h => h.elim
  | d + 1, m, as, σ, r, σ', h => ⟨h.1, h.2.1, h.2.2.1, h.2.2.2.mono (pe_C_succ d)⟩
theorem pe_M.up {d d' m : Nat} {as : List pe_V} {σ : pe_H} {Φ : Option pe_V → pe_H → Prop} (h : pe_M d m as σ Φ) (hd : d ≤ d' := by omega) : pe_M d' m as σ Φ := by
  obtain ⟨k, rfl⟩ : ∃ k, d' = d + k := ⟨d' - d, by omega⟩
  clear hd
  induction k with
  | zero => exact h
  | succ k ih =>
    obtain ⟨r, σ', h1, h2⟩ := ih
    exact ⟨r, σ', pe_C_succ _ _ _ _ _ _ h1, h2⟩
/-- the two ways of a branch -/
theorem pe_two {d m : Nat} {q : Prop} {dq : Decidable q} {t f : Nat} {ls : List (Option pe_V)} {st : List pe_V} {σ : pe_H} {Φ : Option pe_V → pe_H → Prop} (k1 : q → pe_X d m (t, ls, st, σ) Φ) (k2 : ¬ q → pe_X d m (f, ls, st, σ) Φ) : pe_X d m (cond (decide q) t f, ls, st, σ) Φ := by
  by_cases h : q
  · rw [decide_eq_true h]; exact k1 h
  · rw [decide_eq_false h]; exact k2 h
def pe_in (x : Int) : Prop := -2147483648 ≤ x ∧ x < 2147483648
theorem pe_wi {x : Int} (h : pe_in x) : pe_w x = x := pe_w_id h.1 h.2
theorem pe_two' {d m : Nat} {q : Prop} {dq : Decidable (¬ q)} {t f : Nat} {ls : List (Option pe_V)} {st : List pe_V} {σ : pe_H} {Φ : Option pe_V → pe_H → Prop} (k1 : ¬ q → pe_X d m (t, ls, st, σ) Φ) (k2 : q → pe_X d m (f, ls, st, σ) Φ) : pe_X d m (cond (decide (¬ q)) t f, ls, st, σ) Φ := pe_two k1 (fun h => k2 (Classical.not_not.mp h))
theorem pe_I_same {σ : pe_H} {r : Nat} {j x : Int} : pe_I (pe_wI σ r j x) r j = x := if_pos ⟨rfl, rfl⟩
theorem pe_I_ner {σ : pe_H} {r a : Nat} {j k x : Int} (h : a ≠ r) : pe_I (pe_wI σ r j x) a k = pe_I σ a k := if_neg (fun q => h q.1)
theorem pe_I_nej {σ : pe_H} {r a : Nat} {j k x : Int} (h : k ≠ j) : pe_I (pe_wI σ r j x) a k = pe_I σ a k := if_neg (fun q => h q.2)
theorem pe_I_wR {σ : pe_H} {r x a : Nat} {j k : Int} : pe_I (pe_wR σ r j x) a k = pe_I σ a k := rfl
theorem pe_R_wI {σ : pe_H} {r a : Nat} {j k x : Int} : pe_R (pe_wI σ r j x) a k = pe_R σ a k := rfl
theorem pe_R_same {σ : pe_H} {r x : Nat} {j : Int} : pe_R (pe_wR σ r j x) r j = x := if_pos ⟨rfl, rfl⟩
theorem pe_R_ner {σ : pe_H} {r a x : Nat} {j k : Int} (h : a ≠ r) : pe_R (pe_wR σ r j x) a k = pe_R σ a k := if_neg (fun q => h q.1)
theorem pe_R_nej {σ : pe_H} {r a x : Nat} {j k : Int} (h : k ≠ j) : pe_R (pe_wR σ r j x) a k = pe_R σ a k := if_neg (fun q => h q.2)
theorem pe_K_wI {σ : pe_H} {r a : Nat} {j x : Int} : pe_K (pe_wI σ r j x) a = pe_K σ a := rfl
theorem pe_K_wR {σ : pe_H} {r x a : Nat} {j : Int} : pe_K (pe_wR σ r j x) a = pe_K σ a := rfl
theorem pe_L_wI {σ : pe_H} {r a : Nat} {j x : Int} : pe_L (pe_wI σ r j x) a = pe_L σ a := rfl
theorem pe_L_wR {σ : pe_H} {r x a : Nat} {j : Int} : pe_L (pe_wR σ r j x) a = pe_L σ a := rfl
end
section
theorem zz_end : True := trivial
end
