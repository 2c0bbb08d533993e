-- ===== PART A: goes FIRST, ahead of the names: the tables' words, and 'selects' of the private methods out of them =====
/-- a private method of a class that the tables say can be made, by its rows of tables_1 -/
def lw_okq (q : MethodName × Nat) : Prop := (q.1.cls ≠ "java/lang/invoke/MethodHandle" ∧ q.1.cls ≠ "java/lang/invoke/VarHandle") ∧ Cond.instantiable q.1.cls q.2 ∈ tables_1 ∧ Cond.privateMethod q.1 ∈ tables_1 ∧ Cond.instanceMethod q.1 ∈ tables_1
theorem lw_p0 : lw_okq (⟨"StepMachines", "refusalOfRow", "(I)I"⟩, 8) := ⟨⟨by decide +kernel, by decide +kernel⟩, List.mem_of_getElem? (i := 21) (by decide +kernel), List.mem_of_getElem? (i := 271) (by decide +kernel), List.mem_of_getElem? (i := 272) (by decide +kernel)⟩
theorem lw_p1 : lw_okq (⟨"StepMachines$Text", "endOfStatement", "(I)I"⟩, 2) := ⟨⟨by decide +kernel, by decide +kernel⟩, List.mem_of_getElem? (i := 278) (by decide +kernel), List.mem_of_getElem? (i := 299) (by decide +kernel), List.mem_of_getElem? (i := 300) (by decide +kernel)⟩
theorem lw_p2 : lw_okq (⟨"StepMachines$Text", "endOfProgram", "(I)I"⟩, 2) := ⟨⟨by decide +kernel, by decide +kernel⟩, List.mem_of_getElem? (i := 278) (by decide +kernel), List.mem_of_getElem? (i := 311) (by decide +kernel), List.mem_of_getElem? (i := 312) (by decide +kernel)⟩
theorem lw_p3 : lw_okq (⟨"StepMachines$Text", "endOfNumbers", "(II)I"⟩, 2) := ⟨⟨by decide +kernel, by decide +kernel⟩, List.mem_of_getElem? (i := 278) (by decide +kernel), List.mem_of_getElem? (i := 324) (by decide +kernel), List.mem_of_getElem? (i := 325) (by decide +kernel)⟩
theorem lw_p4 : lw_okq (⟨"StepMachines", "mindOfNow", "()LStepMachines$Machine;"⟩, 8) := ⟨⟨by decide +kernel, by decide +kernel⟩, List.mem_of_getElem? (i := 21) (by decide +kernel), List.mem_of_getElem? (i := 328) (by decide +kernel), List.mem_of_getElem? (i := 329) (by decide +kernel)⟩
theorem lw_p5 : lw_okq (⟨"StepMachines$Text", "digit", "(I)I"⟩, 2) := ⟨⟨by decide +kernel, by decide +kernel⟩, List.mem_of_getElem? (i := 278) (by decide +kernel), List.mem_of_getElem? (i := 355) (by decide +kernel), List.mem_of_getElem? (i := 356) (by decide +kernel)⟩
theorem lw_p6 : lw_okq (⟨"StepMachines$Text", "isProgramDone", "(ILStepMachines$Machine;)Z"⟩, 2) := ⟨⟨by decide +kernel, by decide +kernel⟩, List.mem_of_getElem? (i := 278) (by decide +kernel), List.mem_of_getElem? (i := 359) (by decide +kernel), List.mem_of_getElem? (i := 360) (by decide +kernel)⟩
theorem lw_p7 : lw_okq (⟨"StepMachines$Text", "programFrom", "(I)LStepMachines$Program;"⟩, 2) := ⟨⟨by decide +kernel, by decide +kernel⟩, List.mem_of_getElem? (i := 278) (by decide +kernel), List.mem_of_getElem? (i := 363) (by decide +kernel), List.mem_of_getElem? (i := 364) (by decide +kernel)⟩
theorem lw_p8 : lw_okq (⟨"StepMachines$Text", "isComingDone", "(ILStepMachines$Machine;)Z"⟩, 2) := ⟨⟨by decide +kernel, by decide +kernel⟩, List.mem_of_getElem? (i := 278) (by decide +kernel), List.mem_of_getElem? (i := 383) (by decide +kernel), List.mem_of_getElem? (i := 384) (by decide +kernel)⟩
theorem lw_p9 : lw_okq (⟨"StepMachines$Text", "twoDigits", "(I)I"⟩, 2) := ⟨⟨by decide +kernel, by decide +kernel⟩, List.mem_of_getElem? (i := 278) (by decide +kernel), List.mem_of_getElem? (i := 405) (by decide +kernel), List.mem_of_getElem? (i := 406) (by decide +kernel)⟩
theorem lw_p10 : lw_okq (⟨"StepMachines$Machine", "makeStep", "(IZ)V"⟩, 13) := ⟨⟨by decide +kernel, by decide +kernel⟩, List.mem_of_getElem? (i := 29) (by decide +kernel), List.mem_of_getElem? (i := 421) (by decide +kernel), List.mem_of_getElem? (i := 422) (by decide +kernel)⟩
theorem lw_p11 : lw_okq (⟨"StepMachines$Machine", "endTop", "(LStepMachines$Coroutine;)V"⟩, 13) := ⟨⟨by decide +kernel, by decide +kernel⟩, List.mem_of_getElem? (i := 29) (by decide +kernel), List.mem_of_getElem? (i := 429) (by decide +kernel), List.mem_of_getElem? (i := 430) (by decide +kernel)⟩
theorem lw_p12 : lw_okq (⟨"StepMachines$Machine", "throwFault", "(LStepMachines$Coroutine;I)V"⟩, 13) := ⟨⟨by decide +kernel, by decide +kernel⟩, List.mem_of_getElem? (i := 29) (by decide +kernel), List.mem_of_getElem? (i := 437) (by decide +kernel), List.mem_of_getElem? (i := 438) (by decide +kernel)⟩
theorem lw_p13 : lw_okq (⟨"StepMachines$Machine", "newFault", "(II)I"⟩, 13) := ⟨⟨by decide +kernel, by decide +kernel⟩, List.mem_of_getElem? (i := 29) (by decide +kernel), List.mem_of_getElem? (i := 449) (by decide +kernel), List.mem_of_getElem? (i := 450) (by decide +kernel)⟩
theorem lw_p14 : lw_okq (⟨"StepMachines$Machine", "makeLivelyStep", "(III)V"⟩, 13) := ⟨⟨by decide +kernel, by decide +kernel⟩, List.mem_of_getElem? (i := 29) (by decide +kernel), List.mem_of_getElem? (i := 453) (by decide +kernel), List.mem_of_getElem? (i := 454) (by decide +kernel)⟩
theorem lw_p15 : lw_okq (⟨"StepMachines$Machine", "goInto", "(LStepMachines$Coroutine;I)V"⟩, 13) := ⟨⟨by decide +kernel, by decide +kernel⟩, List.mem_of_getElem? (i := 29) (by decide +kernel), List.mem_of_getElem? (i := 461) (by decide +kernel), List.mem_of_getElem? (i := 462) (by decide +kernel)⟩
def lw_privs_1 : List (MethodName × Nat) := [(⟨"StepMachines", "refusalOfRow", "(I)I"⟩, 8), (⟨"StepMachines$Text", "endOfStatement", "(I)I"⟩, 2), (⟨"StepMachines$Text", "endOfProgram", "(I)I"⟩, 2), (⟨"StepMachines$Text", "endOfNumbers", "(II)I"⟩, 2), (⟨"StepMachines", "mindOfNow", "()LStepMachines$Machine;"⟩, 8), (⟨"StepMachines$Text", "digit", "(I)I"⟩, 2), (⟨"StepMachines$Text", "isProgramDone", "(ILStepMachines$Machine;)Z"⟩, 2), (⟨"StepMachines$Text", "programFrom", "(I)LStepMachines$Program;"⟩, 2), (⟨"StepMachines$Text", "isComingDone", "(ILStepMachines$Machine;)Z"⟩, 2), (⟨"StepMachines$Text", "twoDigits", "(I)I"⟩, 2), (⟨"StepMachines$Machine", "makeStep", "(IZ)V"⟩, 13), (⟨"StepMachines$Machine", "endTop", "(LStepMachines$Coroutine;)V"⟩, 13), (⟨"StepMachines$Machine", "throwFault", "(LStepMachines$Coroutine;I)V"⟩, 13), (⟨"StepMachines$Machine", "newFault", "(II)I"⟩, 13), (⟨"StepMachines$Machine", "makeLivelyStep", "(III)V"⟩, 13), (⟨"StepMachines$Machine", "goInto", "(LStepMachines$Coroutine;I)V"⟩, 13)]
theorem lw_r1 : ∀ q ∈ lw_privs_1, lw_okq q := List.forall_mem_cons.mpr ⟨lw_p0, List.forall_mem_cons.mpr ⟨lw_p1, List.forall_mem_cons.mpr ⟨lw_p2, List.forall_mem_cons.mpr ⟨lw_p3, List.forall_mem_cons.mpr ⟨lw_p4, List.forall_mem_cons.mpr ⟨lw_p5, List.forall_mem_cons.mpr ⟨lw_p6, List.forall_mem_cons.mpr ⟨lw_p7, List.forall_mem_cons.mpr ⟨lw_p8, List.forall_mem_cons.mpr ⟨lw_p9, List.forall_mem_cons.mpr ⟨lw_p10, List.forall_mem_cons.mpr ⟨lw_p11, List.forall_mem_cons.mpr ⟨lw_p12, List.forall_mem_cons.mpr ⟨lw_p13, List.forall_mem_cons.mpr ⟨lw_p14, List.forall_mem_cons.mpr ⟨lw_p15, fun _ h => absurd h List.not_mem_nil⟩⟩⟩⟩⟩⟩⟩⟩⟩⟩⟩⟩⟩⟩⟩⟩
theorem lw_p16 : lw_okq (⟨"StepMachines$Machine", "sendAt", "(II)V"⟩, 13) := ⟨⟨by decide +kernel, by decide +kernel⟩, List.mem_of_getElem? (i := 29) (by decide +kernel), List.mem_of_getElem? (i := 466) (by decide +kernel), List.mem_of_getElem? (i := 467) (by decide +kernel)⟩
theorem lw_p17 : lw_okq (⟨"StepMachines$Machine", "getAt", "(II)V"⟩, 13) := ⟨⟨by decide +kernel, by decide +kernel⟩, List.mem_of_getElem? (i := 29) (by decide +kernel), List.mem_of_getElem? (i := 486) (by decide +kernel), List.mem_of_getElem? (i := 487) (by decide +kernel)⟩
theorem lw_p18 : lw_okq (⟨"StepMachines$Machine", "haveEnd", "(LStepMachines$Coroutine;LStepMachines$Coroutine;)V"⟩, 13) := ⟨⟨by decide +kernel, by decide +kernel⟩, List.mem_of_getElem? (i := 29) (by decide +kernel), List.mem_of_getElem? (i := 494) (by decide +kernel), List.mem_of_getElem? (i := 495) (by decide +kernel)⟩
theorem lw_p19 : lw_okq (⟨"StepMachines$Text", "areRoundsDone", "(ILStepMachines$Machine;)Z"⟩, 2) := ⟨⟨by decide +kernel, by decide +kernel⟩, List.mem_of_getElem? (i := 278) (by decide +kernel), List.mem_of_getElem? (i := 506) (by decide +kernel), List.mem_of_getElem? (i := 507) (by decide +kernel)⟩
theorem lw_p20 : lw_okq (⟨"StepMachines$Machine", "lineUp", "()I"⟩, 13) := ⟨⟨by decide +kernel, by decide +kernel⟩, List.mem_of_getElem? (i := 29) (by decide +kernel), List.mem_of_getElem? (i := 514) (by decide +kernel), List.mem_of_getElem? (i := 515) (by decide +kernel)⟩
theorem lw_p21 : lw_okq (⟨"StepMachines", "refusalOfManner", "(I)I"⟩, 8) := ⟨⟨by decide +kernel, by decide +kernel⟩, List.mem_of_getElem? (i := 21) (by decide +kernel), List.mem_of_getElem? (i := 546) (by decide +kernel), List.mem_of_getElem? (i := 547) (by decide +kernel)⟩
theorem lw_p22 : lw_okq (⟨"StepMachines", "isCoroutine", "(I)Z"⟩, 8) := ⟨⟨by decide +kernel, by decide +kernel⟩, List.mem_of_getElem? (i := 21) (by decide +kernel), List.mem_of_getElem? (i := 555) (by decide +kernel), List.mem_of_getElem? (i := 556) (by decide +kernel)⟩
theorem lw_p23 : lw_okq (⟨"StepMachines", "heldTold", "(I)I"⟩, 8) := ⟨⟨by decide +kernel, by decide +kernel⟩, List.mem_of_getElem? (i := 21) (by decide +kernel), List.mem_of_getElem? (i := 572) (by decide +kernel), List.mem_of_getElem? (i := 573) (by decide +kernel)⟩
theorem lw_p24 : lw_okq (⟨"StepMachines", "othersDone", "(II)I"⟩, 8) := ⟨⟨by decide +kernel, by decide +kernel⟩, List.mem_of_getElem? (i := 21) (by decide +kernel), List.mem_of_getElem? (i := 660) (by decide +kernel), List.mem_of_getElem? (i := 661) (by decide +kernel)⟩
theorem lw_p25 : lw_okq (⟨"StepMachines", "yieldsAll", "(ILStepMachines$Row;)Z"⟩, 8) := ⟨⟨by decide +kernel, by decide +kernel⟩, List.mem_of_getElem? (i := 21) (by decide +kernel), List.mem_of_getElem? (i := 676) (by decide +kernel), List.mem_of_getElem? (i := 677) (by decide +kernel)⟩
theorem lw_p26 : lw_okq (⟨"StepMachines", "runByLot", "(LStepMachines$Machine;)V"⟩, 8) := ⟨⟨by decide +kernel, by decide +kernel⟩, List.mem_of_getElem? (i := 21) (by decide +kernel), List.mem_of_getElem? (i := 735) (by decide +kernel), List.mem_of_getElem? (i := 736) (by decide +kernel)⟩
theorem lw_p27 : lw_okq (⟨"StepMachines", "draw", "(I)I"⟩, 8) := ⟨⟨by decide +kernel, by decide +kernel⟩, List.mem_of_getElem? (i := 21) (by decide +kernel), List.mem_of_getElem? (i := 739) (by decide +kernel), List.mem_of_getElem? (i := 740) (by decide +kernel)⟩
theorem lw_p28 : lw_okq (⟨"StepMachines", "holdsNothing", "(I)Z"⟩, 8) := ⟨⟨by decide +kernel, by decide +kernel⟩, List.mem_of_getElem? (i := 21) (by decide +kernel), List.mem_of_getElem? (i := 797) (by decide +kernel), List.mem_of_getElem? (i := 798) (by decide +kernel)⟩
theorem lw_p29 : lw_okq (⟨"java/lang/Throwable", "fillInStackTrace", "(I)Ljava/lang/Throwable;"⟩, 6) := ⟨⟨by decide +kernel, by decide +kernel⟩, List.mem_of_getElem? (i := 860) (by decide +kernel), List.mem_of_getElem? (i := 858) (by decide +kernel), List.mem_of_getElem? (i := 859) (by decide +kernel)⟩
theorem lw_p30 : lw_okq (⟨"StepMachinesModel", "wrongRow", "(I)I"⟩, 58) := ⟨⟨by decide +kernel, by decide +kernel⟩, List.mem_of_getElem? (i := 923) (by decide +kernel), List.mem_of_getElem? (i := 1113) (by decide +kernel), List.mem_of_getElem? (i := 1114) (by decide +kernel)⟩
theorem lw_p31 : lw_okq (⟨"StepMachinesModel", "readStatement", "()V"⟩, 58) := ⟨⟨by decide +kernel, by decide +kernel⟩, List.mem_of_getElem? (i := 923) (by decide +kernel), List.mem_of_getElem? (i := 1121) (by decide +kernel), List.mem_of_getElem? (i := 1122) (by decide +kernel)⟩
def lw_privs_2 : List (MethodName × Nat) := [(⟨"StepMachines$Machine", "sendAt", "(II)V"⟩, 13), (⟨"StepMachines$Machine", "getAt", "(II)V"⟩, 13), (⟨"StepMachines$Machine", "haveEnd", "(LStepMachines$Coroutine;LStepMachines$Coroutine;)V"⟩, 13), (⟨"StepMachines$Text", "areRoundsDone", "(ILStepMachines$Machine;)Z"⟩, 2), (⟨"StepMachines$Machine", "lineUp", "()I"⟩, 13), (⟨"StepMachines", "refusalOfManner", "(I)I"⟩, 8), (⟨"StepMachines", "isCoroutine", "(I)Z"⟩, 8), (⟨"StepMachines", "heldTold", "(I)I"⟩, 8), (⟨"StepMachines", "othersDone", "(II)I"⟩, 8), (⟨"StepMachines", "yieldsAll", "(ILStepMachines$Row;)Z"⟩, 8), (⟨"StepMachines", "runByLot", "(LStepMachines$Machine;)V"⟩, 8), (⟨"StepMachines", "draw", "(I)I"⟩, 8), (⟨"StepMachines", "holdsNothing", "(I)Z"⟩, 8), (⟨"java/lang/Throwable", "fillInStackTrace", "(I)Ljava/lang/Throwable;"⟩, 6), (⟨"StepMachinesModel", "wrongRow", "(I)I"⟩, 58), (⟨"StepMachinesModel", "readStatement", "()V"⟩, 58)]
theorem lw_r2 : ∀ q ∈ lw_privs_2, lw_okq q := List.forall_mem_cons.mpr ⟨lw_p16, List.forall_mem_cons.mpr ⟨lw_p17, List.forall_mem_cons.mpr ⟨lw_p18, List.forall_mem_cons.mpr ⟨lw_p19, List.forall_mem_cons.mpr ⟨lw_p20, List.forall_mem_cons.mpr ⟨lw_p21, List.forall_mem_cons.mpr ⟨lw_p22, List.forall_mem_cons.mpr ⟨lw_p23, List.forall_mem_cons.mpr ⟨lw_p24, List.forall_mem_cons.mpr ⟨lw_p25, List.forall_mem_cons.mpr ⟨lw_p26, List.forall_mem_cons.mpr ⟨lw_p27, List.forall_mem_cons.mpr ⟨lw_p28, List.forall_mem_cons.mpr ⟨lw_p29, List.forall_mem_cons.mpr ⟨lw_p30, List.forall_mem_cons.mpr ⟨lw_p31, fun _ h => absurd h List.not_mem_nil⟩⟩⟩⟩⟩⟩⟩⟩⟩⟩⟩⟩⟩⟩⟩⟩
theorem lw_p32 : lw_okq (⟨"StepMachinesModel", "here", "()I"⟩, 58) := ⟨⟨by decide +kernel, by decide +kernel⟩, List.mem_of_getElem? (i := 923) (by decide +kernel), List.mem_of_getElem? (i := 1125) (by decide +kernel), List.mem_of_getElem? (i := 1126) (by decide +kernel)⟩
theorem lw_p33 : lw_okq (⟨"StepMachinesModel", "readNumbers", "(II)V"⟩, 58) := ⟨⟨by decide +kernel, by decide +kernel⟩, List.mem_of_getElem? (i := 923) (by decide +kernel), List.mem_of_getElem? (i := 1129) (by decide +kernel), List.mem_of_getElem? (i := 1130) (by decide +kernel)⟩
theorem lw_p34 : lw_okq (⟨"StepMachinesModel", "readDigits", "(I)I"⟩, 58) := ⟨⟨by decide +kernel, by decide +kernel⟩, List.mem_of_getElem? (i := 923) (by decide +kernel), List.mem_of_getElem? (i := 1133) (by decide +kernel), List.mem_of_getElem? (i := 1134) (by decide +kernel)⟩
theorem lw_p35 : lw_okq (⟨"StepMachinesModel", "readSteps", "(I)V"⟩, 58) := ⟨⟨by decide +kernel, by decide +kernel⟩, List.mem_of_getElem? (i := 923) (by decide +kernel), List.mem_of_getElem? (i := 1139) (by decide +kernel), List.mem_of_getElem? (i := 1140) (by decide +kernel)⟩
theorem lw_p36 : lw_okq (⟨"StepMachinesModel", "think", "()V"⟩, 58) := ⟨⟨by decide +kernel, by decide +kernel⟩, List.mem_of_getElem? (i := 923) (by decide +kernel), List.mem_of_getElem? (i := 1149) (by decide +kernel), List.mem_of_getElem? (i := 1150) (by decide +kernel)⟩
theorem lw_p37 : lw_okq (⟨"StepMachinesModel", "carryAll", "([IZ)V"⟩, 58) := ⟨⟨by decide +kernel, by decide +kernel⟩, List.mem_of_getElem? (i := 923) (by decide +kernel), List.mem_of_getElem? (i := 1153) (by decide +kernel), List.mem_of_getElem? (i := 1154) (by decide +kernel)⟩
theorem lw_p38 : lw_okq (⟨"StepMachinesModel", "carry", "(I)I"⟩, 58) := ⟨⟨by decide +kernel, by decide +kernel⟩, List.mem_of_getElem? (i := 923) (by decide +kernel), List.mem_of_getElem? (i := 1157) (by decide +kernel), List.mem_of_getElem? (i := 1158) (by decide +kernel)⟩
theorem lw_p39 : lw_okq (⟨"StepMachinesModel", "carryFrames", "()V"⟩, 58) := ⟨⟨by decide +kernel, by decide +kernel⟩, List.mem_of_getElem? (i := 923) (by decide +kernel), List.mem_of_getElem? (i := 1161) (by decide +kernel), List.mem_of_getElem? (i := 1162) (by decide +kernel)⟩
theorem lw_p40 : lw_okq (⟨"StepMachinesModel", "comesTold", "(I)Z"⟩, 58) := ⟨⟨by decide +kernel, by decide +kernel⟩, List.mem_of_getElem? (i := 923) (by decide +kernel), List.mem_of_getElem? (i := 1165) (by decide +kernel), List.mem_of_getElem? (i := 1166) (by decide +kernel)⟩
theorem lw_p41 : lw_okq (⟨"StepMachinesModel", "programTold", "(III)Z"⟩, 58) := ⟨⟨by decide +kernel, by decide +kernel⟩, List.mem_of_getElem? (i := 923) (by decide +kernel), List.mem_of_getElem? (i := 1169) (by decide +kernel), List.mem_of_getElem? (i := 1170) (by decide +kernel)⟩
theorem lw_p42 : lw_okq (⟨"StepMachinesModel", "oneComes", "(III)Z"⟩, 58) := ⟨⟨by decide +kernel, by decide +kernel⟩, List.mem_of_getElem? (i := 923) (by decide +kernel), List.mem_of_getElem? (i := 1173) (by decide +kernel), List.mem_of_getElem? (i := 1174) (by decide +kernel)⟩
theorem lw_p43 : lw_okq (⟨"StepMachinesModel", "frameComes", "(II)V"⟩, 58) := ⟨⟨by decide +kernel, by decide +kernel⟩, List.mem_of_getElem? (i := 923) (by decide +kernel), List.mem_of_getElem? (i := 1179) (by decide +kernel), List.mem_of_getElem? (i := 1180) (by decide +kernel)⟩
theorem lw_p44 : lw_okq (⟨"StepMachinesModel", "sendTold", "(II)Z"⟩, 58) := ⟨⟨by decide +kernel, by decide +kernel⟩, List.mem_of_getElem? (i := 923) (by decide +kernel), List.mem_of_getElem? (i := 1183) (by decide +kernel), List.mem_of_getElem? (i := 1184) (by decide +kernel)⟩
theorem lw_p45 : lw_okq (⟨"StepMachinesModel", "isOne", "(I)Z"⟩, 58) := ⟨⟨by decide +kernel, by decide +kernel⟩, List.mem_of_getElem? (i := 923) (by decide +kernel), List.mem_of_getElem? (i := 1187) (by decide +kernel), List.mem_of_getElem? (i := 1188) (by decide +kernel)⟩
theorem lw_p46 : lw_okq (⟨"StepMachinesModel", "isFree", "(I)Z"⟩, 58) := ⟨⟨by decide +kernel, by decide +kernel⟩, List.mem_of_getElem? (i := 923) (by decide +kernel), List.mem_of_getElem? (i := 1191) (by decide +kernel), List.mem_of_getElem? (i := 1192) (by decide +kernel)⟩
theorem lw_p47 : lw_okq (⟨"StepMachinesModel", "sendTo", "(II)V"⟩, 58) := ⟨⟨by decide +kernel, by decide +kernel⟩, List.mem_of_getElem? (i := 923) (by decide +kernel), List.mem_of_getElem? (i := 1195) (by decide +kernel), List.mem_of_getElem? (i := 1196) (by decide +kernel)⟩
def lw_privs_3 : List (MethodName × Nat) := [(⟨"StepMachinesModel", "here", "()I"⟩, 58), (⟨"StepMachinesModel", "readNumbers", "(II)V"⟩, 58), (⟨"StepMachinesModel", "readDigits", "(I)I"⟩, 58), (⟨"StepMachinesModel", "readSteps", "(I)V"⟩, 58), (⟨"StepMachinesModel", "think", "()V"⟩, 58), (⟨"StepMachinesModel", "carryAll", "([IZ)V"⟩, 58), (⟨"StepMachinesModel", "carry", "(I)I"⟩, 58), (⟨"StepMachinesModel", "carryFrames", "()V"⟩, 58), (⟨"StepMachinesModel", "comesTold", "(I)Z"⟩, 58), (⟨"StepMachinesModel", "programTold", "(III)Z"⟩, 58), (⟨"StepMachinesModel", "oneComes", "(III)Z"⟩, 58), (⟨"StepMachinesModel", "frameComes", "(II)V"⟩, 58), (⟨"StepMachinesModel", "sendTold", "(II)Z"⟩, 58), (⟨"StepMachinesModel", "isOne", "(I)Z"⟩, 58), (⟨"StepMachinesModel", "isFree", "(I)Z"⟩, 58), (⟨"StepMachinesModel", "sendTo", "(II)V"⟩, 58)]
theorem lw_r3 : ∀ q ∈ lw_privs_3, lw_okq q := List.forall_mem_cons.mpr ⟨lw_p32, List.forall_mem_cons.mpr ⟨lw_p33, List.forall_mem_cons.mpr ⟨lw_p34, List.forall_mem_cons.mpr ⟨lw_p35, List.forall_mem_cons.mpr ⟨lw_p36, List.forall_mem_cons.mpr ⟨lw_p37, List.forall_mem_cons.mpr ⟨lw_p38, List.forall_mem_cons.mpr ⟨lw_p39, List.forall_mem_cons.mpr ⟨lw_p40, List.forall_mem_cons.mpr ⟨lw_p41, List.forall_mem_cons.mpr ⟨lw_p42, List.forall_mem_cons.mpr ⟨lw_p43, List.forall_mem_cons.mpr ⟨lw_p44, List.forall_mem_cons.mpr ⟨lw_p45, List.forall_mem_cons.mpr ⟨lw_p46, List.forall_mem_cons.mpr ⟨lw_p47, fun _ h => absurd h List.not_mem_nil⟩⟩⟩⟩⟩⟩⟩⟩⟩⟩⟩⟩⟩⟩⟩⟩
theorem lw_p48 : lw_okq (⟨"StepMachinesModel", "sentOf", "(II)I"⟩, 58) := ⟨⟨by decide +kernel, by decide +kernel⟩, List.mem_of_getElem? (i := 923) (by decide +kernel), List.mem_of_getElem? (i := 1199) (by decide +kernel), List.mem_of_getElem? (i := 1200) (by decide +kernel)⟩
theorem lw_p49 : lw_okq (⟨"StepMachinesModel", "stepOf", "(IZ)V"⟩, 58) := ⟨⟨by decide +kernel, by decide +kernel⟩, List.mem_of_getElem? (i := 923) (by decide +kernel), List.mem_of_getElem? (i := 1203) (by decide +kernel), List.mem_of_getElem? (i := 1204) (by decide +kernel)⟩
theorem lw_p50 : lw_okq (⟨"StepMachinesModel", "top", "(I)I"⟩, 58) := ⟨⟨by decide +kernel, by decide +kernel⟩, List.mem_of_getElem? (i := 923) (by decide +kernel), List.mem_of_getElem? (i := 1207) (by decide +kernel), List.mem_of_getElem? (i := 1208) (by decide +kernel)⟩
theorem lw_p51 : lw_okq (⟨"StepMachinesModel", "frameEnds", "(I)V"⟩, 58) := ⟨⟨by decide +kernel, by decide +kernel⟩, List.mem_of_getElem? (i := 923) (by decide +kernel), List.mem_of_getElem? (i := 1211) (by decide +kernel), List.mem_of_getElem? (i := 1212) (by decide +kernel)⟩
theorem lw_p52 : lw_okq (⟨"StepMachinesModel", "throwsIt", "(II)V"⟩, 58) := ⟨⟨by decide +kernel, by decide +kernel⟩, List.mem_of_getElem? (i := 923) (by decide +kernel), List.mem_of_getElem? (i := 1215) (by decide +kernel), List.mem_of_getElem? (i := 1216) (by decide +kernel)⟩
theorem lw_p53 : lw_okq (⟨"StepMachinesModel", "finishOf", "(I)I"⟩, 58) := ⟨⟨by decide +kernel, by decide +kernel⟩, List.mem_of_getElem? (i := 923) (by decide +kernel), List.mem_of_getElem? (i := 1219) (by decide +kernel), List.mem_of_getElem? (i := 1220) (by decide +kernel)⟩
theorem lw_p54 : lw_okq (⟨"StepMachinesModel", "closesIt", "(I)V"⟩, 58) := ⟨⟨by decide +kernel, by decide +kernel⟩, List.mem_of_getElem? (i := 923) (by decide +kernel), List.mem_of_getElem? (i := 1223) (by decide +kernel), List.mem_of_getElem? (i := 1224) (by decide +kernel)⟩
theorem lw_p55 : lw_okq (⟨"StepMachinesModel", "doesPlain", "(IIII)V"⟩, 58) := ⟨⟨by decide +kernel, by decide +kernel⟩, List.mem_of_getElem? (i := 923) (by decide +kernel), List.mem_of_getElem? (i := 1227) (by decide +kernel), List.mem_of_getElem? (i := 1228) (by decide +kernel)⟩
theorem lw_p56 : lw_okq (⟨"StepMachinesModel", "faultComes", "(II)I"⟩, 58) := ⟨⟨by decide +kernel, by decide +kernel⟩, List.mem_of_getElem? (i := 923) (by decide +kernel), List.mem_of_getElem? (i := 1231) (by decide +kernel), List.mem_of_getElem? (i := 1232) (by decide +kernel)⟩
theorem lw_p57 : lw_okq (⟨"StepMachinesModel", "doesOther", "(IIII)V"⟩, 58) := ⟨⟨by decide +kernel, by decide +kernel⟩, List.mem_of_getElem? (i := 923) (by decide +kernel), List.mem_of_getElem? (i := 1235) (by decide +kernel), List.mem_of_getElem? (i := 1236) (by decide +kernel)⟩
theorem lw_p58 : lw_okq (⟨"StepMachinesModel", "yields", "(II)V"⟩, 58) := ⟨⟨by decide +kernel, by decide +kernel⟩, List.mem_of_getElem? (i := 923) (by decide +kernel), List.mem_of_getElem? (i := 1239) (by decide +kernel), List.mem_of_getElem? (i := 1240) (by decide +kernel)⟩
theorem lw_p59 : lw_okq (⟨"StepMachinesModel", "yieldOf", "(II)I"⟩, 58) := ⟨⟨by decide +kernel, by decide +kernel⟩, List.mem_of_getElem? (i := 923) (by decide +kernel), List.mem_of_getElem? (i := 1243) (by decide +kernel), List.mem_of_getElem? (i := 1244) (by decide +kernel)⟩
theorem lw_p60 : lw_okq (⟨"StepMachinesModel", "sends", "(II)V"⟩, 58) := ⟨⟨by decide +kernel, by decide +kernel⟩, List.mem_of_getElem? (i := 923) (by decide +kernel), List.mem_of_getElem? (i := 1250) (by decide +kernel), List.mem_of_getElem? (i := 1251) (by decide +kernel)⟩
theorem lw_p61 : lw_okq (⟨"StepMachinesModel", "firstOf", "(I)I"⟩, 58) := ⟨⟨by decide +kernel, by decide +kernel⟩, List.mem_of_getElem? (i := 923) (by decide +kernel), List.mem_of_getElem? (i := 1254) (by decide +kernel), List.mem_of_getElem? (i := 1255) (by decide +kernel)⟩
theorem lw_p62 : lw_okq (⟨"StepMachinesModel", "leaves", "(II)V"⟩, 58) := ⟨⟨by decide +kernel, by decide +kernel⟩, List.mem_of_getElem? (i := 923) (by decide +kernel), List.mem_of_getElem? (i := 1258) (by decide +kernel), List.mem_of_getElem? (i := 1259) (by decide +kernel)⟩
theorem lw_p63 : lw_okq (⟨"StepMachinesModel", "lineUp", "(III)V"⟩, 58) := ⟨⟨by decide +kernel, by decide +kernel⟩, List.mem_of_getElem? (i := 923) (by decide +kernel), List.mem_of_getElem? (i := 1262) (by decide +kernel), List.mem_of_getElem? (i := 1263) (by decide +kernel)⟩
def lw_privs_4 : List (MethodName × Nat) := [(⟨"StepMachinesModel", "sentOf", "(II)I"⟩, 58), (⟨"StepMachinesModel", "stepOf", "(IZ)V"⟩, 58), (⟨"StepMachinesModel", "top", "(I)I"⟩, 58), (⟨"StepMachinesModel", "frameEnds", "(I)V"⟩, 58), (⟨"StepMachinesModel", "throwsIt", "(II)V"⟩, 58), (⟨"StepMachinesModel", "finishOf", "(I)I"⟩, 58), (⟨"StepMachinesModel", "closesIt", "(I)V"⟩, 58), (⟨"StepMachinesModel", "doesPlain", "(IIII)V"⟩, 58), (⟨"StepMachinesModel", "faultComes", "(II)I"⟩, 58), (⟨"StepMachinesModel", "doesOther", "(IIII)V"⟩, 58), (⟨"StepMachinesModel", "yields", "(II)V"⟩, 58), (⟨"StepMachinesModel", "yieldOf", "(II)I"⟩, 58), (⟨"StepMachinesModel", "sends", "(II)V"⟩, 58), (⟨"StepMachinesModel", "firstOf", "(I)I"⟩, 58), (⟨"StepMachinesModel", "leaves", "(II)V"⟩, 58), (⟨"StepMachinesModel", "lineUp", "(III)V"⟩, 58)]
theorem lw_r4 : ∀ q ∈ lw_privs_4, lw_okq q := List.forall_mem_cons.mpr ⟨lw_p48, List.forall_mem_cons.mpr ⟨lw_p49, List.forall_mem_cons.mpr ⟨lw_p50, List.forall_mem_cons.mpr ⟨lw_p51, List.forall_mem_cons.mpr ⟨lw_p52, List.forall_mem_cons.mpr ⟨lw_p53, List.forall_mem_cons.mpr ⟨lw_p54, List.forall_mem_cons.mpr ⟨lw_p55, List.forall_mem_cons.mpr ⟨lw_p56, List.forall_mem_cons.mpr ⟨lw_p57, List.forall_mem_cons.mpr ⟨lw_p58, List.forall_mem_cons.mpr ⟨lw_p59, List.forall_mem_cons.mpr ⟨lw_p60, List.forall_mem_cons.mpr ⟨lw_p61, List.forall_mem_cons.mpr ⟨lw_p62, List.forall_mem_cons.mpr ⟨lw_p63, fun _ h => absurd h List.not_mem_nil⟩⟩⟩⟩⟩⟩⟩⟩⟩⟩⟩⟩⟩⟩⟩⟩
theorem lw_p64 : lw_okq (⟨"StepMachinesModel", "gets", "(II)V"⟩, 58) := ⟨⟨by decide +kernel, by decide +kernel⟩, List.mem_of_getElem? (i := 923) (by decide +kernel), List.mem_of_getElem? (i := 1266) (by decide +kernel), List.mem_of_getElem? (i := 1267) (by decide +kernel)⟩
theorem lw_p65 : lw_okq (⟨"StepMachinesModel", "joins", "(II)V"⟩, 58) := ⟨⟨by decide +kernel, by decide +kernel⟩, List.mem_of_getElem? (i := 923) (by decide +kernel), List.mem_of_getElem? (i := 1270) (by decide +kernel), List.mem_of_getElem? (i := 1271) (by decide +kernel)⟩
theorem lw_p66 : lw_okq (⟨"StepMachinesModel", "isEnded", "(I)Z"⟩, 58) := ⟨⟨by decide +kernel, by decide +kernel⟩, List.mem_of_getElem? (i := 923) (by decide +kernel), List.mem_of_getElem? (i := 1274) (by decide +kernel), List.mem_of_getElem? (i := 1275) (by decide +kernel)⟩
theorem lw_p67 : lw_okq (⟨"StepMachinesModel", "hasJoined", "(II)V"⟩, 58) := ⟨⟨by decide +kernel, by decide +kernel⟩, List.mem_of_getElem? (i := 923) (by decide +kernel), List.mem_of_getElem? (i := 1278) (by decide +kernel), List.mem_of_getElem? (i := 1279) (by decide +kernel)⟩
theorem lw_p68 : lw_okq (⟨"StepMachinesModel", "deeper", "(II)V"⟩, 58) := ⟨⟨by decide +kernel, by decide +kernel⟩, List.mem_of_getElem? (i := 923) (by decide +kernel), List.mem_of_getElem? (i := 1282) (by decide +kernel), List.mem_of_getElem? (i := 1283) (by decide +kernel)⟩
theorem lw_p69 : lw_okq (⟨"StepMachinesModel", "settle", "()V"⟩, 58) := ⟨⟨by decide +kernel, by decide +kernel⟩, List.mem_of_getElem? (i := 923) (by decide +kernel), List.mem_of_getElem? (i := 1286) (by decide +kernel), List.mem_of_getElem? (i := 1287) (by decide +kernel)⟩
theorem lw_p70 : lw_okq (⟨"StepMachinesModel", "closeTold", "(I)Z"⟩, 58) := ⟨⟨by decide +kernel, by decide +kernel⟩, List.mem_of_getElem? (i := 923) (by decide +kernel), List.mem_of_getElem? (i := 1290) (by decide +kernel), List.mem_of_getElem? (i := 1291) (by decide +kernel)⟩
theorem lw_p71 : lw_okq (⟨"StepMachinesModel", "closing", "(I)V"⟩, 58) := ⟨⟨by decide +kernel, by decide +kernel⟩, List.mem_of_getElem? (i := 923) (by decide +kernel), List.mem_of_getElem? (i := 1294) (by decide +kernel), List.mem_of_getElem? (i := 1295) (by decide +kernel)⟩
theorem lw_p72 : lw_okq (⟨"StepMachinesModel", "roundsTold", "(I)Z"⟩, 58) := ⟨⟨by decide +kernel, by decide +kernel⟩, List.mem_of_getElem? (i := 923) (by decide +kernel), List.mem_of_getElem? (i := 1299) (by decide +kernel), List.mem_of_getElem? (i := 1300) (by decide +kernel)⟩
theorem lw_p73 : lw_okq (⟨"StepMachinesModel", "goRounds", "(I)V"⟩, 58) := ⟨⟨by decide +kernel, by decide +kernel⟩, List.mem_of_getElem? (i := 923) (by decide +kernel), List.mem_of_getElem? (i := 1304) (by decide +kernel), List.mem_of_getElem? (i := 1305) (by decide +kernel)⟩
theorem lw_p74 : lw_okq (⟨"StepMachinesModel", "roundOn", "(Z)V"⟩, 58) := ⟨⟨by decide +kernel, by decide +kernel⟩, List.mem_of_getElem? (i := 923) (by decide +kernel), List.mem_of_getElem? (i := 1308) (by decide +kernel), List.mem_of_getElem? (i := 1309) (by decide +kernel)⟩
theorem lw_p75 : lw_okq (⟨"StepMachinesModel", "isAhead", "(II)Z"⟩, 58) := ⟨⟨by decide +kernel, by decide +kernel⟩, List.mem_of_getElem? (i := 923) (by decide +kernel), List.mem_of_getElem? (i := 1315) (by decide +kernel), List.mem_of_getElem? (i := 1316) (by decide +kernel)⟩
theorem lw_p76 : lw_okq (⟨"StepMachinesModel", "weightOf", "(I)I"⟩, 58) := ⟨⟨by decide +kernel, by decide +kernel⟩, List.mem_of_getElem? (i := 923) (by decide +kernel), List.mem_of_getElem? (i := 1319) (by decide +kernel), List.mem_of_getElem? (i := 1320) (by decide +kernel)⟩
theorem lw_p77 : lw_okq (⟨"StepMachinesModel", "again", "()V"⟩, 58) := ⟨⟨by decide +kernel, by decide +kernel⟩, List.mem_of_getElem? (i := 923) (by decide +kernel), List.mem_of_getElem? (i := 1323) (by decide +kernel), List.mem_of_getElem? (i := 1324) (by decide +kernel)⟩
theorem lw_p78 : lw_okq (⟨"StepMachinesModel", "wrongKept", "(I)I"⟩, 58) := ⟨⟨by decide +kernel, by decide +kernel⟩, List.mem_of_getElem? (i := 923) (by decide +kernel), List.mem_of_getElem? (i := 1344) (by decide +kernel), List.mem_of_getElem? (i := 1345) (by decide +kernel)⟩
theorem lw_p79 : lw_okq (⟨"StepMachinesModel", "waits", "(I)Z"⟩, 58) := ⟨⟨by decide +kernel, by decide +kernel⟩, List.mem_of_getElem? (i := 923) (by decide +kernel), List.mem_of_getElem? (i := 1353) (by decide +kernel), List.mem_of_getElem? (i := 1354) (by decide +kernel)⟩
def lw_privs_5 : List (MethodName × Nat) := [(⟨"StepMachinesModel", "gets", "(II)V"⟩, 58), (⟨"StepMachinesModel", "joins", "(II)V"⟩, 58), (⟨"StepMachinesModel", "isEnded", "(I)Z"⟩, 58), (⟨"StepMachinesModel", "hasJoined", "(II)V"⟩, 58), (⟨"StepMachinesModel", "deeper", "(II)V"⟩, 58), (⟨"StepMachinesModel", "settle", "()V"⟩, 58), (⟨"StepMachinesModel", "closeTold", "(I)Z"⟩, 58), (⟨"StepMachinesModel", "closing", "(I)V"⟩, 58), (⟨"StepMachinesModel", "roundsTold", "(I)Z"⟩, 58), (⟨"StepMachinesModel", "goRounds", "(I)V"⟩, 58), (⟨"StepMachinesModel", "roundOn", "(Z)V"⟩, 58), (⟨"StepMachinesModel", "isAhead", "(II)Z"⟩, 58), (⟨"StepMachinesModel", "weightOf", "(I)I"⟩, 58), (⟨"StepMachinesModel", "again", "()V"⟩, 58), (⟨"StepMachinesModel", "wrongKept", "(I)I"⟩, 58), (⟨"StepMachinesModel", "waits", "(I)Z"⟩, 58)]
theorem lw_r5 : ∀ q ∈ lw_privs_5, lw_okq q := List.forall_mem_cons.mpr ⟨lw_p64, List.forall_mem_cons.mpr ⟨lw_p65, List.forall_mem_cons.mpr ⟨lw_p66, List.forall_mem_cons.mpr ⟨lw_p67, List.forall_mem_cons.mpr ⟨lw_p68, List.forall_mem_cons.mpr ⟨lw_p69, List.forall_mem_cons.mpr ⟨lw_p70, List.forall_mem_cons.mpr ⟨lw_p71, List.forall_mem_cons.mpr ⟨lw_p72, List.forall_mem_cons.mpr ⟨lw_p73, List.forall_mem_cons.mpr ⟨lw_p74, List.forall_mem_cons.mpr ⟨lw_p75, List.forall_mem_cons.mpr ⟨lw_p76, List.forall_mem_cons.mpr ⟨lw_p77, List.forall_mem_cons.mpr ⟨lw_p78, List.forall_mem_cons.mpr ⟨lw_p79, fun _ h => absurd h List.not_mem_nil⟩⟩⟩⟩⟩⟩⟩⟩⟩⟩⟩⟩⟩⟩⟩⟩
theorem lw_p80 : lw_okq (⟨"StepMachinesModel", "faultMany", "(I)I"⟩, 58) := ⟨⟨by decide +kernel, by decide +kernel⟩, List.mem_of_getElem? (i := 923) (by decide +kernel), List.mem_of_getElem? (i := 1358) (by decide +kernel), List.mem_of_getElem? (i := 1359) (by decide +kernel)⟩
theorem lw_p81 : lw_okq (⟨"StepMachinesModel", "ofOne", "(II)I"⟩, 58) := ⟨⟨by decide +kernel, by decide +kernel⟩, List.mem_of_getElem? (i := 923) (by decide +kernel), List.mem_of_getElem? (i := 1362) (by decide +kernel), List.mem_of_getElem? (i := 1363) (by decide +kernel)⟩
theorem lw_p82 : lw_okq (⟨"StepMachinesModel", "endedBits", "()I"⟩, 58) := ⟨⟨by decide +kernel, by decide +kernel⟩, List.mem_of_getElem? (i := 923) (by decide +kernel), List.mem_of_getElem? (i := 1396) (by decide +kernel), List.mem_of_getElem? (i := 1397) (by decide +kernel)⟩
theorem lw_p83 : lw_okq (⟨"StepMachinesModel", "anyFree", "()Z"⟩, 58) := ⟨⟨by decide +kernel, by decide +kernel⟩, List.mem_of_getElem? (i := 923) (by decide +kernel), List.mem_of_getElem? (i := 1415) (by decide +kernel), List.mem_of_getElem? (i := 1416) (by decide +kernel)⟩
theorem lw_p84 : lw_okq (⟨"StepMachinesModel", "doneBut", "(I)I"⟩, 58) := ⟨⟨by decide +kernel, by decide +kernel⟩, List.mem_of_getElem? (i := 923) (by decide +kernel), List.mem_of_getElem? (i := 1428) (by decide +kernel), List.mem_of_getElem? (i := 1429) (by decide +kernel)⟩
theorem lw_p85 : lw_okq (⟨"StepMachinesModel", "isYieldRow", "(II)Z"⟩, 58) := ⟨⟨by decide +kernel, by decide +kernel⟩, List.mem_of_getElem? (i := 923) (by decide +kernel), List.mem_of_getElem? (i := 1444) (by decide +kernel), List.mem_of_getElem? (i := 1445) (by decide +kernel)⟩
theorem lw_p86 : lw_okq (⟨"StepMachinesModel", "isSkipped", "(II)Z"⟩, 58) := ⟨⟨by decide +kernel, by decide +kernel⟩, List.mem_of_getElem? (i := 923) (by decide +kernel), List.mem_of_getElem? (i := 1448) (by decide +kernel), List.mem_of_getElem? (i := 1449) (by decide +kernel)⟩
theorem lw_p87 : lw_okq (⟨"StepMachinesModel", "layOuts", "(III)V"⟩, 58) := ⟨⟨by decide +kernel, by decide +kernel⟩, List.mem_of_getElem? (i := 923) (by decide +kernel), List.mem_of_getElem? (i := 1463) (by decide +kernel), List.mem_of_getElem? (i := 1464) (by decide +kernel)⟩
theorem lw_p88 : lw_okq (⟨"StepMachinesModel", "closesIf", "(IZ)V"⟩, 58) := ⟨⟨by decide +kernel, by decide +kernel⟩, List.mem_of_getElem? (i := 923) (by decide +kernel), List.mem_of_getElem? (i := 1471) (by decide +kernel), List.mem_of_getElem? (i := 1472) (by decide +kernel)⟩
theorem lw_p89 : lw_okq (⟨"StepMachinesModel", "gainOf", "(IIZ)I"⟩, 58) := ⟨⟨by decide +kernel, by decide +kernel⟩, List.mem_of_getElem? (i := 923) (by decide +kernel), List.mem_of_getElem? (i := 1475) (by decide +kernel), List.mem_of_getElem? (i := 1476) (by decide +kernel)⟩
theorem lw_p90 : lw_okq (⟨"StepMachinesModel", "allOuts", "()I"⟩, 58) := ⟨⟨by decide +kernel, by decide +kernel⟩, List.mem_of_getElem? (i := 923) (by decide +kernel), List.mem_of_getElem? (i := 1506) (by decide +kernel), List.mem_of_getElem? (i := 1507) (by decide +kernel)⟩
theorem lw_p91 : lw_okq (⟨"StepMachinesModel", "drawBelow", "(I)I"⟩, 58) := ⟨⟨by decide +kernel, by decide +kernel⟩, List.mem_of_getElem? (i := 923) (by decide +kernel), List.mem_of_getElem? (i := 1510) (by decide +kernel), List.mem_of_getElem? (i := 1511) (by decide +kernel)⟩
theorem lw_p92 : lw_okq (⟨"StepMachinesModel", "waitingBits", "()I"⟩, 58) := ⟨⟨by decide +kernel, by decide +kernel⟩, List.mem_of_getElem? (i := 923) (by decide +kernel), List.mem_of_getElem? (i := 1521) (by decide +kernel), List.mem_of_getElem? (i := 1522) (by decide +kernel)⟩
def lw_privs_6 : List (MethodName × Nat) := [(⟨"StepMachinesModel", "faultMany", "(I)I"⟩, 58), (⟨"StepMachinesModel", "ofOne", "(II)I"⟩, 58), (⟨"StepMachinesModel", "endedBits", "()I"⟩, 58), (⟨"StepMachinesModel", "anyFree", "()Z"⟩, 58), (⟨"StepMachinesModel", "doneBut", "(I)I"⟩, 58), (⟨"StepMachinesModel", "isYieldRow", "(II)Z"⟩, 58), (⟨"StepMachinesModel", "isSkipped", "(II)Z"⟩, 58), (⟨"StepMachinesModel", "layOuts", "(III)V"⟩, 58), (⟨"StepMachinesModel", "closesIf", "(IZ)V"⟩, 58), (⟨"StepMachinesModel", "gainOf", "(IIZ)I"⟩, 58), (⟨"StepMachinesModel", "allOuts", "()I"⟩, 58), (⟨"StepMachinesModel", "drawBelow", "(I)I"⟩, 58), (⟨"StepMachinesModel", "waitingBits", "()I"⟩, 58)]
theorem lw_r6 : ∀ q ∈ lw_privs_6, lw_okq q := List.forall_mem_cons.mpr ⟨lw_p80, List.forall_mem_cons.mpr ⟨lw_p81, List.forall_mem_cons.mpr ⟨lw_p82, List.forall_mem_cons.mpr ⟨lw_p83, List.forall_mem_cons.mpr ⟨lw_p84, List.forall_mem_cons.mpr ⟨lw_p85, List.forall_mem_cons.mpr ⟨lw_p86, List.forall_mem_cons.mpr ⟨lw_p87, List.forall_mem_cons.mpr ⟨lw_p88, List.forall_mem_cons.mpr ⟨lw_p89, List.forall_mem_cons.mpr ⟨lw_p90, List.forall_mem_cons.mpr ⟨lw_p91, List.forall_mem_cons.mpr ⟨lw_p92, fun _ h => absurd h List.not_mem_nil⟩⟩⟩⟩⟩⟩⟩⟩⟩⟩⟩⟩⟩
def lw_privs : List (MethodName × Nat) := lw_privs_1 ++ (lw_privs_2 ++ (lw_privs_3 ++ (lw_privs_4 ++ (lw_privs_5 ++ (lw_privs_6)))))
def lw_tbl : List Cond := k2_sels lw_privs ++ tables_1
theorem lw_privs_ok : ∀ q ∈ lw_privs, lw_okq q := by
  show ∀ q ∈ lw_privs_1 ++ (lw_privs_2 ++ (lw_privs_3 ++ (lw_privs_4 ++ (lw_privs_5 ++ (lw_privs_6))))), lw_okq q
  exact List.forall_mem_append.mpr ⟨lw_r1, List.forall_mem_append.mpr ⟨lw_r2, List.forall_mem_append.mpr ⟨lw_r3, List.forall_mem_append.mpr ⟨lw_r4, List.forall_mem_append.mpr ⟨lw_r5, lw_r6⟩⟩⟩⟩⟩
-- ===== end of PART A; then your names; then what follows =====
/-! ===== BEGIN words of one list among another's, by their places ===== -/
theorem goodIn_r {big : List Cond} (ws : List Cond) (ps : List Nat) (hp : ws = ps.filterMap (fun i => big[i]?)) (h : ws.all goodWord = true) : GoodIn big ws := by
  intro w hw
  have h1 := List.all_eq_true.mp h w hw
  rw [hp] at hw
  obtain ⟨i, -, hi⟩ := List.mem_filterMap.mp hw
  have hm : w ∈ big := by first | exact List.mem_of_getElem? hi | exact List.getElem?_mem hi
  exact ⟨hm, good_of_word h1⟩
theorem goodIn_app {big a b : List Cond} (ha : GoodIn big a) (hb : GoodIn big b) : GoodIn big (a ++ b) := fun w h => (List.mem_append.mp h).elim (ha w) (hb w)
theorem goodIn_ca {big a b : List Cond} {c : Cond} (ha : GoodIn big (c :: a)) (hb : GoodIn big b) : GoodIn big (c :: (a ++ b)) := fun w h => (List.mem_cons.mp h).elim (fun e => ha w (List.mem_cons.mpr (Or.inl e))) (fun h => (List.mem_append.mp h).elim (fun h => ha w (List.mem_cons.mpr (Or.inr h))) (hb w))
theorem goodIn_sub {big ws : List Cond} (hm : ∀ w ∈ ws, w ∈ big) (h : ws.all goodWord = true) : GoodIn big ws := fun w hw => ⟨hm w hw, good_of_word (List.all_eq_true.mp h w hw)⟩
/-! ===== END ===== -/
def RX0 : String := "StepMachines$Coroutine"
def TX0 : u_T := fun k => match k with
  | 0 => ("StepMachines$Coroutine", "program", "I", false)
  | 1 => ("StepMachines$Coroutine", "manner", "LStepMachines$Manner;", false)
  | 2 => ("StepMachines$Coroutine", "state", "I", false)
  | 3 => ("StepMachines$Coroutine", "acc", "I", false)
  | 4 => ("StepMachines$Coroutine", "out", "I", false)
  | 5 => ("StepMachines$Coroutine", "outs", "I", false)
  | 6 => ("StepMachines$Coroutine", "age", "I", false)
  | 7 => ("StepMachines$Coroutine", "waitsFor", "I", false)
  | 8 => ("StepMachines$Coroutine", "fault", "I", false)
  | 9 => ("StepMachines$Coroutine", "depth", "I", false)
  | _ => ("StepMachines$Coroutine", "frames", "[LStepMachines$Frame;", true)
def tyX0 : Nat → FieldType := fun k => match k with
  | 0 => .int
  | 1 => .object "StepMachines$Manner"
  | 2 => .int
  | 3 => .int
  | 4 => .int
  | 5 => .int
  | 6 => .int
  | 7 => .int
  | 8 => .int
  | 9 => .int
  | _ => .array (.object "StepMachines$Frame")
abbrev wsX00 : List Cond := u_ws RX0 TX0 11
theorem nmX0 : ∀ a, a < 11 → ∀ b, b < 11 → a ≠ b → (TX0 a).2.1 ≠ (TX0 b).2.1 := by decide +kernel
theorem tyX0_ok : ∀ k, k < 11 → parseFieldDescriptor (TX0 k).2.2.1 = some (tyX0 k) := by decide +kernel
abbrev cX0_init : ByteArray := prog_2_method_1_code
def yX0_init : MethodName := ⟨RX0, "<init>", "()V"⟩
abbrev cX0_begin : ByteArray := prog_2_method_2_code
def yX0_begin : MethodName := ⟨RX0, "begin", "(LStepMachines$Program;ILStepMachines$Manner;)V"⟩
abbrev cX0_become : ByteArray := prog_2_method_3_code
def yX0_become : MethodName := ⟨RX0, "become", "(LStepMachines$Coroutine;)V"⟩
abbrev cX0_isEnded : ByteArray := prog_2_method_4_code
def yX0_isEnded : MethodName := ⟨RX0, "isEnded", "()Z"⟩
abbrev cX0_canGo : ByteArray := prog_2_method_5_code
def yX0_canGo : MethodName := ⟨RX0, "canGo", "()Z"⟩
abbrev cX0_takeIn : ByteArray := prog_2_method_6_code
def yX0_takeIn : MethodName := ⟨RX0, "takeIn", "(I)V"⟩
abbrev cX0_growOlder : ByteArray := prog_2_method_7_code
def yX0_growOlder : MethodName := ⟨RX0, "growOlder", "()V"⟩
abbrev cX0_waitFor : ByteArray := prog_2_method_8_code
def yX0_waitFor : MethodName := ⟨RX0, "waitFor", "(II)V"⟩
abbrev cX0_goOn : ByteArray := prog_2_method_9_code
def yX0_goOn : MethodName := ⟨RX0, "goOn", "()V"⟩
abbrev cX0_figureTold : ByteArray := prog_2_method_10_code
def yX0_figureTold : MethodName := ⟨RX0, "figureTold", "(I)I"⟩
abbrev cX0_closeTop : ByteArray := prog_2_method_11_code
def yX0_closeTop : MethodName := ⟨RX0, "closeTop", "()V"⟩
def RX1 : String := "StepMachines$Frame"
def TX1 : u_T := fun k => match k with
  | 0 => ("StepMachines$Frame", "program", "LStepMachines$Program;", false)
  | 1 => ("StepMachines$Frame", "number", "I", false)
  | 2 => ("StepMachines$Frame", "step", "I", false)
  | 3 => ("StepMachines$Frame", "count", "I", false)
  | 4 => ("StepMachines$Frame", "finishing", "Z", false)
  | _ => ("StepMachines$Frame", "held", "I", false)
def tyX1 : Nat → FieldType := fun k => match k with
  | 0 => .object "StepMachines$Program"
  | 1 => .int
  | 2 => .int
  | 3 => .int
  | 4 => .boolean
  | _ => .int
abbrev wsX10 : List Cond := u_ws RX1 TX1 6
theorem nmX1 : ∀ a, a < 6 → ∀ b, b < 6 → a ≠ b → (TX1 a).2.1 ≠ (TX1 b).2.1 := by decide +kernel
theorem tyX1_ok : ∀ k, k < 6 → parseFieldDescriptor (TX1 k).2.2.1 = some (tyX1 k) := by decide +kernel
abbrev cX1_init : ByteArray := prog_3_method_1_code
def yX1_init : MethodName := ⟨RX1, "<init>", "()V"⟩
abbrev cX1_begin : ByteArray := prog_3_method_2_code
def yX1_begin : MethodName := ⟨RX1, "begin", "(LStepMachines$Program;I)V"⟩
abbrev cX1_become : ByteArray := prog_3_method_3_code
def yX1_become : MethodName := ⟨RX1, "become", "(LStepMachines$Frame;)V"⟩
def RX2 : String := "StepMachines$Machine"
def TX2 : u_T := fun k => match k with
  | 0 => ("StepMachines$Machine", "programs", "[LStepMachines$Program;", true)
  | 1 => ("StepMachines$Machine", "coroutines", "[LStepMachines$Coroutine;", true)
  | 2 => ("StepMachines$Machine", "senders", "[LStepMachines$Queue;", true)
  | 3 => ("StepMachines$Machine", "getters", "[LStepMachines$Queue;", true)
  | 4 => ("StepMachines$Machine", "count", "I", false)
  | 5 => ("StepMachines$Machine", "width", "I", false)
  | 6 => ("StepMachines$Machine", "round", "I", false)
  | 7 => ("StepMachines$Machine", "yielded", "I", false)
  | 8 => ("StepMachines$Machine", "line", "[I", true)
  | 9 => ("StepMachines$Machine", "ranks", "[I", true)
  | 10 => ("StepMachines$Machine", "codes", "[I", true)
  | 11 => ("StepMachines$Machine", "causes", "[I", true)
  | _ => ("StepMachines$Machine", "faults", "I", false)
def tyX2 : Nat → FieldType := fun k => match k with
  | 0 => .array (.object "StepMachines$Program")
  | 1 => .array (.object "StepMachines$Coroutine")
  | 2 => .array (.object "StepMachines$Queue")
  | 3 => .array (.object "StepMachines$Queue")
  | 4 => .int
  | 5 => .int
  | 6 => .int
  | 7 => .int
  | 8 => .array .int
  | 9 => .array .int
  | 10 => .array .int
  | 11 => .array .int
  | _ => .int
abbrev wsX20 : List Cond := u_ws RX2 TX2 13
theorem nmX2 : ∀ a, a < 13 → ∀ b, b < 13 → a ≠ b → (TX2 a).2.1 ≠ (TX2 b).2.1 := by decide +kernel
theorem tyX2_ok : ∀ k, k < 13 → parseFieldDescriptor (TX2 k).2.2.1 = some (tyX2 k) := by decide +kernel
abbrev cX2_init : ByteArray := prog_4_method_1_code
def yX2_init : MethodName := ⟨RX2, "<init>", "()V"⟩
abbrev cX2_become : ByteArray := prog_4_method_2_code
def yX2_become : MethodName := ⟨RX2, "become", "(LStepMachines$Machine;)V"⟩
abbrev cX2_allBits : ByteArray := prog_4_method_3_code
def yX2_allBits : MethodName := ⟨RX2, "allBits", "()I"⟩
abbrev cX2_endedBits : ByteArray := prog_4_method_4_code
def yX2_endedBits : MethodName := ⟨RX2, "endedBits", "()I"⟩
abbrev cX2_doneBits : ByteArray := prog_4_method_5_code
def yX2_doneBits : MethodName := ⟨RX2, "doneBits", "()I"⟩
abbrev cX2_ableBits : ByteArray := prog_4_method_6_code
def yX2_ableBits : MethodName := ⟨RX2, "ableBits", "()I"⟩
abbrev cX2_outsOfAll : ByteArray := prog_4_method_7_code
def yX2_outsOfAll : MethodName := ⟨RX2, "outsOfAll", "()I"⟩
abbrev cX2_codeOf : ByteArray := prog_4_method_8_code
def yX2_codeOf : MethodName := ⟨RX2, "codeOf", "(I)I"⟩
abbrev cX2_causeOf : ByteArray := prog_4_method_9_code
def yX2_causeOf : MethodName := ⟨RX2, "causeOf", "(I)I"⟩
abbrev cX2_faultsOf : ByteArray := prog_4_method_10_code
def yX2_faultsOf : MethodName := ⟨RX2, "faultsOf", "(I)I"⟩
abbrev cX2_add : ByteArray := prog_4_method_11_code
def yX2_add : MethodName := ⟨RX2, "add", "(ILStepMachines$Manner;)I"⟩
abbrev cX2_sendTo : ByteArray := prog_4_method_12_code
def yX2_sendTo : MethodName := ⟨RX2, "sendTo", "(II)V"⟩
abbrev cX2_closeDown : ByteArray := prog_4_method_13_code
def yX2_closeDown : MethodName := ⟨RX2, "closeDown", "(I)V"⟩
abbrev cX2_makeRounds : ByteArray := prog_4_method_14_code
def yX2_makeRounds : MethodName := ⟨RX2, "makeRounds", "(I)V"⟩
abbrev cX2_makeRound : ByteArray := prog_4_method_15_code
def yX2_makeRound : MethodName := ⟨RX2, "makeRound", "()Z"⟩
abbrev cX2_loseRound : ByteArray := prog_4_method_16_code
def yX2_loseRound : MethodName := ⟨RX2, "loseRound", "()V"⟩
abbrev cX2_lineUp : ByteArray := prog_4_method_17_code
def yX2_lineUp : MethodName := ⟨RX2, "lineUp", "()I"⟩
abbrev cX2_makeStep : ByteArray := prog_4_method_18_code
def yX2_makeStep : MethodName := ⟨RX2, "makeStep", "(IZ)V"⟩
abbrev cX2_makeLivelyStep : ByteArray := prog_4_method_19_code
def yX2_makeLivelyStep : MethodName := ⟨RX2, "makeLivelyStep", "(III)V"⟩
abbrev cX2_goInto : ByteArray := prog_4_method_20_code
def yX2_goInto : MethodName := ⟨RX2, "goInto", "(LStepMachines$Coroutine;I)V"⟩
abbrev cX2_sendAt : ByteArray := prog_4_method_21_code
def yX2_sendAt : MethodName := ⟨RX2, "sendAt", "(II)V"⟩
abbrev cX2_getAt : ByteArray := prog_4_method_22_code
def yX2_getAt : MethodName := ⟨RX2, "getAt", "(II)V"⟩
abbrev cX2_haveEnd : ByteArray := prog_4_method_23_code
def yX2_haveEnd : MethodName := ⟨RX2, "haveEnd", "(LStepMachines$Coroutine;LStepMachines$Coroutine;)V"⟩
abbrev cX2_tellJoining : ByteArray := prog_4_method_24_code
def yX2_tellJoining : MethodName := ⟨RX2, "tellJoining", "(LStepMachines$Machine;II)V"⟩
abbrev cX2_endTop : ByteArray := prog_4_method_25_code
def yX2_endTop : MethodName := ⟨RX2, "endTop", "(LStepMachines$Coroutine;)V"⟩
abbrev cX2_newFault : ByteArray := prog_4_method_26_code
def yX2_newFault : MethodName := ⟨RX2, "newFault", "(II)I"⟩
abbrev cX2_throwFault : ByteArray := prog_4_method_27_code
def yX2_throwFault : MethodName := ⟨RX2, "throwFault", "(LStepMachines$Coroutine;I)V"⟩
def RX3 : String := "StepMachines$Manner"
def TX3 : u_T := fun k => match k with
  | 0 => ("StepMachines$Manner", "kind", "I", true)
  | _ => ("StepMachines$Manner", "figure", "I", true)
def tyX3 : Nat → FieldType := fun k => match k with
  | 0 => .int
  | _ => .int
abbrev wsX30 : List Cond := u_ws RX3 TX3 2
theorem nmX3 : ∀ a, a < 2 → ∀ b, b < 2 → a ≠ b → (TX3 a).2.1 ≠ (TX3 b).2.1 := by decide +kernel
theorem tyX3_ok : ∀ k, k < 2 → parseFieldDescriptor (TX3 k).2.2.1 = some (tyX3 k) := by decide +kernel
abbrev cX3_init : ByteArray := prog_5_method_1_code
def yX3_init : MethodName := ⟨RX3, "<init>", "(II)V"⟩
abbrev cX3_weight : ByteArray := prog_5_method_2_code
def yX3_weight : MethodName := ⟨RX3, "weight", "()I"⟩
abbrev cX3_yields : ByteArray := prog_5_method_3_code
def yX3_yields : MethodName := ⟨RX3, "yields", "(I)I"⟩
abbrev cX3_takes : ByteArray := prog_5_method_4_code
def yX3_takes : MethodName := ⟨RX3, "takes", "(II)I"⟩
abbrev cX3_price : ByteArray := prog_5_method_5_code
def yX3_price : MethodName := ⟨RX3, "price", "()I"⟩
abbrev cX3_fail : ByteArray := prog_5_method_6_code
def yX3_fail : MethodName := ⟨RX3, "fail", "()V"⟩
abbrev cX3_failure : ByteArray := prog_5_method_7_code
def yX3_failure : MethodName := ⟨RX3, "failure", "()I"⟩
def RX4 : String := "StepMachines$Program"
def TX4 : u_T := fun k => match k with
  | 0 => ("StepMachines$Program", "codes", "[I", true)
  | _ => ("StepMachines$Program", "finish", "I", true)
def tyX4 : Nat → FieldType := fun k => match k with
  | 0 => .array .int
  | _ => .int
abbrev wsX40 : List Cond := u_ws RX4 TX4 2
theorem nmX4 : ∀ a, a < 2 → ∀ b, b < 2 → a ≠ b → (TX4 a).2.1 ≠ (TX4 b).2.1 := by decide +kernel
theorem tyX4_ok : ∀ k, k < 2 → parseFieldDescriptor (TX4 k).2.2.1 = some (tyX4 k) := by decide +kernel
abbrev cX4_init : ByteArray := prog_6_method_1_code
def yX4_init : MethodName := ⟨RX4, "<init>", "([II)V"⟩
abbrev cX4_length : ByteArray := prog_6_method_2_code
def yX4_length : MethodName := ⟨RX4, "length", "()I"⟩
abbrev cX4_letter : ByteArray := prog_6_method_3_code
def yX4_letter : MethodName := ⟨RX4, "letter", "(I)I"⟩
abbrev cX4_number : ByteArray := prog_6_method_4_code
def yX4_number : MethodName := ⟨RX4, "number", "(I)I"⟩
def RX5 : String := "StepMachines$Queue"
def TX5 : u_T := fun k => match k with
  | 0 => ("StepMachines$Queue", "who", "[I", true)
  | _ => ("StepMachines$Queue", "size", "I", false)
def tyX5 : Nat → FieldType := fun k => match k with
  | 0 => .array .int
  | _ => .int
abbrev wsX50 : List Cond := u_ws RX5 TX5 2
theorem nmX5 : ∀ a, a < 2 → ∀ b, b < 2 → a ≠ b → (TX5 a).2.1 ≠ (TX5 b).2.1 := by decide +kernel
theorem tyX5_ok : ∀ k, k < 2 → parseFieldDescriptor (TX5 k).2.2.1 = some (tyX5 k) := by decide +kernel
abbrev cX5_init : ByteArray := prog_7_method_1_code
def yX5_init : MethodName := ⟨RX5, "<init>", "()V"⟩
abbrev cX5_become : ByteArray := prog_7_method_2_code
def yX5_become : MethodName := ⟨RX5, "become", "(LStepMachines$Queue;)V"⟩
abbrev cX5_join : ByteArray := prog_7_method_3_code
def yX5_join : MethodName := ⟨RX5, "join", "(I)V"⟩
abbrev cX5_leave : ByteArray := prog_7_method_4_code
def yX5_leave : MethodName := ⟨RX5, "leave", "(I)V"⟩
def RX6 : String := "StepMachines$Row"
def TX6 : u_T := fun k => match k with
  | 0 => ("StepMachines$Row", "kind", "I", true)
  | _ => ("StepMachines$Row", "elements", "[I", true)
def tyX6 : Nat → FieldType := fun k => match k with
  | 0 => .int
  | _ => .array .int
abbrev wsX60 : List Cond := u_ws RX6 TX6 2
theorem nmX6 : ∀ a, a < 2 → ∀ b, b < 2 → a ≠ b → (TX6 a).2.1 ≠ (TX6 b).2.1 := by decide +kernel
theorem tyX6_ok : ∀ k, k < 2 → parseFieldDescriptor (TX6 k).2.2.1 = some (tyX6 k) := by decide +kernel
abbrev cX6_init : ByteArray := prog_8_method_1_code
def yX6_init : MethodName := ⟨RX6, "<init>", "(II)V"⟩
abbrev cX6_size : ByteArray := prog_8_method_2_code
def yX6_size : MethodName := ⟨RX6, "size", "()I"⟩
abbrev cX6_has : ByteArray := prog_8_method_3_code
def yX6_has : MethodName := ⟨RX6, "has", "(I)Z"⟩
abbrev cX6_hasPart : ByteArray := prog_8_method_4_code
def yX6_hasPart : MethodName := ⟨RX6, "hasPart", "(II)Z"⟩
abbrev cX6_at : ByteArray := prog_8_method_5_code
def yX6_at : MethodName := ⟨RX6, "at", "(I)I"⟩
abbrev cX6_become : ByteArray := prog_8_method_6_code
def yX6_become : MethodName := ⟨RX6, "become", "(II)V"⟩
abbrev cX6_leastNumber : ByteArray := prog_8_method_7_code
def yX6_leastNumber : MethodName := ⟨RX6, "leastNumber", "()I"⟩
def RX7 : String := "StepMachines$Text"
def TX7 : u_T := fun k => match k with
  | 0 => ("StepMachines$Text", "row", "LStepMachines$Row;", true)
  | _ => ("StepMachines$Text", "codes", "[I", true)
def tyX7 : Nat → FieldType := fun k => match k with
  | 0 => .object "StepMachines$Row"
  | _ => .array .int
abbrev wsX70 : List Cond := u_ws RX7 TX7 2
theorem nmX7 : ∀ a, a < 2 → ∀ b, b < 2 → a ≠ b → (TX7 a).2.1 ≠ (TX7 b).2.1 := by decide +kernel
theorem tyX7_ok : ∀ k, k < 2 → parseFieldDescriptor (TX7 k).2.2.1 = some (tyX7 k) := by decide +kernel
abbrev cX7_init : ByteArray := prog_9_method_1_code
def yX7_init : MethodName := ⟨RX7, "<init>", "(LStepMachines$Row;)V"⟩
abbrev cX7_statements : ByteArray := prog_9_method_2_code
def yX7_statements : MethodName := ⟨RX7, "statements", "()I"⟩
abbrev cX7_faultAt : ByteArray := prog_9_method_3_code
def yX7_faultAt : MethodName := ⟨RX7, "faultAt", "(I)I"⟩
abbrev cX7_endOfStatement : ByteArray := prog_9_method_4_code
def yX7_endOfStatement : MethodName := ⟨RX7, "endOfStatement", "(I)I"⟩
abbrev cX7_endOfNumbers : ByteArray := prog_9_method_5_code
def yX7_endOfNumbers : MethodName := ⟨RX7, "endOfNumbers", "(II)I"⟩
abbrev cX7_endOfProgram : ByteArray := prog_9_method_6_code
def yX7_endOfProgram : MethodName := ⟨RX7, "endOfProgram", "(I)I"⟩
abbrev cX7_isDigit : ByteArray := prog_9_method_7_code
def yX7_isDigit : MethodName := ⟨RX7, "isDigit", "(I)Z"⟩
abbrev cX7_isNumberedStep : ByteArray := prog_9_method_8_code
def yX7_isNumberedStep : MethodName := ⟨RX7, "isNumberedStep", "(I)Z"⟩
abbrev cX7_behindStatement : ByteArray := prog_9_method_9_code
def yX7_behindStatement : MethodName := ⟨RX7, "behindStatement", "(I)I"⟩
abbrev cX7_digit : ByteArray := prog_9_method_10_code
def yX7_digit : MethodName := ⟨RX7, "digit", "(I)I"⟩
abbrev cX7_twoDigits : ByteArray := prog_9_method_11_code
def yX7_twoDigits : MethodName := ⟨RX7, "twoDigits", "(I)I"⟩
abbrev cX7_isDone : ByteArray := prog_9_method_12_code
def yX7_isDone : MethodName := ⟨RX7, "isDone", "(ILStepMachines$Machine;)Z"⟩
abbrev cX7_isProgramDone : ByteArray := prog_9_method_13_code
def yX7_isProgramDone : MethodName := ⟨RX7, "isProgramDone", "(ILStepMachines$Machine;)Z"⟩
abbrev cX7_programFrom : ByteArray := prog_9_method_14_code
def yX7_programFrom : MethodName := ⟨RX7, "programFrom", "(I)LStepMachines$Program;"⟩
abbrev cX7_isComingDone : ByteArray := prog_9_method_15_code
def yX7_isComingDone : MethodName := ⟨RX7, "isComingDone", "(ILStepMachines$Machine;)Z"⟩
abbrev cX7_areRoundsDone : ByteArray := prog_9_method_16_code
def yX7_areRoundsDone : MethodName := ⟨RX7, "areRoundsDone", "(ILStepMachines$Machine;)Z"⟩
def RX8 : String := "StepMachines"
def TX8 : u_T := fun k => match k with
  | 0 => ("StepMachines", "now", "LStepMachines$Machine;", true)
  | 1 => ("StepMachines", "kept", "LStepMachines$Machine;", true)
  | 2 => ("StepMachines", "minds", "[LStepMachines$Machine;", true)
  | 3 => ("StepMachines", "manners", "[LStepMachines$Manner;", true)
  | 4 => ("StepMachines", "rows", "[LStepMachines$Row;", true)
  | 5 => ("StepMachines", "plain", "LStepMachines$Manner;", true)
  | 6 => ("StepMachines", "imageTaken", "Z", false)
  | _ => ("StepMachines", "seed", "I", false)
def tyX8 : Nat → FieldType := fun k => match k with
  | 0 => .object "StepMachines$Machine"
  | 1 => .object "StepMachines$Machine"
  | 2 => .array (.object "StepMachines$Machine")
  | 3 => .array (.object "StepMachines$Manner")
  | 4 => .array (.object "StepMachines$Row")
  | 5 => .object "StepMachines$Manner"
  | 6 => .boolean
  | _ => .int
abbrev wsX80 : List Cond := u_ws RX8 TX8 8
theorem nmX8 : ∀ a, a < 8 → ∀ b, b < 8 → a ≠ b → (TX8 a).2.1 ≠ (TX8 b).2.1 := by decide +kernel
theorem tyX8_ok : ∀ k, k < 8 → parseFieldDescriptor (TX8 k).2.2.1 = some (tyX8 k) := by decide +kernel
abbrev cX8_init : ByteArray := prog_1_method_1_code
def yX8_init : MethodName := ⟨RX8, "<init>", "()V"⟩
abbrev cX8_text : ByteArray := prog_1_method_2_code
def yX8_text : MethodName := ⟨RX8, "text", "(I)I"⟩
abbrev cX8_program : ByteArray := prog_1_method_3_code
def yX8_program : MethodName := ⟨RX8, "program", "(III)I"⟩
abbrev cX8_comes : ByteArray := prog_1_method_4_code
def yX8_comes : MethodName := ⟨RX8, "comes", "(II)I"⟩
abbrev cX8_coroutine : ByteArray := prog_1_method_5_code
def yX8_coroutine : MethodName := ⟨RX8, "coroutine", "(II)I"⟩
abbrev cX8_frame : ByteArray := prog_1_method_6_code
def yX8_frame : MethodName := ⟨RX8, "frame", "(III)I"⟩
abbrev cX8_cause : ByteArray := prog_1_method_7_code
def yX8_cause : MethodName := ⟨RX8, "cause", "(II)I"⟩
abbrev cX8_channel : ByteArray := prog_1_method_8_code
def yX8_channel : MethodName := ⟨RX8, "channel", "(III)I"⟩
abbrev cX8_send : ByteArray := prog_1_method_9_code
def yX8_send : MethodName := ⟨RX8, "send", "(II)I"⟩
abbrev cX8_close : ByteArray := prog_1_method_10_code
def yX8_close : MethodName := ⟨RX8, "close", "(I)I"⟩
abbrev cX8_width : ByteArray := prog_1_method_11_code
def yX8_width : MethodName := ⟨RX8, "width", "(I)I"⟩
abbrev cX8_rounds : ByteArray := prog_1_method_12_code
def yX8_rounds : MethodName := ⟨RX8, "rounds", "(I)I"⟩
abbrev cX8_then : ByteArray := prog_1_method_13_code
def yX8_then : MethodName := ⟨RX8, "then", "(III)I"⟩
abbrev cX8_ends : ByteArray := prog_1_method_14_code
def yX8_ends : MethodName := ⟨RX8, "ends", "(I)I"⟩
abbrev cX8_stuck : ByteArray := prog_1_method_15_code
def yX8_stuck : MethodName := ⟨RX8, "stuck", "(I)I"⟩
abbrev cX8_leastWidth : ByteArray := prog_1_method_16_code
def yX8_leastWidth : MethodName := ⟨RX8, "leastWidth", "(I)I"⟩
abbrev cX8_closeBest : ByteArray := prog_1_method_17_code
def yX8_closeBest : MethodName := ⟨RX8, "closeBest", "(I)I"⟩
abbrev cX8_sendBest : ByteArray := prog_1_method_18_code
def yX8_sendBest : MethodName := ⟨RX8, "sendBest", "(II)I"⟩
abbrev cX8_firstOut : ByteArray := prog_1_method_19_code
def yX8_firstOut : MethodName := ⟨RX8, "firstOut", "()I"⟩
abbrev cX8_whatProgram : ByteArray := prog_1_method_20_code
def yX8_whatProgram : MethodName := ⟨RX8, "whatProgram", "(I)I"⟩
abbrev cX8_alike : ByteArray := prog_1_method_21_code
def yX8_alike : MethodName := ⟨RX8, "alike", "(III)I"⟩
abbrev cX8_two : ByteArray := prog_1_method_22_code
def yX8_two : MethodName := ⟨RX8, "two", "(III)I"⟩
abbrev cX8_lost : ByteArray := prog_1_method_23_code
def yX8_lost : MethodName := ⟨RX8, "lost", "(IIII)J"⟩
abbrev cX8_share : ByteArray := prog_1_method_24_code
def yX8_share : MethodName := ⟨RX8, "share", "(I)J"⟩
abbrev cX8_forged : ByteArray := prog_1_method_25_code
def yX8_forged : MethodName := ⟨RX8, "forged", "(I)I"⟩
abbrev cX8_judge : ByteArray := prog_1_method_26_code
def yX8_judge : MethodName := ⟨RX8, "judge", "(I)I"⟩
abbrev cX8_lots : ByteArray := prog_1_method_27_code
def yX8_lots : MethodName := ⟨RX8, "lots", "(III)I"⟩
abbrev cX8_image : ByteArray := prog_1_method_28_code
def yX8_image : MethodName := ⟨RX8, "image", "()I"⟩
abbrev cX8_restore : ByteArray := prog_1_method_29_code
def yX8_restore : MethodName := ⟨RX8, "restore", "()I"⟩
abbrev cX8_count : ByteArray := prog_1_method_30_code
def yX8_count : MethodName := ⟨RX8, "count", "(I)I"⟩
abbrev cX8_keep : ByteArray := prog_1_method_31_code
def yX8_keep : MethodName := ⟨RX8, "keep", "(IIII)I"⟩
abbrev cX8_row : ByteArray := prog_1_method_32_code
def yX8_row : MethodName := ⟨RX8, "row", "(III)I"⟩
abbrev cX8_put : ByteArray := prog_1_method_33_code
def yX8_put : MethodName := ⟨RX8, "put", "(III)I"⟩
abbrev cX8_element : ByteArray := prog_1_method_34_code
def yX8_element : MethodName := ⟨RX8, "element", "(II)J"⟩
abbrev cX8_copy : ByteArray := prog_1_method_35_code
def yX8_copy : MethodName := ⟨RX8, "copy", "(IIIII)I"⟩
abbrev cX8_cost : ByteArray := prog_1_method_36_code
def yX8_cost : MethodName := ⟨RX8, "cost", "(I)I"⟩
abbrev cX8_toss : ByteArray := prog_1_method_37_code
def yX8_toss : MethodName := ⟨RX8, "toss", "(I)I"⟩
abbrev cX8_isShelf : ByteArray := prog_1_method_38_code
def yX8_isShelf : MethodName := ⟨RX8, "isShelf", "(I)Z"⟩
abbrev cX8_isProgram : ByteArray := prog_1_method_39_code
def yX8_isProgram : MethodName := ⟨RX8, "isProgram", "(I)Z"⟩
abbrev cX8_isCoroutine : ByteArray := prog_1_method_40_code
def yX8_isCoroutine : MethodName := ⟨RX8, "isCoroutine", "(I)Z"⟩
abbrev cX8_holdsNothing : ByteArray := prog_1_method_41_code
def yX8_holdsNothing : MethodName := ⟨RX8, "holdsNothing", "(I)Z"⟩
abbrev cX8_refusalOfRow : ByteArray := prog_1_method_42_code
def yX8_refusalOfRow : MethodName := ⟨RX8, "refusalOfRow", "(I)I"⟩
abbrev cX8_refusalOfManner : ByteArray := prog_1_method_43_code
def yX8_refusalOfManner : MethodName := ⟨RX8, "refusalOfManner", "(I)I"⟩
abbrev cX8_heldTold : ByteArray := prog_1_method_44_code
def yX8_heldTold : MethodName := ⟨RX8, "heldTold", "(I)I"⟩
abbrev cX8_mindOfNow : ByteArray := prog_1_method_45_code
def yX8_mindOfNow : MethodName := ⟨RX8, "mindOfNow", "()LStepMachines$Machine;"⟩
abbrev cX8_othersDone : ByteArray := prog_1_method_46_code
def yX8_othersDone : MethodName := ⟨RX8, "othersDone", "(II)I"⟩
abbrev cX8_yieldsAll : ByteArray := prog_1_method_47_code
def yX8_yieldsAll : MethodName := ⟨RX8, "yieldsAll", "(ILStepMachines$Row;)Z"⟩
abbrev cX8_closeIf : ByteArray := prog_1_method_48_code
def yX8_closeIf : MethodName := ⟨RX8, "closeIf", "(LStepMachines$Machine;II)V"⟩
abbrev cX8_gain : ByteArray := prog_1_method_49_code
def yX8_gain : MethodName := ⟨RX8, "gain", "(LStepMachines$Coroutine;LStepMachines$Coroutine;I)I"⟩
abbrev cX8_waysEnded : ByteArray := prog_1_method_50_code
def yX8_waysEnded : MethodName := ⟨RX8, "waysEnded", "([LStepMachines$Machine;IIII)J"⟩
abbrev cX8_power : ByteArray := prog_1_method_51_code
def yX8_power : MethodName := ⟨RX8, "power", "(II)J"⟩
abbrev cX8_inLeastTerms : ByteArray := prog_1_method_52_code
def yX8_inLeastTerms : MethodName := ⟨RX8, "inLeastTerms", "(JJI)J"⟩
abbrev cX8_runByLot : ByteArray := prog_1_method_53_code
def yX8_runByLot : MethodName := ⟨RX8, "runByLot", "(LStepMachines$Machine;)V"⟩
abbrev cX8_draw : ByteArray := prog_1_method_54_code
def yX8_draw : MethodName := ⟨RX8, "draw", "(I)I"⟩
def RX9 : String := "StepMachinesModel"
def TX9 : u_T := fun k => match k with
  | 0 => ("StepMachinesModel", "sizes", "[I", true)
  | 1 => ("StepMachinesModel", "letters", "[I", true)
  | 2 => ("StepMachinesModel", "numbers", "[I", true)
  | 3 => ("StepMachinesModel", "many", "I", false)
  | 4 => ("StepMachinesModel", "programOf", "[I", true)
  | 5 => ("StepMachinesModel", "kinds", "[I", true)
  | 6 => ("StepMachinesModel", "figures", "[I", true)
  | 7 => ("StepMachinesModel", "states", "[I", true)
  | 8 => ("StepMachinesModel", "accs", "[I", true)
  | 9 => ("StepMachinesModel", "outs", "[I", true)
  | 10 => ("StepMachinesModel", "outMany", "[I", true)
  | 11 => ("StepMachinesModel", "ages", "[I", true)
  | 12 => ("StepMachinesModel", "waitsFor", "[I", true)
  | 13 => ("StepMachinesModel", "faultOf", "[I", true)
  | 14 => ("StepMachinesModel", "frames", "[I", true)
  | 15 => ("StepMachinesModel", "framePrograms", "[I", true)
  | 16 => ("StepMachinesModel", "frameSizes", "[I", true)
  | 17 => ("StepMachinesModel", "frameAts", "[I", true)
  | 18 => ("StepMachinesModel", "frameCounts", "[I", true)
  | 19 => ("StepMachinesModel", "isFinishing", "[I", true)
  | 20 => ("StepMachinesModel", "frameHeld", "[I", true)
  | 21 => ("StepMachinesModel", "frameLetters", "[I", true)
  | 22 => ("StepMachinesModel", "frameNumbers", "[I", true)
  | 23 => ("StepMachinesModel", "faults", "I", false)
  | 24 => ("StepMachinesModel", "faultCodes", "[I", true)
  | 25 => ("StepMachinesModel", "faultCauses", "[I", true)
  | 26 => ("StepMachinesModel", "lineMany", "[I", true)
  | 27 => ("StepMachinesModel", "lines", "[I", true)
  | 28 => ("StepMachinesModel", "widthNow", "I", false)
  | 29 => ("StepMachinesModel", "today", "I", false)
  | 30 => ("StepMachinesModel", "yielded", "I", false)
  | 31 => ("StepMachinesModel", "holdsWhat", "[I", true)
  | 32 => ("StepMachinesModel", "keptKind", "[I", true)
  | 33 => ("StepMachinesModel", "keptFigure", "[I", true)
  | 34 => ("StepMachinesModel", "rowSort", "[I", true)
  | 35 => ("StepMachinesModel", "rowMany", "[I", true)
  | 36 => ("StepMachinesModel", "rows", "[J", true)
  | 37 => ("StepMachinesModel", "thrown", "I", false)
  | 38 => ("StepMachinesModel", "reading", "I", false)
  | 39 => ("StepMachinesModel", "place", "I", false)
  | 40 => ("StepMachinesModel", "isBad", "Z", false)
  | 41 => ("StepMachinesModel", "statements", "I", false)
  | 42 => ("StepMachinesModel", "placeIn", "[I", true)
  | 43 => ("StepMachinesModel", "letterOf", "[I", true)
  | 44 => ("StepMachinesModel", "told", "[I", true)
  | 45 => ("StepMachinesModel", "lettersRead", "[I", true)
  | 46 => ("StepMachinesModel", "numbersRead", "[I", true)
  | 47 => ("StepMachinesModel", "stepsRead", "I", false)
  | 48 => ("StepMachinesModel", "kept", "[I", true)
  | 49 => ("StepMachinesModel", "imaged", "[I", true)
  | 50 => ("StepMachinesModel", "hasImage", "Z", false)
  | 51 => ("StepMachinesModel", "place0", "I", false)
  | 52 => ("StepMachinesModel", "isTaking", "Z", false)
  | 53 => ("StepMachinesModel", "keptIn", "[I", false)
  | 54 => ("StepMachinesModel", "outsOf", "[I", true)
  | 55 => ("StepMachinesModel", "gains", "[I", true)
  | 56 => ("StepMachinesModel", "seed", "I", false)
  | _ => ("StepMachinesModel", "between", "[J", true)
def tyX9 : Nat → FieldType := fun k => match k with
  | 0 => .array .int
  | 1 => .array .int
  | 2 => .array .int
  | 3 => .int
  | 4 => .array .int
  | 5 => .array .int
  | 6 => .array .int
  | 7 => .array .int
  | 8 => .array .int
  | 9 => .array .int
  | 10 => .array .int
  | 11 => .array .int
  | 12 => .array .int
  | 13 => .array .int
  | 14 => .array .int
  | 15 => .array .int
  | 16 => .array .int
  | 17 => .array .int
  | 18 => .array .int
  | 19 => .array .int
  | 20 => .array .int
  | 21 => .array .int
  | 22 => .array .int
  | 23 => .int
  | 24 => .array .int
  | 25 => .array .int
  | 26 => .array .int
  | 27 => .array .int
  | 28 => .int
  | 29 => .int
  | 30 => .int
  | 31 => .array .int
  | 32 => .array .int
  | 33 => .array .int
  | 34 => .array .int
  | 35 => .array .int
  | 36 => .array .long
  | 37 => .int
  | 38 => .int
  | 39 => .int
  | 40 => .boolean
  | 41 => .int
  | 42 => .array .int
  | 43 => .array .int
  | 44 => .array .int
  | 45 => .array .int
  | 46 => .array .int
  | 47 => .int
  | 48 => .array .int
  | 49 => .array .int
  | 50 => .boolean
  | 51 => .int
  | 52 => .boolean
  | 53 => .array .int
  | 54 => .array .int
  | 55 => .array .int
  | 56 => .int
  | _ => .array .long
abbrev wsX90 : List Cond := u_ws RX9 TX9 58
theorem nmX9 : ∀ a, a < 58 → ∀ b, b < 58 → a ≠ b → (TX9 a).2.1 ≠ (TX9 b).2.1 := by decide +kernel
theorem tyX9_ok : ∀ k, k < 58 → parseFieldDescriptor (TX9 k).2.2.1 = some (tyX9 k) := by decide +kernel
abbrev cX9_init : ByteArray := prog_11_method_1_code
def yX9_init : MethodName := ⟨RX9, "<init>", "()V"⟩
abbrev cX9_thrown : ByteArray := prog_11_method_2_code
def yX9_thrown : MethodName := ⟨RX9, "thrown", "()I"⟩
abbrev cX9_in : ByteArray := prog_11_method_3_code
def yX9_in : MethodName := ⟨RX9, "in", "(JJJ)Z"⟩
abbrev cX9_hasBit : ByteArray := prog_11_method_4_code
def yX9_hasBit : MethodName := ⟨RX9, "hasBit", "(II)Z"⟩
abbrev cX9_onesOf : ByteArray := prog_11_method_5_code
def yX9_onesOf : MethodName := ⟨RX9, "onesOf", "(I)I"⟩
abbrev cX9_held : ByteArray := prog_11_method_6_code
def yX9_held : MethodName := ⟨RX9, "held", "(II)I"⟩
abbrev cX9_isOne : ByteArray := prog_11_method_7_code
def yX9_isOne : MethodName := ⟨RX9, "isOne", "(I)Z"⟩
abbrev cX9_isEnded : ByteArray := prog_11_method_8_code
def yX9_isEnded : MethodName := ⟨RX9, "isEnded", "(I)Z"⟩
abbrev cX9_isFree : ByteArray := prog_11_method_9_code
def yX9_isFree : MethodName := ⟨RX9, "isFree", "(I)Z"⟩
abbrev cX9_endedBits : ByteArray := prog_11_method_10_code
def yX9_endedBits : MethodName := ⟨RX9, "endedBits", "()I"⟩
abbrev cX9_weightOf : ByteArray := prog_11_method_11_code
def yX9_weightOf : MethodName := ⟨RX9, "weightOf", "(I)I"⟩
abbrev cX9_yieldOf : ByteArray := prog_11_method_12_code
def yX9_yieldOf : MethodName := ⟨RX9, "yieldOf", "(II)I"⟩
abbrev cX9_sentOf : ByteArray := prog_11_method_13_code
def yX9_sentOf : MethodName := ⟨RX9, "sentOf", "(II)I"⟩
abbrev cX9_top : ByteArray := prog_11_method_14_code
def yX9_top : MethodName := ⟨RX9, "top", "(I)I"⟩
abbrev cX9_frameComes : ByteArray := prog_11_method_15_code
def yX9_frameComes : MethodName := ⟨RX9, "frameComes", "(II)V"⟩
abbrev cX9_finishOf : ByteArray := prog_11_method_16_code
def yX9_finishOf : MethodName := ⟨RX9, "finishOf", "(I)I"⟩
abbrev cX9_faultComes : ByteArray := prog_11_method_17_code
def yX9_faultComes : MethodName := ⟨RX9, "faultComes", "(II)I"⟩
abbrev cX9_throwsIt : ByteArray := prog_11_method_18_code
def yX9_throwsIt : MethodName := ⟨RX9, "throwsIt", "(II)V"⟩
abbrev cX9_closesIt : ByteArray := prog_11_method_19_code
def yX9_closesIt : MethodName := ⟨RX9, "closesIt", "(I)V"⟩
abbrev cX9_frameEnds : ByteArray := prog_11_method_20_code
def yX9_frameEnds : MethodName := ⟨RX9, "frameEnds", "(I)V"⟩
abbrev cX9_lineUp : ByteArray := prog_11_method_21_code
def yX9_lineUp : MethodName := ⟨RX9, "lineUp", "(III)V"⟩
abbrev cX9_firstOf : ByteArray := prog_11_method_22_code
def yX9_firstOf : MethodName := ⟨RX9, "firstOf", "(I)I"⟩
abbrev cX9_leaves : ByteArray := prog_11_method_23_code
def yX9_leaves : MethodName := ⟨RX9, "leaves", "(II)V"⟩
abbrev cX9_sends : ByteArray := prog_11_method_24_code
def yX9_sends : MethodName := ⟨RX9, "sends", "(II)V"⟩
abbrev cX9_gets : ByteArray := prog_11_method_25_code
def yX9_gets : MethodName := ⟨RX9, "gets", "(II)V"⟩
abbrev cX9_hasJoined : ByteArray := prog_11_method_26_code
def yX9_hasJoined : MethodName := ⟨RX9, "hasJoined", "(II)V"⟩
abbrev cX9_joins : ByteArray := prog_11_method_27_code
def yX9_joins : MethodName := ⟨RX9, "joins", "(II)V"⟩
abbrev cX9_settle : ByteArray := prog_11_method_28_code
def yX9_settle : MethodName := ⟨RX9, "settle", "()V"⟩
abbrev cX9_isIdle : ByteArray := prog_11_method_29_code
def yX9_isIdle : MethodName := ⟨RX9, "isIdle", "(I)Z"⟩
abbrev cX9_deeper : ByteArray := prog_11_method_30_code
def yX9_deeper : MethodName := ⟨RX9, "deeper", "(II)V"⟩
abbrev cX9_yields : ByteArray := prog_11_method_31_code
def yX9_yields : MethodName := ⟨RX9, "yields", "(II)V"⟩
abbrev cX9_doesPlain : ByteArray := prog_11_method_32_code
def yX9_doesPlain : MethodName := ⟨RX9, "doesPlain", "(IIII)V"⟩
abbrev cX9_doesOther : ByteArray := prog_11_method_33_code
def yX9_doesOther : MethodName := ⟨RX9, "doesOther", "(IIII)V"⟩
abbrev cX9_stepOf : ByteArray := prog_11_method_34_code
def yX9_stepOf : MethodName := ⟨RX9, "stepOf", "(IZ)V"⟩
abbrev cX9_sendTo : ByteArray := prog_11_method_35_code
def yX9_sendTo : MethodName := ⟨RX9, "sendTo", "(II)V"⟩
abbrev cX9_closing : ByteArray := prog_11_method_36_code
def yX9_closing : MethodName := ⟨RX9, "closing", "(I)V"⟩
abbrev cX9_isAhead : ByteArray := prog_11_method_37_code
def yX9_isAhead : MethodName := ⟨RX9, "isAhead", "(II)Z"⟩
abbrev cX9_roundOn : ByteArray := prog_11_method_38_code
def yX9_roundOn : MethodName := ⟨RX9, "roundOn", "(Z)V"⟩
abbrev cX9_goRounds : ByteArray := prog_11_method_39_code
def yX9_goRounds : MethodName := ⟨RX9, "goRounds", "(I)V"⟩
abbrev cX9_oneComes : ByteArray := prog_11_method_40_code
def yX9_oneComes : MethodName := ⟨RX9, "oneComes", "(III)Z"⟩
abbrev cX9_here : ByteArray := prog_11_method_41_code
def yX9_here : MethodName := ⟨RX9, "here", "()I"⟩
abbrev cX9_readDigits : ByteArray := prog_11_method_42_code
def yX9_readDigits : MethodName := ⟨RX9, "readDigits", "(I)I"⟩
abbrev cX9_isStep : ByteArray := prog_11_method_43_code
def yX9_isStep : MethodName := ⟨RX9, "isStep", "(I)Z"⟩
abbrev cX9_readSteps : ByteArray := prog_11_method_44_code
def yX9_readSteps : MethodName := ⟨RX9, "readSteps", "(I)V"⟩
abbrev cX9_readNumbers : ByteArray := prog_11_method_45_code
def yX9_readNumbers : MethodName := ⟨RX9, "readNumbers", "(II)V"⟩
abbrev cX9_readStatement : ByteArray := prog_11_method_46_code
def yX9_readStatement : MethodName := ⟨RX9, "readStatement", "()V"⟩
abbrev cX9_programTold : ByteArray := prog_11_method_47_code
def yX9_programTold : MethodName := ⟨RX9, "programTold", "(III)Z"⟩
abbrev cX9_sendTold : ByteArray := prog_11_method_48_code
def yX9_sendTold : MethodName := ⟨RX9, "sendTold", "(II)Z"⟩
abbrev cX9_closeTold : ByteArray := prog_11_method_49_code
def yX9_closeTold : MethodName := ⟨RX9, "closeTold", "(I)Z"⟩
abbrev cX9_roundsTold : ByteArray := prog_11_method_50_code
def yX9_roundsTold : MethodName := ⟨RX9, "roundsTold", "(I)Z"⟩
abbrev cX9_comesTold : ByteArray := prog_11_method_51_code
def yX9_comesTold : MethodName := ⟨RX9, "comesTold", "(I)Z"⟩
abbrev cX9_text : ByteArray := prog_11_method_52_code
def yX9_text : MethodName := ⟨RX9, "text", "(I)I"⟩
abbrev cX9_carry : ByteArray := prog_11_method_53_code
def yX9_carry : MethodName := ⟨RX9, "carry", "(I)I"⟩
abbrev cX9_carryFrames : ByteArray := prog_11_method_54_code
def yX9_carryFrames : MethodName := ⟨RX9, "carryFrames", "()V"⟩
abbrev cX9_carryAll : ByteArray := prog_11_method_55_code
def yX9_carryAll : MethodName := ⟨RX9, "carryAll", "([IZ)V"⟩
abbrev cX9_think : ByteArray := prog_11_method_56_code
def yX9_think : MethodName := ⟨RX9, "think", "()V"⟩
abbrev cX9_again : ByteArray := prog_11_method_57_code
def yX9_again : MethodName := ⟨RX9, "again", "()V"⟩
abbrev cX9_image : ByteArray := prog_11_method_58_code
def yX9_image : MethodName := ⟨RX9, "image", "()I"⟩
abbrev cX9_restore : ByteArray := prog_11_method_59_code
def yX9_restore : MethodName := ⟨RX9, "restore", "()I"⟩
abbrev cX9_program : ByteArray := prog_11_method_60_code
def yX9_program : MethodName := ⟨RX9, "program", "(III)I"⟩
abbrev cX9_comes : ByteArray := prog_11_method_61_code
def yX9_comes : MethodName := ⟨RX9, "comes", "(II)I"⟩
abbrev cX9_faultMany : ByteArray := prog_11_method_62_code
def yX9_faultMany : MethodName := ⟨RX9, "faultMany", "(I)I"⟩
abbrev cX9_waits : ByteArray := prog_11_method_63_code
def yX9_waits : MethodName := ⟨RX9, "waits", "(I)Z"⟩
abbrev cX9_ofOne : ByteArray := prog_11_method_64_code
def yX9_ofOne : MethodName := ⟨RX9, "ofOne", "(II)I"⟩
abbrev cX9_coroutine : ByteArray := prog_11_method_65_code
def yX9_coroutine : MethodName := ⟨RX9, "coroutine", "(II)I"⟩
abbrev cX9_frame : ByteArray := prog_11_method_66_code
def yX9_frame : MethodName := ⟨RX9, "frame", "(III)I"⟩
abbrev cX9_cause : ByteArray := prog_11_method_67_code
def yX9_cause : MethodName := ⟨RX9, "cause", "(II)I"⟩
abbrev cX9_channel : ByteArray := prog_11_method_68_code
def yX9_channel : MethodName := ⟨RX9, "channel", "(III)I"⟩
abbrev cX9_send : ByteArray := prog_11_method_69_code
def yX9_send : MethodName := ⟨RX9, "send", "(II)I"⟩
abbrev cX9_close : ByteArray := prog_11_method_70_code
def yX9_close : MethodName := ⟨RX9, "close", "(I)I"⟩
abbrev cX9_width : ByteArray := prog_11_method_71_code
def yX9_width : MethodName := ⟨RX9, "width", "(I)I"⟩
abbrev cX9_rounds : ByteArray := prog_11_method_72_code
def yX9_rounds : MethodName := ⟨RX9, "rounds", "(I)I"⟩
abbrev cX9_then : ByteArray := prog_11_method_73_code
def yX9_then : MethodName := ⟨RX9, "then", "(III)I"⟩
abbrev cX9_ends : ByteArray := prog_11_method_74_code
def yX9_ends : MethodName := ⟨RX9, "ends", "(I)I"⟩
abbrev cX9_anyFree : ByteArray := prog_11_method_75_code
def yX9_anyFree : MethodName := ⟨RX9, "anyFree", "()Z"⟩
abbrev cX9_stuck : ByteArray := prog_11_method_76_code
def yX9_stuck : MethodName := ⟨RX9, "stuck", "(I)I"⟩
abbrev cX9_leastWidth : ByteArray := prog_11_method_77_code
def yX9_leastWidth : MethodName := ⟨RX9, "leastWidth", "(I)I"⟩
abbrev cX9_doneBut : ByteArray := prog_11_method_78_code
def yX9_doneBut : MethodName := ⟨RX9, "doneBut", "(I)I"⟩
abbrev cX9_closeBest : ByteArray := prog_11_method_79_code
def yX9_closeBest : MethodName := ⟨RX9, "closeBest", "(I)I"⟩
abbrev cX9_sendBest : ByteArray := prog_11_method_80_code
def yX9_sendBest : MethodName := ⟨RX9, "sendBest", "(II)I"⟩
abbrev cX9_firstOut : ByteArray := prog_11_method_81_code
def yX9_firstOut : MethodName := ⟨RX9, "firstOut", "()I"⟩
abbrev cX9_leastOf : ByteArray := prog_11_method_82_code
def yX9_leastOf : MethodName := ⟨RX9, "leastOf", "(I)J"⟩
abbrev cX9_isSkipped : ByteArray := prog_11_method_83_code
def yX9_isSkipped : MethodName := ⟨RX9, "isSkipped", "(II)Z"⟩
abbrev cX9_isYieldRow : ByteArray := prog_11_method_84_code
def yX9_isYieldRow : MethodName := ⟨RX9, "isYieldRow", "(II)Z"⟩
abbrev cX9_whatProgram : ByteArray := prog_11_method_85_code
def yX9_whatProgram : MethodName := ⟨RX9, "whatProgram", "(I)I"⟩
abbrev cX9_layOuts : ByteArray := prog_11_method_86_code
def yX9_layOuts : MethodName := ⟨RX9, "layOuts", "(III)V"⟩
abbrev cX9_alike : ByteArray := prog_11_method_87_code
def yX9_alike : MethodName := ⟨RX9, "alike", "(III)I"⟩
abbrev cX9_gainOf : ByteArray := prog_11_method_88_code
def yX9_gainOf : MethodName := ⟨RX9, "gainOf", "(IIZ)I"⟩
abbrev cX9_closesIf : ByteArray := prog_11_method_89_code
def yX9_closesIf : MethodName := ⟨RX9, "closesIf", "(IZ)V"⟩
abbrev cX9_two : ByteArray := prog_11_method_90_code
def yX9_two : MethodName := ⟨RX9, "two", "(III)I"⟩
abbrev cX9_divisor : ByteArray := prog_11_method_91_code
def yX9_divisor : MethodName := ⟨RX9, "divisor", "(JJ)J"⟩
abbrev cX9_partOf : ByteArray := prog_11_method_92_code
def yX9_partOf : MethodName := ⟨RX9, "partOf", "(JJI)J"⟩
abbrev cX9_lost : ByteArray := prog_11_method_93_code
def yX9_lost : MethodName := ⟨RX9, "lost", "(IIII)J"⟩
abbrev cX9_share : ByteArray := prog_11_method_94_code
def yX9_share : MethodName := ⟨RX9, "share", "(I)J"⟩
abbrev cX9_forged : ByteArray := prog_11_method_95_code
def yX9_forged : MethodName := ⟨RX9, "forged", "(I)I"⟩
abbrev cX9_judge : ByteArray := prog_11_method_96_code
def yX9_judge : MethodName := ⟨RX9, "judge", "(I)I"⟩
abbrev cX9_allOuts : ByteArray := prog_11_method_97_code
def yX9_allOuts : MethodName := ⟨RX9, "allOuts", "()I"⟩
abbrev cX9_drawBelow : ByteArray := prog_11_method_98_code
def yX9_drawBelow : MethodName := ⟨RX9, "drawBelow", "(I)I"⟩
abbrev cX9_lots : ByteArray := prog_11_method_99_code
def yX9_lots : MethodName := ⟨RX9, "lots", "(III)I"⟩
abbrev cX9_waitingBits : ByteArray := prog_11_method_100_code
def yX9_waitingBits : MethodName := ⟨RX9, "waitingBits", "()I"⟩
abbrev cX9_count : ByteArray := prog_11_method_101_code
def yX9_count : MethodName := ⟨RX9, "count", "(I)I"⟩
abbrev cX9_wrongKept : ByteArray := prog_11_method_102_code
def yX9_wrongKept : MethodName := ⟨RX9, "wrongKept", "(I)I"⟩
abbrev cX9_keep : ByteArray := prog_11_method_103_code
def yX9_keep : MethodName := ⟨RX9, "keep", "(IIII)I"⟩
abbrev cX9_wrongRow : ByteArray := prog_11_method_104_code
def yX9_wrongRow : MethodName := ⟨RX9, "wrongRow", "(I)I"⟩
abbrev cX9_narrowed : ByteArray := prog_11_method_105_code
def yX9_narrowed : MethodName := ⟨RX9, "narrowed", "(II)J"⟩
abbrev cX9_row : ByteArray := prog_11_method_106_code
def yX9_row : MethodName := ⟨RX9, "row", "(III)I"⟩
abbrev cX9_put : ByteArray := prog_11_method_107_code
def yX9_put : MethodName := ⟨RX9, "put", "(III)I"⟩
abbrev cX9_element : ByteArray := prog_11_method_108_code
def yX9_element : MethodName := ⟨RX9, "element", "(II)J"⟩
abbrev cX9_copy : ByteArray := prog_11_method_109_code
def yX9_copy : MethodName := ⟨RX9, "copy", "(IIIII)I"⟩
abbrev cX9_costOf : ByteArray := prog_11_method_110_code
def yX9_costOf : MethodName := ⟨RX9, "costOf", "(II)I"⟩
abbrev cX9_cost : ByteArray := prog_11_method_111_code
def yX9_cost : MethodName := ⟨RX9, "cost", "(I)I"⟩
abbrev cX9_toss : ByteArray := prog_11_method_112_code
def yX9_toss : MethodName := ⟨RX9, "toss", "(I)I"⟩
def RJx145de : String := "java/io/Serializable"
def TJx145de : u_T := fun k => match k with
  | _ => ("", "", "", false)
def tyJx145de : Nat → FieldType := fun k => match k with
  | _ => .int
abbrev wsJx145de0 : List Cond := u_ws RJx145de TJx145de 0
theorem nmJx145de : ∀ a, a < 0 → ∀ b, b < 0 → a ≠ b → (TJx145de a).2.1 ≠ (TJx145de b).2.1 := by decide +kernel
theorem tyJx145de_ok : ∀ k, k < 0 → parseFieldDescriptor (TJx145de k).2.2.1 = some (tyJx145de k) := by decide +kernel
def RJx8e188 : String := "java/lang/Cloneable"
def TJx8e188 : u_T := fun k => match k with
  | _ => ("", "", "", false)
def tyJx8e188 : Nat → FieldType := fun k => match k with
  | _ => .int
abbrev wsJx8e1880 : List Cond := u_ws RJx8e188 TJx8e188 0
theorem nmJx8e188 : ∀ a, a < 0 → ∀ b, b < 0 → a ≠ b → (TJx8e188 a).2.1 ≠ (TJx8e188 b).2.1 := by decide +kernel
theorem tyJx8e188_ok : ∀ k, k < 0 → parseFieldDescriptor (TJx8e188 k).2.2.1 = some (tyJx8e188 k) := by decide +kernel
def RJ6 : String := "java/lang/Integer"
def TJ6 : u_T := fun k => match k with
  | _ => ("", "", "", false)
def tyJ6 : Nat → FieldType := fun k => match k with
  | _ => .int
abbrev wsJ60 : List Cond := u_ws RJ6 TJ6 0
theorem nmJ6 : ∀ a, a < 0 → ∀ b, b < 0 → a ≠ b → (TJ6 a).2.1 ≠ (TJ6 b).2.1 := by decide +kernel
theorem tyJ6_ok : ∀ k, k < 0 → parseFieldDescriptor (TJ6 k).2.2.1 = some (tyJ6 k) := by decide +kernel
abbrev cJ6_bitCount_0f7a4 : ByteArray := prog_16_method_49_code
def yJ6_bitCount_0f7a4 : MethodName := ⟨RJ6, "bitCount", "(I)I"⟩
def RJ9 : String := "java/lang/Math"
def TJ9 : u_T := fun k => match k with
  | _ => ("", "", "", false)
def tyJ9 : Nat → FieldType := fun k => match k with
  | _ => .int
abbrev wsJ90 : List Cond := u_ws RJ9 TJ9 0
theorem nmJ9 : ∀ a, a < 0 → ∀ b, b < 0 → a ≠ b → (TJ9 a).2.1 ≠ (TJ9 b).2.1 := by decide +kernel
theorem tyJ9_ok : ∀ k, k < 0 → parseFieldDescriptor (TJ9 k).2.2.1 = some (tyJ9 k) := by decide +kernel
abbrev cJ9_min_7cf53 : ByteArray := prog_17_method_69_code
def yJ9_min_7cf53 : MethodName := ⟨RJ9, "min", "(II)I"⟩
def RJ0 : String := "java/lang/String"
def TJ0 : u_T := fun k => match k with
  | _ => ("", "", "", false)
def tyJ0 : Nat → FieldType := fun k => match k with
  | _ => .int
abbrev wsJ00 : List Cond := u_ws RJ0 TJ0 0
theorem nmJ0 : ∀ a, a < 0 → ∀ b, b < 0 → a ≠ b → (TJ0 a).2.1 ≠ (TJ0 b).2.1 := by decide +kernel
theorem tyJ0_ok : ∀ k, k < 0 → parseFieldDescriptor (TJ0 k).2.2.1 = some (tyJ0 k) := by decide +kernel
def RJ10 : String := "java/lang/System"
def TJ10 : u_T := fun k => match k with
  | _ => ("", "", "", false)
def tyJ10 : Nat → FieldType := fun k => match k with
  | _ => .int
abbrev wsJ100 : List Cond := u_ws RJ10 TJ10 0
theorem nmJ10 : ∀ a, a < 0 → ∀ b, b < 0 → a ≠ b → (TJ10 a).2.1 ≠ (TJ10 b).2.1 := by decide +kernel
theorem tyJ10_ok : ∀ k, k < 0 → parseFieldDescriptor (TJ10 k).2.2.1 = some (tyJ10 k) := by decide +kernel
def RJ7 : String := "java/util/Arrays"
def TJ7 : u_T := fun k => match k with
  | _ => ("", "", "", false)
def tyJ7 : Nat → FieldType := fun k => match k with
  | _ => .int
abbrev wsJ70 : List Cond := u_ws RJ7 TJ7 0
theorem nmJ7 : ∀ a, a < 0 → ∀ b, b < 0 → a ≠ b → (TJ7 a).2.1 ≠ (TJ7 b).2.1 := by decide +kernel
theorem tyJ7_ok : ∀ k, k < 0 → parseFieldDescriptor (TJ7 k).2.2.1 = some (tyJ7 k) := by decide +kernel
abbrev cJ7_copyOf_59c91 : ByteArray := prog_22_method_123_code
def yJ7_copyOf_59c91 : MethodName := ⟨RJ7, "copyOf", "([II)[I"⟩
def RL : String := "StepMachinesLaw"
abbrev cL_element : ByteArray := method_3_code
def yL_element : MethodName := ⟨RL, "element", "(LStepMachines;II[J)I"⟩
abbrev cL_law : ByteArray := code
def yL_law : MethodName := ⟨RL, "law", "([I)Z"⟩
abbrev vwCl : List vw_C := [(RX0, TX0, 11), (RX1, TX1, 6), (RX2, TX2, 13), (RX3, TX3, 2), (RX4, TX4, 2), (RX5, TX5, 2), (RX6, TX6, 2), (RX7, TX7, 2), (RX8, TX8, 8), (RX9, TX9, 58)]
