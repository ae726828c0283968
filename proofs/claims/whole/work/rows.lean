section
-- ===== PART A: goes FIRST, ahead of the names: the tables' words, and 'selects' of the private methods out of them =====
/-- a private method of a class that the tables say can be made, by its rows of tables_1 -/
def lw_okq (q : MethodName × Nat) : Prop := (q.1.cls ≠ "java/lang/invoke/MethodHandle" ∧ q.1.cls ≠ "java/lang/invoke/VarHandle") ∧ Cond.instantiable q.1.cls q.2 ∈ tables_1 ∧ Cond.privateMethod q.1 ∈ tables_1 ∧ Cond.instanceMethod q.1 ∈ tables_1
theorem lw_p0 : lw_okq (⟨"TransducerBench", "isMachine", "(I)Z"⟩, 15) := ⟨⟨by decide +kernel, by decide +kernel⟩, List.mem_of_getElem? (i := 19) (by decide +kernel), List.mem_of_getElem? (i := 492) (by decide +kernel), List.mem_of_getElem? (i := 493) (by decide +kernel)⟩
theorem lw_p1 : lw_okq (⟨"TransducerBench", "isState", "(II)Z"⟩, 15) := ⟨⟨by decide +kernel, by decide +kernel⟩, List.mem_of_getElem? (i := 19) (by decide +kernel), List.mem_of_getElem? (i := 501) (by decide +kernel), List.mem_of_getElem? (i := 502) (by decide +kernel)⟩
theorem lw_p2 : lw_okq (⟨"TransducerBench", "hasLeast", "()Z"⟩, 15) := ⟨⟨by decide +kernel, by decide +kernel⟩, List.mem_of_getElem? (i := 19) (by decide +kernel), List.mem_of_getElem? (i := 542) (by decide +kernel), List.mem_of_getElem? (i := 543) (by decide +kernel)⟩
theorem lw_p3 : lw_okq (⟨"TransducerBench$Least", "beginWord", "()LTransducerBench$Word;"⟩, 11) := ⟨⟨by decide +kernel, by decide +kernel⟩, List.mem_of_getElem? (i := 399) (by decide +kernel), List.mem_of_getElem? (i := 550) (by decide +kernel), List.mem_of_getElem? (i := 551) (by decide +kernel)⟩
theorem lw_p4 : lw_okq (⟨"TransducerBench$Outputs", "begin", "(LTransducerBench$Machine;)V"⟩, 9) := ⟨⟨by decide +kernel, by decide +kernel⟩, List.mem_of_getElem? (i := 110) (by decide +kernel), List.mem_of_getElem? (i := 631) (by decide +kernel), List.mem_of_getElem? (i := 632) (by decide +kernel)⟩
theorem lw_p5 : lw_okq (⟨"TransducerBench$Outputs", "step", "(LTransducerBench$Machine;I)Z"⟩, 9) := ⟨⟨by decide +kernel, by decide +kernel⟩, List.mem_of_getElem? (i := 110) (by decide +kernel), List.mem_of_getElem? (i := 637) (by decide +kernel), List.mem_of_getElem? (i := 638) (by decide +kernel)⟩
theorem lw_p6 : lw_okq (⟨"TransducerBench$Outputs", "reach", "(I)Z"⟩, 9) := ⟨⟨by decide +kernel, by decide +kernel⟩, List.mem_of_getElem? (i := 110) (by decide +kernel), List.mem_of_getElem? (i := 647) (by decide +kernel), List.mem_of_getElem? (i := 648) (by decide +kernel)⟩
theorem lw_p7 : lw_okq (⟨"TransducerBench$Outputs", "turn", "()V"⟩, 9) := ⟨⟨by decide +kernel, by decide +kernel⟩, List.mem_of_getElem? (i := 110) (by decide +kernel), List.mem_of_getElem? (i := 655) (by decide +kernel), List.mem_of_getElem? (i := 656) (by decide +kernel)⟩
theorem lw_p8 : lw_okq (⟨"TransducerBench$Outputs", "finish", "(LTransducerBench$Machine;)V"⟩, 9) := ⟨⟨by decide +kernel, by decide +kernel⟩, List.mem_of_getElem? (i := 110) (by decide +kernel), List.mem_of_getElem? (i := 659) (by decide +kernel), List.mem_of_getElem? (i := 660) (by decide +kernel)⟩
theorem lw_p9 : lw_okq (⟨"TransducerBench$Outputs", "sortIn", "()V"⟩, 9) := ⟨⟨by decide +kernel, by decide +kernel⟩, List.mem_of_getElem? (i := 110) (by decide +kernel), List.mem_of_getElem? (i := 664) (by decide +kernel), List.mem_of_getElem? (i := 665) (by decide +kernel)⟩
theorem lw_p10 : lw_okq (⟨"TransducerBench", "testFunctional", "(LTransducerBench$Machine;)Z"⟩, 15) := ⟨⟨by decide +kernel, by decide +kernel⟩, List.mem_of_getElem? (i := 19) (by decide +kernel), List.mem_of_getElem? (i := 692) (by decide +kernel), List.mem_of_getElem? (i := 693) (by decide +kernel)⟩
theorem lw_p11 : lw_okq (⟨"TransducerBench$Difference", "begin", "(LTransducerBench$Machine;LTransducerBench$Machine;)V"⟩, 11) := ⟨⟨by decide +kernel, by decide +kernel⟩, List.mem_of_getElem? (i := 174) (by decide +kernel), List.mem_of_getElem? (i := 700) (by decide +kernel), List.mem_of_getElem? (i := 701) (by decide +kernel)⟩
theorem lw_p12 : lw_okq (⟨"TransducerBench$Difference", "keep", "()V"⟩, 11) := ⟨⟨by decide +kernel, by decide +kernel⟩, List.mem_of_getElem? (i := 174) (by decide +kernel), List.mem_of_getElem? (i := 711) (by decide +kernel), List.mem_of_getElem? (i := 712) (by decide +kernel)⟩
theorem lw_p13 : lw_okq (⟨"TransducerBench$Difference", "closeGroup", "(III)V"⟩, 11) := ⟨⟨by decide +kernel, by decide +kernel⟩, List.mem_of_getElem? (i := 174) (by decide +kernel), List.mem_of_getElem? (i := 724) (by decide +kernel), List.mem_of_getElem? (i := 725) (by decide +kernel)⟩
theorem lw_p14 : lw_okq (⟨"TransducerBench$Difference", "shows", "(LTransducerBench$Machine;LTransducerBench$Machine;I)Z"⟩, 11) := ⟨⟨by decide +kernel, by decide +kernel⟩, List.mem_of_getElem? (i := 174) (by decide +kernel), List.mem_of_getElem? (i := 728) (by decide +kernel), List.mem_of_getElem? (i := 729) (by decide +kernel)⟩
theorem lw_p15 : lw_okq (⟨"TransducerBench$Difference", "spell", "(ILTransducerBench$Word;)V"⟩, 11) := ⟨⟨by decide +kernel, by decide +kernel⟩, List.mem_of_getElem? (i := 174) (by decide +kernel), List.mem_of_getElem? (i := 736) (by decide +kernel), List.mem_of_getElem? (i := 737) (by decide +kernel)⟩
def lw_privs_1 : List (MethodName × Nat) := [(⟨"TransducerBench", "isMachine", "(I)Z"⟩, 15), (⟨"TransducerBench", "isState", "(II)Z"⟩, 15), (⟨"TransducerBench", "hasLeast", "()Z"⟩, 15), (⟨"TransducerBench$Least", "beginWord", "()LTransducerBench$Word;"⟩, 11), (⟨"TransducerBench$Outputs", "begin", "(LTransducerBench$Machine;)V"⟩, 9), (⟨"TransducerBench$Outputs", "step", "(LTransducerBench$Machine;I)Z"⟩, 9), (⟨"TransducerBench$Outputs", "reach", "(I)Z"⟩, 9), (⟨"TransducerBench$Outputs", "turn", "()V"⟩, 9), (⟨"TransducerBench$Outputs", "finish", "(LTransducerBench$Machine;)V"⟩, 9), (⟨"TransducerBench$Outputs", "sortIn", "()V"⟩, 9), (⟨"TransducerBench", "testFunctional", "(LTransducerBench$Machine;)Z"⟩, 15), (⟨"TransducerBench$Difference", "begin", "(LTransducerBench$Machine;LTransducerBench$Machine;)V"⟩, 11), (⟨"TransducerBench$Difference", "keep", "()V"⟩, 11), (⟨"TransducerBench$Difference", "closeGroup", "(III)V"⟩, 11), (⟨"TransducerBench$Difference", "shows", "(LTransducerBench$Machine;LTransducerBench$Machine;I)Z"⟩, 11), (⟨"TransducerBench$Difference", "spell", "(ILTransducerBench$Word;)V"⟩, 11)]
theorem lw_r1 : ∀ q ∈ lw_privs_1, lw_okq q := List.forall_mem_cons.mpr ⟨lw_p0, List.forall_mem_cons.mpr ⟨lw_p1, List.forall_mem_cons.mpr ⟨lw_p2, List.forall_mem_cons.mpr ⟨lw_p3, List.forall_mem_cons.mpr ⟨lw_p4, List.forall_mem_cons.mpr ⟨lw_p5, List.forall_mem_cons.mpr ⟨lw_p6, List.forall_mem_cons.mpr ⟨lw_p7, List.forall_mem_cons.mpr ⟨lw_p8, List.forall_mem_cons.mpr ⟨lw_p9, List.forall_mem_cons.mpr ⟨lw_p10, List.forall_mem_cons.mpr ⟨lw_p11, List.forall_mem_cons.mpr ⟨lw_p12, List.forall_mem_cons.mpr ⟨lw_p13, List.forall_mem_cons.mpr ⟨lw_p14, List.forall_mem_cons.mpr ⟨lw_p15, fun _ h => absurd h List.not_mem_nil⟩⟩⟩⟩⟩⟩⟩⟩⟩⟩⟩⟩⟩⟩⟩⟩
theorem lw_p16 : lw_okq (⟨"TransducerBench$Difference", "grow", "(LTransducerBench$Machine;LTransducerBench$Machine;II)V"⟩, 11) := ⟨⟨by decide +kernel, by decide +kernel⟩, List.mem_of_getElem? (i := 174) (by decide +kernel), List.mem_of_getElem? (i := 746) (by decide +kernel), List.mem_of_getElem? (i := 747) (by decide +kernel)⟩
theorem lw_p17 : lw_okq (⟨"TransducerBench$Difference", "pairUp", "(LTransducerBench$Machine;ILTransducerBench$Machine;I)V"⟩, 11) := ⟨⟨by decide +kernel, by decide +kernel⟩, List.mem_of_getElem? (i := 174) (by decide +kernel), List.mem_of_getElem? (i := 750) (by decide +kernel), List.mem_of_getElem? (i := 751) (by decide +kernel)⟩
theorem lw_p18 : lw_okq (⟨"TransducerBench$Witness", "write", "(LTransducerBench$Machine;)V"⟩, 8) := ⟨⟨by decide +kernel, by decide +kernel⟩, List.mem_of_getElem? (i := 267) (by decide +kernel), List.mem_of_getElem? (i := 784) (by decide +kernel), List.mem_of_getElem? (i := 785) (by decide +kernel)⟩
theorem lw_p19 : lw_okq (⟨"TransducerBench$Witness", "begin", "(LTransducerBench$Machine;)V"⟩, 8) := ⟨⟨by decide +kernel, by decide +kernel⟩, List.mem_of_getElem? (i := 267) (by decide +kernel), List.mem_of_getElem? (i := 788) (by decide +kernel), List.mem_of_getElem? (i := 789) (by decide +kernel)⟩
theorem lw_p20 : lw_okq (⟨"TransducerBench$Witness", "offerAll", "(LTransducerBench$TwoLeast;ILTransducerBench$TwoLeast;)V"⟩, 8) := ⟨⟨by decide +kernel, by decide +kernel⟩, List.mem_of_getElem? (i := 267) (by decide +kernel), List.mem_of_getElem? (i := 804) (by decide +kernel), List.mem_of_getElem? (i := 805) (by decide +kernel)⟩
theorem lw_p21 : lw_okq (⟨"TransducerBench$Witness", "turn", "()V"⟩, 8) := ⟨⟨by decide +kernel, by decide +kernel⟩, List.mem_of_getElem? (i := 267) (by decide +kernel), List.mem_of_getElem? (i := 809) (by decide +kernel), List.mem_of_getElem? (i := 810) (by decide +kernel)⟩
theorem lw_p22 : lw_okq (⟨"TransducerBench$Readings", "reach", "(IIII)V"⟩, 5) := ⟨⟨by decide +kernel, by decide +kernel⟩, List.mem_of_getElem? (i := 244) (by decide +kernel), List.mem_of_getElem? (i := 822) (by decide +kernel), List.mem_of_getElem? (i := 823) (by decide +kernel)⟩
theorem lw_p23 : lw_okq (⟨"TransducerBench$Readings", "search", "(LTransducerBench$Machine;LTransducerBench$Machine;)I"⟩, 5) := ⟨⟨by decide +kernel, by decide +kernel⟩, List.mem_of_getElem? (i := 244) (by decide +kernel), List.mem_of_getElem? (i := 826) (by decide +kernel), List.mem_of_getElem? (i := 827) (by decide +kernel)⟩
theorem lw_p24 : lw_okq (⟨"TransducerBench$Readings", "spell", "(ILTransducerBench$Word;)V"⟩, 5) := ⟨⟨by decide +kernel, by decide +kernel⟩, List.mem_of_getElem? (i := 244) (by decide +kernel), List.mem_of_getElem? (i := 835) (by decide +kernel), List.mem_of_getElem? (i := 836) (by decide +kernel)⟩
theorem lw_p25 : lw_okq (⟨"TransducerBench", "makeSequential", "(LTransducerBench$Machine;)I"⟩, 15) := ⟨⟨by decide +kernel, by decide +kernel⟩, List.mem_of_getElem? (i := 19) (by decide +kernel), List.mem_of_getElem? (i := 855) (by decide +kernel), List.mem_of_getElem? (i := 856) (by decide +kernel)⟩
theorem lw_p26 : lw_okq (⟨"TransducerBench$Twins", "begin", "(LTransducerBench$Machine;)V"⟩, 8) := ⟨⟨by decide +kernel, by decide +kernel⟩, List.mem_of_getElem? (i := 326) (by decide +kernel), List.mem_of_getElem? (i := 863) (by decide +kernel), List.mem_of_getElem? (i := 864) (by decide +kernel)⟩
theorem lw_p27 : lw_okq (⟨"TransducerBench$Twins", "longestArc", "(LTransducerBench$Machine;)I"⟩, 8) := ⟨⟨by decide +kernel, by decide +kernel⟩, List.mem_of_getElem? (i := 326) (by decide +kernel), List.mem_of_getElem? (i := 868) (by decide +kernel), List.mem_of_getElem? (i := 869) (by decide +kernel)⟩
theorem lw_p28 : lw_okq (⟨"TransducerBench$Twins", "keep", "()V"⟩, 8) := ⟨⟨by decide +kernel, by decide +kernel⟩, List.mem_of_getElem? (i := 326) (by decide +kernel), List.mem_of_getElem? (i := 877) (by decide +kernel), List.mem_of_getElem? (i := 878) (by decide +kernel)⟩
theorem lw_p29 : lw_okq (⟨"TransducerBench$Twins", "lead", "(LTransducerBench$Machine;I)V"⟩, 8) := ⟨⟨by decide +kernel, by decide +kernel⟩, List.mem_of_getElem? (i := 326) (by decide +kernel), List.mem_of_getElem? (i := 892) (by decide +kernel), List.mem_of_getElem? (i := 893) (by decide +kernel)⟩
theorem lw_p30 : lw_okq (⟨"TransducerBench$Twins", "pairUp", "(LTransducerBench$Machine;II)V"⟩, 8) := ⟨⟨by decide +kernel, by decide +kernel⟩, List.mem_of_getElem? (i := 326) (by decide +kernel), List.mem_of_getElem? (i := 896) (by decide +kernel), List.mem_of_getElem? (i := 897) (by decide +kernel)⟩
theorem lw_p31 : lw_okq (⟨"TransducerBench$Sets", "place", "()I"⟩, 8) := ⟨⟨by decide +kernel, by decide +kernel⟩, List.mem_of_getElem? (i := 361) (by decide +kernel), List.mem_of_getElem? (i := 907) (by decide +kernel), List.mem_of_getElem? (i := 908) (by decide +kernel)⟩
def lw_privs_2 : List (MethodName × Nat) := [(⟨"TransducerBench$Difference", "grow", "(LTransducerBench$Machine;LTransducerBench$Machine;II)V"⟩, 11), (⟨"TransducerBench$Difference", "pairUp", "(LTransducerBench$Machine;ILTransducerBench$Machine;I)V"⟩, 11), (⟨"TransducerBench$Witness", "write", "(LTransducerBench$Machine;)V"⟩, 8), (⟨"TransducerBench$Witness", "begin", "(LTransducerBench$Machine;)V"⟩, 8), (⟨"TransducerBench$Witness", "offerAll", "(LTransducerBench$TwoLeast;ILTransducerBench$TwoLeast;)V"⟩, 8), (⟨"TransducerBench$Witness", "turn", "()V"⟩, 8), (⟨"TransducerBench$Readings", "reach", "(IIII)V"⟩, 5), (⟨"TransducerBench$Readings", "search", "(LTransducerBench$Machine;LTransducerBench$Machine;)I"⟩, 5), (⟨"TransducerBench$Readings", "spell", "(ILTransducerBench$Word;)V"⟩, 5), (⟨"TransducerBench", "makeSequential", "(LTransducerBench$Machine;)I"⟩, 15), (⟨"TransducerBench$Twins", "begin", "(LTransducerBench$Machine;)V"⟩, 8), (⟨"TransducerBench$Twins", "longestArc", "(LTransducerBench$Machine;)I"⟩, 8), (⟨"TransducerBench$Twins", "keep", "()V"⟩, 8), (⟨"TransducerBench$Twins", "lead", "(LTransducerBench$Machine;I)V"⟩, 8), (⟨"TransducerBench$Twins", "pairUp", "(LTransducerBench$Machine;II)V"⟩, 8), (⟨"TransducerBench$Sets", "place", "()I"⟩, 8)]
theorem lw_r2 : ∀ q ∈ lw_privs_2, lw_okq q := List.forall_mem_cons.mpr ⟨lw_p16, List.forall_mem_cons.mpr ⟨lw_p17, List.forall_mem_cons.mpr ⟨lw_p18, List.forall_mem_cons.mpr ⟨lw_p19, List.forall_mem_cons.mpr ⟨lw_p20, List.forall_mem_cons.mpr ⟨lw_p21, List.forall_mem_cons.mpr ⟨lw_p22, List.forall_mem_cons.mpr ⟨lw_p23, List.forall_mem_cons.mpr ⟨lw_p24, List.forall_mem_cons.mpr ⟨lw_p25, List.forall_mem_cons.mpr ⟨lw_p26, List.forall_mem_cons.mpr ⟨lw_p27, List.forall_mem_cons.mpr ⟨lw_p28, List.forall_mem_cons.mpr ⟨lw_p29, List.forall_mem_cons.mpr ⟨lw_p30, List.forall_mem_cons.mpr ⟨lw_p31, fun _ h => absurd h List.not_mem_nil⟩⟩⟩⟩⟩⟩⟩⟩⟩⟩⟩⟩⟩⟩⟩⟩
theorem lw_p32 : lw_okq (⟨"TransducerBench$Sets", "isMade", "(I)Z"⟩, 8) := ⟨⟨by decide +kernel, by decide +kernel⟩, List.mem_of_getElem? (i := 361) (by decide +kernel), List.mem_of_getElem? (i := 911) (by decide +kernel), List.mem_of_getElem? (i := 912) (by decide +kernel)⟩
theorem lw_p33 : lw_okq (⟨"TransducerBench$Sets", "lead", "(LTransducerBench$Machine;II)V"⟩, 8) := ⟨⟨by decide +kernel, by decide +kernel⟩, List.mem_of_getElem? (i := 361) (by decide +kernel), List.mem_of_getElem? (i := 918) (by decide +kernel), List.mem_of_getElem? (i := 919) (by decide +kernel)⟩
theorem lw_p34 : lw_okq (⟨"TransducerBench$Sets", "gather", "(LTransducerBench$Machine;II)V"⟩, 8) := ⟨⟨by decide +kernel, by decide +kernel⟩, List.mem_of_getElem? (i := 361) (by decide +kernel), List.mem_of_getElem? (i := 922) (by decide +kernel), List.mem_of_getElem? (i := 923) (by decide +kernel)⟩
theorem lw_p35 : lw_okq (⟨"TransducerBench$Sets", "writeCommon", "(LTransducerBench$Word;)V"⟩, 8) := ⟨⟨by decide +kernel, by decide +kernel⟩, List.mem_of_getElem? (i := 361) (by decide +kernel), List.mem_of_getElem? (i := 927) (by decide +kernel), List.mem_of_getElem? (i := 928) (by decide +kernel)⟩
theorem lw_p36 : lw_okq (⟨"TransducerBench$Least", "setEnd", "(LTransducerBench$Machine;I)V"⟩, 11) := ⟨⟨by decide +kernel, by decide +kernel⟩, List.mem_of_getElem? (i := 399) (by decide +kernel), List.mem_of_getElem? (i := 939) (by decide +kernel), List.mem_of_getElem? (i := 940) (by decide +kernel)⟩
theorem lw_p37 : lw_okq (⟨"TransducerBench$Least", "guessCommons", "()V"⟩, 11) := ⟨⟨by decide +kernel, by decide +kernel⟩, List.mem_of_getElem? (i := 399) (by decide +kernel), List.mem_of_getElem? (i := 947) (by decide +kernel), List.mem_of_getElem? (i := 948) (by decide +kernel)⟩
theorem lw_p38 : lw_okq (⟨"TransducerBench$Least", "guess", "(II)Z"⟩, 11) := ⟨⟨by decide +kernel, by decide +kernel⟩, List.mem_of_getElem? (i := 399) (by decide +kernel), List.mem_of_getElem? (i := 951) (by decide +kernel), List.mem_of_getElem? (i := 952) (by decide +kernel)⟩
theorem lw_p39 : lw_okq (⟨"TransducerBench$Least", "shortenCommons", "()V"⟩, 11) := ⟨⟨by decide +kernel, by decide +kernel⟩, List.mem_of_getElem? (i := 399) (by decide +kernel), List.mem_of_getElem? (i := 959) (by decide +kernel), List.mem_of_getElem? (i := 960) (by decide +kernel)⟩
theorem lw_p40 : lw_okq (⟨"TransducerBench$Least", "commonLength", "(I)I"⟩, 11) := ⟨⟨by decide +kernel, by decide +kernel⟩, List.mem_of_getElem? (i := 399) (by decide +kernel), List.mem_of_getElem? (i := 963) (by decide +kernel), List.mem_of_getElem? (i := 964) (by decide +kernel)⟩
theorem lw_p41 : lw_okq (⟨"TransducerBench$Least", "writeEarly", "()V"⟩, 11) := ⟨⟨by decide +kernel, by decide +kernel⟩, List.mem_of_getElem? (i := 399) (by decide +kernel), List.mem_of_getElem? (i := 974) (by decide +kernel), List.mem_of_getElem? (i := 975) (by decide +kernel)⟩
theorem lw_p42 : lw_okq (⟨"TransducerBench$Least", "part", "()V"⟩, 11) := ⟨⟨by decide +kernel, by decide +kernel⟩, List.mem_of_getElem? (i := 399) (by decide +kernel), List.mem_of_getElem? (i := 979) (by decide +kernel), List.mem_of_getElem? (i := 980) (by decide +kernel)⟩
theorem lw_p43 : lw_okq (⟨"TransducerBench$Least", "writeAlike", "(II)Z"⟩, 11) := ⟨⟨by decide +kernel, by decide +kernel⟩, List.mem_of_getElem? (i := 399) (by decide +kernel), List.mem_of_getElem? (i := 983) (by decide +kernel), List.mem_of_getElem? (i := 984) (by decide +kernel)⟩
theorem lw_p44 : lw_okq (⟨"TransducerBench$Least", "refine", "()Z"⟩, 11) := ⟨⟨by decide +kernel, by decide +kernel⟩, List.mem_of_getElem? (i := 399) (by decide +kernel), List.mem_of_getElem? (i := 988) (by decide +kernel), List.mem_of_getElem? (i := 989) (by decide +kernel)⟩
theorem lw_p45 : lw_okq (⟨"TransducerBench$Least", "goAlike", "(II)Z"⟩, 11) := ⟨⟨by decide +kernel, by decide +kernel⟩, List.mem_of_getElem? (i := 399) (by decide +kernel), List.mem_of_getElem? (i := 992) (by decide +kernel), List.mem_of_getElem? (i := 993) (by decide +kernel)⟩
theorem lw_p46 : lw_okq (⟨"TransducerBench$Least", "number", "()V"⟩, 11) := ⟨⟨by decide +kernel, by decide +kernel⟩, List.mem_of_getElem? (i := 399) (by decide +kernel), List.mem_of_getElem? (i := 997) (by decide +kernel), List.mem_of_getElem? (i := 998) (by decide +kernel)⟩
theorem lw_p47 : lw_okq (⟨"TransducerBench$Least", "call", "(I)V"⟩, 11) := ⟨⟨by decide +kernel, by decide +kernel⟩, List.mem_of_getElem? (i := 399) (by decide +kernel), List.mem_of_getElem? (i := 1002) (by decide +kernel), List.mem_of_getElem? (i := 1003) (by decide +kernel)⟩
def lw_privs_3 : List (MethodName × Nat) := [(⟨"TransducerBench$Sets", "isMade", "(I)Z"⟩, 8), (⟨"TransducerBench$Sets", "lead", "(LTransducerBench$Machine;II)V"⟩, 8), (⟨"TransducerBench$Sets", "gather", "(LTransducerBench$Machine;II)V"⟩, 8), (⟨"TransducerBench$Sets", "writeCommon", "(LTransducerBench$Word;)V"⟩, 8), (⟨"TransducerBench$Least", "setEnd", "(LTransducerBench$Machine;I)V"⟩, 11), (⟨"TransducerBench$Least", "guessCommons", "()V"⟩, 11), (⟨"TransducerBench$Least", "guess", "(II)Z"⟩, 11), (⟨"TransducerBench$Least", "shortenCommons", "()V"⟩, 11), (⟨"TransducerBench$Least", "commonLength", "(I)I"⟩, 11), (⟨"TransducerBench$Least", "writeEarly", "()V"⟩, 11), (⟨"TransducerBench$Least", "part", "()V"⟩, 11), (⟨"TransducerBench$Least", "writeAlike", "(II)Z"⟩, 11), (⟨"TransducerBench$Least", "refine", "()Z"⟩, 11), (⟨"TransducerBench$Least", "goAlike", "(II)Z"⟩, 11), (⟨"TransducerBench$Least", "number", "()V"⟩, 11), (⟨"TransducerBench$Least", "call", "(I)V"⟩, 11)]
theorem lw_r3 : ∀ q ∈ lw_privs_3, lw_okq q := List.forall_mem_cons.mpr ⟨lw_p32, List.forall_mem_cons.mpr ⟨lw_p33, List.forall_mem_cons.mpr ⟨lw_p34, List.forall_mem_cons.mpr ⟨lw_p35, List.forall_mem_cons.mpr ⟨lw_p36, List.forall_mem_cons.mpr ⟨lw_p37, List.forall_mem_cons.mpr ⟨lw_p38, List.forall_mem_cons.mpr ⟨lw_p39, List.forall_mem_cons.mpr ⟨lw_p40, List.forall_mem_cons.mpr ⟨lw_p41, List.forall_mem_cons.mpr ⟨lw_p42, List.forall_mem_cons.mpr ⟨lw_p43, List.forall_mem_cons.mpr ⟨lw_p44, List.forall_mem_cons.mpr ⟨lw_p45, List.forall_mem_cons.mpr ⟨lw_p46, List.forall_mem_cons.mpr ⟨lw_p47, fun _ h => absurd h List.not_mem_nil⟩⟩⟩⟩⟩⟩⟩⟩⟩⟩⟩⟩⟩⟩⟩⟩
theorem lw_p48 : lw_okq (⟨"TransducerBench$Least", "addWordOf", "(IILTransducerBench$Word;)V"⟩, 11) := ⟨⟨by decide +kernel, by decide +kernel⟩, List.mem_of_getElem? (i := 399) (by decide +kernel), List.mem_of_getElem? (i := 1044) (by decide +kernel), List.mem_of_getElem? (i := 1045) (by decide +kernel)⟩
theorem lw_p49 : lw_okq (⟨"TransducerBenchModel", "isState", "(II)Z"⟩, 93) := ⟨⟨by decide +kernel, by decide +kernel⟩, List.mem_of_getElem? (i := 1052) (by decide +kernel), List.mem_of_getElem? (i := 1357) (by decide +kernel), List.mem_of_getElem? (i := 1358) (by decide +kernel)⟩
theorem lw_p50 : lw_okq (⟨"TransducerBenchModel", "comes", "(IIIII)V"⟩, 93) := ⟨⟨by decide +kernel, by decide +kernel⟩, List.mem_of_getElem? (i := 1052) (by decide +kernel), List.mem_of_getElem? (i := 1375) (by decide +kernel), List.mem_of_getElem? (i := 1376) (by decide +kernel)⟩
theorem lw_p51 : lw_okq (⟨"TransducerBenchModel", "uses", "(I)V"⟩, 93) := ⟨⟨by decide +kernel, by decide +kernel⟩, List.mem_of_getElem? (i := 1052) (by decide +kernel), List.mem_of_getElem? (i := 1388) (by decide +kernel), List.mem_of_getElem? (i := 1389) (by decide +kernel)⟩
theorem lw_p52 : lw_okq (⟨"TransducerBenchModel", "later", "(II)Z"⟩, 93) := ⟨⟨by decide +kernel, by decide +kernel⟩, List.mem_of_getElem? (i := 1052) (by decide +kernel), List.mem_of_getElem? (i := 1400) (by decide +kernel), List.mem_of_getElem? (i := 1401) (by decide +kernel)⟩
theorem lw_p53 : lw_okq (⟨"TransducerBenchModel", "nowLater", "()V"⟩, 93) := ⟨⟨by decide +kernel, by decide +kernel⟩, List.mem_of_getElem? (i := 1052) (by decide +kernel), List.mem_of_getElem? (i := 1404) (by decide +kernel), List.mem_of_getElem? (i := 1405) (by decide +kernel)⟩
theorem lw_p54 : lw_okq (⟨"TransducerBenchModel", "joined", "(II)I"⟩, 93) := ⟨⟨by decide +kernel, by decide +kernel⟩, List.mem_of_getElem? (i := 1052) (by decide +kernel), List.mem_of_getElem? (i := 1411) (by decide +kernel), List.mem_of_getElem? (i := 1412) (by decide +kernel)⟩
theorem lw_p55 : lw_okq (⟨"TransducerBenchModel", "sorts", "()V"⟩, 93) := ⟨⟨by decide +kernel, by decide +kernel⟩, List.mem_of_getElem? (i := 1052) (by decide +kernel), List.mem_of_getElem? (i := 1415) (by decide +kernel), List.mem_of_getElem? (i := 1416) (by decide +kernel)⟩
theorem lw_p56 : lw_okq (⟨"TransducerBenchModel", "isLess", "(II)Z"⟩, 93) := ⟨⟨by decide +kernel, by decide +kernel⟩, List.mem_of_getElem? (i := 1052) (by decide +kernel), List.mem_of_getElem? (i := 1419) (by decide +kernel), List.mem_of_getElem? (i := 1420) (by decide +kernel)⟩
theorem lw_p57 : lw_okq (⟨"TransducerBenchModel", "unlike", "(II)I"⟩, 93) := ⟨⟨by decide +kernel, by decide +kernel⟩, List.mem_of_getElem? (i := 1052) (by decide +kernel), List.mem_of_getElem? (i := 1439) (by decide +kernel), List.mem_of_getElem? (i := 1440) (by decide +kernel)⟩
theorem lw_p58 : lw_okq (⟨"TransducerBenchModel", "meets", "(II)V"⟩, 93) := ⟨⟨by decide +kernel, by decide +kernel⟩, List.mem_of_getElem? (i := 1052) (by decide +kernel), List.mem_of_getElem? (i := 1443) (by decide +kernel), List.mem_of_getElem? (i := 1444) (by decide +kernel)⟩
theorem lw_p59 : lw_okq (⟨"TransducerBenchModel", "rows", "(III)V"⟩, 93) := ⟨⟨by decide +kernel, by decide +kernel⟩, List.mem_of_getElem? (i := 1052) (by decide +kernel), List.mem_of_getElem? (i := 1447) (by decide +kernel), List.mem_of_getElem? (i := 1448) (by decide +kernel)⟩
theorem lw_p60 : lw_okq (⟨"TransducerBenchModel", "config", "(IIZIII)V"⟩, 93) := ⟨⟨by decide +kernel, by decide +kernel⟩, List.mem_of_getElem? (i := 1052) (by decide +kernel), List.mem_of_getElem? (i := 1451) (by decide +kernel), List.mem_of_getElem? (i := 1452) (by decide +kernel)⟩
theorem lw_p61 : lw_okq (⟨"TransducerBenchModel", "parts", "(III)Z"⟩, 93) := ⟨⟨by decide +kernel, by decide +kernel⟩, List.mem_of_getElem? (i := 1052) (by decide +kernel), List.mem_of_getElem? (i := 1455) (by decide +kernel), List.mem_of_getElem? (i := 1456) (by decide +kernel)⟩
theorem lw_p62 : lw_okq (⟨"TransducerBenchModel", "goOn", "(IIIII)V"⟩, 93) := ⟨⟨by decide +kernel, by decide +kernel⟩, List.mem_of_getElem? (i := 1052) (by decide +kernel), List.mem_of_getElem? (i := 1459) (by decide +kernel), List.mem_of_getElem? (i := 1460) (by decide +kernel)⟩
theorem lw_p63 : lw_okq (⟨"TransducerBenchModel", "wordOf", "(I)V"⟩, 93) := ⟨⟨by decide +kernel, by decide +kernel⟩, List.mem_of_getElem? (i := 1052) (by decide +kernel), List.mem_of_getElem? (i := 1463) (by decide +kernel), List.mem_of_getElem? (i := 1464) (by decide +kernel)⟩
def lw_privs_4 : List (MethodName × Nat) := [(⟨"TransducerBench$Least", "addWordOf", "(IILTransducerBench$Word;)V"⟩, 11), (⟨"TransducerBenchModel", "isState", "(II)Z"⟩, 93), (⟨"TransducerBenchModel", "comes", "(IIIII)V"⟩, 93), (⟨"TransducerBenchModel", "uses", "(I)V"⟩, 93), (⟨"TransducerBenchModel", "later", "(II)Z"⟩, 93), (⟨"TransducerBenchModel", "nowLater", "()V"⟩, 93), (⟨"TransducerBenchModel", "joined", "(II)I"⟩, 93), (⟨"TransducerBenchModel", "sorts", "()V"⟩, 93), (⟨"TransducerBenchModel", "isLess", "(II)Z"⟩, 93), (⟨"TransducerBenchModel", "unlike", "(II)I"⟩, 93), (⟨"TransducerBenchModel", "meets", "(II)V"⟩, 93), (⟨"TransducerBenchModel", "rows", "(III)V"⟩, 93), (⟨"TransducerBenchModel", "config", "(IIZIII)V"⟩, 93), (⟨"TransducerBenchModel", "parts", "(III)Z"⟩, 93), (⟨"TransducerBenchModel", "goOn", "(IIIII)V"⟩, 93), (⟨"TransducerBenchModel", "wordOf", "(I)V"⟩, 93)]
theorem lw_r4 : ∀ q ∈ lw_privs_4, lw_okq q := List.forall_mem_cons.mpr ⟨lw_p48, List.forall_mem_cons.mpr ⟨lw_p49, List.forall_mem_cons.mpr ⟨lw_p50, List.forall_mem_cons.mpr ⟨lw_p51, List.forall_mem_cons.mpr ⟨lw_p52, List.forall_mem_cons.mpr ⟨lw_p53, List.forall_mem_cons.mpr ⟨lw_p54, List.forall_mem_cons.mpr ⟨lw_p55, List.forall_mem_cons.mpr ⟨lw_p56, List.forall_mem_cons.mpr ⟨lw_p57, List.forall_mem_cons.mpr ⟨lw_p58, List.forall_mem_cons.mpr ⟨lw_p59, List.forall_mem_cons.mpr ⟨lw_p60, List.forall_mem_cons.mpr ⟨lw_p61, List.forall_mem_cons.mpr ⟨lw_p62, List.forall_mem_cons.mpr ⟨lw_p63, fun _ h => absurd h List.not_mem_nil⟩⟩⟩⟩⟩⟩⟩⟩⟩⟩⟩⟩⟩⟩⟩⟩
theorem lw_p64 : lw_okq (⟨"TransducerBenchModel", "depth", "(I)I"⟩, 93) := ⟨⟨by decide +kernel, by decide +kernel⟩, List.mem_of_getElem? (i := 1052) (by decide +kernel), List.mem_of_getElem? (i := 1467) (by decide +kernel), List.mem_of_getElem? (i := 1468) (by decide +kernel)⟩
theorem lw_p65 : lw_okq (⟨"TransducerBenchModel", "leasts", "(I)V"⟩, 93) := ⟨⟨by decide +kernel, by decide +kernel⟩, List.mem_of_getElem? (i := 1052) (by decide +kernel), List.mem_of_getElem? (i := 1471) (by decide +kernel), List.mem_of_getElem? (i := 1472) (by decide +kernel)⟩
theorem lw_p66 : lw_okq (⟨"TransducerBenchModel", "offers", "(II)V"⟩, 93) := ⟨⟨by decide +kernel, by decide +kernel⟩, List.mem_of_getElem? (i := 1052) (by decide +kernel), List.mem_of_getElem? (i := 1475) (by decide +kernel), List.mem_of_getElem? (i := 1476) (by decide +kernel)⟩
theorem lw_p67 : lw_okq (⟨"TransducerBenchModel", "order", "(II)I"⟩, 93) := ⟨⟨by decide +kernel, by decide +kernel⟩, List.mem_of_getElem? (i := 1052) (by decide +kernel), List.mem_of_getElem? (i := 1479) (by decide +kernel), List.mem_of_getElem? (i := 1480) (by decide +kernel)⟩
theorem lw_p68 : lw_okq (⟨"TransducerBenchModel", "moves", "(II)V"⟩, 93) := ⟨⟨by decide +kernel, by decide +kernel⟩, List.mem_of_getElem? (i := 1052) (by decide +kernel), List.mem_of_getElem? (i := 1483) (by decide +kernel), List.mem_of_getElem? (i := 1484) (by decide +kernel)⟩
theorem lw_p69 : lw_okq (⟨"TransducerBenchModel", "turns", "()V"⟩, 93) := ⟨⟨by decide +kernel, by decide +kernel⟩, List.mem_of_getElem? (i := 1052) (by decide +kernel), List.mem_of_getElem? (i := 1487) (by decide +kernel), List.mem_of_getElem? (i := 1488) (by decide +kernel)⟩
theorem lw_p70 : lw_okq (⟨"TransducerBenchModel", "behind", "(II)I"⟩, 93) := ⟨⟨by decide +kernel, by decide +kernel⟩, List.mem_of_getElem? (i := 1052) (by decide +kernel), List.mem_of_getElem? (i := 1491) (by decide +kernel), List.mem_of_getElem? (i := 1492) (by decide +kernel)⟩
theorem lw_p71 : lw_okq (⟨"TransducerBenchModel", "keepsOutput", "(II)V"⟩, 93) := ⟨⟨by decide +kernel, by decide +kernel⟩, List.mem_of_getElem? (i := 1052) (by decide +kernel), List.mem_of_getElem? (i := 1495) (by decide +kernel), List.mem_of_getElem? (i := 1496) (by decide +kernel)⟩
theorem lw_p72 : lw_okq (⟨"TransducerBenchModel", "alone", "()I"⟩, 93) := ⟨⟨by decide +kernel, by decide +kernel⟩, List.mem_of_getElem? (i := 1052) (by decide +kernel), List.mem_of_getElem? (i := 1503) (by decide +kernel), List.mem_of_getElem? (i := 1504) (by decide +kernel)⟩
theorem lw_p73 : lw_okq (⟨"TransducerBenchModel", "set", "(III)V"⟩, 93) := ⟨⟨by decide +kernel, by decide +kernel⟩, List.mem_of_getElem? (i := 1052) (by decide +kernel), List.mem_of_getElem? (i := 1507) (by decide +kernel), List.mem_of_getElem? (i := 1508) (by decide +kernel)⟩
theorem lw_p74 : lw_okq (⟨"TransducerBenchModel", "reads", "(II)Z"⟩, 93) := ⟨⟨by decide +kernel, by decide +kernel⟩, List.mem_of_getElem? (i := 1052) (by decide +kernel), List.mem_of_getElem? (i := 1511) (by decide +kernel), List.mem_of_getElem? (i := 1512) (by decide +kernel)⟩
theorem lw_p75 : lw_okq (⟨"TransducerBenchModel", "goesBy", "(III)I"⟩, 93) := ⟨⟨by decide +kernel, by decide +kernel⟩, List.mem_of_getElem? (i := 1052) (by decide +kernel), List.mem_of_getElem? (i := 1515) (by decide +kernel), List.mem_of_getElem? (i := 1516) (by decide +kernel)⟩
theorem lw_p76 : lw_okq (⟨"TransducerBenchModel", "wordOfSet", "(I)V"⟩, 93) := ⟨⟨by decide +kernel, by decide +kernel⟩, List.mem_of_getElem? (i := 1052) (by decide +kernel), List.mem_of_getElem? (i := 1519) (by decide +kernel), List.mem_of_getElem? (i := 1520) (by decide +kernel)⟩
theorem lw_p77 : lw_okq (⟨"TransducerBenchModel", "deepOf", "(I)I"⟩, 93) := ⟨⟨by decide +kernel, by decide +kernel⟩, List.mem_of_getElem? (i := 1052) (by decide +kernel), List.mem_of_getElem? (i := 1523) (by decide +kernel), List.mem_of_getElem? (i := 1524) (by decide +kernel)⟩
theorem lw_p78 : lw_okq (⟨"TransducerBenchModel", "bothWrote", "()V"⟩, 93) := ⟨⟨by decide +kernel, by decide +kernel⟩, List.mem_of_getElem? (i := 1052) (by decide +kernel), List.mem_of_getElem? (i := 1527) (by decide +kernel), List.mem_of_getElem? (i := 1528) (by decide +kernel)⟩
theorem lw_p79 : lw_okq (⟨"TransducerBenchModel", "isAhead", "(II)Z"⟩, 93) := ⟨⟨by decide +kernel, by decide +kernel⟩, List.mem_of_getElem? (i := 1052) (by decide +kernel), List.mem_of_getElem? (i := 1536) (by decide +kernel), List.mem_of_getElem? (i := 1537) (by decide +kernel)⟩
def lw_privs_5 : List (MethodName × Nat) := [(⟨"TransducerBenchModel", "depth", "(I)I"⟩, 93), (⟨"TransducerBenchModel", "leasts", "(I)V"⟩, 93), (⟨"TransducerBenchModel", "offers", "(II)V"⟩, 93), (⟨"TransducerBenchModel", "order", "(II)I"⟩, 93), (⟨"TransducerBenchModel", "moves", "(II)V"⟩, 93), (⟨"TransducerBenchModel", "turns", "()V"⟩, 93), (⟨"TransducerBenchModel", "behind", "(II)I"⟩, 93), (⟨"TransducerBenchModel", "keepsOutput", "(II)V"⟩, 93), (⟨"TransducerBenchModel", "alone", "()I"⟩, 93), (⟨"TransducerBenchModel", "set", "(III)V"⟩, 93), (⟨"TransducerBenchModel", "reads", "(II)Z"⟩, 93), (⟨"TransducerBenchModel", "goesBy", "(III)I"⟩, 93), (⟨"TransducerBenchModel", "wordOfSet", "(I)V"⟩, 93), (⟨"TransducerBenchModel", "deepOf", "(I)I"⟩, 93), (⟨"TransducerBenchModel", "bothWrote", "()V"⟩, 93), (⟨"TransducerBenchModel", "isAhead", "(II)Z"⟩, 93)]
theorem lw_r5 : ∀ q ∈ lw_privs_5, lw_okq q := List.forall_mem_cons.mpr ⟨lw_p64, List.forall_mem_cons.mpr ⟨lw_p65, List.forall_mem_cons.mpr ⟨lw_p66, List.forall_mem_cons.mpr ⟨lw_p67, List.forall_mem_cons.mpr ⟨lw_p68, List.forall_mem_cons.mpr ⟨lw_p69, List.forall_mem_cons.mpr ⟨lw_p70, List.forall_mem_cons.mpr ⟨lw_p71, List.forall_mem_cons.mpr ⟨lw_p72, List.forall_mem_cons.mpr ⟨lw_p73, List.forall_mem_cons.mpr ⟨lw_p74, List.forall_mem_cons.mpr ⟨lw_p75, List.forall_mem_cons.mpr ⟨lw_p76, List.forall_mem_cons.mpr ⟨lw_p77, List.forall_mem_cons.mpr ⟨lw_p78, List.forall_mem_cons.mpr ⟨lw_p79, fun _ h => absurd h List.not_mem_nil⟩⟩⟩⟩⟩⟩⟩⟩⟩⟩⟩⟩⟩⟩⟩⟩
theorem lw_p80 : lw_okq (⟨"TransducerBenchModel", "twinsOf", "(I)I"⟩, 93) := ⟨⟨by decide +kernel, by decide +kernel⟩, List.mem_of_getElem? (i := 1052) (by decide +kernel), List.mem_of_getElem? (i := 1544) (by decide +kernel), List.mem_of_getElem? (i := 1545) (by decide +kernel)⟩
theorem lw_p81 : lw_okq (⟨"TransducerBenchModel", "isUsedArc", "(II)Z"⟩, 93) := ⟨⟨by decide +kernel, by decide +kernel⟩, List.mem_of_getElem? (i := 1052) (by decide +kernel), List.mem_of_getElem? (i := 1548) (by decide +kernel), List.mem_of_getElem? (i := 1549) (by decide +kernel)⟩
theorem lw_p82 : lw_okq (⟨"TransducerBenchModel", "twin", "(II)V"⟩, 93) := ⟨⟨by decide +kernel, by decide +kernel⟩, List.mem_of_getElem? (i := 1052) (by decide +kernel), List.mem_of_getElem? (i := 1552) (by decide +kernel), List.mem_of_getElem? (i := 1553) (by decide +kernel)⟩
theorem lw_p83 : lw_okq (⟨"TransducerBenchModel", "twinRows", "(III)V"⟩, 93) := ⟨⟨by decide +kernel, by decide +kernel⟩, List.mem_of_getElem? (i := 1052) (by decide +kernel), List.mem_of_getElem? (i := 1556) (by decide +kernel), List.mem_of_getElem? (i := 1557) (by decide +kernel)⟩
theorem lw_p84 : lw_okq (⟨"TransducerBenchModel", "makes", "(I)Z"⟩, 93) := ⟨⟨by decide +kernel, by decide +kernel⟩, List.mem_of_getElem? (i := 1052) (by decide +kernel), List.mem_of_getElem? (i := 1560) (by decide +kernel), List.mem_of_getElem? (i := 1561) (by decide +kernel)⟩
theorem lw_p85 : lw_okq (⟨"TransducerBenchModel", "setOfNow", "(I)I"⟩, 93) := ⟨⟨by decide +kernel, by decide +kernel⟩, List.mem_of_getElem? (i := 1052) (by decide +kernel), List.mem_of_getElem? (i := 1564) (by decide +kernel), List.mem_of_getElem? (i := 1565) (by decide +kernel)⟩
theorem lw_p86 : lw_okq (⟨"TransducerBenchModel", "goesOn", "(III)V"⟩, 93) := ⟨⟨by decide +kernel, by decide +kernel⟩, List.mem_of_getElem? (i := 1052) (by decide +kernel), List.mem_of_getElem? (i := 1568) (by decide +kernel), List.mem_of_getElem? (i := 1569) (by decide +kernel)⟩
theorem lw_p87 : lw_okq (⟨"TransducerBenchModel", "draws", "()I"⟩, 93) := ⟨⟨by decide +kernel, by decide +kernel⟩, List.mem_of_getElem? (i := 1052) (by decide +kernel), List.mem_of_getElem? (i := 1572) (by decide +kernel), List.mem_of_getElem? (i := 1573) (by decide +kernel)⟩
theorem lw_p88 : lw_okq (⟨"TransducerBenchModel", "endsOf", "(I)V"⟩, 93) := ⟨⟨by decide +kernel, by decide +kernel⟩, List.mem_of_getElem? (i := 1052) (by decide +kernel), List.mem_of_getElem? (i := 1576) (by decide +kernel), List.mem_of_getElem? (i := 1577) (by decide +kernel)⟩
theorem lw_p89 : lw_okq (⟨"TransducerBenchModel", "heads", "()V"⟩, 93) := ⟨⟨by decide +kernel, by decide +kernel⟩, List.mem_of_getElem? (i := 1052) (by decide +kernel), List.mem_of_getElem? (i := 1580) (by decide +kernel), List.mem_of_getElem? (i := 1581) (by decide +kernel)⟩
theorem lw_p90 : lw_okq (⟨"TransducerBenchModel", "tries", "([BIII)V"⟩, 93) := ⟨⟨by decide +kernel, by decide +kernel⟩, List.mem_of_getElem? (i := 1052) (by decide +kernel), List.mem_of_getElem? (i := 1584) (by decide +kernel), List.mem_of_getElem? (i := 1585) (by decide +kernel)⟩
theorem lw_p91 : lw_okq (⟨"TransducerBenchModel", "fulls", "()V"⟩, 93) := ⟨⟨by decide +kernel, by decide +kernel⟩, List.mem_of_getElem? (i := 1052) (by decide +kernel), List.mem_of_getElem? (i := 1588) (by decide +kernel), List.mem_of_getElem? (i := 1589) (by decide +kernel)⟩
theorem lw_p92 : lw_okq (⟨"TransducerBenchModel", "least", "()V"⟩, 93) := ⟨⟨by decide +kernel, by decide +kernel⟩, List.mem_of_getElem? (i := 1052) (by decide +kernel), List.mem_of_getElem? (i := 1592) (by decide +kernel), List.mem_of_getElem? (i := 1593) (by decide +kernel)⟩
theorem lw_p93 : lw_okq (⟨"TransducerBenchModel", "isAlike", "(II)Z"⟩, 93) := ⟨⟨by decide +kernel, by decide +kernel⟩, List.mem_of_getElem? (i := 1052) (by decide +kernel), List.mem_of_getElem? (i := 1596) (by decide +kernel), List.mem_of_getElem? (i := 1597) (by decide +kernel)⟩
theorem lw_p94 : lw_okq (⟨"TransducerBenchModel", "isLeast", "(I)Z"⟩, 93) := ⟨⟨by decide +kernel, by decide +kernel⟩, List.mem_of_getElem? (i := 1052) (by decide +kernel), List.mem_of_getElem? (i := 1608) (by decide +kernel), List.mem_of_getElem? (i := 1609) (by decide +kernel)⟩
theorem lw_p95 : lw_okq (⟨"TransducerBenchModel", "behindAct", "(II)I"⟩, 93) := ⟨⟨by decide +kernel, by decide +kernel⟩, List.mem_of_getElem? (i := 1052) (by decide +kernel), List.mem_of_getElem? (i := 1620) (by decide +kernel), List.mem_of_getElem? (i := 1621) (by decide +kernel)⟩
def lw_privs_6 : List (MethodName × Nat) := [(⟨"TransducerBenchModel", "twinsOf", "(I)I"⟩, 93), (⟨"TransducerBenchModel", "isUsedArc", "(II)Z"⟩, 93), (⟨"TransducerBenchModel", "twin", "(II)V"⟩, 93), (⟨"TransducerBenchModel", "twinRows", "(III)V"⟩, 93), (⟨"TransducerBenchModel", "makes", "(I)Z"⟩, 93), (⟨"TransducerBenchModel", "setOfNow", "(I)I"⟩, 93), (⟨"TransducerBenchModel", "goesOn", "(III)V"⟩, 93), (⟨"TransducerBenchModel", "draws", "()I"⟩, 93), (⟨"TransducerBenchModel", "endsOf", "(I)V"⟩, 93), (⟨"TransducerBenchModel", "heads", "()V"⟩, 93), (⟨"TransducerBenchModel", "tries", "([BIII)V"⟩, 93), (⟨"TransducerBenchModel", "fulls", "()V"⟩, 93), (⟨"TransducerBenchModel", "least", "()V"⟩, 93), (⟨"TransducerBenchModel", "isAlike", "(II)Z"⟩, 93), (⟨"TransducerBenchModel", "isLeast", "(I)Z"⟩, 93), (⟨"TransducerBenchModel", "behindAct", "(II)I"⟩, 93)]
theorem lw_r6 : ∀ q ∈ lw_privs_6, lw_okq q := List.forall_mem_cons.mpr ⟨lw_p80, List.forall_mem_cons.mpr ⟨lw_p81, List.forall_mem_cons.mpr ⟨lw_p82, List.forall_mem_cons.mpr ⟨lw_p83, List.forall_mem_cons.mpr ⟨lw_p84, List.forall_mem_cons.mpr ⟨lw_p85, List.forall_mem_cons.mpr ⟨lw_p86, List.forall_mem_cons.mpr ⟨lw_p87, List.forall_mem_cons.mpr ⟨lw_p88, List.forall_mem_cons.mpr ⟨lw_p89, List.forall_mem_cons.mpr ⟨lw_p90, List.forall_mem_cons.mpr ⟨lw_p91, List.forall_mem_cons.mpr ⟨lw_p92, List.forall_mem_cons.mpr ⟨lw_p93, List.forall_mem_cons.mpr ⟨lw_p94, List.forall_mem_cons.mpr ⟨lw_p95, fun _ h => absurd h List.not_mem_nil⟩⟩⟩⟩⟩⟩⟩⟩⟩⟩⟩⟩⟩⟩⟩⟩
theorem lw_p96 : lw_okq (⟨"TransducerBenchModel", "wordOfLeast", "(I)I"⟩, 93) := ⟨⟨by decide +kernel, by decide +kernel⟩, List.mem_of_getElem? (i := 1052) (by decide +kernel), List.mem_of_getElem? (i := 1632) (by decide +kernel), List.mem_of_getElem? (i := 1633) (by decide +kernel)⟩
def lw_privs_7 : List (MethodName × Nat) := [(⟨"TransducerBenchModel", "wordOfLeast", "(I)I"⟩, 93)]
theorem lw_r7 : ∀ q ∈ lw_privs_7, lw_okq q := List.forall_mem_cons.mpr ⟨lw_p96, fun _ h => absurd h List.not_mem_nil⟩
def lw_privs : List (MethodName × Nat) := lw_privs_1 ++ (lw_privs_2 ++ (lw_privs_3 ++ (lw_privs_4 ++ (lw_privs_5 ++ (lw_privs_6 ++ (lw_privs_7))))))
def lw_tbl : List Cond := k2_sels lw_privs ++ tables_1
theorem lw_privs_ok : ∀ q ∈ lw_privs, lw_okq q := by
  show ∀ q ∈ lw_privs_1 ++ (lw_privs_2 ++ (lw_privs_3 ++ (lw_privs_4 ++ (lw_privs_5 ++ (lw_privs_6 ++ (lw_privs_7)))))), lw_okq q
  exact List.forall_mem_append.mpr ⟨lw_r1, List.forall_mem_append.mpr ⟨lw_r2, List.forall_mem_append.mpr ⟨lw_r3, List.forall_mem_append.mpr ⟨lw_r4, List.forall_mem_append.mpr ⟨lw_r5, List.forall_mem_append.mpr ⟨lw_r6, lw_r7⟩⟩⟩⟩⟩⟩
end
section
def RX0 : String := "TransducerBench$Difference"
def TX0 : u_T := fun k => match k with
  | 0 => ("TransducerBench$Difference", "pairs", "[LTransducerBench$Pair;", true)
  | 1 => ("TransducerBench$Difference", "count", "I", false)
  | 2 => ("TransducerBench$Difference", "firstKept", "[I", true)
  | 3 => ("TransducerBench$Difference", "kept", "[I", true)
  | 4 => ("TransducerBench$Difference", "groupStart", "[I", true)
  | 5 => ("TransducerBench$Difference", "groupEnd", "[I", true)
  | 6 => ("TransducerBench$Difference", "groupBefore", "[I", true)
  | 7 => ("TransducerBench$Difference", "groupLetter", "[I", true)
  | 8 => ("TransducerBench$Difference", "groups", "I", false)
  | 9 => ("TransducerBench$Difference", "leftText", "LTransducerBench$Word;", true)
  | _ => ("TransducerBench$Difference", "rightText", "LTransducerBench$Word;", true)
def tyX0 : Nat → FieldType := fun k => match k with
  | 0 => .array (.object "TransducerBench$Pair")
  | 1 => .int
  | 2 => .array .int
  | 3 => .array .int
  | 4 => .array .int
  | 5 => .array .int
  | 6 => .array .int
  | 7 => .array .int
  | 8 => .int
  | 9 => .object "TransducerBench$Word"
  | _ => .object "TransducerBench$Word"
abbrev wsX00 : List Cond := u_ws RX0 TX0 11
theorem nmX0 : ∀ a, a < 11 → ∀ b, b < 11 → a ≠ b → (TX0 a).2.1 ≠ (TX0 b).2.1 := by decide +kernel
theorem tyX0_ok : ∀ k, k < 11 → parseFieldDescriptor (TX0 k).2.2.1 = some (tyX0 k) := by decide +kernel
abbrev cX0_init : ByteArray := prog_2_method_1_code
def yX0_init : MethodName := ⟨RX0, "<init>", "()V"⟩
abbrev cX0_differ : ByteArray := prog_2_method_2_code
def yX0_differ : MethodName := ⟨RX0, "differ", "(LTransducerBench$Machine;LTransducerBench$Machine;LTransducerBench$Word;)Z"⟩
abbrev cX0_begin : ByteArray := prog_2_method_3_code
def yX0_begin : MethodName := ⟨RX0, "begin", "(LTransducerBench$Machine;LTransducerBench$Machine;)V"⟩
abbrev cX0_grow : ByteArray := prog_2_method_4_code
def yX0_grow : MethodName := ⟨RX0, "grow", "(LTransducerBench$Machine;LTransducerBench$Machine;II)V"⟩
abbrev cX0_pairUp : ByteArray := prog_2_method_5_code
def yX0_pairUp : MethodName := ⟨RX0, "pairUp", "(LTransducerBench$Machine;ILTransducerBench$Machine;I)V"⟩
abbrev cX0_keep : ByteArray := prog_2_method_6_code
def yX0_keep : MethodName := ⟨RX0, "keep", "()V"⟩
abbrev cX0_closeGroup : ByteArray := prog_2_method_7_code
def yX0_closeGroup : MethodName := ⟨RX0, "closeGroup", "(III)V"⟩
abbrev cX0_shows : ByteArray := prog_2_method_8_code
def yX0_shows : MethodName := ⟨RX0, "shows", "(LTransducerBench$Machine;LTransducerBench$Machine;I)Z"⟩
abbrev cX0_spell : ByteArray := prog_2_method_9_code
def yX0_spell : MethodName := ⟨RX0, "spell", "(ILTransducerBench$Word;)V"⟩
def RX1 : String := "TransducerBench$Least"
def TX1 : u_T := fun k => match k with
  | 0 => ("TransducerBench$Least", "states", "I", false)
  | 1 => ("TransducerBench$Least", "arcs", "I", false)
  | 2 => ("TransducerBench$Least", "sets", "LTransducerBench$Sets;", true)
  | 3 => ("TransducerBench$Least", "ended", "[Z", true)
  | 4 => ("TransducerBench$Least", "ends", "[LTransducerBench$Word;", true)
  | 5 => ("TransducerBench$Least", "commons", "[LTransducerBench$Word;", true)
  | 6 => ("TransducerBench$Least", "known", "[I", true)
  | 7 => ("TransducerBench$Least", "blocks", "[I", true)
  | 8 => ("TransducerBench$Least", "finer", "[I", true)
  | 9 => ("TransducerBench$Least", "numbers", "[I", true)
  | _ => ("TransducerBench$Least", "chosen", "[I", true)
def tyX1 : Nat → FieldType := fun k => match k with
  | 0 => .int
  | 1 => .int
  | 2 => .object "TransducerBench$Sets"
  | 3 => .array .boolean
  | 4 => .array (.object "TransducerBench$Word")
  | 5 => .array (.object "TransducerBench$Word")
  | 6 => .array .int
  | 7 => .array .int
  | 8 => .array .int
  | 9 => .array .int
  | _ => .array .int
abbrev wsX10 : List Cond := u_ws RX1 TX1 11
theorem nmX1 : ∀ a, a < 11 → ∀ b, b < 11 → a ≠ b → (TX1 a).2.1 ≠ (TX1 b).2.1 := by decide +kernel
theorem tyX1_ok : ∀ k, k < 11 → parseFieldDescriptor (TX1 k).2.2.1 = some (tyX1 k) := by decide +kernel
abbrev cX1_init : ByteArray := prog_3_method_1_code
def yX1_init : MethodName := ⟨RX1, "<init>", "(LTransducerBench$Sets;)V"⟩
abbrev cX1_make : ByteArray := prog_3_method_2_code
def yX1_make : MethodName := ⟨RX1, "make", "(LTransducerBench$Machine;)V"⟩
abbrev cX1_setEnd : ByteArray := prog_3_method_3_code
def yX1_setEnd : MethodName := ⟨RX1, "setEnd", "(LTransducerBench$Machine;I)V"⟩
abbrev cX1_guessCommons : ByteArray := prog_3_method_4_code
def yX1_guessCommons : MethodName := ⟨RX1, "guessCommons", "()V"⟩
abbrev cX1_guess : ByteArray := prog_3_method_5_code
def yX1_guess : MethodName := ⟨RX1, "guess", "(II)Z"⟩
abbrev cX1_shortenCommons : ByteArray := prog_3_method_6_code
def yX1_shortenCommons : MethodName := ⟨RX1, "shortenCommons", "()V"⟩
abbrev cX1_commonLength : ByteArray := prog_3_method_7_code
def yX1_commonLength : MethodName := ⟨RX1, "commonLength", "(I)I"⟩
abbrev cX1_writeEarly : ByteArray := prog_3_method_8_code
def yX1_writeEarly : MethodName := ⟨RX1, "writeEarly", "()V"⟩
abbrev cX1_part : ByteArray := prog_3_method_9_code
def yX1_part : MethodName := ⟨RX1, "part", "()V"⟩
abbrev cX1_writeAlike : ByteArray := prog_3_method_10_code
def yX1_writeAlike : MethodName := ⟨RX1, "writeAlike", "(II)Z"⟩
abbrev cX1_refine : ByteArray := prog_3_method_11_code
def yX1_refine : MethodName := ⟨RX1, "refine", "()Z"⟩
abbrev cX1_goAlike : ByteArray := prog_3_method_12_code
def yX1_goAlike : MethodName := ⟨RX1, "goAlike", "(II)Z"⟩
abbrev cX1_number : ByteArray := prog_3_method_13_code
def yX1_number : MethodName := ⟨RX1, "number", "()V"⟩
abbrev cX1_call : ByteArray := prog_3_method_14_code
def yX1_call : MethodName := ⟨RX1, "call", "(I)V"⟩
abbrev cX1_stateBehind : ByteArray := prog_3_method_15_code
def yX1_stateBehind : MethodName := ⟨RX1, "stateBehind", "(II)I"⟩
abbrev cX1_wordOf : ByteArray := prog_3_method_16_code
def yX1_wordOf : MethodName := ⟨RX1, "wordOf", "(II)LTransducerBench$Word;"⟩
abbrev cX1_beginWord : ByteArray := prog_3_method_17_code
def yX1_beginWord : MethodName := ⟨RX1, "beginWord", "()LTransducerBench$Word;"⟩
abbrev cX1_accepts : ByteArray := prog_3_method_18_code
def yX1_accepts : MethodName := ⟨RX1, "accepts", "(LTransducerBench$Word;)Z"⟩
abbrev cX1_translate : ByteArray := prog_3_method_19_code
def yX1_translate : MethodName := ⟨RX1, "translate", "(LTransducerBench$Word;LTransducerBench$Word;)V"⟩
abbrev cX1_addWordOf : ByteArray := prog_3_method_20_code
def yX1_addWordOf : MethodName := ⟨RX1, "addWordOf", "(IILTransducerBench$Word;)V"⟩
abbrev cX1_fitsMachine : ByteArray := prog_3_method_21_code
def yX1_fitsMachine : MethodName := ⟨RX1, "fitsMachine", "()Z"⟩
abbrev cX1_fill : ByteArray := prog_3_method_22_code
def yX1_fill : MethodName := ⟨RX1, "fill", "(LTransducerBench$Machine;)V"⟩
def RX2 : String := "TransducerBench$Machine"
def TX2 : u_T := fun k => match k with
  | 0 => ("TransducerBench$Machine", "states", "I", false)
  | 1 => ("TransducerBench$Machine", "arcs", "I", false)
  | 2 => ("TransducerBench$Machine", "beginning", "I", false)
  | 3 => ("TransducerBench$Machine", "end", "[I", true)
  | 4 => ("TransducerBench$Machine", "from", "[I", true)
  | 5 => ("TransducerBench$Machine", "letter", "[I", true)
  | 6 => ("TransducerBench$Machine", "to", "[I", true)
  | _ => ("TransducerBench$Machine", "word", "[I", true)
def tyX2 : Nat → FieldType := fun k => match k with
  | 0 => .int
  | 1 => .int
  | 2 => .int
  | 3 => .array .int
  | 4 => .array .int
  | 5 => .array .int
  | 6 => .array .int
  | _ => .array .int
abbrev wsX20 : List Cond := u_ws RX2 TX2 8
theorem nmX2 : ∀ a, a < 8 → ∀ b, b < 8 → a ≠ b → (TX2 a).2.1 ≠ (TX2 b).2.1 := by decide +kernel
theorem tyX2_ok : ∀ k, k < 8 → parseFieldDescriptor (TX2 k).2.2.1 = some (tyX2 k) := by decide +kernel
abbrev cX2_init : ByteArray := prog_4_method_1_code
def yX2_init : MethodName := ⟨RX2, "<init>", "()V"⟩
abbrev cX2_renew : ByteArray := prog_4_method_2_code
def yX2_renew : MethodName := ⟨RX2, "renew", "(I)V"⟩
abbrev cX2_setBeginning : ByteArray := prog_4_method_3_code
def yX2_setBeginning : MethodName := ⟨RX2, "setBeginning", "(IZ)V"⟩
abbrev cX2_addArc : ByteArray := prog_4_method_4_code
def yX2_addArc : MethodName := ⟨RX2, "addArc", "(IIII)I"⟩
abbrev cX2_become : ByteArray := prog_4_method_5_code
def yX2_become : MethodName := ⟨RX2, "become", "(LTransducerBench$Machine;)V"⟩
abbrev cX2_hasEnd : ByteArray := prog_4_method_6_code
def yX2_hasEnd : MethodName := ⟨RX2, "hasEnd", "(I)Z"⟩
abbrev cX2_ending : ByteArray := prog_4_method_7_code
def yX2_ending : MethodName := ⟨RX2, "ending", "()I"⟩
abbrev cX2_usefulStates : ByteArray := prog_4_method_8_code
def yX2_usefulStates : MethodName := ⟨RX2, "usefulStates", "()I"⟩
abbrev cX2_follow : ByteArray := prog_4_method_9_code
def yX2_follow : MethodName := ⟨RX2, "follow", "(II)I"⟩
def RX3 : String := "TransducerBench$Outputs"
def TX3 : u_T := fun k => match k with
  | 0 => ("TransducerBench$Outputs", "count", "I", false)
  | 1 => ("TransducerBench$Outputs", "found", "[LTransducerBench$Word;", true)
  | 2 => ("TransducerBench$Outputs", "candidate", "LTransducerBench$Word;", true)
  | 3 => ("TransducerBench$Outputs", "states", "[I", false)
  | 4 => ("TransducerBench$Outputs", "texts", "[LTransducerBench$Word;", false)
  | 5 => ("TransducerBench$Outputs", "reached", "I", false)
  | 6 => ("TransducerBench$Outputs", "nextStates", "[I", false)
  | 7 => ("TransducerBench$Outputs", "nextTexts", "[LTransducerBench$Word;", false)
  | _ => ("TransducerBench$Outputs", "nextReached", "I", false)
def tyX3 : Nat → FieldType := fun k => match k with
  | 0 => .int
  | 1 => .array (.object "TransducerBench$Word")
  | 2 => .object "TransducerBench$Word"
  | 3 => .array .int
  | 4 => .array (.object "TransducerBench$Word")
  | 5 => .int
  | 6 => .array .int
  | 7 => .array (.object "TransducerBench$Word")
  | _ => .int
abbrev wsX30 : List Cond := u_ws RX3 TX3 9
theorem nmX3 : ∀ a, a < 9 → ∀ b, b < 9 → a ≠ b → (TX3 a).2.1 ≠ (TX3 b).2.1 := by decide +kernel
theorem tyX3_ok : ∀ k, k < 9 → parseFieldDescriptor (TX3 k).2.2.1 = some (tyX3 k) := by decide +kernel
abbrev cX3_init : ByteArray := prog_5_method_1_code
def yX3_init : MethodName := ⟨RX3, "<init>", "()V"⟩
abbrev cX3_gather : ByteArray := prog_5_method_2_code
def yX3_gather : MethodName := ⟨RX3, "gather", "(LTransducerBench$Machine;LTransducerBench$Word;)Z"⟩
abbrev cX3_begin : ByteArray := prog_5_method_3_code
def yX3_begin : MethodName := ⟨RX3, "begin", "(LTransducerBench$Machine;)V"⟩
abbrev cX3_step : ByteArray := prog_5_method_4_code
def yX3_step : MethodName := ⟨RX3, "step", "(LTransducerBench$Machine;I)Z"⟩
abbrev cX3_reach : ByteArray := prog_5_method_5_code
def yX3_reach : MethodName := ⟨RX3, "reach", "(I)Z"⟩
abbrev cX3_turn : ByteArray := prog_5_method_6_code
def yX3_turn : MethodName := ⟨RX3, "turn", "()V"⟩
abbrev cX3_finish : ByteArray := prog_5_method_7_code
def yX3_finish : MethodName := ⟨RX3, "finish", "(LTransducerBench$Machine;)V"⟩
abbrev cX3_sortIn : ByteArray := prog_5_method_8_code
def yX3_sortIn : MethodName := ⟨RX3, "sortIn", "()V"⟩
def RX4 : String := "TransducerBench$Pair"
def TX4 : u_T := fun k => match k with
  | 0 => ("TransducerBench$Pair", "first", "I", false)
  | 1 => ("TransducerBench$Pair", "second", "I", false)
  | 2 => ("TransducerBench$Pair", "left", "LTransducerBench$Word;", true)
  | _ => ("TransducerBench$Pair", "right", "LTransducerBench$Word;", true)
def tyX4 : Nat → FieldType := fun k => match k with
  | 0 => .int
  | 1 => .int
  | 2 => .object "TransducerBench$Word"
  | _ => .object "TransducerBench$Word"
abbrev wsX40 : List Cond := u_ws RX4 TX4 4
theorem nmX4 : ∀ a, a < 4 → ∀ b, b < 4 → a ≠ b → (TX4 a).2.1 ≠ (TX4 b).2.1 := by decide +kernel
theorem tyX4_ok : ∀ k, k < 4 → parseFieldDescriptor (TX4 k).2.2.1 = some (tyX4 k) := by decide +kernel
abbrev cX4_init : ByteArray := prog_6_method_1_code
def yX4_init : MethodName := ⟨RX4, "<init>", "(I)V"⟩
abbrev cX4_begin : ByteArray := prog_6_method_2_code
def yX4_begin : MethodName := ⟨RX4, "begin", "(II)V"⟩
abbrev cX4_follow : ByteArray := prog_6_method_3_code
def yX4_follow : MethodName := ⟨RX4, "follow", "(LTransducerBench$Pair;II)V"⟩
abbrev cX4_isApart : ByteArray := prog_6_method_4_code
def yX4_isApart : MethodName := ⟨RX4, "isApart", "()Z"⟩
abbrev cX4_forgetHowApart : ByteArray := prog_6_method_5_code
def yX4_forgetHowApart : MethodName := ⟨RX4, "forgetHowApart", "()V"⟩
abbrev cX4_isAlike : ByteArray := prog_6_method_6_code
def yX4_isAlike : MethodName := ⟨RX4, "isAlike", "(LTransducerBench$Pair;)Z"⟩
abbrev cX4_longerSide : ByteArray := prog_6_method_7_code
def yX4_longerSide : MethodName := ⟨RX4, "longerSide", "()I"⟩
abbrev cX4_hash : ByteArray := prog_6_method_8_code
def yX4_hash : MethodName := ⟨RX4, "hash", "()I"⟩
def RX5 : String := "TransducerBench$Readings"
def TX5 : u_T := fun k => match k with
  | 0 => ("TransducerBench$Readings", "seen", "[Z", true)
  | 1 => ("TransducerBench$Readings", "pairs", "[I", true)
  | 2 => ("TransducerBench$Readings", "before", "[I", true)
  | 3 => ("TransducerBench$Readings", "letters", "[I", true)
  | _ => ("TransducerBench$Readings", "count", "I", false)
def tyX5 : Nat → FieldType := fun k => match k with
  | 0 => .array .boolean
  | 1 => .array .int
  | 2 => .array .int
  | 3 => .array .int
  | _ => .int
abbrev wsX50 : List Cond := u_ws RX5 TX5 5
theorem nmX5 : ∀ a, a < 5 → ∀ b, b < 5 → a ≠ b → (TX5 a).2.1 ≠ (TX5 b).2.1 := by decide +kernel
theorem tyX5_ok : ∀ k, k < 5 → parseFieldDescriptor (TX5 k).2.2.1 = some (tyX5 k) := by decide +kernel
abbrev cX5_init : ByteArray := prog_7_method_1_code
def yX5_init : MethodName := ⟨RX5, "<init>", "()V"⟩
abbrev cX5_differ : ByteArray := prog_7_method_2_code
def yX5_differ : MethodName := ⟨RX5, "differ", "(LTransducerBench$Machine;LTransducerBench$Machine;LTransducerBench$Word;)Z"⟩
abbrev cX5_search : ByteArray := prog_7_method_3_code
def yX5_search : MethodName := ⟨RX5, "search", "(LTransducerBench$Machine;LTransducerBench$Machine;)I"⟩
abbrev cX5_reach : ByteArray := prog_7_method_4_code
def yX5_reach : MethodName := ⟨RX5, "reach", "(IIII)V"⟩
abbrev cX5_spell : ByteArray := prog_7_method_5_code
def yX5_spell : MethodName := ⟨RX5, "spell", "(ILTransducerBench$Word;)V"⟩
def RX6 : String := "TransducerBench$Sets"
def TX6 : u_T := fun k => match k with
  | 0 => ("TransducerBench$Sets", "count", "I", false)
  | 1 => ("TransducerBench$Sets", "members", "[I", true)
  | 2 => ("TransducerBench$Sets", "rests", "[LTransducerBench$Word;", true)
  | 3 => ("TransducerBench$Sets", "nexts", "[I", true)
  | 4 => ("TransducerBench$Sets", "written", "[LTransducerBench$Word;", true)
  | 5 => ("TransducerBench$Sets", "made", "[LTransducerBench$Word;", true)
  | 6 => ("TransducerBench$Sets", "madeMembers", "I", false)
  | _ => ("TransducerBench$Sets", "usefulStates", "I", false)
def tyX6 : Nat → FieldType := fun k => match k with
  | 0 => .int
  | 1 => .array .int
  | 2 => .array (.object "TransducerBench$Word")
  | 3 => .array .int
  | 4 => .array (.object "TransducerBench$Word")
  | 5 => .array (.object "TransducerBench$Word")
  | 6 => .int
  | _ => .int
abbrev wsX60 : List Cond := u_ws RX6 TX6 8
theorem nmX6 : ∀ a, a < 8 → ∀ b, b < 8 → a ≠ b → (TX6 a).2.1 ≠ (TX6 b).2.1 := by decide +kernel
theorem tyX6_ok : ∀ k, k < 8 → parseFieldDescriptor (TX6 k).2.2.1 = some (tyX6 k) := by decide +kernel
abbrev cX6_init : ByteArray := prog_8_method_1_code
def yX6_init : MethodName := ⟨RX6, "<init>", "()V"⟩
abbrev cX6_make : ByteArray := prog_8_method_2_code
def yX6_make : MethodName := ⟨RX6, "make", "(LTransducerBench$Machine;)Z"⟩
abbrev cX6_lead : ByteArray := prog_8_method_3_code
def yX6_lead : MethodName := ⟨RX6, "lead", "(LTransducerBench$Machine;II)V"⟩
abbrev cX6_gather : ByteArray := prog_8_method_4_code
def yX6_gather : MethodName := ⟨RX6, "gather", "(LTransducerBench$Machine;II)V"⟩
abbrev cX6_writeCommon : ByteArray := prog_8_method_5_code
def yX6_writeCommon : MethodName := ⟨RX6, "writeCommon", "(LTransducerBench$Word;)V"⟩
abbrev cX6_place : ByteArray := prog_8_method_6_code
def yX6_place : MethodName := ⟨RX6, "place", "()I"⟩
abbrev cX6_isMade : ByteArray := prog_8_method_7_code
def yX6_isMade : MethodName := ⟨RX6, "isMade", "(I)Z"⟩
def RX7 : String := "TransducerBench$Twins"
def TX7 : u_T := fun k => match k with
  | 0 => ("TransducerBench$Twins", "levels", "I", false)
  | 1 => ("TransducerBench$Twins", "count", "I", false)
  | 2 => ("TransducerBench$Twins", "usefulStates", "I", false)
  | 3 => ("TransducerBench$Twins", "limit", "I", false)
  | 4 => ("TransducerBench$Twins", "tooLong", "Z", false)
  | 5 => ("TransducerBench$Twins", "pairs", "[LTransducerBench$Pair;", true)
  | 6 => ("TransducerBench$Twins", "heads", "[I", true)
  | _ => ("TransducerBench$Twins", "links", "[I", true)
def tyX7 : Nat → FieldType := fun k => match k with
  | 0 => .int
  | 1 => .int
  | 2 => .int
  | 3 => .int
  | 4 => .boolean
  | 5 => .array (.object "TransducerBench$Pair")
  | 6 => .array .int
  | _ => .array .int
abbrev wsX70 : List Cond := u_ws RX7 TX7 8
theorem nmX7 : ∀ a, a < 8 → ∀ b, b < 8 → a ≠ b → (TX7 a).2.1 ≠ (TX7 b).2.1 := by decide +kernel
theorem tyX7_ok : ∀ k, k < 8 → parseFieldDescriptor (TX7 k).2.2.1 = some (tyX7 k) := by decide +kernel
abbrev cX7_init : ByteArray := prog_9_method_1_code
def yX7_init : MethodName := ⟨RX7, "<init>", "()V"⟩
abbrev cX7_judge : ByteArray := prog_9_method_2_code
def yX7_judge : MethodName := ⟨RX7, "judge", "(LTransducerBench$Machine;)I"⟩
abbrev cX7_begin : ByteArray := prog_9_method_3_code
def yX7_begin : MethodName := ⟨RX7, "begin", "(LTransducerBench$Machine;)V"⟩
abbrev cX7_longestArc : ByteArray := prog_9_method_4_code
def yX7_longestArc : MethodName := ⟨RX7, "longestArc", "(LTransducerBench$Machine;)I"⟩
abbrev cX7_lead : ByteArray := prog_9_method_5_code
def yX7_lead : MethodName := ⟨RX7, "lead", "(LTransducerBench$Machine;I)V"⟩
abbrev cX7_pairUp : ByteArray := prog_9_method_6_code
def yX7_pairUp : MethodName := ⟨RX7, "pairUp", "(LTransducerBench$Machine;II)V"⟩
abbrev cX7_keep : ByteArray := prog_9_method_7_code
def yX7_keep : MethodName := ⟨RX7, "keep", "()V"⟩
def RX8 : String := "TransducerBench$TwoLeast"
def TX8 : u_T := fun k => match k with
  | 0 => ("TransducerBench$TwoLeast", "count", "I", false)
  | 1 => ("TransducerBench$TwoLeast", "least", "LTransducerBench$Word;", true)
  | _ => ("TransducerBench$TwoLeast", "next", "LTransducerBench$Word;", true)
def tyX8 : Nat → FieldType := fun k => match k with
  | 0 => .int
  | 1 => .object "TransducerBench$Word"
  | _ => .object "TransducerBench$Word"
abbrev wsX80 : List Cond := u_ws RX8 TX8 3
theorem nmX8 : ∀ a, a < 3 → ∀ b, b < 3 → a ≠ b → (TX8 a).2.1 ≠ (TX8 b).2.1 := by decide +kernel
theorem tyX8_ok : ∀ k, k < 3 → parseFieldDescriptor (TX8 k).2.2.1 = some (tyX8 k) := by decide +kernel
abbrev cX8_init : ByteArray := prog_10_method_1_code
def yX8_init : MethodName := ⟨RX8, "<init>", "(I)V"⟩
abbrev cX8_clear : ByteArray := prog_10_method_2_code
def yX8_clear : MethodName := ⟨RX8, "clear", "()V"⟩
abbrev cX8_offer : ByteArray := prog_10_method_3_code
def yX8_offer : MethodName := ⟨RX8, "offer", "(LTransducerBench$Word;)V"⟩
def RX9 : String := "TransducerBench$Witness"
def TX9 : u_T := fun k => match k with
  | 0 => ("TransducerBench$Witness", "there", "Z", false)
  | 1 => ("TransducerBench$Witness", "word", "LTransducerBench$Word;", true)
  | 2 => ("TransducerBench$Witness", "written", "[LTransducerBench$Word;", true)
  | 3 => ("TransducerBench$Witness", "has", "[Z", true)
  | 4 => ("TransducerBench$Witness", "total", "LTransducerBench$TwoLeast;", true)
  | 5 => ("TransducerBench$Witness", "candidate", "LTransducerBench$Word;", true)
  | 6 => ("TransducerBench$Witness", "now", "[LTransducerBench$TwoLeast;", false)
  | _ => ("TransducerBench$Witness", "behind", "[LTransducerBench$TwoLeast;", false)
def tyX9 : Nat → FieldType := fun k => match k with
  | 0 => .boolean
  | 1 => .object "TransducerBench$Word"
  | 2 => .array (.object "TransducerBench$Word")
  | 3 => .array .boolean
  | 4 => .object "TransducerBench$TwoLeast"
  | 5 => .object "TransducerBench$Word"
  | 6 => .array (.object "TransducerBench$TwoLeast")
  | _ => .array (.object "TransducerBench$TwoLeast")
abbrev wsX90 : List Cond := u_ws RX9 TX9 8
theorem nmX9 : ∀ a, a < 8 → ∀ b, b < 8 → a ≠ b → (TX9 a).2.1 ≠ (TX9 b).2.1 := by decide +kernel
theorem tyX9_ok : ∀ k, k < 8 → parseFieldDescriptor (TX9 k).2.2.1 = some (tyX9 k) := by decide +kernel
abbrev cX9_init : ByteArray := prog_11_method_1_code
def yX9_init : MethodName := ⟨RX9, "<init>", "()V"⟩
abbrev cX9_hasWritten : ByteArray := prog_11_method_2_code
def yX9_hasWritten : MethodName := ⟨RX9, "hasWritten", "(I)Z"⟩
abbrev cX9_tellOutputsApart : ByteArray := prog_11_method_3_code
def yX9_tellOutputsApart : MethodName := ⟨RX9, "tellOutputsApart", "(LTransducerBench$Machine;LTransducerBench$Word;)V"⟩
abbrev cX9_tellMachinesApart : ByteArray := prog_11_method_4_code
def yX9_tellMachinesApart : MethodName := ⟨RX9, "tellMachinesApart", "(LTransducerBench$Machine;LTransducerBench$Machine;LTransducerBench$Word;)V"⟩
abbrev cX9_write : ByteArray := prog_11_method_5_code
def yX9_write : MethodName := ⟨RX9, "write", "(LTransducerBench$Machine;)V"⟩
abbrev cX9_begin : ByteArray := prog_11_method_6_code
def yX9_begin : MethodName := ⟨RX9, "begin", "(LTransducerBench$Machine;)V"⟩
abbrev cX9_turn : ByteArray := prog_11_method_7_code
def yX9_turn : MethodName := ⟨RX9, "turn", "()V"⟩
abbrev cX9_offerAll : ByteArray := prog_11_method_8_code
def yX9_offerAll : MethodName := ⟨RX9, "offerAll", "(LTransducerBench$TwoLeast;ILTransducerBench$TwoLeast;)V"⟩
def RX10 : String := "TransducerBench$Word"
def TX10 : u_T := fun k => match k with
  | 0 => ("TransducerBench$Word", "letters", "[I", true)
  | _ => ("TransducerBench$Word", "length", "I", false)
def tyX10 : Nat → FieldType := fun k => match k with
  | 0 => .array .int
  | _ => .int
abbrev wsX100 : List Cond := u_ws RX10 TX10 2
theorem nmX10 : ∀ a, a < 2 → ∀ b, b < 2 → a ≠ b → (TX10 a).2.1 ≠ (TX10 b).2.1 := by decide +kernel
theorem tyX10_ok : ∀ k, k < 2 → parseFieldDescriptor (TX10 k).2.2.1 = some (tyX10 k) := by decide +kernel
abbrev cX10_init : ByteArray := prog_12_method_1_code
def yX10_init : MethodName := ⟨RX10, "<init>", "(I)V"⟩
abbrev cX10_clear : ByteArray := prog_12_method_2_code
def yX10_clear : MethodName := ⟨RX10, "clear", "()V"⟩
abbrev cX10_letterAt : ByteArray := prog_12_method_3_code
def yX10_letterAt : MethodName := ⟨RX10, "letterAt", "(I)I"⟩
abbrev cX10_add : ByteArray := prog_12_method_4_code
def yX10_add : MethodName := ⟨RX10, "add", "(I)V"⟩
abbrev cX10_addNumber : ByteArray := prog_12_method_5_code
def yX10_addNumber : MethodName := ⟨RX10, "addNumber", "(I)V"⟩
abbrev cX10_addWord : ByteArray := prog_12_method_6_code
def yX10_addWord : MethodName := ⟨RX10, "addWord", "(LTransducerBench$Word;)V"⟩
abbrev cX10_read : ByteArray := prog_12_method_7_code
def yX10_read : MethodName := ⟨RX10, "read", "(I)V"⟩
abbrev cX10_become : ByteArray := prog_12_method_8_code
def yX10_become : MethodName := ⟨RX10, "become", "(LTransducerBench$Word;)V"⟩
abbrev cX10_number : ByteArray := prog_12_method_9_code
def yX10_number : MethodName := ⟨RX10, "number", "()I"⟩
abbrev cX10_compareWith : ByteArray := prog_12_method_10_code
def yX10_compareWith : MethodName := ⟨RX10, "compareWith", "(LTransducerBench$Word;)I"⟩
abbrev cX10_isAlike : ByteArray := prog_12_method_11_code
def yX10_isAlike : MethodName := ⟨RX10, "isAlike", "(LTransducerBench$Word;)Z"⟩
abbrev cX10_commonWith : ByteArray := prog_12_method_12_code
def yX10_commonWith : MethodName := ⟨RX10, "commonWith", "(LTransducerBench$Word;)I"⟩
abbrev cX10_commonWith_ : ByteArray := prog_12_method_13_code
def yX10_commonWith_ : MethodName := ⟨RX10, "commonWith", "(LTransducerBench$Word;LTransducerBench$Word;)I"⟩
abbrev cX10_shortenTo : ByteArray := prog_12_method_14_code
def yX10_shortenTo : MethodName := ⟨RX10, "shortenTo", "(I)V"⟩
abbrev cX10_dropFirst : ByteArray := prog_12_method_15_code
def yX10_dropFirst : MethodName := ⟨RX10, "dropFirst", "(I)V"⟩
abbrev cX10_reverse : ByteArray := prog_12_method_16_code
def yX10_reverse : MethodName := ⟨RX10, "reverse", "()V"⟩
def RX11 : String := "TransducerBench"
def TX11 : u_T := fun k => match k with
  | 0 => ("TransducerBench", "machines", "[LTransducerBench$Machine;", true)
  | 1 => ("TransducerBench", "outputs", "LTransducerBench$Outputs;", true)
  | 2 => ("TransducerBench", "difference", "LTransducerBench$Difference;", true)
  | 3 => ("TransducerBench", "readings", "LTransducerBench$Readings;", true)
  | 4 => ("TransducerBench", "witness", "LTransducerBench$Witness;", true)
  | 5 => ("TransducerBench", "twins", "LTransducerBench$Twins;", true)
  | 6 => ("TransducerBench", "sets", "LTransducerBench$Sets;", true)
  | 7 => ("TransducerBench", "least", "LTransducerBench$Least;", true)
  | 8 => ("TransducerBench", "asked", "LTransducerBench$Word;", true)
  | 9 => ("TransducerBench", "acted", "LTransducerBench$Word;", true)
  | 10 => ("TransducerBench", "shown", "LTransducerBench$Word;", true)
  | 11 => ("TransducerBench", "alsoShown", "LTransducerBench$Word;", true)
  | 12 => ("TransducerBench", "answers", "I", false)
  | 13 => ("TransducerBench", "latestAnswer", "I", false)
  | _ => ("TransducerBench", "setsTold", "I", false)
def tyX11 : Nat → FieldType := fun k => match k with
  | 0 => .array (.object "TransducerBench$Machine")
  | 1 => .object "TransducerBench$Outputs"
  | 2 => .object "TransducerBench$Difference"
  | 3 => .object "TransducerBench$Readings"
  | 4 => .object "TransducerBench$Witness"
  | 5 => .object "TransducerBench$Twins"
  | 6 => .object "TransducerBench$Sets"
  | 7 => .object "TransducerBench$Least"
  | 8 => .object "TransducerBench$Word"
  | 9 => .object "TransducerBench$Word"
  | 10 => .object "TransducerBench$Word"
  | 11 => .object "TransducerBench$Word"
  | 12 => .int
  | 13 => .int
  | _ => .int
abbrev wsX110 : List Cond := u_ws RX11 TX11 15
theorem nmX11 : ∀ a, a < 15 → ∀ b, b < 15 → a ≠ b → (TX11 a).2.1 ≠ (TX11 b).2.1 := by decide +kernel
theorem tyX11_ok : ∀ k, k < 15 → parseFieldDescriptor (TX11 k).2.2.1 = some (tyX11 k) := by decide +kernel
abbrev cX11_init : ByteArray := prog_1_method_1_code
def yX11_init : MethodName := ⟨RX11, "<init>", "()V"⟩
abbrev cX11_machine : ByteArray := prog_1_method_2_code
def yX11_machine : MethodName := ⟨RX11, "machine", "(II)Z"⟩
abbrev cX11_begins : ByteArray := prog_1_method_3_code
def yX11_begins : MethodName := ⟨RX11, "begins", "(IIZ)Z"⟩
abbrev cX11_ends : ByteArray := prog_1_method_4_code
def yX11_ends : MethodName := ⟨RX11, "ends", "(III)Z"⟩
abbrev cX11_arc : ByteArray := prog_1_method_5_code
def yX11_arc : MethodName := ⟨RX11, "arc", "(IIIII)I"⟩
abbrev cX11_copy : ByteArray := prog_1_method_6_code
def yX11_copy : MethodName := ⟨RX11, "copy", "(I)Z"⟩
abbrev cX11_take : ByteArray := prog_1_method_7_code
def yX11_take : MethodName := ⟨RX11, "take", "(I)Z"⟩
abbrev cX11_size : ByteArray := prog_1_method_8_code
def yX11_size : MethodName := ⟨RX11, "size", "(II)I"⟩
abbrev cX11_useful : ByteArray := prog_1_method_9_code
def yX11_useful : MethodName := ⟨RX11, "useful", "(II)I"⟩
abbrev cX11_apply : ByteArray := prog_1_method_10_code
def yX11_apply : MethodName := ⟨RX11, "apply", "(II)I"⟩
abbrev cX11_output : ByteArray := prog_1_method_11_code
def yX11_output : MethodName := ⟨RX11, "output", "(II)I"⟩
abbrev cX11_functional : ByteArray := prog_1_method_12_code
def yX11_functional : MethodName := ⟨RX11, "functional", "(I)I"⟩
abbrev cX11_readers : ByteArray := prog_1_method_13_code
def yX11_readers : MethodName := ⟨RX11, "readers", "()I"⟩
abbrev cX11_same : ByteArray := prog_1_method_14_code
def yX11_same : MethodName := ⟨RX11, "same", "()I"⟩
abbrev cX11_sequential : ByteArray := prog_1_method_15_code
def yX11_sequential : MethodName := ⟨RX11, "sequential", "(I)I"⟩
abbrev cX11_witness : ByteArray := prog_1_method_16_code
def yX11_witness : MethodName := ⟨RX11, "witness", "(I)I"⟩
abbrev cX11_wrote : ByteArray := prog_1_method_17_code
def yX11_wrote : MethodName := ⟨RX11, "wrote", "(II)I"⟩
abbrev cX11_told : ByteArray := prog_1_method_18_code
def yX11_told : MethodName := ⟨RX11, "told", "(I)I"⟩
abbrev cX11_goes : ByteArray := prog_1_method_19_code
def yX11_goes : MethodName := ⟨RX11, "goes", "(II)I"⟩
abbrev cX11_writes : ByteArray := prog_1_method_20_code
def yX11_writes : MethodName := ⟨RX11, "writes", "(III)I"⟩
abbrev cX11_act : ByteArray := prog_1_method_21_code
def yX11_act : MethodName := ⟨RX11, "act", "(I)I"⟩
abbrev cX11_acted : ByteArray := prog_1_method_22_code
def yX11_acted : MethodName := ⟨RX11, "acted", "(I)I"⟩
abbrev cX11_testFunctional : ByteArray := prog_1_method_23_code
def yX11_testFunctional : MethodName := ⟨RX11, "testFunctional", "(LTransducerBench$Machine;)Z"⟩
abbrev cX11_makeSequential : ByteArray := prog_1_method_24_code
def yX11_makeSequential : MethodName := ⟨RX11, "makeSequential", "(LTransducerBench$Machine;)I"⟩
abbrev cX11_hasLeast : ByteArray := prog_1_method_25_code
def yX11_hasLeast : MethodName := ⟨RX11, "hasLeast", "()Z"⟩
abbrev cX11_isMachine : ByteArray := prog_1_method_26_code
def yX11_isMachine : MethodName := ⟨RX11, "isMachine", "(I)Z"⟩
abbrev cX11_isState : ByteArray := prog_1_method_27_code
def yX11_isState : MethodName := ⟨RX11, "isState", "(II)Z"⟩
abbrev cX11_isInputLetter : ByteArray := prog_1_method_28_code
def yX11_isInputLetter : MethodName := ⟨RX11, "isInputLetter", "(I)Z"⟩
abbrev cX11_isInput : ByteArray := prog_1_method_29_code
def yX11_isInput : MethodName := ⟨RX11, "isInput", "(I)Z"⟩
abbrev cX11_isWord : ByteArray := prog_1_method_30_code
def yX11_isWord : MethodName := ⟨RX11, "isWord", "(III)Z"⟩
abbrev cX11_holds : ByteArray := prog_1_method_31_code
def yX11_holds : MethodName := ⟨RX11, "holds", "(II)Z"⟩
abbrev cX11_makeWords : ByteArray := prog_1_method_32_code
def yX11_makeWords : MethodName := ⟨RX11, "makeWords", "(II)[LTransducerBench$Word;"⟩
def RX12 : String := "TransducerBenchModel"
def TX12 : u_T := fun k => match k with
  | 0 => ("TransducerBenchModel", "many", "[I", true)
  | 1 => ("TransducerBenchModel", "isFirst", "[Z", true)
  | 2 => ("TransducerBenchModel", "end", "[I", true)
  | 3 => ("TransducerBenchModel", "arcs", "[I", true)
  | 4 => ("TransducerBenchModel", "from", "[I", true)
  | 5 => ("TransducerBenchModel", "by", "[I", true)
  | 6 => ("TransducerBenchModel", "to", "[I", true)
  | 7 => ("TransducerBenchModel", "word", "[I", true)
  | 8 => ("TransducerBenchModel", "isUsed", "[Z", true)
  | 9 => ("TransducerBenchModel", "comesTo", "[Z", true)
  | 10 => ("TransducerBenchModel", "leadsOut", "[Z", true)
  | 11 => ("TransducerBenchModel", "pairs", "I", false)
  | 12 => ("TransducerBenchModel", "pairState", "[I", true)
  | 13 => ("TransducerBenchModel", "pairSize", "[I", true)
  | 14 => ("TransducerBenchModel", "pairLetter", "[I", true)
  | 15 => ("TransducerBenchModel", "laters", "I", false)
  | 16 => ("TransducerBenchModel", "laterState", "[I", true)
  | 17 => ("TransducerBenchModel", "laterSize", "[I", true)
  | 18 => ("TransducerBenchModel", "laterLetter", "[I", true)
  | 19 => ("TransducerBenchModel", "outputs", "I", false)
  | 20 => ("TransducerBenchModel", "outputSize", "[I", true)
  | 21 => ("TransducerBenchModel", "outputLetter", "[I", true)
  | 22 => ("TransducerBenchModel", "scratch", "[I", true)
  | 23 => ("TransducerBenchModel", "seen", "I", false)
  | 24 => ("TransducerBenchModel", "seenLetter", "[I", true)
  | 25 => ("TransducerBenchModel", "wroteSize", "[I", true)
  | 26 => ("TransducerBenchModel", "wroteLetter", "[I", true)
  | 27 => ("TransducerBenchModel", "bestSize", "[I", true)
  | 28 => ("TransducerBenchModel", "nextSize", "[I", true)
  | 29 => ("TransducerBenchModel", "best", "[B", true)
  | 30 => ("TransducerBenchModel", "next", "[B", true)
  | 31 => ("TransducerBenchModel", "one", "[B", true)
  | 32 => ("TransducerBenchModel", "configs", "I", false)
  | 33 => ("TransducerBenchModel", "pOf", "[I", true)
  | 34 => ("TransducerBenchModel", "qOf", "[I", true)
  | 35 => ("TransducerBenchModel", "sideOf", "[I", true)
  | 36 => ("TransducerBenchModel", "moreSize", "[I", true)
  | 37 => ("TransducerBenchModel", "more", "[B", true)
  | 38 => ("TransducerBenchModel", "before", "[I", true)
  | 39 => ("TransducerBenchModel", "byLetter", "[I", true)
  | 40 => ("TransducerBenchModel", "rank", "[I", true)
  | 41 => ("TransducerBenchModel", "canMeet", "[Z", true)
  | 42 => ("TransducerBenchModel", "perPair", "[I", true)
  | 43 => ("TransducerBenchModel", "left", "[I", true)
  | 44 => ("TransducerBenchModel", "right", "[I", true)
  | 45 => ("TransducerBenchModel", "leftSize", "I", false)
  | 46 => ("TransducerBenchModel", "rightSize", "I", false)
  | 47 => ("TransducerBenchModel", "common", "I", false)
  | 48 => ("TransducerBenchModel", "sets", "I", false)
  | 49 => ("TransducerBenchModel", "setOf", "[I", true)
  | 50 => ("TransducerBenchModel", "setBefore", "[I", true)
  | 51 => ("TransducerBenchModel", "setLetter", "[I", true)
  | 52 => ("TransducerBenchModel", "isSet", "[Z", true)
  | 53 => ("TransducerBenchModel", "kept", "[I", true)
  | 54 => ("TransducerBenchModel", "twins", "I", false)
  | 55 => ("TransducerBenchModel", "twinPair", "[I", true)
  | 56 => ("TransducerBenchModel", "twinLeft", "[I", true)
  | 57 => ("TransducerBenchModel", "twinRight", "[I", true)
  | 58 => ("TransducerBenchModel", "twinRow", "[B", true)
  | 59 => ("TransducerBenchModel", "longest", "I", false)
  | 60 => ("TransducerBenchModel", "isLong", "Z", false)
  | 61 => ("TransducerBenchModel", "levels", "I", false)
  | 62 => ("TransducerBenchModel", "answers", "I", false)
  | 63 => ("TransducerBenchModel", "told", "[I", true)
  | 64 => ("TransducerBenchModel", "made", "I", false)
  | 65 => ("TransducerBenchModel", "leftOf", "[I", true)
  | 66 => ("TransducerBenchModel", "leftRow", "[B", true)
  | 67 => ("TransducerBenchModel", "goesTo", "[I", true)
  | 68 => ("TransducerBenchModel", "outSize", "[I", true)
  | 69 => ("TransducerBenchModel", "outRow", "[B", true)
  | 70 => ("TransducerBenchModel", "nowSize", "[I", true)
  | 71 => ("TransducerBenchModel", "nowRow", "[B", true)
  | 72 => ("TransducerBenchModel", "endSize", "[I", true)
  | 73 => ("TransducerBenchModel", "endRow", "[B", true)
  | 74 => ("TransducerBenchModel", "drawn", "I", false)
  | 75 => ("TransducerBenchModel", "headSize", "[I", true)
  | 76 => ("TransducerBenchModel", "headRow", "[B", true)
  | 77 => ("TransducerBenchModel", "trial", "[B", true)
  | 78 => ("TransducerBenchModel", "hasLeast", "Z", false)
  | 79 => ("TransducerBenchModel", "leastStates", "I", false)
  | 80 => ("TransducerBenchModel", "leastGoes", "[I", true)
  | 81 => ("TransducerBenchModel", "leastSize", "[I", true)
  | 82 => ("TransducerBenchModel", "leastRow", "[B", true)
  | 83 => ("TransducerBenchModel", "beginSize", "I", false)
  | 84 => ("TransducerBenchModel", "beginRow", "[B", true)
  | 85 => ("TransducerBenchModel", "fullSize", "[I", true)
  | 86 => ("TransducerBenchModel", "fullRow", "[B", true)
  | 87 => ("TransducerBenchModel", "klass", "[I", true)
  | 88 => ("TransducerBenchModel", "parted", "[I", true)
  | 89 => ("TransducerBenchModel", "numberOf", "[I", true)
  | 90 => ("TransducerBenchModel", "acted", "I", false)
  | 91 => ("TransducerBenchModel", "actRow", "[B", true)
  | _ => ("TransducerBenchModel", "trialAct", "[B", true)
def tyX12 : Nat → FieldType := fun k => match k with
  | 0 => .array .int
  | 1 => .array .boolean
  | 2 => .array .int
  | 3 => .array .int
  | 4 => .array .int
  | 5 => .array .int
  | 6 => .array .int
  | 7 => .array .int
  | 8 => .array .boolean
  | 9 => .array .boolean
  | 10 => .array .boolean
  | 11 => .int
  | 12 => .array .int
  | 13 => .array .int
  | 14 => .array .int
  | 15 => .int
  | 16 => .array .int
  | 17 => .array .int
  | 18 => .array .int
  | 19 => .int
  | 20 => .array .int
  | 21 => .array .int
  | 22 => .array .int
  | 23 => .int
  | 24 => .array .int
  | 25 => .array .int
  | 26 => .array .int
  | 27 => .array .int
  | 28 => .array .int
  | 29 => .array .byte
  | 30 => .array .byte
  | 31 => .array .byte
  | 32 => .int
  | 33 => .array .int
  | 34 => .array .int
  | 35 => .array .int
  | 36 => .array .int
  | 37 => .array .byte
  | 38 => .array .int
  | 39 => .array .int
  | 40 => .array .int
  | 41 => .array .boolean
  | 42 => .array .int
  | 43 => .array .int
  | 44 => .array .int
  | 45 => .int
  | 46 => .int
  | 47 => .int
  | 48 => .int
  | 49 => .array .int
  | 50 => .array .int
  | 51 => .array .int
  | 52 => .array .boolean
  | 53 => .array .int
  | 54 => .int
  | 55 => .array .int
  | 56 => .array .int
  | 57 => .array .int
  | 58 => .array .byte
  | 59 => .int
  | 60 => .boolean
  | 61 => .int
  | 62 => .int
  | 63 => .array .int
  | 64 => .int
  | 65 => .array .int
  | 66 => .array .byte
  | 67 => .array .int
  | 68 => .array .int
  | 69 => .array .byte
  | 70 => .array .int
  | 71 => .array .byte
  | 72 => .array .int
  | 73 => .array .byte
  | 74 => .int
  | 75 => .array .int
  | 76 => .array .byte
  | 77 => .array .byte
  | 78 => .boolean
  | 79 => .int
  | 80 => .array .int
  | 81 => .array .int
  | 82 => .array .byte
  | 83 => .int
  | 84 => .array .byte
  | 85 => .array .int
  | 86 => .array .byte
  | 87 => .array .int
  | 88 => .array .int
  | 89 => .array .int
  | 90 => .int
  | 91 => .array .byte
  | _ => .array .byte
abbrev wsX120 : List Cond := u_ws RX12 TX12 93
theorem nmX12 : ∀ a, a < 93 → ∀ b, b < 93 → a ≠ b → (TX12 a).2.1 ≠ (TX12 b).2.1 := by decide +kernel
theorem tyX12_ok : ∀ k, k < 93 → parseFieldDescriptor (TX12 k).2.2.1 = some (tyX12 k) := by decide +kernel
abbrev cX12_init : ByteArray := prog_14_method_1_code
def yX12_init : MethodName := ⟨RX12, "<init>", "()V"⟩
abbrev cX12_isMachine : ByteArray := prog_14_method_2_code
def yX12_isMachine : MethodName := ⟨RX12, "isMachine", "(I)Z"⟩
abbrev cX12_isState : ByteArray := prog_14_method_3_code
def yX12_isState : MethodName := ⟨RX12, "isState", "(II)Z"⟩
abbrev cX12_letters : ByteArray := prog_14_method_4_code
def yX12_letters : MethodName := ⟨RX12, "letters", "(II)I"⟩
abbrev cX12_letter : ByteArray := prog_14_method_5_code
def yX12_letter : MethodName := ⟨RX12, "letter", "(III)I"⟩
abbrev cX12_isWritten : ByteArray := prog_14_method_6_code
def yX12_isWritten : MethodName := ⟨RX12, "isWritten", "(I)Z"⟩
abbrev cX12_machine : ByteArray := prog_14_method_7_code
def yX12_machine : MethodName := ⟨RX12, "machine", "(II)Z"⟩
abbrev cX12_begins : ByteArray := prog_14_method_8_code
def yX12_begins : MethodName := ⟨RX12, "begins", "(IIZ)Z"⟩
abbrev cX12_ends : ByteArray := prog_14_method_9_code
def yX12_ends : MethodName := ⟨RX12, "ends", "(III)Z"⟩
abbrev cX12_arc : ByteArray := prog_14_method_10_code
def yX12_arc : MethodName := ⟨RX12, "arc", "(IIIII)I"⟩
abbrev cX12_comes : ByteArray := prog_14_method_11_code
def yX12_comes : MethodName := ⟨RX12, "comes", "(IIIII)V"⟩
abbrev cX12_copy : ByteArray := prog_14_method_12_code
def yX12_copy : MethodName := ⟨RX12, "copy", "(I)Z"⟩
abbrev cX12_uses : ByteArray := prog_14_method_13_code
def yX12_uses : MethodName := ⟨RX12, "uses", "(I)V"⟩
abbrev cX12_useful : ByteArray := prog_14_method_14_code
def yX12_useful : MethodName := ⟨RX12, "useful", "(II)I"⟩
abbrev cX12_size : ByteArray := prog_14_method_15_code
def yX12_size : MethodName := ⟨RX12, "size", "(II)I"⟩
abbrev cX12_later : ByteArray := prog_14_method_16_code
def yX12_later : MethodName := ⟨RX12, "later", "(II)Z"⟩
abbrev cX12_nowLater : ByteArray := prog_14_method_17_code
def yX12_nowLater : MethodName := ⟨RX12, "nowLater", "()V"⟩
abbrev cX12_joined : ByteArray := prog_14_method_18_code
def yX12_joined : MethodName := ⟨RX12, "joined", "(II)I"⟩
abbrev cX12_apply : ByteArray := prog_14_method_19_code
def yX12_apply : MethodName := ⟨RX12, "apply", "(II)I"⟩
abbrev cX12_sorts : ByteArray := prog_14_method_20_code
def yX12_sorts : MethodName := ⟨RX12, "sorts", "()V"⟩
abbrev cX12_isLess : ByteArray := prog_14_method_21_code
def yX12_isLess : MethodName := ⟨RX12, "isLess", "(II)Z"⟩
abbrev cX12_output : ByteArray := prog_14_method_22_code
def yX12_output : MethodName := ⟨RX12, "output", "(II)I"⟩
abbrev cX12_offers : ByteArray := prog_14_method_23_code
def yX12_offers : MethodName := ⟨RX12, "offers", "(II)V"⟩
abbrev cX12_moves : ByteArray := prog_14_method_24_code
def yX12_moves : MethodName := ⟨RX12, "moves", "(II)V"⟩
abbrev cX12_order : ByteArray := prog_14_method_25_code
def yX12_order : MethodName := ⟨RX12, "order", "(II)I"⟩
abbrev cX12_behind : ByteArray := prog_14_method_26_code
def yX12_behind : MethodName := ⟨RX12, "behind", "(II)I"⟩
abbrev cX12_turns : ByteArray := prog_14_method_27_code
def yX12_turns : MethodName := ⟨RX12, "turns", "()V"⟩
abbrev cX12_leasts : ByteArray := prog_14_method_28_code
def yX12_leasts : MethodName := ⟨RX12, "leasts", "(I)V"⟩
abbrev cX12_keepsOutput : ByteArray := prog_14_method_29_code
def yX12_keepsOutput : MethodName := ⟨RX12, "keepsOutput", "(II)V"⟩
abbrev cX12_witness : ByteArray := prog_14_method_30_code
def yX12_witness : MethodName := ⟨RX12, "witness", "(I)I"⟩
abbrev cX12_wrote : ByteArray := prog_14_method_31_code
def yX12_wrote : MethodName := ⟨RX12, "wrote", "(II)I"⟩
abbrev cX12_meets : ByteArray := prog_14_method_32_code
def yX12_meets : MethodName := ⟨RX12, "meets", "(II)V"⟩
abbrev cX12_rows : ByteArray := prog_14_method_33_code
def yX12_rows : MethodName := ⟨RX12, "rows", "(III)V"⟩
abbrev cX12_config : ByteArray := prog_14_method_34_code
def yX12_config : MethodName := ⟨RX12, "config", "(IIZIII)V"⟩
abbrev cX12_parts : ByteArray := prog_14_method_35_code
def yX12_parts : MethodName := ⟨RX12, "parts", "(III)Z"⟩
abbrev cX12_unlike : ByteArray := prog_14_method_36_code
def yX12_unlike : MethodName := ⟨RX12, "unlike", "(II)I"⟩
abbrev cX12_goOn : ByteArray := prog_14_method_37_code
def yX12_goOn : MethodName := ⟨RX12, "goOn", "(IIIII)V"⟩
abbrev cX12_depth : ByteArray := prog_14_method_38_code
def yX12_depth : MethodName := ⟨RX12, "depth", "(I)I"⟩
abbrev cX12_wordOf : ByteArray := prog_14_method_39_code
def yX12_wordOf : MethodName := ⟨RX12, "wordOf", "(I)V"⟩
abbrev cX12_functional : ByteArray := prog_14_method_40_code
def yX12_functional : MethodName := ⟨RX12, "functional", "(I)I"⟩
abbrev cX12_goesBy : ByteArray := prog_14_method_41_code
def yX12_goesBy : MethodName := ⟨RX12, "goesBy", "(III)I"⟩
abbrev cX12_reads : ByteArray := prog_14_method_42_code
def yX12_reads : MethodName := ⟨RX12, "reads", "(II)Z"⟩
abbrev cX12_set : ByteArray := prog_14_method_43_code
def yX12_set : MethodName := ⟨RX12, "set", "(III)V"⟩
abbrev cX12_alone : ByteArray := prog_14_method_44_code
def yX12_alone : MethodName := ⟨RX12, "alone", "()I"⟩
abbrev cX12_deepOf : ByteArray := prog_14_method_45_code
def yX12_deepOf : MethodName := ⟨RX12, "deepOf", "(I)I"⟩
abbrev cX12_wordOfSet : ByteArray := prog_14_method_46_code
def yX12_wordOfSet : MethodName := ⟨RX12, "wordOfSet", "(I)V"⟩
abbrev cX12_bothWrote : ByteArray := prog_14_method_47_code
def yX12_bothWrote : MethodName := ⟨RX12, "bothWrote", "()V"⟩
abbrev cX12_readers : ByteArray := prog_14_method_48_code
def yX12_readers : MethodName := ⟨RX12, "readers", "()I"⟩
abbrev cX12_same : ByteArray := prog_14_method_49_code
def yX12_same : MethodName := ⟨RX12, "same", "()I"⟩
abbrev cX12_isAhead : ByteArray := prog_14_method_50_code
def yX12_isAhead : MethodName := ⟨RX12, "isAhead", "(II)Z"⟩
abbrev cX12_twin : ByteArray := prog_14_method_51_code
def yX12_twin : MethodName := ⟨RX12, "twin", "(II)V"⟩
abbrev cX12_twinRows : ByteArray := prog_14_method_52_code
def yX12_twinRows : MethodName := ⟨RX12, "twinRows", "(III)V"⟩
abbrev cX12_isUsedArc : ByteArray := prog_14_method_53_code
def yX12_isUsedArc : MethodName := ⟨RX12, "isUsedArc", "(II)Z"⟩
abbrev cX12_twinsOf : ByteArray := prog_14_method_54_code
def yX12_twinsOf : MethodName := ⟨RX12, "twinsOf", "(I)I"⟩
abbrev cX12_draws : ByteArray := prog_14_method_55_code
def yX12_draws : MethodName := ⟨RX12, "draws", "()I"⟩
abbrev cX12_setOfNow : ByteArray := prog_14_method_56_code
def yX12_setOfNow : MethodName := ⟨RX12, "setOfNow", "(I)I"⟩
abbrev cX12_makes : ByteArray := prog_14_method_57_code
def yX12_makes : MethodName := ⟨RX12, "makes", "(I)Z"⟩
abbrev cX12_goesOn : ByteArray := prog_14_method_58_code
def yX12_goesOn : MethodName := ⟨RX12, "goesOn", "(III)V"⟩
abbrev cX12_endsOf : ByteArray := prog_14_method_59_code
def yX12_endsOf : MethodName := ⟨RX12, "endsOf", "(I)V"⟩
abbrev cX12_heads : ByteArray := prog_14_method_60_code
def yX12_heads : MethodName := ⟨RX12, "heads", "()V"⟩
abbrev cX12_tries : ByteArray := prog_14_method_61_code
def yX12_tries : MethodName := ⟨RX12, "tries", "([BIII)V"⟩
abbrev cX12_fulls : ByteArray := prog_14_method_62_code
def yX12_fulls : MethodName := ⟨RX12, "fulls", "()V"⟩
abbrev cX12_isAlike : ByteArray := prog_14_method_63_code
def yX12_isAlike : MethodName := ⟨RX12, "isAlike", "(II)Z"⟩
abbrev cX12_least : ByteArray := prog_14_method_64_code
def yX12_least : MethodName := ⟨RX12, "least", "()V"⟩
abbrev cX12_sequential : ByteArray := prog_14_method_65_code
def yX12_sequential : MethodName := ⟨RX12, "sequential", "(I)I"⟩
abbrev cX12_told : ByteArray := prog_14_method_66_code
def yX12_told : MethodName := ⟨RX12, "told", "(I)I"⟩
abbrev cX12_isLeast : ByteArray := prog_14_method_67_code
def yX12_isLeast : MethodName := ⟨RX12, "isLeast", "(I)Z"⟩
abbrev cX12_goes : ByteArray := prog_14_method_68_code
def yX12_goes : MethodName := ⟨RX12, "goes", "(II)I"⟩
abbrev cX12_writes : ByteArray := prog_14_method_69_code
def yX12_writes : MethodName := ⟨RX12, "writes", "(III)I"⟩
abbrev cX12_behindAct : ByteArray := prog_14_method_70_code
def yX12_behindAct : MethodName := ⟨RX12, "behindAct", "(II)I"⟩
abbrev cX12_act : ByteArray := prog_14_method_71_code
def yX12_act : MethodName := ⟨RX12, "act", "(I)I"⟩
abbrev cX12_acted : ByteArray := prog_14_method_72_code
def yX12_acted : MethodName := ⟨RX12, "acted", "(I)I"⟩
abbrev cX12_wordOfLeast : ByteArray := prog_14_method_73_code
def yX12_wordOfLeast : MethodName := ⟨RX12, "wordOfLeast", "(I)I"⟩
abbrev cX12_take : ByteArray := prog_14_method_74_code
def yX12_take : MethodName := ⟨RX12, "take", "(I)Z"⟩
def RJ6 : String := "java/lang/Integer"
abbrev cJ6_compare_7cf53 : ByteArray := prog_15_method_40_code
def yJ6_compare_7cf53 : MethodName := ⟨RJ6, "compare", "(II)I"⟩
abbrev cJ6_bitCount_0f7a4 : ByteArray := prog_15_method_49_code
def yJ6_bitCount_0f7a4 : MethodName := ⟨RJ6, "bitCount", "(I)I"⟩
def RJ9 : String := "java/lang/Math"
abbrev cJ9_max_7cf53 : ByteArray := prog_16_method_65_code
def yJ9_max_7cf53 : MethodName := ⟨RJ9, "max", "(II)I"⟩
abbrev cJ9_min_7cf53 : ByteArray := prog_16_method_69_code
def yJ9_min_7cf53 : MethodName := ⟨RJ9, "min", "(II)I"⟩
def RJ10 : String := "java/lang/System"
def RJ7 : String := "java/util/Arrays"
abbrev cJ7_fill_53178 : ByteArray := prog_18_method_103_code
def yJ7_fill_53178 : MethodName := ⟨RJ7, "fill", "([II)V"⟩
def RL : String := "TransducerBenchLaw"
abbrev cL_law : ByteArray := code
def yL_law : MethodName := ⟨RL, "law", "([I)Z"⟩
end
section
/-! An executable machine of our own over small memories: values are ints, or references (0: null, a + 1: the cell a). -/
abbrev zV : Type := Int32 ⊕ Nat
abbrev zM : Type := (Nat × Nat × Nat) × (Nat → Nat × Nat) × (Nat → Nat → Int32) × (Nat → Nat → Nat)
abbrev zR : Type := Int32 × Nat × zM
abbrev zL : Type := List (Option zV)
abbrev zE : Type := ClassFile.Instr × Nat × Nat × Nat × Nat
abbrev zO : Type := List (Option zE)
abbrev zF3 : Type := Nat → List zV → zM → Option zR
abbrev zK4 : Type := Nat → zL → List zV → zM → Option zR
def znth {α : Type} : List α → Nat → Option α
  | [], _ => none
  | a :: _, 0 => some a
  | _ :: l, n + 1 => znth l n
def zlget (L : zL) (i : Nat) : Option zV := match znth L i with
  | some (some v) => some v
  | _ => none
def zlset : zL → Nat → zV → Option zL
  | [], _, _ => none
  | _ :: l, 0, v => some (some v :: l)
  | a :: l, n + 1, v => match zlset l n v with
    | some l' => some (a :: l')
    | none => none
def zpop : Nat → List zV → List zV → Option (List zV × List zV)
  | 0, acc, st => some (acc, st)
  | n + 1, acc, v :: st => zpop n (v :: acc) st
  | _ + 1, _, [] => none
def zshort : Nat → List zV → Bool
  | _, [] => true
  | 0, _ :: _ => false
  | n + 1, _ :: l => zshort n l
/-- loop heads, each with how many locals are in use there -/
def zcut : List (Nat × Nat) → Nat → Option Nat
  | [], _ => none
  | (a, k) :: l, n => match Nat.beq a n with
    | true => some k
    | false => zcut l n
def ztrim : Nat → zL → zL
  | _, [] => []
  | 0, _ :: l => none :: ztrim 0 l
  | n + 1, a :: l => a :: ztrim n l
def zpush (k : Nat) (r : zR) (st : List zV) : List zV := match k with
  | 0 => st
  | 1 => .inl r.1 :: st
  | _ => .inr r.2.1 :: st
-- memory: ((next cell, cells made, slots made), (kind, length) of a cell, ints, references)
-- kinds: 0 nothing; c + 1 an object of the class c; 101 int[], 102 byte[], 103 boolean[], 104 .. 107 arrays of objects; 200 the script
def zK (h : zM) (a : Nat) : Nat := (h.2.1 a).1
def zN (h : zM) (a : Nat) : Nat := (h.2.1 a).2
def zI (h : zM) (a k : Nat) : Int32 := h.2.2.1 a k
def zF (h : zM) (a k : Nat) : Nat := h.2.2.2 a k
def zsI (h : zM) (a k : Nat) (x : Int32) : zM := (h.1, h.2.1, va_up h.2.2.1 a (upd (h.2.2.1 a) k x), h.2.2.2)
def zsF (h : zM) (a k : Nat) (r : Nat) : zM := (h.1, h.2.1, h.2.2.1, va_up h.2.2.2 a (va_up (h.2.2.2 a) k r))
def zgI (h : zM) (a c k : Nat) : Option Int32 := if zK h a = c + 1 then some (zI h a k) else none
def zgF (h : zM) (a c k : Nat) : Option Nat := if zK h a = c + 1 then some (zF h a k) else none
def zpI (h : zM) (a c k : Nat) (x : Int32) : Option zM := if zK h a = c + 1 then some (zsI h a k x) else none
def zpZ (h : zM) (a c k : Nat) (x : Int32) : Option zM := if zK h a = c + 1 ∧ (x = 0 ∨ x = 1) then some (zsI h a k x) else none
def zpF (h : zM) (a c k : Nat) (r : Nat) : Option zM := if zK h a = c + 1 then some (zsF h a k r) else none
def zia (h : zM) (a : Nat) (i : Int32) : Option Int32 := if (zK h a = 101 ∨ zK h a = 200) ∧ ¬ (i < 0 ∨ zN h a ≤ i.toNatClampNeg) then some (zI h a i.toNatClampNeg) else none
def zba (h : zM) (a : Nat) (i : Int32) : Option Int32 := if (zK h a = 102 ∨ zK h a = 103) ∧ ¬ (i < 0 ∨ zN h a ≤ i.toNatClampNeg) then some (zI h a i.toNatClampNeg) else none
def zaa (h : zM) (a : Nat) (i : Int32) : Option Nat := if (104 ≤ zK h a ∧ zK h a < 108) ∧ ¬ (i < 0 ∨ zN h a ≤ i.toNatClampNeg) then some (zF h a i.toNatClampNeg) else none
def zis (h : zM) (a : Nat) (i x : Int32) : Option zM := if zK h a = 101 ∧ ¬ (i < 0 ∨ zN h a ≤ i.toNatClampNeg) then some (zsI h a i.toNatClampNeg x) else none
def zbs (h : zM) (a : Nat) (i x : Int32) : Option zM :=
  if zK h a = 102 ∧ ¬ (i < 0 ∨ zN h a ≤ i.toNatClampNeg) then some (zsI h a i.toNatClampNeg (vp_nar .byte x))
  else if zK h a = 103 ∧ ¬ (i < 0 ∨ zN h a ≤ i.toNatClampNeg) then some (zsI h a i.toNatClampNeg (vp_nar .boolean x)) else none
/-- the class of what an array of objects holds: Word, Machine, Pair, TwoLeast -/
def zel (k : Nat) : Nat := match k with
  | 104 => 10
  | 105 => 2
  | 106 => 4
  | _ => 8
def zas (h : zM) (a : Nat) (i : Int32) (r : Nat) : Option zM := if (104 ≤ zK h a ∧ zK h a < 108) ∧ ¬ (i < 0 ∨ zN h a ≤ i.toNatClampNeg) ∧ zK h r = zel (zK h a) + 1 then some (zsF h a i.toNatClampNeg r) else none
def zal (h : zM) (a : Nat) : Option Int32 := if (101 ≤ zK h a ∧ zK h a < 108) ∨ zK h a = 200 then some (Int32.ofNat (zN h a)) else none
def zmk (h : zM) (k n : Nat) : zM := ((h.1.1 + 1, h.1.2.1 + 1, h.1.2.2 + n), va_up h.2.1 h.1.1 (k, n), va_up h.2.2.1 h.1.1 (fun _ => 0), va_up h.2.2.2 h.1.1 (fun _ => 0))
def zna (h : zM) (k : Nat) (n : Int32) : Option zM := if n < 0 ∨ 1000000 < n.toNatClampNeg then none else some (zmk h k n.toNatClampNeg)
def zcp (h : zM) (a0 : Nat) (sp : Int32) (a : Nat) (dp n : Int32) : Option zM :=
  if (zK h a0 = 101 ∧ zK h a = 101) ∧ (¬ sp < 0 ∧ ¬ dp < 0 ∧ ¬ n < 0) ∧ sp.toNatClampNeg + n.toNatClampNeg ≤ zN h a0 ∧ dp.toNatClampNeg + n.toNatClampNeg ≤ zN h a
  then some (h.1, h.2.1, va_up h.2.2.1 a (va_cpy (h.2.2.1 a0) (h.2.2.1 a) sp.toNatClampNeg dp.toNatClampNeg n.toNatClampNeg), h.2.2.2) else none
-- one instruction, by what goes on behind it
def zo_load (L : zL) (i : Nat) (κ : List zV → Option zR) (st : List zV) : Option zR := match zlget L i with
  | some (.inl x) => κ (.inl x :: st)
  | _ => none
def zo_aload (L : zL) (i : Nat) (κ : List zV → Option zR) (st : List zV) : Option zR := match zlget L i with
  | some (.inr x) => κ (.inr x :: st)
  | _ => none
def zo_store (L : zL) (i : Nat) (κ : zL → List zV → Option zR) (st : List zV) : Option zR := match st with
  | .inl x :: r => match zlset L i (.inl x) with
    | some L' => κ L' r
    | none => none
  | _ => none
def zo_astore (L : zL) (i : Nat) (κ : zL → List zV → Option zR) (st : List zV) : Option zR := match st with
  | .inr x :: r => match zlset L i (.inr x) with
    | some L' => κ L' r
    | none => none
  | _ => none
def zo_iinc (L : zL) (i : Nat) (d : Int32) (κ : zL → Option zR) : Option zR := match zlget L i with
  | some (.inl x) => match zlset L i (.inl (x + d)) with
    | some L' => κ L'
    | none => none
  | _ => none
def zo_bin (o : Int32 → Int32 → Int32) (κ : List zV → Option zR) (st : List zV) : Option zR := match st with
  | .inl y :: .inl x :: r => κ (.inl (o x y) :: r)
  | _ => none
def zo_div (o : Int32 → Int32 → Int32) (κ : List zV → Option zR) (st : List zV) : Option zR := match st with
  | .inl y :: .inl x :: r => if y = 0 then none else κ (.inl (o x y) :: r)
  | _ => none
def zo_un (o : Int32 → Int32) (κ : List zV → Option zR) (st : List zV) : Option zR := match st with
  | .inl x :: r => κ (.inl (o x) :: r)
  | _ => none
def zcond (q : ClassFile.Cond) (x y : Int32) (kt kf : Option zR) : Option zR := match q with
  | .eq => if x = y then kt else kf
  | .ne => if x = y then kf else kt
  | .lt => if x < y then kt else kf
  | .ge => if x < y then kf else kt
  | .gt => if y < x then kt else kf
  | .le => if y < x then kf else kt
def zo_if (q : ClassFile.Cond) (κt κf : List zV → Option zR) (st : List zV) : Option zR := match st with
  | .inl x :: r => zcond q x 0 (κt r) (κf r)
  | _ => none
def zo_icmp (q : ClassFile.Cond) (κt κf : List zV → Option zR) (st : List zV) : Option zR := match st with
  | .inl y :: .inl x :: r => zcond q x y (κt r) (κf r)
  | _ => none
def zo_null (κt κf : List zV → Option zR) (st : List zV) : Option zR := match st with
  | .inr x :: r => if x = 0 then κt r else κf r
  | _ => none
/-- a table of goals for 0, 1, 2 ..; beyond it the other goal -/
def zo_table (κ : Nat → Option zR) (x : Int32) (d : Nat) : List Nat → Int32 → Option zR
  | [], _ => κ d
  | t :: ts, i => if x = i then κ t else zo_table κ x d ts (i + 1)
def zo_sw (κ : Nat → List zV → Option zR) (d : Nat) (ts : List Nat) (st : List zV) : Option zR := match st with
  | .inl x :: r => zo_table (fun t => κ t r) x d ts 0
  | _ => none
def zo_get (h : zM) (c k ty : Nat) (κ : List zV → Option zR) (st : List zV) : Option zR := match st with
  | .inr a :: r => match ty with
    | 1 => (zgF h a c k).bind fun x => κ (.inr x :: r)
    | _ => (zgI h a c k).bind fun x => κ (.inl x :: r)
  | _ => none
def zo_put (h : zM) (c k ty : Nat) (κ : List zV → zM → Option zR) (st : List zV) : Option zR := match ty with
  | 1 => match st with
    | .inr x :: .inr a :: r => (zpF h a c k x).bind fun h' => κ r h'
    | _ => none
  | 0 => match st with
    | .inl x :: .inr a :: r => (zpI h a c k x).bind fun h' => κ r h'
    | _ => none
  | _ => match st with
    | .inl x :: .inr a :: r => (zpZ h a c k x).bind fun h' => κ r h'
    | _ => none
def zo_ald (g : Nat → Int32 → Option Int32) (κ : List zV → Option zR) (st : List zV) : Option zR := match st with
  | .inl i :: .inr a :: r => (g a i).bind fun x => κ (.inl x :: r)
  | _ => none
def zo_aald (h : zM) (κ : List zV → Option zR) (st : List zV) : Option zR := match st with
  | .inl i :: .inr a :: r => (zaa h a i).bind fun x => κ (.inr x :: r)
  | _ => none
def zo_ast (g : Nat → Int32 → Int32 → Option zM) (κ : List zV → zM → Option zR) (st : List zV) : Option zR := match st with
  | .inl x :: .inl i :: .inr a :: r => (g a i x).bind fun h' => κ r h'
  | _ => none
def zo_aast (h : zM) (κ : List zV → zM → Option zR) (st : List zV) : Option zR := match st with
  | .inr x :: .inl i :: .inr a :: r => (zas h a i x).bind fun h' => κ r h'
  | _ => none
def zo_len (h : zM) (κ : List zV → Option zR) (st : List zV) : Option zR := match st with
  | .inr a :: r => (zal h a).bind fun x => κ (.inl x :: r)
  | _ => none
def zo_na (h : zM) (k : Nat) (κ : List zV → zM → Option zR) (st : List zV) : Option zR := match st with
  | .inl n :: r => (zna h k n).bind fun h' => κ (.inr h.1.1 :: r) h'
  | _ => none
def zo_dup (κ : List zV → Option zR) (st : List zV) : Option zR := match st with
  | v :: r => κ (v :: v :: r)
  | _ => none
def zo_dup2 (κ : List zV → Option zR) (st : List zV) : Option zR := match st with
  | v :: w :: r => κ (v :: w :: v :: w :: r)
  | _ => none
def zo_pop (κ : List zV → Option zR) (st : List zV) : Option zR := match st with
  | _ :: r => κ r
  | _ => none
def zo_iret (ty : Nat) (h : zM) (st : List zV) : Option zR := match st with
  | [.inl x] => match ty with
    | 0 => some (x, 0, h)
    | _ => if x = 0 ∨ x = 1 then some (x, 0, h) else none
  | _ => none
def zo_aret (h : zM) (st : List zV) : Option zR := match st with
  | [.inr x] => some (0, x, h)
  | _ => none
def zo_vret (h : zM) (st : List zV) : Option zR := match st with
  | [] => some (0, 0, h)
  | _ => none
def zo_cs (f : zF3) (j na rk : Nat) (h : zM) (κ : List zV → zM → Option zR) (st : List zV) : Option zR := match zpop na [] st with
  | some (as, r) => match zshort 8 r with
    | true => (f j as h).bind fun u => κ (zpush rk u r) u.2.2
    | false => none
  | none => none
def zo_cv (f : zF3) (j na rk rc : Nat) (h : zM) (κ : List zV → zM → Option zR) (st : List zV) : Option zR := match zpop (na + 1) [] st with
  | some (.inr a :: as, r) => match zshort 8 r with
    | true => if zK h a = rc then (f j (.inr a :: as) h).bind fun u => κ (zpush rk u r) u.2.2 else none
    | false => none
  | _ => none
def zo_copy (h : zM) (κ : List zV → zM → Option zR) (st : List zV) : Option zR := match st with
  | .inl n :: .inl dp :: .inr a :: .inl sp :: .inr a0 :: r => match zshort 4 r with
    | true => (zcp h a0 sp a dp n).bind fun h' => κ r h'
    | false => none
  | _ => none
def zo_obj (h : zM) (κ : List zV → Option zR) (st : List zV) : Option zR := match st with
  | .inr a :: r => match zshort 8 r with
    | true => if a = 0 then none else κ r
    | false => none
  | _ => none
def zatk (t : ClassFile.ArrayType) : Nat := match t with
  | .int => 101
  | .byte => 102
  | .boolean => 103
  | _ => 0
/-- places: a1 .. a4 tell of a jump its goal; of a field class, place, kind, word; of a call callee, number of arguments, what comes back, the receiver's class + 1 (0: static) -/
def zone (f : zF3) (ops : zO) (κ : zK4) (pc : Nat) (L : zL) (st : List zV) (h : zM) : Option zR := match znth ops pc with
  | some (some (i, a1, a2, a3, a4)) => match i with
    | .iload_n k => zo_load L k (fun s => κ (pc + 1) L s h) st
    | .iload k => zo_load L k (fun s => κ (pc + 2) L s h) st
    | .aload_n k => zo_aload L k (fun s => κ (pc + 1) L s h) st
    | .aload k => zo_aload L k (fun s => κ (pc + 2) L s h) st
    | .istore_n k => zo_store L k (fun M s => κ (pc + 1) M s h) st
    | .istore k => zo_store L k (fun M s => κ (pc + 2) M s h) st
    | .astore_n k => zo_astore L k (fun M s => κ (pc + 1) M s h) st
    | .astore k => zo_astore L k (fun M s => κ (pc + 2) M s h) st
    | .iinc k d => zo_iinc L k (Int32.ofInt d) (fun M => κ (pc + 3) M st h)
    | .iconst n => κ (pc + 1) L (.inl (Int32.ofInt n) :: st) h
    | .bipush n => κ (pc + 2) L (.inl (Int8.ofInt n).toInt32 :: st) h
    | .sipush n => κ (pc + 3) L (.inl (Int16.ofInt n).toInt32 :: st) h
    | .ldc _ => κ (pc + 2) L (.inl (Int32.ofNat a1) :: st) h
    | .ldc_w _ => κ (pc + 3) L (.inl (Int32.ofNat a1) :: st) h
    | .aconst_null => κ (pc + 1) L (.inr 0 :: st) h
    | .iadd => zo_bin (fun x y => x + y) (fun s => κ (pc + 1) L s h) st
    | .isub => zo_bin (fun x y => x - y) (fun s => κ (pc + 1) L s h) st
    | .imul => zo_bin (fun x y => x * y) (fun s => κ (pc + 1) L s h) st
    | .iand => zo_bin (fun x y => x &&& y) (fun s => κ (pc + 1) L s h) st
    | .ior => zo_bin (fun x y => x ||| y) (fun s => κ (pc + 1) L s h) st
    | .ixor => zo_bin (fun x y => x ^^^ y) (fun s => κ (pc + 1) L s h) st
    | .ishl => zo_bin (fun x y => x <<< (y &&& 31)) (fun s => κ (pc + 1) L s h) st
    | .ishr => zo_bin (fun x y => x >>> (y &&& 31)) (fun s => κ (pc + 1) L s h) st
    | .iushr => zo_bin (fun x y => (x.toUInt32 >>> (y.toUInt32 &&& Int32.toUInt32 31)).toInt32) (fun s => κ (pc + 1) L s h) st
    | .idiv => zo_div (fun x y => x / y) (fun s => κ (pc + 1) L s h) st
    | .irem => zo_div (fun x y => x - x / y * y) (fun s => κ (pc + 1) L s h) st
    | .i2b => zo_un (fun x => x.toInt8.toInt32) (fun s => κ (pc + 1) L s h) st
    | .ifCond q _ => zo_if q (fun s => κ a1 L s h) (fun s => κ (pc + 3) L s h) st
    | .if_icmp q _ => zo_icmp q (fun s => κ a1 L s h) (fun s => κ (pc + 3) L s h) st
    | .ifnull _ => zo_null (fun s => κ a1 L s h) (fun s => κ (pc + 3) L s h) st
    | .ifnonnull _ => zo_null (fun s => κ (pc + 3) L s h) (fun s => κ a1 L s h) st
    | .goto _ => κ a1 L st h
    | .tableswitch d _ _ offs => zo_sw (fun t r => κ t L r h) ((pc : Int) + d).toNat (offs.toList.map fun o => ((pc : Int) + o).toNat) st
    | .getfield _ => zo_get h a1 a2 a3 (fun s => κ (pc + 3) L s h) st
    | .putfield _ => zo_put h a1 a2 a3 (fun s g => κ (pc + 3) L s g) st
    | .iaload => zo_ald (zia h) (fun s => κ (pc + 1) L s h) st
    | .baload => zo_ald (zba h) (fun s => κ (pc + 1) L s h) st
    | .aaload => zo_aald h (fun s => κ (pc + 1) L s h) st
    | .iastore => zo_ast (zis h) (fun s g => κ (pc + 1) L s g) st
    | .bastore => zo_ast (zbs h) (fun s g => κ (pc + 1) L s g) st
    | .aastore => zo_aast h (fun s g => κ (pc + 1) L s g) st
    | .arraylength => zo_len h (fun s => κ (pc + 1) L s h) st
    | .new _ => κ (pc + 3) L (.inr h.1.1 :: st) (zmk h (a1 + 1) a2)
    | .newarray t => zo_na h (zatk t) (fun s g => κ (pc + 2) L s g) st
    | .anewarray _ => zo_na h a1 (fun s g => κ (pc + 3) L s g) st
    | .dup => zo_dup (fun s => κ (pc + 1) L s h) st
    | .dup2 => zo_dup2 (fun s => κ (pc + 1) L s h) st
    | .pop => zo_pop (fun s => κ (pc + 1) L s h) st
    | .ireturn => zo_iret a1 h st
    | .areturn => zo_aret h st
    | .return_ => zo_vret h st
    | .invokestatic _ => match a4 with
      | 0 => zo_cs f a1 a2 a3 h (fun s g => κ (pc + 3) L s g) st
      | _ => zo_copy h (fun s g => κ (pc + 3) L s g) st
    | .invokevirtual _ => zo_cv f a1 a2 a3 a4 h (fun s g => κ (pc + 3) L s g) st
    | .invokespecial _ => match a4 with
      | 0 => zo_obj h (fun s => κ (pc + 3) L s h) st
      | _ => zo_cv f a1 a2 0 a4 h (fun s g => κ (pc + 3) L s g) st
    | _ => none
  | _ => none
def zexec (f : zF3) (ops : zO) (cuts : List (Nat × Nat)) (κ : zK4) : Nat → zK4
  | 0, pc, L, st, h => κ pc L st h
  | n + 1, pc, L, st, h => zone f ops (fun pc' L' st' h' => match zcut cuts pc' with
    | some k => κ pc' (ztrim k L') st' h'
    | none => zexec f ops cuts κ n pc' L' st' h') pc L st h
end
section
/-! What the small memory says of the heap. -/
abbrev zD3 : Type := (Nat → ClassId) × (Nat → Nat → Nat) × (Nat → ClassId)
def zcls : List vw_C := [(RX0, TX0, 11), (RX1, TX1, 11), (RX2, TX2, 8), (RX3, TX3, 9), (RX4, TX4, 4), (RX5, TX5, 5), (RX6, TX6, 8), (RX7, TX7, 8), (RX8, TX8, 3), (RX9, TX9, 8), (RX10, TX10, 2), (RX11, TX11, 15), (RX12, TX12, 93)]
def ztyc (c : Nat) : Nat → FieldType := match c with
  | 0 => tyX0
  | 1 => tyX1
  | 2 => tyX2
  | 3 => tyX3
  | 4 => tyX4
  | 5 => tyX5
  | 6 => tyX6
  | 7 => tyX7
  | 8 => tyX8
  | 9 => tyX9
  | 10 => tyX10
  | 11 => tyX11
  | _ => tyX12
def zcn (c : Nat) : Nat := match zcls[c]? with
  | some r => r.2.2
  | none => 0
/-- 0 an int, 2 a boolean, 1 a reference -/
def zfk (t : FieldType) : Nat := match t with
  | .int => 0
  | .boolean => 2
  | _ => 1
def zop : Nat → Option Nat
  | 0 => none
  | a + 1 => some a
def zval : zV → Value
  | .inl x => .int x
  | .inr r => va_rf (zop r)
def zfv (h : zM) (c a k : Nat) : Value := match zfk (ztyc c k) with
  | 1 => va_rf (zop (zF h a k))
  | _ => .int (zI h a k)
def zfs (h : zM) (c a : Nat) : List Value := (List.range (zcn c)).map (zfv h c a)
def zaty (k : Nat) : FieldType := match k with
  | 0 => .int
  | 1 => .byte
  | 2 => .boolean
  | 3 => .object RX10
  | 4 => .object RX2
  | 5 => .object RX4
  | _ => .object RX8
def ztys (D : zD3) : List (ClassId × FieldType) := (List.range 7).map (fun k => (D.2.2 k, zaty k))
def zDv (D : zD3) : va_G := (D.1, D.2.1)
def zKn (D : zD3) (U : State) : Prop := va_K (zDv D) zcls (ztys D) U
def zcell (D : zD3) (U : State) (h : zM) (a : Nat) (H : Heap) : Prop :=
  (∀ c : Nat, zK h (a + 1) = c + 1 → c < 13 → va_at (zDv D) zcls (a, .inr (c, zfs h c (a + 1))) H) ∧
  (∀ t : Nat, zK h (a + 1) = 101 + t → t < 3 → H[a]? = some (vp_cell (D.2.2 t) (zN h (a + 1), .inl (h.2.2.1 (a + 1))))) ∧
  (∀ t : Nat, zK h (a + 1) = 101 + t → 3 ≤ t → t < 7 → H[a]? = some (vp_cell (D.2.2 t) (zN h (a + 1), .inr (.inr (.inr (.inr (fun j => zop (h.2.2.2 (a + 1) j)))))))) ∧
  (zK h (a + 1) = 200 → va_X a (zN h (a + 1)) (h.2.2.1 (a + 1)) U H)
def zkind (k : Nat) : Prop := k = 0 ∨ k ≤ 13 ∨ (101 ≤ k ∧ k < 108) ∨ k = 200
def zRel (D : zD3) (base : Nat) (U : State) (h : zM) (H : Heap) : Prop :=
  h.1.1 = H.size + 1 ∧ base ≤ H.size ∧ (∀ a, zcell D U h a H) ∧ zK h 0 = 0 ∧ (∀ a, zK h (a + 1) ≠ 0 → a < H.size ∧ (zK h (a + 1) = 200 ∨ base ≤ a)) ∧ ∀ a, zkind (zK h a)
theorem zcell.kept {D : zD3} {U : State} {h h' : zM} {a : Nat} {H H' : Heap} (hc : zcell D U h a H) (hq : H'[a]? = H[a]?) (h1 : h'.2.1 (a + 1) = h.2.1 (a + 1)) (h2 : h'.2.2.1 (a + 1) = h.2.2.1 (a + 1)) (h3 : h'.2.2.2 (a + 1) = h.2.2.2 (a + 1)) : zcell D U h' a H' := by
  have ek : zK h' (a + 1) = zK h (a + 1) := by unfold zK; rw [h1]
  have en : zN h' (a + 1) = zN h (a + 1) := by unfold zN; rw [h1]
  have ef : ∀ c, zfs h' c (a + 1) = zfs h c (a + 1) := by
    intro c
    unfold zfs
    congr 1
    funext k
    unfold zfv zF zI
    rw [h2, h3]
  obtain ⟨c1, c2, c3, c4⟩ := hc
  refine ⟨fun c hk hc => ?_, fun t hk ht => ?_, fun t hk h3' ht => ?_, fun hk => ?_⟩
  · rw [ef]
    exact (c1 c (by rw [← ek]; exact hk) hc).kept hq
  · rw [en, h2, hq]
    exact c2 t (by rw [← ek]; exact hk) ht
  · rw [en, h3, hq]
    exact c3 t (by rw [← ek]; exact hk) h3' ht
  · rw [en, h2]
    exact (c4 (by rw [← ek]; exact hk)).kept hq
theorem zcell.moved {D : zD3} {u U : State} {h : zM} {a : Nat} {H : Heap} (hvm : u.vm.Alike U.vm) (hc : zcell D u h a H) : zcell D U h a H :=
  ⟨hc.1, hc.2.1, hc.2.2.1, fun hk => (hc.2.2.2 hk).moved hvm⟩
theorem zRel.moved {D : zD3} {base : Nat} {u U : State} {h : zM} {H : Heap} (hvm : u.vm.Alike U.vm) (r : zRel D base u h H) : zRel D base U h H :=
  ⟨r.1, r.2.1, fun a => (r.2.2.1 a).moved hvm, r.2.2.2⟩
theorem zKn.moved {D : zD3} {u U : State} (hvm : u.vm.Alike U.vm) (r : zKn D u) : zKn D U := va_K.moved hvm r
/-- one cell has changed -/
theorem zRel.set {D : zD3} {base : Nat} {U : State} {h h' : zM} {a : Nat} {H H' : Heap} (r : zRel D base U h H) (hz : H'.size = H.size) (oq : ∀ q : Nat, q ≠ a → H'[q]? = H[q]?)
    (h0 : h'.1.1 = h.1.1) (h1 : h'.2.1 = h.2.1) (h2 : ∀ b, b ≠ a + 1 → h'.2.2.1 b = h.2.2.1 b) (h3 : ∀ b, b ≠ a + 1 → h'.2.2.2 b = h.2.2.2 b) (hc : zcell D U h' a H') : zRel D base U h' H' := by
  obtain ⟨r1, r2, r3, r4, r5, r6⟩ := r
  have ek : ∀ b, zK h' b = zK h b := fun b => by unfold zK; rw [h1]
  refine ⟨by rw [h0, hz]; exact r1, by rw [hz]; exact r2, fun b => ?_, by rw [ek]; exact r4, fun b hb => ?_, fun b => by rw [ek]; exact r6 b⟩
  · by_cases hba : b = a
    · subst hba; exact hc
    · exact (r3 b).kept (oq b hba) (by rw [h1]) (h2 _ (by omega)) (h3 _ (by omega))
  · rw [ek] at hb ⊢
    rw [hz]
    exact r5 b hb
theorem zRel.push {D : zD3} {base : Nat} {U : State} {h : zM} {k n : Nat} {H H' : Heap} (r : zRel D base U h H) (hz : H'.size = H.size + 1) (oq : ∀ q : Nat, q < H.size → H'[q]? = H[q]?) (hk : zkind k) (hc : zcell D U (zmk h k n) H.size H') : zRel D base U (zmk h k n) H' := by
  obtain ⟨r1, r2, r3, r4, r5, r6⟩ := r
  have hne : ∀ b, b ≠ H.size + 1 → (zmk h k n).2.1 b = h.2.1 b ∧ (zmk h k n).2.2.1 b = h.2.2.1 b ∧ (zmk h k n).2.2.2 b = h.2.2.2 b := by
    intro b hb
    unfold zmk
    rw [r1]
    exact ⟨va_up_ne _ _ hb, va_up_ne _ _ hb, va_up_ne _ _ hb⟩
  have ek : ∀ b, b ≠ H.size + 1 → zK (zmk h k n) b = zK h b := fun b hb => by unfold zK; rw [(hne b hb).1]
  have es : zK (zmk h k n) (H.size + 1) = k := by unfold zK zmk; rw [r1]; show (va_up h.2.1 (H.size + 1) (k, n) (H.size + 1)).1 = k; rw [va_up_self]
  refine ⟨by show h.1.1 + 1 = _; rw [r1, hz], by omega, fun b => ?_, by rw [ek 0 (by omega)]; exact r4, fun b hb => ?_, fun b => ?_⟩
  · by_cases hba : b = H.size
    · subst hba; exact hc
    · have hb2 : b + 1 ≠ H.size + 1 := by omega
      by_cases hlt : b < H.size
      · exact (r3 b).kept (oq b hlt) (hne _ hb2).1 (hne _ hb2).2.1 (hne _ hb2).2.2
      · have h0 : zK (zmk h k n) (b + 1) = 0 := by
          rw [ek _ hb2]
          rcases Nat.eq_zero_or_pos (zK h (b + 1)) with z | z
          · exact z
          · exact absurd (r5 b (by omega)).1 hlt
        exact ⟨fun c h => by omega, fun t h => by omega, fun t h => by omega, fun h => by omega⟩
  · by_cases hba : b = H.size
    · subst hba; exact ⟨by omega, Or.inr r2⟩
    · have hb2 : b + 1 ≠ H.size + 1 := by omega
      rw [ek _ hb2] at hb ⊢
      have := r5 b hb
      exact ⟨by omega, this.2⟩
  · by_cases hba : b = H.size + 1
    · subst hba; rw [es]; exact hk
    · rw [ek _ hba]; exact r6 b
-- locals
def zlv : Nat → zL → List (Nat × Value)
  | _, [] => []
  | i, none :: l => zlv (i + 1) l
  | i, some v :: l => (i, zval v) :: zlv (i + 1) l
theorem zlv_mem : ∀ (L : zL) (b i : Nat) (v : zV), znth L i = some (some v) → (b + i, zval v) ∈ zlv b L
  | [], _, _, _, h => by simp [znth] at h
  | o :: L, b, 0, v, h => by
    simp only [znth, Option.some.injEq] at h
    subst h
    simp [zlv]
  | none :: L, b, i + 1, v, h => by
    have := zlv_mem L (b + 1) i v h
    simp only [zlv]
    rw [show b + (i + 1) = b + 1 + i by omega]
    exact this
  | some w :: L, b, i + 1, v, h => by
    have := zlv_mem L (b + 1) i v h
    simp only [zlv]
    rw [show b + (i + 1) = b + 1 + i by omega]
    exact List.mem_cons_of_mem _ this
theorem zlv_of : ∀ (L : zL) (b : Nat) (q : Nat × Value), q ∈ zlv b L → ∃ i v, q = (b + i, zval v) ∧ znth L i = some (some v)
  | [], _, _, h => by simp [zlv] at h
  | none :: L, b, q, h => by
    obtain ⟨i, v, h1, h2⟩ := zlv_of L (b + 1) q h
    exact ⟨i + 1, v, by rw [h1]; congr 1; omega, h2⟩
  | some w :: L, b, q, h => by
    rcases List.mem_cons.mp h with h | h
    · exact ⟨0, w, h, rfl⟩
    · obtain ⟨i, v, h1, h2⟩ := zlv_of L (b + 1) q h
      exact ⟨i + 1, v, by rw [h1]; congr 1; omega, h2⟩
theorem zval_cat (v : zV) : (zval v).category = 1 := by
  rcases v with x | r
  · rfl
  · rcases r with _ | r <;> rfl
def zlr (ls : Array Slot) (nL : Nat) (L : zL) : Prop := L.length = nL ∧ lv_has ls nL (zlv 0 L)
theorem zlget_some {L : zL} {i : Nat} {v : zV} (h : zlget L i = some v) : znth L i = some (some v) := by
  unfold zlget at h
  split at h
  · rename_i w hw
    rw [hw]
    exact congrArg some h
  · cases h
theorem zlr.get {ls : Array Slot} {nL : Nat} {L : zL} {i : Nat} {v : zV} (r : zlr ls nL L) (h : zlget L i = some v) : ls[i]? = some (.val (zval v)) := by
  have := zlv_mem L 0 i v (zlget_some h)
  rw [Nat.zero_add] at this
  exact r.2.2.2 _ this
theorem zlset_spec : ∀ (L : zL) (i : Nat) (v : zV) (L' : zL), zlset L i v = some L' → L'.length = L.length ∧ i < L.length ∧ ∀ j, znth L' j = if j = i then some (some v) else znth L j
  | [], i, v, L', h => by simp [zlset] at h
  | o :: L, 0, v, L', h => by
    simp only [zlset, Option.some.injEq] at h
    subst h
    refine ⟨rfl, by simp, fun j => ?_⟩
    cases j with
    | zero => rfl
    | succ j => simp [znth]
  | o :: L, i + 1, v, L', h => by
    simp only [zlset] at h
    split at h
    · rename_i l' hl'
      simp only [Option.some.injEq] at h
      subst h
      obtain ⟨a1, a2, a3⟩ := zlset_spec L i v l' hl'
      refine ⟨by simp [a1], by simp; omega, fun j => ?_⟩
      cases j with
      | zero => simp [znth]
      | succ j => simp [znth, a3]
    · cases h
theorem zlr.set {ls' : Array Slot} {nL : Nat} {L L' : zL} {i : Nat} {v : zV} (hl : L.length = nL) (h : zlset L i v = some L') (r : lv_has ls' nL ((i, zval v) :: (zlv 0 L).filter (fun q => !(q.1 == i) && !(q.1 + 1 == i && q.2.category == 2)))) : zlr ls' nL L' := by
  obtain ⟨a1, a2, a3⟩ := zlset_spec L i v L' h
  refine ⟨by rw [a1]; exact hl, r.1, r.2.1, fun q hq => r.2.2 q ?_⟩
  obtain ⟨j, w, h1, h2⟩ := zlv_of L' 0 q hq
  rw [a3] at h2
  by_cases hj : j = i
  · subst hj
    rw [if_pos rfl] at h2
    cases h2
    rw [h1, Nat.zero_add]
    exact List.mem_cons_self
  · rw [if_neg hj] at h2
    refine List.mem_cons_of_mem _ (List.mem_filter.mpr ⟨?_, ?_⟩)
    · rw [h1]
      exact zlv_mem L 0 j w h2
    · rw [h1]
      simp [zval_cat, hj]
theorem ztrim_len : ∀ (n : Nat) (L : zL), (ztrim n L).length = L.length
  | _, [] => rfl
  | 0, _ :: l => by simp [ztrim, ztrim_len 0 l]
  | n + 1, _ :: l => by simp [ztrim, ztrim_len n l]
theorem ztrim_at : ∀ (n : Nat) (L : zL) (i : Nat) (v : zV), znth (ztrim n L) i = some (some v) → znth L i = some (some v)
  | _, [], i, v, h => by simp [ztrim, znth] at h
  | 0, a :: l, 0, v, h => by simp [ztrim, znth] at h
  | 0, a :: l, i + 1, v, h => ztrim_at 0 l i v h
  | n + 1, a :: l, 0, v, h => h
  | n + 1, a :: l, i + 1, v, h => ztrim_at n l i v h
theorem zlr.trim {ls : Array Slot} {nL : Nat} {L : zL} (n : Nat) (r : zlr ls nL L) : zlr ls nL (ztrim n L) := by
  refine ⟨by rw [ztrim_len]; exact r.1, r.2.1, r.2.2.1, fun q hq => ?_⟩
  obtain ⟨i, v, h1, h2⟩ := zlv_of _ _ _ hq
  have h3 := zlv_mem L 0 i v (ztrim_at n L i v h2)
  rw [h1]
  exact r.2.2.2 _ h3
end
section
/-! One instruction of the small machine is one of the real one. -/
abbrev zRec : Type := MethodName × ByteArray × Nat × Option FieldType × zO × List (Nat × Nat) × Nat × Nat
def zMy (M : zRec) : MethodName := M.1
def zMb (M : zRec) : ByteArray := M.2.1
def zMl (M : zRec) : Nat := M.2.2.1
def zMr (M : zRec) : Option FieldType := M.2.2.2.1
def zMo (M : zRec) : String := M.1.cls
def zMp (M : zRec) : zO := M.2.2.2.2.1
def zMc (M : zRec) : List (Nat × Nat) := M.2.2.2.2.2.1
def zMf (M : zRec) : Nat := M.2.2.2.2.2.2.1
def zMn (M : zRec) : Nat := M.2.2.2.2.2.2.2
def zge (h h' : zM) : Prop := h.1.2.1 ≤ h'.1.2.1 ∧ h.1.2.2 ≤ h'.1.2.2
theorem zge.rf {h : zM} : zge h h := ⟨Nat.le_refl _, Nat.le_refl _⟩
theorem zge.tr {h h1 h2 : zM} (a : zge h h1) (b : zge h1 h2) : zge h h2 := ⟨Nat.le_trans a.1 b.1, Nat.le_trans a.2 b.2⟩
/-- the words that a callee may ask for, and the others: links to private methods of nest mates, arrays of objects -/
def zgt : List Jvm.Cond := lw_tbl.filter goodWord
def zisN : Jvm.Cond → Bool
  | .methodLinkNest _ _ _ _ => true
  | _ => false
theorem zg_of {w : Jvm.Cond} (h : w ∈ lw_tbl) (hg : goodWord w = true) : w ∈ zgt := List.mem_filter.mpr ⟨h, hg⟩
def zEx (U : State) : Prop := (∀ (a : String) (i : Nat) (x : MethodName) (b : String), Jvm.Cond.methodLinkNest a i x b ∈ lw_tbl → va_Nw (Jvm.Cond.methodLinkNest a i x b) U) ∧ va_AO RX10 U ∧ va_AO RX2 U ∧ va_AO RX4 U ∧ va_AO RX8 U
theorem zEx.warm {s U : State} (hW : s.WarmedH U.vm) (h : zEx s) : zEx U :=
  ⟨fun a i x b hm => va_Nw.warmM hW (h.1 a i x b hm), h.2.1.moved hW.alike, h.2.2.1.moved hW.alike, h.2.2.2.1.moved hW.alike, h.2.2.2.2.moved hW.alike⟩
theorem zEx.same {u U : State} (hvm : u.vm = U.vm) (h : zEx u) : zEx U := by
  have ha : u.vm.Alike U.vm := by rw [hvm]; exact Vm.Alike.refl _
  exact ⟨fun a i x b hm => va_Nw.same rfl hvm (h.1 a i x b hm), h.2.1.moved ha, h.2.2.1.moved ha, h.2.2.2.1.moved ha, h.2.2.2.2.moved ha⟩
/-- what a method's walk stands on -/
def zCx (p : Program) (s : State) (m : MethodId) (args : Array Value) (meth : Method) (c : Code) (R : Room) (D : zD3) (base : Nat) (H0 : Heap) (M : zRec) : Prop :=
  p.tables.exec = Jvm.exec ∧ c.code = zMb M ∧ c.maxLocals = zMl M ∧ s.vm.findClass (zMo M) = some m.cls ∧ (∀ w ∈ zgt, w.before args s = true) ∧ zKn D s ∧ ((zMy M).name = "<init>" → meth.name = "<init>") ∧ base ≤ H0.size ∧ zMf M ≤ R.frames ∧ zMn M ≤ R.locals ∧ zEx s
def zSt (D : zD3) (base : Nat) (s : State) (H0 : Heap) (nL : Nat) (L : zL) (h : zM) (ls : Array Slot) (H : Heap) (locs : List Loc) : Prop :=
  zlr ls nL L ∧ zRel D base s h H ∧ va_S (fun q => base ≤ q) H0 H locs
section ZSIM
variable {p : Program} {l : Launch} {e : Env} {R : Room} {s : State} {m : MethodId} {args : Array Value} {below : List Frame} {meth : Method} {c : Code} {Q : State → Prop} {D : zD3} {base : Nat} {H0 : Heap} {M : zRec} {c0 n0 : Nat}
/-- the walk from here comes to Q -/
def zG (p : Program) (l : Launch) (e : Env) (R : Room) (s : State) (m : MethodId) (args : Array Value) (below : List Frame) (meth : Method) (c : Code) (Q : State → Prop) (D : zD3) (base : Nat) (H0 : Heap) (M : zRec) (c0 n0 : Nat) (pc : Nat) (L : zL) (st : List zV) (h : zM) : Prop :=
  ∀ (ls : Array Slot) (H : Heap) (locs : List Loc), zSt D base s H0 (zMl M) L h ls H locs → W p l e R s m args below meth c H locs (h.1.2.1 - c0) (h.1.2.2 - n0) Q (F0 m pc ls (st.map zval))
theorem zs_load {L : zL} {i pc pc' : Nat} {h : zM} {κ : List zV → Option zR} {st : List zV} {r : zR}
    (row : ∀ (ls : Array Slot) (H : Heap) (locs : List Loc) (x : Int32) (rest : List Value), ls[i]? = some (.val (.int x)) → W p l e R s m args below meth c H locs (h.1.2.1 - c0) (h.1.2.2 - n0) Q (F0 m pc' ls (.int x :: rest)) → W p l e R s m args below meth c H locs (h.1.2.1 - c0) (h.1.2.2 - n0) Q (F0 m pc ls rest))
    (hr : zo_load L i κ st = some r) (hk : ∀ st', κ st' = some r → zG p l e R s m args below meth c Q D base H0 M c0 n0 pc' L st' h) : zG p l e R s m args below meth c Q D base H0 M c0 n0 pc L st h := by
  intro ls H locs hS
  unfold zo_load at hr
  split at hr
  · rename_i x hx
    exact row ls H locs x _ (hS.1.get hx) (hk _ hr ls H locs hS)
  · cases hr
theorem zs_aload {L : zL} {i pc pc' : Nat} {h : zM} {κ : List zV → Option zR} {st : List zV} {r : zR}
    (row : ∀ (ls : Array Slot) (H : Heap) (locs : List Loc) (x : Nat) (rest : List Value), ls[i]? = some (.val (.ref x)) → W p l e R s m args below meth c H locs (h.1.2.1 - c0) (h.1.2.2 - n0) Q (F0 m pc' ls (.ref x :: rest)) → W p l e R s m args below meth c H locs (h.1.2.1 - c0) (h.1.2.2 - n0) Q (F0 m pc ls rest))
    (row0 : ∀ (ls : Array Slot) (H : Heap) (locs : List Loc) (rest : List Value), ls[i]? = some (.val .null) → W p l e R s m args below meth c H locs (h.1.2.1 - c0) (h.1.2.2 - n0) Q (F0 m pc' ls (.null :: rest)) → W p l e R s m args below meth c H locs (h.1.2.1 - c0) (h.1.2.2 - n0) Q (F0 m pc ls rest))
    (hr : zo_aload L i κ st = some r) (hk : ∀ st', κ st' = some r → zG p l e R s m args below meth c Q D base H0 M c0 n0 pc' L st' h) : zG p l e R s m args below meth c Q D base H0 M c0 n0 pc L st h := by
  intro ls H locs hS
  unfold zo_aload at hr
  split at hr
  · rename_i x hx
    have h1 := hS.1.get hx
    have h2 := hk _ hr ls H locs hS
    rcases x with _ | x
    · exact row0 ls H locs _ h1 h2
    · exact row ls H locs x _ h1 h2
  · cases hr
theorem zs_store {L : zL} {i pc pc' : Nat} {h : zM} {κ : zL → List zV → Option zR} {st : List zV} {r : zR} 
    (row : ∀ (ls : Array Slot) (H : Heap) (locs : List Loc) (x : Int32) (rest : List Value) (lv : List (Nat × Value)), lv_has ls (zMl M) lv → i < zMl M → (∀ ls' : Array Slot, lv_has ls' (zMl M) ((i, Value.int x) :: lv.filter (fun q => !(q.1 == i) && !(q.1 + 1 == i && q.2.category == 2))) → W p l e R s m args below meth c H locs (h.1.2.1 - c0) (h.1.2.2 - n0) Q (F0 m pc' ls' rest)) → W p l e R s m args below meth c H locs (h.1.2.1 - c0) (h.1.2.2 - n0) Q (F0 m pc ls (.int x :: rest)))
    (hr : zo_store L i κ st = some r) (hk : ∀ L' st', κ L' st' = some r → zG p l e R s m args below meth c Q D base H0 M c0 n0 pc' L' st' h) : zG p l e R s m args below meth c Q D base H0 M c0 n0 pc L st h := by
  intro ls H locs hS
  unfold zo_store at hr
  split at hr
  · rename_i x rest
    split at hr
    · rename_i L' hL'
      have hsp := zlset_spec _ _ _ _ hL'
      refine row ls H locs x _ _ hS.1.2 (by rw [← hS.1.1]; exact hsp.2.1) (fun ls' hl' => ?_)
      exact hk _ _ hr ls' H locs ⟨zlr.set hS.1.1 hL' hl', hS.2⟩
    · cases hr
  · cases hr
theorem zs_astore {L : zL} {i pc pc' : Nat} {h : zM} {κ : zL → List zV → Option zR} {st : List zV} {r : zR} 
    (row : ∀ (ls : Array Slot) (H : Heap) (locs : List Loc) (x : Nat) (rest : List Value) (lv : List (Nat × Value)), lv_has ls (zMl M) lv → i < zMl M → (∀ ls' : Array Slot, lv_has ls' (zMl M) ((i, Value.ref x) :: lv.filter (fun q => !(q.1 == i) && !(q.1 + 1 == i && q.2.category == 2))) → W p l e R s m args below meth c H locs (h.1.2.1 - c0) (h.1.2.2 - n0) Q (F0 m pc' ls' rest)) → W p l e R s m args below meth c H locs (h.1.2.1 - c0) (h.1.2.2 - n0) Q (F0 m pc ls (.ref x :: rest)))
    (row0 : ∀ (ls : Array Slot) (H : Heap) (locs : List Loc) (rest : List Value) (lv : List (Nat × Value)), lv_has ls (zMl M) lv → i < zMl M → (∀ ls' : Array Slot, lv_has ls' (zMl M) ((i, Value.null) :: lv.filter (fun q => !(q.1 == i) && !(q.1 + 1 == i && q.2.category == 2))) → W p l e R s m args below meth c H locs (h.1.2.1 - c0) (h.1.2.2 - n0) Q (F0 m pc' ls' rest)) → W p l e R s m args below meth c H locs (h.1.2.1 - c0) (h.1.2.2 - n0) Q (F0 m pc ls (.null :: rest)))
    (hr : zo_astore L i κ st = some r) (hk : ∀ L' st', κ L' st' = some r → zG p l e R s m args below meth c Q D base H0 M c0 n0 pc' L' st' h) : zG p l e R s m args below meth c Q D base H0 M c0 n0 pc L st h := by
  intro ls H locs hS
  unfold zo_astore at hr
  split at hr
  · rename_i x rest
    split at hr
    · rename_i L' hL'
      have hsp := zlset_spec _ _ _ _ hL'
      rcases x with _ | x
      · refine row0 ls H locs _ _ hS.1.2 (by rw [← hS.1.1]; exact hsp.2.1) (fun ls' hl' => ?_)
        exact hk _ _ hr ls' H locs ⟨zlr.set hS.1.1 hL' hl', hS.2⟩
      · refine row ls H locs x _ _ hS.1.2 (by rw [← hS.1.1]; exact hsp.2.1) (fun ls' hl' => ?_)
        exact hk _ _ hr ls' H locs ⟨zlr.set hS.1.1 hL' hl', hS.2⟩
    · cases hr
  · cases hr
theorem zs_iinc (C : zCx p s m args meth c R D base H0 M) {L : zL} {i pc : Nat} {d : Int} {h : zM} {κ : zL → Option zR} {st : List zV} {r : zR} (hd : decode (zMb M) pc = .ok (.iinc i d, 3))
    (hr : zo_iinc L i (Int32.ofInt d) κ = some r) (hk : ∀ L', κ L' = some r → zG p l e R s m args below meth c Q D base H0 M c0 n0 (pc + 3) L' st h) : zG p l e R s m args below meth c Q D base H0 M c0 n0 pc L st h := by
  intro ls H locs hS
  unfold zo_iinc at hr
  split at hr
  · rename_i x hx
    split at hr
    · rename_i L' hL'
      have hsp := zlset_spec _ _ _ _ hL'
      have hg := zlv_mem L 0 i _ (zlget_some hx)
      rw [Nat.zero_add] at hg
      obtain ⟨k, hk0⟩ := List.getElem?_of_mem hg
      refine lv_iinc C.1 C.2.1 hd hS.1.2 hk0 rfl (by rw [← hS.1.1]; exact hsp.2.1) rfl (fun ls' hl' => ?_)
      exact hk _ hr ls' H locs ⟨zlr.set hS.1.1 hL' hl', hS.2⟩
    · cases hr
  · cases hr
theorem zs_bin {o : Int32 → Int32 → Int32} {L : zL} {pc pc' : Nat} {h : zM} {κ : List zV → Option zR} {st : List zV} {r : zR}
    (row : ∀ (ls : Array Slot) (H : Heap) (locs : List Loc) (x y : Int32) (rest : List Value), W p l e R s m args below meth c H locs (h.1.2.1 - c0) (h.1.2.2 - n0) Q (F0 m pc' ls (.int (o x y) :: rest)) → W p l e R s m args below meth c H locs (h.1.2.1 - c0) (h.1.2.2 - n0) Q (F0 m pc ls (.int y :: .int x :: rest)))
    (hr : zo_bin o κ st = some r) (hk : ∀ st', κ st' = some r → zG p l e R s m args below meth c Q D base H0 M c0 n0 pc' L st' h) : zG p l e R s m args below meth c Q D base H0 M c0 n0 pc L st h := by
  intro ls H locs hS
  unfold zo_bin at hr
  split at hr
  · exact row ls H locs _ _ _ (hk _ hr ls H locs hS)
  · cases hr
theorem zs_div {o : Int32 → Int32 → Int32} {L : zL} {pc pc' : Nat} {h : zM} {κ : List zV → Option zR} {st : List zV} {r : zR}
    (row : ∀ (ls : Array Slot) (H : Heap) (locs : List Loc) (x y : Int32) (rest : List Value), ¬ y = 0 → W p l e R s m args below meth c H locs (h.1.2.1 - c0) (h.1.2.2 - n0) Q (F0 m pc' ls (.int (o x y) :: rest)) → W p l e R s m args below meth c H locs (h.1.2.1 - c0) (h.1.2.2 - n0) Q (F0 m pc ls (.int y :: .int x :: rest)))
    (hr : zo_div o κ st = some r) (hk : ∀ st', κ st' = some r → zG p l e R s m args below meth c Q D base H0 M c0 n0 pc' L st' h) : zG p l e R s m args below meth c Q D base H0 M c0 n0 pc L st h := by
  intro ls H locs hS
  unfold zo_div at hr
  split at hr
  · split at hr
    · cases hr
    · rename_i hy
      exact row ls H locs _ _ _ hy (hk _ hr ls H locs hS)
  · cases hr
theorem zs_un {o : Int32 → Int32} {L : zL} {pc pc' : Nat} {h : zM} {κ : List zV → Option zR} {st : List zV} {r : zR}
    (row : ∀ (ls : Array Slot) (H : Heap) (locs : List Loc) (x : Int32) (rest : List Value), W p l e R s m args below meth c H locs (h.1.2.1 - c0) (h.1.2.2 - n0) Q (F0 m pc' ls (.int (o x) :: rest)) → W p l e R s m args below meth c H locs (h.1.2.1 - c0) (h.1.2.2 - n0) Q (F0 m pc ls (.int x :: rest)))
    (hr : zo_un o κ st = some r) (hk : ∀ st', κ st' = some r → zG p l e R s m args below meth c Q D base H0 M c0 n0 pc' L st' h) : zG p l e R s m args below meth c Q D base H0 M c0 n0 pc L st h := by
  intro ls H locs hS
  unfold zo_un at hr
  split at hr
  · exact row ls H locs _ _ (hk _ hr ls H locs hS)
  · cases hr
theorem zs_push {L : zL} {pc pc' : Nat} {h : zM} {v : zV} {st : List zV}
    (row : ∀ (ls : Array Slot) (H : Heap) (locs : List Loc) (rest : List Value), W p l e R s m args below meth c H locs (h.1.2.1 - c0) (h.1.2.2 - n0) Q (F0 m pc' ls (zval v :: rest)) → W p l e R s m args below meth c H locs (h.1.2.1 - c0) (h.1.2.2 - n0) Q (F0 m pc ls rest))
    (hk : zG p l e R s m args below meth c Q D base H0 M c0 n0 pc' L (v :: st) h) : zG p l e R s m args below meth c Q D base H0 M c0 n0 pc L st h :=
  fun ls H locs hS => row ls H locs _ (hk ls H locs hS)
theorem z_nlt {x y : Int32} (h : ¬ x < y) : y ≤ x := by
  rw [Int32.lt_iff_toInt_lt] at h
  rw [Int32.le_iff_toInt_le]
  omega
theorem z_nle {x y : Int32} (h : ¬ x ≤ y) : y < x := by
  rw [Int32.le_iff_toInt_le] at h
  rw [Int32.lt_iff_toInt_lt]
  omega
theorem z_lt_nle {x y : Int32} (h : x < y) : ¬ y ≤ x := by
  rw [Int32.lt_iff_toInt_lt] at h
  rw [Int32.le_iff_toInt_le]
  omega
theorem zs_icmp (C : zCx p s m args meth c R D base H0 M) {q : ClassFile.Cond} {off : Int} {L : zL} {pc tgt : Nat} {h : zM} {κt κf : List zV → Option zR} {st : List zV} {r : zR} (hd : decode (zMb M) pc = .ok (.if_icmp q off, 3)) (ht : (pc : Int) + off = (tgt : Int))
    (hr : zo_icmp q κt κf st = some r) (hkt : ∀ st', κt st' = some r → zG p l e R s m args below meth c Q D base H0 M c0 n0 tgt L st' h) (hkf : ∀ st', κf st' = some r → zG p l e R s m args below meth c Q D base H0 M c0 n0 (pc + 3) L st' h) : zG p l e R s m args below meth c Q D base H0 M c0 n0 pc L st h := by
  intro ls H locs hS
  unfold zo_icmp at hr
  split at hr
  · rename_i y x rest
    cases q <;> simp only [zcond] at hr <;> split at hr <;> rename_i hc
    · exact lv_icmp_eq C.1 C.2.1 hd ht (fun _ => hkt _ hr ls H locs hS) (fun hn => absurd hc hn)
    · exact lv_icmp_eq C.1 C.2.1 hd ht (fun hn => absurd hn hc) (fun _ => hkf _ hr ls H locs hS)
    · exact lv_icmp_ne C.1 C.2.1 hd ht (fun hn => absurd hc hn) (fun _ => hkf _ hr ls H locs hS)
    · exact lv_icmp_ne C.1 C.2.1 hd ht (fun _ => hkt _ hr ls H locs hS) (fun hn => absurd hn hc)
    · exact lv_icmp_lt C.1 C.2.1 hd ht (fun _ => hkt _ hr ls H locs hS) (fun hn => absurd hc hn)
    · exact lv_icmp_lt C.1 C.2.1 hd ht (fun hn => absurd hn hc) (fun _ => hkf _ hr ls H locs hS)
    · exact lv_icmp_ge C.1 C.2.1 hd ht (fun hn => absurd hn (z_lt_nle hc)) (fun _ => hkf _ hr ls H locs hS)
    · exact lv_icmp_ge C.1 C.2.1 hd ht (fun _ => hkt _ hr ls H locs hS) (fun hn => absurd (z_nlt hc) hn)
    · exact lv_icmp_gt C.1 C.2.1 hd ht (fun _ => hkt _ hr ls H locs hS) (fun hn => absurd hc hn)
    · exact lv_icmp_gt C.1 C.2.1 hd ht (fun hn => absurd hn hc) (fun _ => hkf _ hr ls H locs hS)
    · exact lv_icmp_le C.1 C.2.1 hd ht (fun hn => absurd hn (z_lt_nle hc)) (fun _ => hkf _ hr ls H locs hS)
    · exact lv_icmp_le C.1 C.2.1 hd ht (fun _ => hkt _ hr ls H locs hS) (fun hn => absurd (z_nlt hc) hn)
  · cases hr
theorem zs_if (C : zCx p s m args meth c R D base H0 M) {q : ClassFile.Cond} {off : Int} {L : zL} {pc tgt : Nat} {h : zM} {κt κf : List zV → Option zR} {st : List zV} {r : zR} (hd : decode (zMb M) pc = .ok (.ifCond q off, 3)) (ht : (pc : Int) + off = (tgt : Int))
    (hr : zo_if q κt κf st = some r) (hkt : ∀ st', κt st' = some r → zG p l e R s m args below meth c Q D base H0 M c0 n0 tgt L st' h) (hkf : ∀ st', κf st' = some r → zG p l e R s m args below meth c Q D base H0 M c0 n0 (pc + 3) L st' h) : zG p l e R s m args below meth c Q D base H0 M c0 n0 pc L st h := by
  intro ls H locs hS
  unfold zo_if at hr
  split at hr
  · rename_i x rest
    cases q <;> simp only [zcond] at hr <;> split at hr <;> rename_i hc
    · exact lv_if_eq C.1 C.2.1 hd ht (fun _ => hkt _ hr ls H locs hS) (fun hn => absurd hc hn)
    · exact lv_if_eq C.1 C.2.1 hd ht (fun hn => absurd hn hc) (fun _ => hkf _ hr ls H locs hS)
    · exact lv_if_ne C.1 C.2.1 hd ht (fun hn => absurd hc hn) (fun _ => hkf _ hr ls H locs hS)
    · exact lv_if_ne C.1 C.2.1 hd ht (fun _ => hkt _ hr ls H locs hS) (fun hn => absurd hn hc)
    · exact lv_if_lt C.1 C.2.1 hd ht (fun _ => hkt _ hr ls H locs hS) (fun hn => absurd hc hn)
    · exact lv_if_lt C.1 C.2.1 hd ht (fun hn => absurd hn hc) (fun _ => hkf _ hr ls H locs hS)
    · exact lv_if_ge C.1 C.2.1 hd ht (fun hn => absurd hn (z_lt_nle hc)) (fun _ => hkf _ hr ls H locs hS)
    · exact lv_if_ge C.1 C.2.1 hd ht (fun _ => hkt _ hr ls H locs hS) (fun hn => absurd (z_nlt hc) hn)
    · exact lv_if_gt C.1 C.2.1 hd ht (fun _ => hkt _ hr ls H locs hS) (fun hn => absurd hc hn)
    · exact lv_if_gt C.1 C.2.1 hd ht (fun hn => absurd hn hc) (fun _ => hkf _ hr ls H locs hS)
    · exact lv_if_le C.1 C.2.1 hd ht (fun hn => absurd hn (z_lt_nle hc)) (fun _ => hkf _ hr ls H locs hS)
    · exact lv_if_le C.1 C.2.1 hd ht (fun _ => hkt _ hr ls H locs hS) (fun hn => absurd (z_nlt hc) hn)
  · cases hr
theorem zs_ifnull (C : zCx p s m args meth c R D base H0 M) {off : Int} {L : zL} {pc tgt : Nat} {h : zM} {κt κf : List zV → Option zR} {st : List zV} {r : zR} (hd : decode (zMb M) pc = .ok (.ifnull off, 3)) (ht : (pc : Int) + off = (tgt : Int))
    (hr : zo_null κt κf st = some r) (hkt : ∀ st', κt st' = some r → zG p l e R s m args below meth c Q D base H0 M c0 n0 tgt L st' h) (hkf : ∀ st', κf st' = some r → zG p l e R s m args below meth c Q D base H0 M c0 n0 (pc + 3) L st' h) : zG p l e R s m args below meth c Q D base H0 M c0 n0 pc L st h := by
  intro ls H locs hS
  unfold zo_null at hr
  split at hr
  · rename_i x rest
    split at hr
    · rename_i hx
      subst hx
      exact lv_ifnullN C.1 C.2.1 hd ht (hkt _ hr ls H locs hS)
    · rename_i hx
      rcases x with _ | x
      · exact absurd rfl hx
      · exact lv_ifnull C.1 C.2.1 hd (hkf _ hr ls H locs hS)
  · cases hr
theorem zs_ifnonnull (C : zCx p s m args meth c R D base H0 M) {off : Int} {L : zL} {pc tgt : Nat} {h : zM} {κt κf : List zV → Option zR} {st : List zV} {r : zR} (hd : decode (zMb M) pc = .ok (.ifnonnull off, 3)) (ht : (pc : Int) + off = (tgt : Int))
    (hr : zo_null κt κf st = some r) (hkt : ∀ st', κt st' = some r → zG p l e R s m args below meth c Q D base H0 M c0 n0 (pc + 3) L st' h) (hkf : ∀ st', κf st' = some r → zG p l e R s m args below meth c Q D base H0 M c0 n0 tgt L st' h) : zG p l e R s m args below meth c Q D base H0 M c0 n0 pc L st h := by
  intro ls H locs hS
  unfold zo_null at hr
  split at hr
  · rename_i x rest
    split at hr
    · rename_i hx
      subst hx
      exact lv_ifnonnullN C.1 C.2.1 hd (hkt _ hr ls H locs hS)
    · rename_i hx
      rcases x with _ | x
      · exact absurd rfl hx
      · exact lv_ifnonnull C.1 C.2.1 hd ht (hkf _ hr ls H locs hS)
  · cases hr
end ZSIM
end
section
set_option maxRecDepth 100000 in
theorem zcls_in0 : ∀ (c : Nat) (r : vw_C), zcls[c]? = some r → ∀ w ∈ u_ws r.1 r.2.1 r.2.2, w ∈ lw_tbl := by
  intro c r h
  match c, h with
  | 0, h => cases h; decide +kernel
  | 1, h => cases h; decide +kernel
  | 2, h => cases h; decide +kernel
  | 3, h => cases h; decide +kernel
  | 4, h => cases h; decide +kernel
  | 5, h => cases h; decide +kernel
  | 6, h => cases h; decide +kernel
  | 7, h => cases h; decide +kernel
  | 8, h => cases h; decide +kernel
  | 9, h => cases h; decide +kernel
  | 10, h => cases h; decide +kernel
  | 11, h => cases h; decide +kernel
  | 12, h => cases h; decide +kernel
  | c + 13, h => exact absurd h (by simp [zcls])
theorem zcls_ty : ∀ (c : Nat) (r : vw_C), zcls[c]? = some r → (∀ k, k < r.2.2 → parseFieldDescriptor (r.2.1 k).2.2.1 = some (ztyc c k)) ∧ (∀ a, a < r.2.2 → ∀ b, b < r.2.2 → a ≠ b → (r.2.1 a).2.1 ≠ (r.2.1 b).2.1) := by
  intro c r h
  match c, h with
  | 0, h => cases h; exact ⟨tyX0_ok, nmX0⟩
  | 1, h => cases h; exact ⟨tyX1_ok, nmX1⟩
  | 2, h => cases h; exact ⟨tyX2_ok, nmX2⟩
  | 3, h => cases h; exact ⟨tyX3_ok, nmX3⟩
  | 4, h => cases h; exact ⟨tyX4_ok, nmX4⟩
  | 5, h => cases h; exact ⟨tyX5_ok, nmX5⟩
  | 6, h => cases h; exact ⟨tyX6_ok, nmX6⟩
  | 7, h => cases h; exact ⟨tyX7_ok, nmX7⟩
  | 8, h => cases h; exact ⟨tyX8_ok, nmX8⟩
  | 9, h => cases h; exact ⟨tyX9_ok, nmX9⟩
  | 10, h => cases h; exact ⟨tyX10_ok, nmX10⟩
  | 11, h => cases h; exact ⟨tyX11_ok, nmX11⟩
  | 12, h => cases h; exact ⟨tyX12_ok, nmX12⟩
  | c + 13, h => exact absurd h (by simp [zcls])
theorem zcls_in : ∀ (c : Nat) (r : vw_C), zcls[c]? = some r → ∀ w ∈ u_ws r.1 r.2.1 r.2.2, w ∈ zgt := by
  intro c r h w hw
  refine zg_of (zcls_in0 c r h w hw) ?_
  obtain ⟨k, -, rfl⟩ := List.mem_map.mp hw
  unfold u_lay
  split <;> rfl
end
section
/-! Fields, arrays, new cells. -/
theorem zcn_of {c : Nat} {r : vw_C} (h : zcls[c]? = some r) : zcn c = r.2.2 := by simp [zcn, h]
theorem zcls_lt {c : Nat} {r : vw_C} (h : zcls[c]? = some r) : c < 13 := by
  have := (List.getElem?_eq_some_iff.mp h).1
  simpa [zcls] using this
theorem zfs_at {h : zM} {c a k : Nat} (hk : k < zcn c) : (zfs h c a)[k]? = some (zfv h c a k) := by
  simp [zfs, hk]
theorem zfs_len {h : zM} {c a : Nat} : (zfs h c a).length = zcn c := by simp [zfs]
theorem zfs_setI {h : zM} {c a k : Nat} {x : Int32} (hk : zfk (ztyc c k) ≠ 1) : zfs (zsI h a k x) c a = (zfs h c a).set k (.int x) := by
  apply List.ext_getElem?
  intro j
  rw [List.getElem?_set]
  by_cases hj : j < zcn c
  · rw [zfs_at hj, zfs_at hj, zfs_len]
    by_cases hjk : k = j
    · subst hjk
      rw [if_pos rfl, if_pos hj]
      unfold zfv
      split
      · rename_i h1; exact absurd h1 hk
      · simp [zsI, zI, va_up_self, upd]
    · rw [if_neg hjk]
      unfold zfv
      split
      · simp [zsI, zF]
      · simp [zsI, zI, va_up_self, upd, Ne.symm hjk]
  · have h1 : (zfs (zsI h a k x) c a)[j]? = none := List.getElem?_eq_none (by rw [zfs_len]; omega)
    have h2 : (zfs h c a)[j]? = none := List.getElem?_eq_none (by rw [zfs_len]; omega)
    rw [h1, h2, zfs_len]
    by_cases hjk : k = j
    · subst hjk; simp [hj]
    · simp [hjk]
theorem zfs_setF {h : zM} {c a k : Nat} {x : Nat} (hk : zfk (ztyc c k) = 1) : zfs (zsF h a k x) c a = (zfs h c a).set k (va_rf (zop x)) := by
  apply List.ext_getElem?
  intro j
  rw [List.getElem?_set]
  by_cases hj : j < zcn c
  · rw [zfs_at hj, zfs_at hj, zfs_len]
    by_cases hjk : k = j
    · subst hjk
      rw [if_pos rfl, if_pos hj]
      unfold zfv
      rw [hk]
      simp [zsF, zF, va_up_self]
    · rw [if_neg hjk]
      unfold zfv
      split
      · simp [zsF, zF, va_up_self, va_up_ne _ _ (Ne.symm hjk)]
      · simp [zsF, zI]
  · have h1 : (zfs (zsF h a k x) c a)[j]? = none := List.getElem?_eq_none (by rw [zfs_len]; omega)
    have h2 : (zfs h c a)[j]? = none := List.getElem?_eq_none (by rw [zfs_len]; omega)
    rw [h1, h2, zfs_len]
    by_cases hjk : k = j
    · subst hjk; simp [hj]
    · simp [hjk]
section ZCELL
variable {p : Program} {l : Launch} {e : Env} {R : Room} {s : State} {m : MethodId} {args : Array Value} {below : List Frame} {meth : Method} {c : Code} {Q : State → Prop} {D : zD3} {base : Nat} {H0 : Heap} {M : zRec} {c0 n0 : Nat}
theorem zobj {h : zM} {a ci : Nat} {r : vw_C} {H : Heap} (hR : zRel D base s h H) (hc : zcls[ci]? = some r) (hk : zK h a = ci + 1) : ∃ b, a = b + 1 ∧ va_P (zDv D) zcls [(b, .inr (ci, zfs h ci a))] H ∧ base ≤ b := by
  rcases a with _ | b
  · have := hR.2.2.2.1; omega
  · refine ⟨b, rfl, fun k q hq => ?_, ?_⟩
    · have hz : k < 1 := (List.getElem?_eq_some_iff.mp hq).1
      rw [show k = 0 by omega] at hq
      cases hq
      exact (hR.2.2.1 b).1 ci hk (zcls_lt hc)
    · have h13 := zcls_lt hc
      rcases (hR.2.2.2.2.1 b (by omega)).2 with h1 | h1
      · omega
      · exact h1
theorem zs_get (C : zCx p s m args meth c R D base H0 M) {L : zL} {pc idx ci k ty : Nat} {cl : vw_C} {h : zM} {κ : List zV → Option zR} {st : List zV} {r : zR} (hd : decode (zMb M) pc = .ok (.getfield idx, 3))
    (hc : zcls[ci]? = some cl) (hk : k < cl.2.2) (hw : Cond.fieldLink (zMo M) idx cl.1 (cl.2.1 k).2.1 (cl.2.1 k).2.2.1 ∈ zgt) (hcl : (cl.2.1 k).1 = cl.1) (hty : zfk (ztyc ci k) = ty)
    (hr : zo_get h ci k ty κ st = some r) (hkk : ∀ st', κ st' = some r → zG p l e R s m args below meth c Q D base H0 M c0 n0 (pc + 3) L st' h) : zG p l e R s m args below meth c Q D base H0 M c0 n0 pc L st h := by
  intro ls H locs hS
  obtain ⟨C1, C2, C3, C4, C5, C6, C7, C8, C9⟩ := C
  obtain ⟨CN, T, N⟩ := cl
  have hn : k < zcn ci := by rw [zcn_of hc]; exact hk
  have key : ∀ (a : Nat) (rest : List zV), zK h a = ci + 1 → W p l e R s m args below meth c H locs (h.1.2.1 - c0) (h.1.2.2 - n0) Q (F0 m (pc + 3) ls (zfv h ci a k :: rest.map zval)) → W p l e R s m args below meth c H locs (h.1.2.1 - c0) (h.1.2.2 - n0) Q (F0 m pc ls (zval (.inr a) :: rest.map zval)) := by
    intro a rest ha hw2
    obtain ⟨b, rfl, hP, -⟩ := zobj hS.2.1 hc ha
    exact va_get C1 C2 C5 (zcls_in ci _ hc) C4 C6 hP 0 rfl hc k hk (C5 _ hw) (fun x hx => by rw [hcl] at hx; exact hx) (zfs_at hn) hd hw2
  unfold zo_get at hr
  split at hr
  · rename_i a rest
    split at hr
    · obtain ⟨x, hx, hr⟩ := Option.bind_eq_some_iff.mp hr
      unfold zgF at hx
      split at hx
      · rename_i ha
        cases hx
        refine key a rest ha ?_
        have := hkk _ hr ls H locs hS
        unfold zfv
        rw [hty]
        exact this
      · cases hx
    · rename_i hty1
      obtain ⟨x, hx, hr⟩ := Option.bind_eq_some_iff.mp hr
      unfold zgI at hx
      split at hx
      · rename_i ha
        cases hx
        refine key a rest ha ?_
        have := hkk _ hr ls H locs hS
        unfold zfv
        rw [hty]
        split
        · exact absurd rfl hty1
        · exact this
      · cases hx
  · cases hr
theorem zfk_int {t : FieldType} (h : zfk t = 0) : t = .int := by
  cases t <;> simp [zfk] at h ⊢
theorem zfk_bool {t : FieldType} (h : zfk t ≠ 0) (h1 : zfk t ≠ 1) : t = .boolean := by
  cases t <;> simp [zfk] at h h1 ⊢
theorem zs_put (C : zCx p s m args meth c R D base H0 M) {L : zL} {pc idx ci k ty : Nat} {cl : vw_C} {h : zM} {κ : List zV → zM → Option zR} {st : List zV} {r : zR} (hd : decode (zMb M) pc = .ok (.putfield idx, 3))
    (hc : zcls[ci]? = some cl) (hk : k < cl.2.2) (hw : Cond.fieldLink (zMo M) idx cl.1 (cl.2.1 k).2.1 (cl.2.1 k).2.2.1 ∈ zgt) (hcl : (cl.2.1 k).1 = cl.1) (hty : zfk (ztyc ci k) = ty) (hfin : (cl.2.1 k).2.2.2 = false ∨ ((zMy M).name = "<init>" ∧ (cl.2.1 k).1 = zMo M)) (hrefty : ty = 1 → (∃ n, ztyc ci k = .object n) ∨ ∃ t, ztyc ci k = .array t)
    (hr : zo_put h ci k ty κ st = some r) (hkk : ∀ st' h', zge h h' → κ st' h' = some r → zG p l e R s m args below meth c Q D base H0 M c0 n0 (pc + 3) L st' h') : zG p l e R s m args below meth c Q D base H0 M c0 n0 pc L st h := by
  intro ls H locs hS
  obtain ⟨C1, C2, C3, C4, C5, C6, C7, C8, C9⟩ := C
  obtain ⟨CN, T, N⟩ := cl
  have hn : k < zcn ci := by rw [zcn_of hc]; exact hk
  obtain ⟨tyok, nmok⟩ := zcls_ty ci _ hc
  -- the row, for any value that fits
  have key : ∀ (a : Nat) (v : Value) (h' : zM) (rest : List Value), zK h a = ci + 1 → narrow (ztyc ci k) v = v → fits (ztyc ci k) v = true → h'.1 = h.1 → h'.2.1 = h.2.1 → (∀ b, b ≠ a → h'.2.2.1 b = h.2.2.1 b) → (∀ b, b ≠ a → h'.2.2.2 b = h.2.2.2 b) → zfs h' ci a = (zfs h ci a).set k v → (∀ (H1 : Heap) (locs1 : List Loc), zSt D base s H0 (zMl M) L h' ls H1 locs1 → W p l e R s m args below meth c H1 locs1 (h'.1.2.1 - c0) (h'.1.2.2 - n0) Q (F0 m (pc + 3) ls rest)) → W p l e R s m args below meth c H locs (h.1.2.1 - c0) (h.1.2.2 - n0) Q (F0 m pc ls (v :: zval (.inr a) :: rest)) := by
    intro a v h' rest ha hnar hfit e0 e1 e2 e3 efs kk
    have hnx : h'.1.1 = h.1.1 := by rw [e0]
    obtain ⟨b, rfl, hP, hbase⟩ := zobj hS.2.1 hc ha
    have hap := va_apart (own := zMo M) C5 (zcls_in ci _ hc) (ztyc ci) tyok nmok C6 hc
    obtain ⟨r', h1, cell, q1, q2, q3, q4⟩ := hP 0 _ rfl
    have hr' : r' = (CN, T, N) := Option.some.inj (h1.symm.trans hc)
    subst hr'
    obtain ⟨hSl, hfc, kC, hkC, hkind⟩ := C6.1 ci _ hc
    obtain ⟨cf, kf, fi, f, hi, hsl⟩ := hSl k hk
    have hlays := u_lays C5 (zcls_in ci _ hc) hk
    have hst := (u_facts hfc hkC hlays hi).1
    have hsame : s.fieldFound? CN (T k).2.1 (T k).2.2.1 = some (cf, kf, fi, f) := by rw [← show (T k).1 = CN from hcl]; exact hi
    have fin : ∀ H' : Heap, H'[b]? = some (cell.setSlot f.slot v) → H'.size = H.size → (∀ q, q ≠ b → H'[q]? = H[q]?) → W p l e R s m args below meth c H' (locs ++ [⟨b, f.slot⟩]) (h.1.2.1 - c0) (h.1.2.2 - n0) Q (F0 m (pc + 3) ls rest) := by
      intro H' g1 g2 g3
      rw [hsl] at g1
      have hW := kk H' (locs ++ [⟨b, f.slot⟩]) ⟨hS.1, ?_, hS.2.2.put g2 g3 hbase⟩
      · rw [e0] at hW
        exact hW
      · refine hS.2.1.set g2 g3 hnx e1 e2 e3 ?_
        have ek : zK h' (b + 1) = ci + 1 := by unfold zK; rw [e1]; exact ha
        refine ⟨fun c' hc' hlt => ?_, fun t ht h3 => ?_, fun t ht h3 h4 => ?_, fun ht => ?_⟩
        · have : c' = ci := by omega
          subst this
          rw [efs]
          exact ⟨_, hc, t_OB.to (V := updV (vp_V (zfs h c' (b + 1))) k v) ⟨_, g1, q2, q3, t_set q4 hap hk v⟩ (fun j _ => vp_updV_set (by rw [zfs_len]; exact hn) v j)⟩
        · have := zcls_lt hc; omega
        · have := zcls_lt hc; omega
        · have := zcls_lt hc; omega
    rcases Bool.eq_false_or_eq_true (T k).2.2.2 with hf | hf
    · rcases hfin with h9 | ⟨h9, h10⟩
      · exact absurd (hf.symm.trans h9) (by decide)
      · have hlay := C5 _ (zcls_in ci _ hc _ (u_in_lay hk))
        unfold u_lay at hlay
        rw [if_pos hf] at hlay
        have hcf : m.cls = cf := by
          obtain ⟨_, _, c', _, _, _, -, -, hf', -, -, -, hown2, -⟩ := Cond.laysFinal_spec hlay
          have e1 : c' = cf := by have := hi.symm.trans hf'; simp at this; exact this.1.symm
          rw [show (T k).1 = zMo M from h10] at hown2
          rw [← e1]; exact Option.some.inj (C4.symm.trans hown2)
        have h6 := u_fits hfc hkC hkind (Or.inr hlay) hi (tyok k hk) hnar hfit
        exact W.putFinK C1 C2 C4 (C5 _ hw) hsame hst hcf (C7 h9) (by rw [q2]; exact h6) q1 q3 (by rw [hsl]; exact k2_hasslot (q4 k hk)) rfl rfl hd fin
    · have hlay := C5 _ (zcls_in ci _ hc _ (u_in_lay hk))
      unfold u_lay at hlay
      rw [if_neg (by rw [hf]; decide)] at hlay
      have h6 := u_store hfc hkC hkind hlay hi (tyok k hk) hnar hfit
      exact W.putK C1 C2 (f := f) ⟨C4, C5 _ hw, ⟨_, _, _, hsame⟩, hst⟩ (by rw [q2]; exact h6) q1 q3 (by rw [hsl]; exact k2_hasslot (q4 k hk)) rfl rfl hd fin
  unfold zo_put at hr
  split at hr
  · split at hr
    · rename_i x a rest
      obtain ⟨h', hx, hr⟩ := Option.bind_eq_some_iff.mp hr
      unfold zpF at hx
      split at hx
      · rename_i ha
        cases hx
        refine key a _ (zsF h a k x) _ ha ?_ ?_ rfl rfl (fun _ _ => rfl) (fun b hb => va_up_ne _ _ hb) (zfs_setF hty) (fun H1 locs1 hS1 => hkk _ (zsF h a k x) ⟨Nat.le_refl _, Nat.le_refl _⟩ hr ls H1 locs1 hS1)
        · rcases hrefty rfl with ⟨n, q⟩ | ⟨n, q⟩ <;> rw [q] <;> rcases x with _ | x <;> rfl
        · rcases hrefty rfl with ⟨n, q⟩ | ⟨n, q⟩ <;> rw [q] <;> rcases x with _ | x <;> rfl
      · cases hx
    · cases hr
  · split at hr
    · rename_i x a rest
      obtain ⟨h', hx, hr⟩ := Option.bind_eq_some_iff.mp hr
      unfold zpI at hx
      split at hx
      · rename_i ha
        cases hx
        have ht := zfk_int hty
        refine key a _ (zsI h a k x) _ ha (by rw [ht]; rfl) (by rw [ht]; rfl) rfl rfl (fun b hb => va_up_ne _ _ hb) (fun _ _ => rfl) (zfs_setI (by rw [hty]; decide)) (fun H1 locs1 hS1 => hkk _ (zsI h a k x) ⟨Nat.le_refl _, Nat.le_refl _⟩ hr ls H1 locs1 hS1)
      · cases hx
    · cases hr
  · rename_i hy1 hy0
    split at hr
    · rename_i x a rest
      obtain ⟨h', hx, hr⟩ := Option.bind_eq_some_iff.mp hr
      unfold zpZ at hx
      split at hx
      · rename_i ha
        cases hx
        have ht := zfk_bool (by rw [hty]; exact hy0) (by rw [hty]; exact hy1)
        refine key a _ (zsI h a k x) _ ha.1 ?_ ?_ rfl rfl (fun b hb => va_up_ne _ _ hb) (fun _ _ => rfl) (zfs_setI (by rw [hty]; exact hy1)) (fun H1 locs1 hS1 => hkk _ (zsI h a k x) ⟨Nat.le_refl _, Nat.le_refl _⟩ hr ls H1 locs1 hS1)
        · rw [ht]
          rcases ha.2 with q | q <;> subst q <;> rfl
        · rw [ht]
          rcases ha.2 with q | q <;> subst q <;> rfl
      · cases hx
    · cases hr
end ZCELL
end
section
section ZARR
variable {p : Program} {l : Launch} {e : Env} {R : Room} {s : State} {m : MethodId} {args : Array Value} {below : List Frame} {meth : Method} {c : Code} {Q : State → Prop} {D : zD3} {base : Nat} {H0 : Heap} {M : zRec} {c0 n0 : Nat}
theorem ztys_at {k : Nat} (hk : k < 7) : (ztys D)[k]? = some (D.2.2 k, zaty k) := by simp [ztys, hk]
theorem zarr {h : zM} {a t : Nat} {H : Heap} (hR : zRel D base s h H) (hk : zK h a = 101 + t) (ht : t < 7) : ∃ b, a = b + 1 ∧ base ≤ b := by
  rcases a with _ | b
  · have := hR.2.2.2.1; omega
  · refine ⟨b, rfl, ?_⟩
    rcases (hR.2.2.2.2.1 b (by omega)).2 with h1 | h1
    · omega
    · exact h1
theorem zP1 {D' : va_G} {cl : List vw_C} {q : Nat × va_E} {H : Heap} (h : va_at D' cl q H) : va_P D' cl [q] H := by
  intro k x hx
  have hz : k < 1 := (List.getElem?_eq_some_iff.mp hx).1
  rw [show k = 0 by omega] at hx
  cases hx
  exact h
theorem zPi {h : zM} {b t : Nat} {H : Heap} (hR : zRel D base s h H) (hk : zK h (b + 1) = 101 + t) (ht : t < 3) : va_P (zDv D) zcls [(b, .inl (D.2.2 t, zN h (b + 1), .inl (h.2.2.1 (b + 1))))] H := zP1 ((hR.2.2.1 b).2.1 t hk ht)
theorem zPq {h : zM} {b t : Nat} {H : Heap} (hR : zRel D base s h H) (hk : zK h (b + 1) = 101 + t) (h3 : 3 ≤ t) (ht : t < 7) : va_P (zDv D) zcls [(b, .inl (D.2.2 t, zN h (b + 1), .inr (.inr (.inr (.inr (fun j => zop (h.2.2.2 (b + 1) j)))))))] H := zP1 ((hR.2.2.1 b).2.2.1 t hk h3 ht)
theorem zX_ne {h : zM} {b : Nat} {H : Heap} (hR : zRel D base s h H) (hk : zK h (b + 1) = 200) : va_X b (zN h (b + 1)) (h.2.2.1 (b + 1)) s H := (hR.2.2.1 b).2.2.2 hk
theorem zs_iald (C : zCx p s m args meth c R D base H0 M) {L : zL} {pc : Nat} {h : zM} {κ : List zV → Option zR} {st : List zV} {r : zR} (hd : decode (zMb M) pc = .ok (.iaload, 1))
    (hr : zo_ald (zia h) κ st = some r) (hkk : ∀ st', κ st' = some r → zG p l e R s m args below meth c Q D base H0 M c0 n0 (pc + 1) L st' h) : zG p l e R s m args below meth c Q D base H0 M c0 n0 pc L st h := by
  intro ls H locs hS
  obtain ⟨C1, C2, C3, C4, C5, C6, C7, C8, C9⟩ := C
  unfold zo_ald at hr
  split at hr
  · rename_i i a rest
    obtain ⟨x, hx, hr⟩ := Option.bind_eq_some_iff.mp hr
    unfold zia at hx
    split at hx
    · rename_i ha
      cases hx
      have hW := hkk _ hr ls H locs hS
      rcases ha.1 with h1 | h1
      · obtain ⟨b, rfl, -⟩ := zarr (t := 0) hS.2.1 h1 (by omega)
        exact va_iald C1 C2 C6 (zPi (t := 0) hS.2.1 h1 (by omega)) 0 0 rfl (ztys_at (by omega)) ha.2 hd hW
      · rcases a with _ | b
        · have := hS.2.1.2.2.2.1; omega
        · obtain ⟨scr, g1, g2, g3, g4, g5⟩ := zX_ne hS.2.1 h1
          have hlt : i.toNatClampNeg < zN h (b + 1) := Nat.not_le.mp fun q => ha.2 (Or.inr q)
          exact W.iald (v := .int (zI h (b + 1) i.toNatClampNeg)) C1 C2 g1 g2 g3 (by rw [g4]; exact ha.2) (g5 _ hlt) rfl rfl hd hW
    · cases hx
  · cases hr
theorem zs_bald (C : zCx p s m args meth c R D base H0 M) {L : zL} {pc : Nat} {h : zM} {κ : List zV → Option zR} {st : List zV} {r : zR} (hd : decode (zMb M) pc = .ok (.baload, 1))
    (hr : zo_ald (zba h) κ st = some r) (hkk : ∀ st', κ st' = some r → zG p l e R s m args below meth c Q D base H0 M c0 n0 (pc + 1) L st' h) : zG p l e R s m args below meth c Q D base H0 M c0 n0 pc L st h := by
  intro ls H locs hS
  obtain ⟨C1, C2, C3, C4, C5, C6, C7, C8, C9⟩ := C
  unfold zo_ald at hr
  split at hr
  · rename_i i a rest
    obtain ⟨x, hx, hr⟩ := Option.bind_eq_some_iff.mp hr
    unfold zba at hx
    split at hx
    · rename_i ha
      cases hx
      have hW := hkk _ hr ls H locs hS
      rcases ha.1 with h1 | h1
      · obtain ⟨b, rfl, -⟩ := zarr (t := 1) hS.2.1 h1 (by omega)
        exact va_bald C1 C2 C6 (zPi (t := 1) hS.2.1 h1 (by omega)) 0 1 rfl (ztys_at (by omega)) ha.2 hd hW
      · obtain ⟨b, rfl, -⟩ := zarr (t := 2) hS.2.1 h1 (by omega)
        exact va_zald C1 C2 C6 (zPi (t := 2) hS.2.1 h1 (by omega)) 0 2 rfl (ztys_at (by omega)) ha.2 hd hW
    · cases hx
  · cases hr
theorem zaty_obj : ∀ t, 3 ≤ t → t < 7 → ∃ r : vw_C, zcls[zel (101 + t)]? = some r ∧ zaty t = .object r.1 := by
  intro t h3 h7
  rcases (show t = 3 ∨ t = 4 ∨ t = 5 ∨ t = 6 by omega) with rfl | rfl | rfl | rfl
  · exact ⟨_, rfl, rfl⟩
  · exact ⟨_, rfl, rfl⟩
  · exact ⟨_, rfl, rfl⟩
  · exact ⟨_, rfl, rfl⟩
theorem zs_aald (C : zCx p s m args meth c R D base H0 M) {L : zL} {pc : Nat} {h : zM} {κ : List zV → Option zR} {st : List zV} {r : zR} (hd : decode (zMb M) pc = .ok (.aaload, 1))
    (hr : zo_aald h κ st = some r) (hkk : ∀ st', κ st' = some r → zG p l e R s m args below meth c Q D base H0 M c0 n0 (pc + 1) L st' h) : zG p l e R s m args below meth c Q D base H0 M c0 n0 pc L st h := by
  intro ls H locs hS
  obtain ⟨C1, C2, C3, C4, C5, C6, C7, C8, C9⟩ := C
  unfold zo_aald at hr
  split at hr
  · rename_i i a rest
    obtain ⟨x, hx, hr⟩ := Option.bind_eq_some_iff.mp hr
    unfold zaa at hx
    split at hx
    · rename_i ha
      cases hx
      have hW := hkk _ hr ls H locs hS
      obtain ⟨t, ht⟩ : ∃ t, zK h a = 101 + t := ⟨zK h a - 101, by omega⟩
      obtain ⟨b, rfl, -⟩ := zarr hS.2.1 ht (by omega)
      obtain ⟨r', g1, g2⟩ := zaty_obj t (by omega) (by omega)
      exact va_aldq C1 C2 C6 (zPq hS.2.1 ht (by omega) (by omega)) 0 t rfl (by rw [ztys_at (by omega), g2]) ha.2 hd hW
    · cases hx
  · cases hr
theorem zs_len (C : zCx p s m args meth c R D base H0 M) {L : zL} {pc : Nat} {h : zM} {κ : List zV → Option zR} {st : List zV} {r : zR} (hd : decode (zMb M) pc = .ok (.arraylength, 1))
    (hr : zo_len h κ st = some r) (hkk : ∀ st', κ st' = some r → zG p l e R s m args below meth c Q D base H0 M c0 n0 (pc + 1) L st' h) : zG p l e R s m args below meth c Q D base H0 M c0 n0 pc L st h := by
  intro ls H locs hS
  obtain ⟨C1, C2, C3, C4, C5, C6, C7, C8, C9⟩ := C
  unfold zo_len at hr
  split at hr
  · rename_i a rest
    obtain ⟨x, hx, hr⟩ := Option.bind_eq_some_iff.mp hr
    unfold zal at hx
    split at hx
    · rename_i ha
      cases hx
      have hW := hkk _ hr ls H locs hS
      rcases ha with h1 | h1
      · obtain ⟨t, ht⟩ : ∃ t, zK h a = 101 + t := ⟨zK h a - 101, by omega⟩
        obtain ⟨b, rfl, -⟩ := zarr hS.2.1 ht (by omega)
        by_cases h3 : t < 3
        · exact va_alen C1 C2 C6 (zPi hS.2.1 ht h3) 0 t rfl (ztys_at (by omega)) rfl hd hW
        · exact va_alen C1 C2 C6 (zPq hS.2.1 ht (by omega) (by omega)) 0 t rfl (ztys_at (by omega)) rfl hd hW
      · rcases a with _ | b
        · have := hS.2.1.2.2.2.1; omega
        · obtain ⟨scr, g1, g2, g3, g4, g5⟩ := zX_ne hS.2.1 h1
          exact W.alen (n := Int32.ofNat (zN h (b + 1))) C1 C2 g1 g2 (by rw [g4] <;> rfl) rfl rfl hd hW
    · cases hx
  · cases hr
/-- the memory's new cell at a is what the heap's is -/
theorem zRel.seti {h : zM} {b t j : Nat} {x : Int32} {H H1 : Heap} (hR : zRel D base s h H) (hk : zK h (b + 1) = 101 + t) (ht : t < 3) (z : H1.size = H.size) (oq : ∀ q : Nat, q ≠ b → H1[q]? = H[q]?)
    (e1 : H1[b]? = some (vp_cell (D.2.2 t) (zN h (b + 1), .inl (upd (h.2.2.1 (b + 1)) j x)))) : zRel D base s (zsI h (b + 1) j x) H1 := by
  refine hR.set z oq rfl rfl (fun q hq => va_up_ne _ _ hq) (fun _ _ => rfl) ?_
  have ek : zK (zsI h (b + 1) j x) (b + 1) = 101 + t := hk
  refine ⟨fun c' hc' hlt => ?_, fun t' ht' h3 => ?_, fun t' ht' h3 h4 => ?_, fun ht' => ?_⟩
  · omega
  · have : t' = t := by omega
    subst this
    rw [e1]
    simp [zsI, va_up_self, zN]
  · omega
  · omega
theorem zs_iast (C : zCx p s m args meth c R D base H0 M) {L : zL} {pc : Nat} {h : zM} {κ : List zV → zM → Option zR} {st : List zV} {r : zR} (hd : decode (zMb M) pc = .ok (.iastore, 1))
    (hr : zo_ast (zis h) κ st = some r) (hkk : ∀ st' h', zge h h' → κ st' h' = some r → zG p l e R s m args below meth c Q D base H0 M c0 n0 (pc + 1) L st' h') : zG p l e R s m args below meth c Q D base H0 M c0 n0 pc L st h := by
  intro ls H locs hS
  obtain ⟨C1, C2, C3, C4, C5, C6, C7, C8, C9⟩ := C
  unfold zo_ast at hr
  split at hr
  · rename_i x i a rest
    obtain ⟨h', hx, hr⟩ := Option.bind_eq_some_iff.mp hr
    unfold zis at hx
    split at hx
    · rename_i ha
      cases hx
      obtain ⟨b, rfl, hb⟩ := zarr (t := 0) hS.2.1 ha.1 (by omega)
      have hcell := (hS.2.1.2.2.1 b).2.1 0 ha.1 (by omega)
      refine W.iast C1 C2 hcell ((C6.2 0 _ (ztys_at (by omega))).1 _ (fun j => .int (h.2.2.1 (b + 1) j))) (fun q => by cases q) (by show ¬ (i < 0 ∨ (arrV _ _ _).slots.size ≤ _); rw [arrV_size]; exact ha.2) rfl rfl hd fun H1 e1 z oq => ?_
      refine hkk _ (zsI h (b + 1) i.toNatClampNeg x) ⟨Nat.le_refl _, Nat.le_refl _⟩ hr ls H1 _ ⟨hS.1, hS.2.1.seti (t := 0) ha.1 (by omega) z oq ?_, hS.2.2.put z oq hb⟩
      rw [e1, vp_cell_i, vp_cell_i, arrV_store]
      congr 2
      funext q
      by_cases hq : q = i.toNatClampNeg
      · subst hq; simp [updV, upd]
      · simp [updV, upd, hq]
    · cases hx
  · cases hr
theorem zs_bast (C : zCx p s m args meth c R D base H0 M) {L : zL} {pc : Nat} {h : zM} {κ : List zV → zM → Option zR} {st : List zV} {r : zR} (hd : decode (zMb M) pc = .ok (.bastore, 1))
    (hr : zo_ast (zbs h) κ st = some r) (hkk : ∀ st' h', zge h h' → κ st' h' = some r → zG p l e R s m args below meth c Q D base H0 M c0 n0 (pc + 1) L st' h') : zG p l e R s m args below meth c Q D base H0 M c0 n0 pc L st h := by
  intro ls H locs hS
  obtain ⟨C1, C2, C3, C4, C5, C6, C7, C8, C9⟩ := C
  unfold zo_ast at hr
  split at hr
  · rename_i x i a rest
    obtain ⟨h', hx, hr⟩ := Option.bind_eq_some_iff.mp hr
    unfold zbs at hx
    split at hx
    · rename_i ha
      cases hx
      obtain ⟨b, rfl, hb⟩ := zarr (t := 1) hS.2.1 ha.1 (by omega)
      have hcell := (hS.2.1.2.2.1 b).2.1 1 ha.1 (by omega)
      refine W.bast C1 C2 hcell ((C6.2 1 _ (ztys_at (by omega))).1 _ (fun j => .int (h.2.2.1 (b + 1) j))) (fun q => by cases q) (by show ¬ (i < 0 ∨ (arrV _ _ _).slots.size ≤ _); rw [arrV_size]; exact ha.2) rfl rfl hd fun H1 e1 z oq => ?_
      refine hkk _ (zsI h (b + 1) i.toNatClampNeg (vp_nar .byte x)) ⟨Nat.le_refl _, Nat.le_refl _⟩ hr ls H1 _ ⟨hS.1, hS.2.1.seti (t := 1) ha.1 (by omega) z oq ?_, hS.2.2.put z oq hb⟩
      rw [e1, vp_cell_i, vp_cell_i, arrV_store]
      congr 2
      funext q
      by_cases hq : q = i.toNatClampNeg
      · subst hq; simp [updV, upd, vp_nar]; try rfl
      · simp [updV, upd, hq]
    · split at hx
      · rename_i ha
        cases hx
        obtain ⟨b, rfl, hb⟩ := zarr (t := 2) hS.2.1 ha.1 (by omega)
        have hcell := (hS.2.1.2.2.1 b).2.1 2 ha.1 (by omega)
        refine W.zast C1 C2 hcell ((C6.2 2 _ (ztys_at (by omega))).1 _ (fun j => .int (h.2.2.1 (b + 1) j))) (fun q => by cases q) (by show ¬ (i < 0 ∨ (arrV _ _ _).slots.size ≤ _); rw [arrV_size]; exact ha.2) rfl rfl hd fun H1 e1 z oq => ?_
        refine hkk _ (zsI h (b + 1) i.toNatClampNeg (vp_nar .boolean x)) ⟨Nat.le_refl _, Nat.le_refl _⟩ hr ls H1 _ ⟨hS.1, hS.2.1.seti (t := 2) ha.1 (by omega) z oq ?_, hS.2.2.put z oq hb⟩
        rw [e1, vp_cell_i, vp_cell_i, arrV_store]
        congr 2
        funext q
        by_cases hq : q = i.toNatClampNeg
        · subst hq; simp [updV, upd, vp_nar]; try rfl
        · simp [updV, upd, hq]
      · cases hx
  · cases hr
theorem zs_aast (C : zCx p s m args meth c R D base H0 M) {L : zL} {pc : Nat} {h : zM} {κ : List zV → zM → Option zR} {st : List zV} {r : zR} (hd : decode (zMb M) pc = .ok (.aastore, 1))
    (hr : zo_aast h κ st = some r) (hkk : ∀ st' h', zge h h' → κ st' h' = some r → zG p l e R s m args below meth c Q D base H0 M c0 n0 (pc + 1) L st' h') : zG p l e R s m args below meth c Q D base H0 M c0 n0 pc L st h := by
  intro ls H locs hS
  obtain ⟨C1, C2, C3, C4, C5, C6, C7, C8, C9⟩ := C
  unfold zo_aast at hr
  split at hr
  · rename_i v i a rest
    obtain ⟨h', hx, hr⟩ := Option.bind_eq_some_iff.mp hr
    unfold zas at hx
    split at hx
    · rename_i ha
      cases hx
      obtain ⟨t, ht⟩ : ∃ t, zK h a = 101 + t := ⟨zK h a - 101, by omega⟩
      obtain ⟨b, rfl, hb⟩ := zarr hS.2.1 ht (by omega)
      obtain ⟨r', g1, g2⟩ := zaty_obj t (by omega) (by omega)
      have hv2 : zK h v = zel (101 + t) + 1 := by rw [← ht]; exact ha.2.2
      obtain ⟨w, rfl, hPv, -⟩ := zobj hS.2.1 g1 hv2
      have hcell := (hS.2.1.2.2.1 b).2.2.1 t ht (by omega) (by omega)
      have hin := ha.2.1
      have hlt : i.toNatClampNeg < zN h (b + 1) := Nat.not_le.mp fun q => hin (Or.inr q)
      have h0 : ¬ i < 0 := fun q => hin (Or.inl q)
      obtain ⟨r2, hr2, cellV, q1, q2, q3, -⟩ := hPv 0 _ rfl
      have hcls := (C6.1 _ r' g1).2
      have hA := (C6.2 t _ (ztys_at (by omega))).2
      rw [g2] at hA
      obtain ⟨kA, comp, k1, k2, k3, -⟩ := hA
      have hcomp : comp = (zDv D).1 (zel (101 + t)) := Option.some.inj (k3.symm.trans hcls.1)
      subst hcomp
      obtain ⟨kC, hkC, -⟩ := hcls.2
      refine W.aast C1 C2 hcell (fun q h => by cases h) (fun h => by cases h) k1 k2 rfl hkC ⟨h0, by show _ < (arrV _ _ _).slots.size; rw [arrV_size]; exact hlt⟩ q1 (fun q h => by rw [q3] at h; cases h) (by rw [q2]; exact hkC) (by rw [q2]; exact va_assign hcls) rfl rfl hd fun H1 e1 z oq => ?_
      refine hkk _ (zsF h (b + 1) i.toNatClampNeg (w + 1)) ⟨Nat.le_refl _, Nat.le_refl _⟩ hr ls H1 _ ⟨hS.1, hS.2.1.set z oq rfl rfl (fun _ _ => rfl) (fun q hq => va_up_ne _ _ hq) ?_, hS.2.2.put z oq hb⟩
      have ek : zK (zsF h (b + 1) i.toNatClampNeg (w + 1)) (b + 1) = 101 + t := ht
      refine ⟨fun c' hc' hlt => ?_, fun t' ht' h3 => ?_, fun t' ht' h3 h4 => ?_, fun ht' => ?_⟩
      · omega
      · omega
      · have : t' = t := by omega
        subst this
        rw [e1]
        rw [vp_cell_q, vp_cell_q, arrV_store]
        congr 2
        funext q
        by_cases hq : q = i.toNatClampNeg
        · subst hq; simp [updV, va_up_self, zsF, zop, va_rf]
        · simp [updV, hq, zsF, va_up_self, va_up_ne _ _ hq]
      · omega
    · cases hx
  · cases hr
end ZARR
end
section
/-! New cells, calls, ends. -/
def zws (M : zRec) : List Cond := .code (zMy M) (zMb M) (zMl M) (zMr M) :: zgt
theorem zws_good {M : zRec} (h : Cond.code (zMy M) (zMb M) (zMl M) (zMr M) ∈ zgt) : GoodIn zgt (zws M) := by
  intro w hw
  have hm : w ∈ zgt := by
    rcases List.mem_cons.mp hw with q | q
    · rw [q]; exact h
    · exact q
  exact ⟨hm, good_of_word (List.mem_filter.mp hm).2⟩
def zrk (M : zRec) : Nat := match zMr M with
  | none => 0
  | some t => match zfk t with
    | 1 => 2
    | _ => 1
def zrv (k : Nat) (r : zR) : Option Value := match k with
  | 0 => none
  | 1 => some (.int r.1)
  | _ => some (zval (.inr r.2.1))
def zPc (D : zD3) (base : Nat) (as : List zV) (h : zM) : Array Value → State → Prop := fun v U => v = (as.map zval).toArray ∧ zRel D base U h U.heap ∧ zKn D U ∧ zEx U
def zQc (D : zD3) (base : Nat) (M : zRec) (r : zR) : Array Value → State → Outcome → State → Prop := fun _ st o t => o = .returned (zrv (zrk M) r) ∧ zRel D base t r.2.2 t.heap ∧ zKn D t ∧ va_F (fun q => base ≤ q) st t
def zrm (M : zRec) (h : zM) (r : zR) : Room := { frames := zMf M, cells := r.2.2.1.2.1 - h.1.2.1, slots := r.2.2.1.2.2 - h.1.2.2, locals := zMn M }
def zMet (l : Launch) (D : zD3) (base : Nat) (M : zRec) (as : List zV) (h : zM) (r : zR) : Prop :=
  Met l (zMy M) (zws M) (zrm M h r) (zPc D base as h) (zQc D base M r) (r.2.2.1.2.1 - h.1.2.1) (r.2.2.1.2.2 - h.1.2.2) (fun q => base ≤ q)
theorem zPc_blind {D : zD3} {base : Nat} {as : List zV} {h : zM} : FrameBlind (zPc D base as h) := fun a U g mk q =>
  ⟨q.1, zRel.moved (u := U) (U := U.calling g mk a) (Vm.Alike.refl U.vm) q.2.1, zKn.moved (u := U) (U := U.calling g mk a) (Vm.Alike.refl U.vm) q.2.2.1, zEx.same (u := U) (U := U.calling g mk a) rfl q.2.2.2⟩
/-- what the tables say of a callee -/
def zJok (J : zRec) (na : Nat) : Prop := Cond.code (zMy J) (zMb J) (zMl J) (zMr J) ∈ zgt ∧ Cond.initialized (zMy J).cls ∈ zgt ∧ ((zMy J).cls ≠ "java/lang/invoke/MethodHandle" ∧ (zMy J).cls ≠ "java/lang/invoke/VarHandle" ∧ (parseMethodDescriptor (zMy J).desc).map (fun d => d.parameters.length) = some na)
theorem zmap_rev {as : List zV} {rest : List zV} : ∀ {n : Nat} {acc st : List zV}, zpop n acc st = some (as, rest) → ∃ ps, st = ps ++ rest ∧ as = ps.reverse ++ acc ∧ ps.length = n := by
  intro n
  induction n with
  | zero =>
    intro acc st h
    simp only [zpop, Option.some.injEq, Prod.mk.injEq] at h
    exact ⟨[], by simp [h.2], by simp [h.1], rfl⟩
  | succ n ih =>
    intro acc st h
    cases st with
    | nil => simp [zpop] at h
    | cons v st =>
      simp only [zpop] at h
      obtain ⟨ps, h1, h2, h3⟩ := ih h
      exact ⟨v :: ps, by rw [h1]; rfl, by rw [h2]; simp, by simp [h3]⟩
theorem zshort_len : ∀ {n : Nat} {st : List zV}, zshort n st = true → st.length ≤ n
  | _, [], _ => by simp
  | 0, _ :: _, h => by simp [zshort] at h
  | n + 1, _ :: st, h => by
    have := zshort_len (n := n) (st := st) (by simpa [zshort] using h)
    simp; omega
theorem zcat_sum (st : List zV) : ((st.map zval).map fun v => v.category).sum = st.length := by
  induction st with
  | nil => rfl
  | cons v st ih =>
    show (zval v).category + ((st.map zval).map fun v => v.category).sum = _
    rw [ih, zval_cat, List.length_cons]
    omega
section ZCALL
variable {p : Program} {l : Launch} {e : Env} {R : Room} {s : State} {m : MethodId} {args : Array Value} {below : List Frame} {meth : Method} {c : Code} {Q : State → Prop} {D : zD3} {base : Nat} {H0 : Heap} {M : zRec} {c0 n0 : Nat}
/-- behind a call -/
theorem zs_back {L : zL} {pc : Nat} {J : zRec} {h : zM} {u : zR} {ls : Array Slot} {H : Heap} {locs : List Loc} {as : Array Value} {rest : List zV} {st0 : List Value} {mc ms : Nat} (C : zCx p s m args meth c R D base H0 M) (hS : zSt D base s H0 (zMl M) L h ls H locs) (hg : zge h u.2.2) (h0 : c0 ≤ h.1.2.1 ∧ n0 ≤ h.1.2.2) (hmc : mc = u.2.2.1.2.1 - h.1.2.1) (hms : ms = u.2.2.1.2.2 - h.1.2.2)
    (run : va_Run p l e R s m args below meth c H locs (h.1.2.1 - c0) (h.1.2.2 - n0) mc ms (F0 m pc ls st0) (rest.map zval) (zQc D base J u as) (fun q => base ≤ q))
    (hk : zG p l e R s m args below meth c Q D base H0 M c0 n0 (pc + 3) L (zpush (zrk J) u rest) u.2.2) : W p l e R s m args below meth c H locs (h.1.2.1 - c0) (h.1.2.2 - n0) Q (F0 m pc ls st0) := by
  subst hmc; subst hms
  intro T hT X
  obtain ⟨v, st₀, t, T', L', h1, X', hL, e1, e2, ⟨hv, hr, hkn, hz, hf⟩, st⟩ := run T hT X
  have hv : v = zrv (zrk J) u := by injection hv
  rw [h1] at hz hf
  have hal : s.vm.Alike t.vm := by rw [← e2]; exact X'.warmed.alike
  have hS' : zSt D base s H0 (zMl M) L u.2.2 ls T'.heap (locs ++ L') := by
    refine ⟨hS.1, by rw [e1]; exact hr.moved hal.symm, ?_⟩
    have hS3 := hS.2.2
    refine ⟨Nat.le_trans hS3.1 (by rw [e1]; exact hz), fun q g1 g2 => ?_, fun q hq => ?_⟩
    · rw [e1, hf q (Nat.lt_of_lt_of_le g1 hS3.1) g2]
      exact hS3.2.1 q g1 g2
    · rcases List.mem_append.mp hq with g | g
      · exact hS3.2.2 q g
      · exact hL q g
  have hW := hk ls T'.heap (locs ++ L') hS'
  have ec : h.1.2.1 - c0 + (u.2.2.1.2.1 - h.1.2.1) = u.2.2.1.2.1 - c0 := by have := hg.1; have := h0.1; omega
  have es : h.1.2.2 - n0 + (u.2.2.1.2.2 - h.1.2.2) = u.2.2.1.2.2 - n0 := by have := hg.2; have := h0.2; omega
  rw [ec, es] at X'
  obtain ⟨t2, a1, b1⟩ := hW T' rfl X'
  refine ⟨t2, st t2 ?_, b1⟩
  have hst : v.toList ++ rest.map zval = (zpush (zrk J) u rest).map zval := by
    rw [hv]
    unfold zrv zpush
    generalize zrk J = k
    rcases k with _ | _ | k <;> rfl
  show Steps _ _ _ (T'.setTop (F0 m (pc + 3) ls (v.toList ++ rest.map zval))) t2
  rw [hst]
  exact a1
theorem zs_callV (C : zCx p s m args meth c R D base H0 M) {L : zL} {pc idx na j rk rc : Nat} {J : zRec} {cl : vw_C} {f : zF3} {h : zM} {κ : List zV → zM → Option zR} {st : List zV} {r : zR} (hd : decode (zMb M) pc = .ok (.invokevirtual idx, 3))
    (hJ : zJok J na) (hl : Cond.methodLink (zMo M) idx (zMy J) ∈ zgt) (hin : Cond.instanceMethod (zMy J) ∈ zgt) (hse : Cond.selects cl.1 (zMy J) (zMy J) ∈ zgt) (hrk : rk = zrk J) (hcl : zcls[rc]? = some cl) (hR : zMf J + 1 ≤ zMf M ∧ 8 + (zMl J + 11) + zMn J ≤ zMn M)
    (hM : ∀ as u, f j as h = some u → zMet l D base J as h u ∧ zge h u.2.2) (h0 : c0 ≤ h.1.2.1 ∧ n0 ≤ h.1.2.2) (hroom : r.2.2.1.2.1 - c0 ≤ R.cells ∧ r.2.2.1.2.2 - n0 ≤ R.slots) (hge : ∀ st' h', κ st' h' = some r → zge h' r.2.2)
    (hr : zo_cv f j na rk (rc + 1) h κ st = some r) (hkk : ∀ st' h', zge h h' → κ st' h' = some r → zG p l e R s m args below meth c Q D base H0 M c0 n0 (pc + 3) L st' h') : zG p l e R s m args below meth c Q D base H0 M c0 n0 pc L st h := by
  intro ls H locs hS
  subst hrk
  have CC := C
  obtain ⟨C1, C2, C3, C4, C5, C6, C7, C8, C9, C10, C11⟩ := C
  unfold zo_cv at hr
  split at hr
  · rename_i a as rest hp
    split at hr
    · rename_i hsh
      split at hr
      · rename_i ha
        obtain ⟨u, hu, hr2⟩ := Option.bind_eq_some_iff.mp hr
        obtain ⟨hmet, hg⟩ := hM _ _ hu
        have hgr := hge _ _ hr2
        obtain ⟨ps, e1, e2, e3⟩ := zmap_rev hp
        rw [List.append_nil] at e2
        obtain ⟨b, rfl, hP, -⟩ := zobj hS.2.1 hcl ha
        have eps : ps = as.reverse ++ [.inr (b + 1)] := by rw [← List.reverse_reverse ps, ← e2]; simp
        have hst : st.map zval = (as.map zval).reverse ++ .ref b :: rest.map zval := by
          rw [e1, eps]; simp [zval, zop, va_rf]
        have hna : (as.map zval).length = na := by
          have : ps.length = as.length + 1 := by rw [eps]; simp
          simp; omega
        have hroomc : h.1.2.1 - c0 + (u.2.2.1.2.1 - h.1.2.1) ≤ R.cells ∧ h.1.2.2 - n0 + (u.2.2.1.2.2 - h.1.2.2) ≤ R.slots := by
          have := hg.1; have := hg.2; have := hgr.1; have := hgr.2; have := h0.1; have := h0.2; have := hroom.1; have := hroom.2
          constructor <;> omega
        refine zs_back (J := J) (as := (Value.ref b :: as.map zval).toArray) CC hS hg h0 rfl rfl ?_ (hkk _ _ hg hr2)
        exact va_runV (As := as.map zval) ⟨C1, C2, C3, C4, C5⟩ hmet
          ⟨callB_of na C5 (zws_good hJ.1) rfl rfl rfl (C5 _ hJ.2.1) (C5 _ hl) hJ.2.2 ⟨Nat.le_trans hR.1 C9, Nat.le_trans hR.2 C10⟩, C5 _ hin, C5 _ hse⟩
          ⟨zPc_blind, va_recv (q0 := 0) C6 hP hcl rfl, fun U hU hW => ⟨by simp [zval, zop, va_rf], by rw [hU]; exact hS.2.1.moved hW.alike, zKn.moved hW.alike C6, C11.warm hW⟩⟩ rfl hna hS.1.2.1 hst (lv_room (by rw [zcat_sum]; exact zshort_len hsh)) hd hroomc
      · cases hr
    · cases hr
  · cases hr
theorem zs_callI (C : zCx p s m args meth c R D base H0 M) {L : zL} {pc idx na j rc : Nat} {J : zRec} {f : zF3} {h : zM} {κ : List zV → zM → Option zR} {st : List zV} {r : zR} (hd : decode (zMb M) pc = .ok (.invokespecial idx, 3))
    (hJ : zJok J na) (hl : Cond.methodLink (zMo M) idx (zMy J) ∈ zgt) (hin : Cond.instanceMethod (zMy J) ∈ zgt) (hnm : (zMy J).name = "<init>") (hret : zMr J = none) (hrc : rc < 13) (hR : zMf J + 1 ≤ zMf M ∧ 8 + (zMl J + 11) + zMn J ≤ zMn M)
    (hM : ∀ as u, f j as h = some u → zMet l D base J as h u ∧ zge h u.2.2) (h0 : c0 ≤ h.1.2.1 ∧ n0 ≤ h.1.2.2) (hroom : r.2.2.1.2.1 - c0 ≤ R.cells ∧ r.2.2.1.2.2 - n0 ≤ R.slots) (hge : ∀ st' h', κ st' h' = some r → zge h' r.2.2)
    (hr : zo_cv f j na 0 (rc + 1) h κ st = some r) (hkk : ∀ st' h', zge h h' → κ st' h' = some r → zG p l e R s m args below meth c Q D base H0 M c0 n0 (pc + 3) L st' h') : zG p l e R s m args below meth c Q D base H0 M c0 n0 pc L st h := by
  intro ls H locs hS
  have hrk : 0 = zrk J := by unfold zrk; rw [hret]
  rw [hrk] at hr
  have CC := C
  obtain ⟨C1, C2, C3, C4, C5, C6, C7, C8, C9, C10, C11⟩ := C
  unfold zo_cv at hr
  split at hr
  · rename_i a as rest hp
    split at hr
    · rename_i hsh
      split at hr
      · rename_i ha
        obtain ⟨u, hu, hr2⟩ := Option.bind_eq_some_iff.mp hr
        obtain ⟨hmet, hg⟩ := hM _ _ hu
        have hgr := hge _ _ hr2
        obtain ⟨ps, e1, e2, e3⟩ := zmap_rev hp
        rw [List.append_nil] at e2
        obtain ⟨cl, hcl⟩ : ∃ cl, zcls[rc]? = some cl := ⟨_, List.getElem?_eq_getElem (by simpa [zcls] using hrc)⟩
        obtain ⟨b, rfl, hP, -⟩ := zobj hS.2.1 hcl ha
        have eps : ps = as.reverse ++ [.inr (b + 1)] := by rw [← List.reverse_reverse ps, ← e2]; simp
        have hst : st.map zval = (as.map zval).reverse ++ .ref b :: rest.map zval := by
          rw [e1, eps]; simp [zval, zop, va_rf]
        have hna : (as.map zval).length = na := by
          have : ps.length = as.length + 1 := by rw [eps]; simp
          simp; omega
        have hroomc : h.1.2.1 - c0 + (u.2.2.1.2.1 - h.1.2.1) ≤ R.cells ∧ h.1.2.2 - n0 + (u.2.2.1.2.2 - h.1.2.2) ≤ R.slots := by
          have := hg.1; have := hg.2; have := hgr.1; have := hgr.2; have := h0.1; have := h0.2; have := hroom.1; have := hroom.2
          constructor <;> omega
        refine zs_back (J := J) (as := (Value.ref b :: as.map zval).toArray) CC hS hg h0 rfl rfl ?_ (hkk _ _ hg hr2)
        have hcb := callB_of (R := R) (s := s) (args := args) (own := zMo M) (index := idx) (rm := zrm J h u) na C5 (zws_good hJ.1) rfl rfl rfl (C5 _ hJ.2.1) (C5 _ hl) hJ.2.2 ⟨Nat.le_trans hR.1 C9, Nat.le_trans hR.2 C10⟩
        rw [hret] at hcb
        exact va_runI (As := as.map zval) ⟨C1, C2, C3, C4, C5⟩ hmet
          ⟨hcb, hnm, C5 _ hin⟩
          ⟨zPc_blind, fun U hU hW => ⟨by simp [zval, zop, va_rf], by rw [hU]; exact hS.2.1.moved hW.alike, zKn.moved hW.alike C6, C11.warm hW⟩⟩ rfl hna hS.1.2.1 hst (lv_room (by rw [zcat_sum]; exact zshort_len hsh)) hd hroomc
      · cases hr
    · cases hr
  · cases hr
theorem zs_callS (C : zCx p s m args meth c R D base H0 M) {L : zL} {pc idx na j rk : Nat} {J : zRec} {f : zF3} {h : zM} {κ : List zV → zM → Option zR} {st : List zV} {r : zR} (hd : decode (zMb M) pc = .ok (.invokestatic idx, 3))
    (hJ : zJok J na) (hl : Cond.methodLink (zMo M) idx (zMy J) ∈ zgt ∨ ∃ host, Cond.methodLinkNest (zMo M) idx (zMy J) host ∈ lw_tbl) (hstat : Cond.static (zMy J) ∈ zgt) (hrk : rk = zrk J) (hR : zMf J + 1 ≤ zMf M ∧ 8 + (zMl J + 11) + zMn J ≤ zMn M)
    (hM : ∀ as u, f j as h = some u → zMet l D base J as h u ∧ zge h u.2.2) (h0 : c0 ≤ h.1.2.1 ∧ n0 ≤ h.1.2.2) (hroom : r.2.2.1.2.1 - c0 ≤ R.cells ∧ r.2.2.1.2.2 - n0 ≤ R.slots) (hge : ∀ st' h', κ st' h' = some r → zge h' r.2.2)
    (hr : zo_cs f j na rk h κ st = some r) (hkk : ∀ st' h', zge h h' → κ st' h' = some r → zG p l e R s m args below meth c Q D base H0 M c0 n0 (pc + 3) L st' h') : zG p l e R s m args below meth c Q D base H0 M c0 n0 pc L st h := by
  intro ls H locs hS
  subst hrk
  have CC := C
  obtain ⟨C1, C2, C3, C4, C5, C6, C7, C8, C9, C10, C11⟩ := C
  unfold zo_cs at hr
  split at hr
  · rename_i as rest hp
    split at hr
    · rename_i hsh
      obtain ⟨u, hu, hr⟩ := Option.bind_eq_some_iff.mp hr
      obtain ⟨hmet, hg⟩ := hM _ _ hu
      have hgr := hge _ _ hr
      obtain ⟨ps, e1, e2, e3⟩ := zmap_rev hp
      rw [List.append_nil] at e2
      have hst : st.map zval = (as.map zval).reverse ++ rest.map zval := by
        rw [e1, e2]; simp
      have hna : (as.map zval).length = na := by rw [e2]; simp [e3]
      have hroomc : h.1.2.1 - c0 + (u.2.2.1.2.1 - h.1.2.1) ≤ R.cells ∧ h.1.2.2 - n0 + (u.2.2.1.2.2 - h.1.2.2) ≤ R.slots := by
        have := hg.1; have := hg.2; have := hgr.1; have := hgr.2; have := h0.1; have := h0.2; have := hroom.1; have := hroom.2
        constructor <;> omega
      refine zs_back (J := J) (as := (as.map zval).toArray) CC hS hg h0 rfl rfl ?_ (hkk _ _ hg hr)
      have hps : PreS s H (zPc D base as h) (as.map zval) := ⟨zPc_blind, fun U hU hW => ⟨rfl, by rw [hU]; exact hS.2.1.moved hW.alike, zKn.moved hW.alike C6, C11.warm hW⟩⟩
      have hR' : zMf J + 1 ≤ R.frames ∧ 8 + (zMl J + 11) + zMn J ≤ R.locals := ⟨Nat.le_trans hR.1 C9, Nat.le_trans hR.2 C10⟩
      rcases hl with hl | ⟨host, hl⟩
      · exact va_runS (As := as.map zval) ⟨C1, C2, C3, C4, C5⟩ hmet ⟨callB_of na C5 (zws_good hJ.1) rfl rfl rfl (C5 _ hJ.2.1) (C5 _ hl) hJ.2.2 hR', C5 _ hstat⟩ hps rfl hna hS.1.2.1 hst (lv_room (by rw [zcat_sum]; exact zshort_len hsh)) hd hroomc
      · exact va_runSN (As := as.map zval) ⟨C1, C2, C3, C4, C5⟩ hmet ⟨va_cnB na C5 (zws_good hJ.1) rfl rfl rfl (C11.1 _ _ _ _ hl) (C5 _ hJ.2.1) hJ.2.2 hR', C5 _ hstat, trivial⟩ hps rfl hna hS.1.2.1 hst (lv_room (by rw [zcat_sum]; exact zshort_len hsh)) hd hroomc
    · cases hr
  · cases hr
end ZCALL
end
section
section ZREST
variable {p : Program} {l : Launch} {e : Env} {R : Room} {s : State} {m : MethodId} {args : Array Value} {below : List Frame} {meth : Method} {c : Code} {Q : State → Prop} {D : zD3} {base : Nat} {H0 : Heap} {M : zRec} {c0 n0 : Nat}
theorem zdef_val {h : zM} {ci N k : Nat} {cl : vw_C} (hcl : zcls[ci]? = some cl) (hk : k < cl.2.2) : defaultValue (ztyc ci k) = vp_V (zfs (zmk h (ci + 1) N) ci h.1.1) k := by
  have hn : k < zcn ci := by rw [zcn_of hcl]; exact hk
  have h1 : vp_V (zfs (zmk h (ci + 1) N) ci h.1.1) k = zfv (zmk h (ci + 1) N) ci h.1.1 k := by
    unfold vp_V
    rw [List.getD_eq_getElem?_getD, zfs_at hn]
    rfl
  rw [h1]
  obtain ⟨tyok, -⟩ := zcls_ty ci _ hcl
  unfold zfv zF zI zmk
  simp only [va_up_self]
  have hp := tyok k hk
  cases ht : ztyc ci k <;> simp [zfk, defaultValue, zop, va_rf]
  all_goals first | done | (exfalso; revert ht; unfold ztyc; split <;> (try unfold tyX0) <;> (try unfold tyX1) <;> (try unfold tyX2) <;> (try unfold tyX3) <;> (try unfold tyX4) <;> (try unfold tyX5) <;> (try unfold tyX6) <;> (try unfold tyX7) <;> (try unfold tyX8) <;> (try unfold tyX9) <;> (try unfold tyX10) <;> (try unfold tyX11) <;> (try unfold tyX12) <;> split <;> simp)
theorem zs_new (C : zCx p s m args meth c R D base H0 M) {L : zL} {pc idx ci N : Nat} {cl : vw_C} {h : zM} {st : List zV} {r : zR} (hd : decode (zMb M) pc = .ok (.new idx, 3))
    (hc : zcls[ci]? = some cl) (hN : cl.2.2 = N) (hl : Cond.classLink (zMo M) idx cl.1 ∈ zgt) (hi : Cond.instantiable cl.1 N ∈ zgt) (hn : Cond.initialized cl.1 ∈ zgt) (h0 : c0 ≤ h.1.2.1 ∧ n0 ≤ h.1.2.2) (hroom : r.2.2.1.2.1 - c0 ≤ R.cells ∧ r.2.2.1.2.2 - n0 ≤ R.slots) (hge : zge (zmk h (ci + 1) N) r.2.2)
    (hkk : zG p l e R s m args below meth c Q D base H0 M c0 n0 (pc + 3) L (.inr h.1.1 :: st) (zmk h (ci + 1) N)) : zG p l e R s m args below meth c Q D base H0 M c0 n0 pc L st h := by
  intro ls H locs hS
  obtain ⟨C1, C2, C3, C4, C5, C6, C7, C8, C9⟩ := C
  obtain ⟨CN, T, N'⟩ := cl
  dsimp only at hN
  subst hN
  obtain ⟨tyok, nmok⟩ := zcls_ty ci _ hc
  have hKn := C6.1 ci _ hc
  have g1 : h.1.2.1 + 1 ≤ r.2.2.1.2.1 := hge.1
  have g2 : h.1.2.2 + N' ≤ r.2.2.1.2.2 := hge.2
  have ec : (zmk h (ci + 1) N').1.2.1 - c0 = h.1.2.1 - c0 + 1 := by show h.1.2.1 + 1 - c0 = _; have := h0.1; omega
  have es : (zmk h (ci + 1) N').1.2.2 - n0 = h.1.2.2 - n0 + N' := by show h.1.2.2 + N' - n0 = _; have := h0.2; omega
  refine W.newcK C1 C2 C4 (C5 _ hl) (C5 _ hi) (C5 _ hn) rfl hd (by have := h0.1; have := hroom.1; omega) (by have := h0.2; have := hroom.2; omega) hKn.2.1 rfl fun H1 kC hkC e1 z1 o1 => ?_
  have hnx : h.1.1 = H.size + 1 := hS.2.1.1
  have hS' : zSt D base s H0 (zMl M) L (zmk h (ci + 1) N') ls H1 locs := by
    refine ⟨hS.1, hS.2.1.push z1 o1 (Or.inr (Or.inl (by have := zcls_lt hc; omega))) ?_, ⟨Nat.le_trans hS.2.2.1 (by omega), fun x k1 k2 => (o1 x (Nat.lt_of_lt_of_le k1 hS.2.2.1)).trans (hS.2.2.2.1 x k1 k2), hS.2.2.2.2⟩⟩
    have ek : zK (zmk h (ci + 1) N') (H.size + 1) = ci + 1 := by unfold zK zmk; rw [hnx]; show (va_up h.2.1 (H.size + 1) (ci + 1, N') (H.size + 1)).1 = _; rw [va_up_self]
    have h13 := zcls_lt hc
    refine ⟨fun c' hc' hlt => ?_, fun t ht h3 => by omega, fun t ht h3 h4 => by omega, fun ht => by omega⟩
    have : c' = ci := by omega
    subst this
    refine ⟨_, hc, (u_born (ztyc c') C5 (zcls_in c' _ hc) hKn hkC e1 tyok).to (fun j hj => ?_)⟩
    rw [← hnx]
    exact zdef_val hc hj
  have hW := hkk ls H1 locs hS'
  rw [ec, es] at hW
  have hv : zval (.inr h.1.1) = .ref H.size := by rw [hnx]; rfl
  rw [List.map_cons, hv] at hW
  exact hW
theorem zs_newarr (C : zCx p s m args meth c R D base H0 M) {L : zL} {pc : Nat} {t : ClassFile.ArrayType} {h : zM} {κ : List zV → zM → Option zR} {st : List zV} {r : zR} (hd : decode (zMb M) pc = .ok (.newarray t, 2))
    (ht : t = .int ∨ t = .byte ∨ t = .boolean) (hw : Cond.arrayClass (newarray.typeOf t) ∈ zgt) (h0 : c0 ≤ h.1.2.1 ∧ n0 ≤ h.1.2.2) (hroom : r.2.2.1.2.1 - c0 ≤ R.cells ∧ r.2.2.1.2.2 - n0 ≤ R.slots) (hge : ∀ st' h', κ st' h' = some r → zge h' r.2.2)
    (hr : zo_na h (zatk t) κ st = some r) (hkk : ∀ st' h', zge h h' → κ st' h' = some r → zG p l e R s m args below meth c Q D base H0 M c0 n0 (pc + 2) L st' h') : zG p l e R s m args below meth c Q D base H0 M c0 n0 pc L st h := by
  intro ls H locs hS
  obtain ⟨C1, C2, C3, C4, C5, C6, C7, C8, C9⟩ := C
  unfold zo_na at hr
  split at hr
  · rename_i n rest
    obtain ⟨h', hx, hr⟩ := Option.bind_eq_some_iff.mp hr
    unfold zna at hx
    split at hx
    · cases hx
    · rename_i hn
      cases hx
      obtain ⟨k, hk3, hka, hkt⟩ : ∃ k, k < 3 ∧ zatk t = 101 + k ∧ zaty k = newarray.typeOf t := by
        rcases ht with rfl | rfl | rfl
        · exact ⟨0, by omega, rfl, rfl⟩
        · exact ⟨1, by omega, rfl, rfl⟩
        · exact ⟨2, by omega, rfl, rfl⟩
      have hg := hge _ _ hr
      have hG := hkk _ _ ⟨Nat.le_succ _, Nat.le_add_right _ _⟩ hr
      generalize hNe : n.toNatClampNeg = N at *
      have g1 : h.1.2.1 + 1 ≤ r.2.2.1.2.1 := hg.1
      have g2 : h.1.2.2 + N ≤ r.2.2.1.2.2 := hg.2
      have ec : (zmk h (zatk t) N).1.2.1 - c0 = h.1.2.1 - c0 + 1 := by show h.1.2.1 + 1 - c0 = _; have := h0.1; omega
      have es : (zmk h (zatk t) N).1.2.2 - n0 = h.1.2.2 - n0 + N := by show h.1.2.2 + N - n0 = _; have := h0.2; omega
      have hcb : componentBytes (newarray.typeOf t) ≤ 4 := by rcases ht with rfl | rfl | rfl <;> decide
      have hN9 : N ≤ 1000000 := Nat.not_lt.mp fun q => hn (Or.inr q)
      refine va_newaK C1 C2 (C5 _ hw) rfl hd rfl (fun q => hn (Or.inl q)) hNe (Nat.le_trans (Nat.mul_le_mul hN9 hcb) (by decide)) (by have := h0.1; have := hroom.1; omega) (by have := h0.2; have := hroom.2; omega) rfl fun H1 cA e1 z1 o1 hAr hNm => ?_
      have hnx : h.1.1 = H.size + 1 := hS.2.1.1
      have hcA : cA = D.2.2 k := by
        have h2 := (C6.2 k _ (ztys_at (by omega))).2
        rw [hkt] at h2
        have h3 : s.vm.findClass ("[" ++ (newarray.typeOf t).toString) = some (D.2.2 k) := by rcases ht with rfl | rfl | rfl <;> exact h2
        exact Option.some.inj (hNm.symm.trans h3)
      subst hcA
      have hS' : zSt D base s H0 (zMl M) L (zmk h (zatk t) N) ls H1 locs := by
        refine ⟨hS.1, hS.2.1.push z1 o1 (Or.inr (Or.inr (Or.inl (by omega)))) ?_, ⟨Nat.le_trans hS.2.2.1 (by omega), fun x k1 k2 => (o1 x (Nat.lt_of_lt_of_le k1 hS.2.2.1)).trans (hS.2.2.2.1 x k1 k2), hS.2.2.2.2⟩⟩
        have e2 : (zmk h (zatk t) N).2.1 (H.size + 1) = (zatk t, N) := by unfold zmk; rw [hnx]; exact va_up_self _ _ _
        have e3 : (zmk h (zatk t) N).2.2.1 (H.size + 1) = fun _ => 0 := by unfold zmk; rw [hnx]; exact va_up_self _ _ _
        have ek : zK (zmk h (zatk t) N) (H.size + 1) = 101 + k := by unfold zK; rw [e2]; exact hka
        have en : zN (zmk h (zatk t) N) (H.size + 1) = N := by unfold zN; rw [e2]
        refine ⟨fun c' hc' hlt => by omega, fun t' ht' h3 => ?_, fun t' ht' h3 h4 => by omega, fun ht' => by omega⟩
        have : t' = k := by omega
        subst this
        rw [e1, en, e3, vp_cell_i]
        rcases ht with rfl | rfl | rfl <;> rfl
      have hW := hG ls H1 locs hS'
      rw [ec, es] at hW
      have hv : zval (.inr h.1.1) = .ref H.size := by rw [hnx]; rfl
      rw [List.map_cons, hv] at hW
      exact hW
  · cases hr
theorem zs_anew (C : zCx p s m args meth c R D base H0 M) {L : zL} {pc idx k : Nat} {CN : String} {h : zM} {κ : List zV → zM → Option zR} {st : List zV} {r : zR} (hd : decode (zMb M) pc = .ok (.anewarray idx, 3))
    (h3 : 3 ≤ k) (h7 : k < 7) (hty : zaty k = .object CN) (hl : Cond.classLink (zMo M) idx CN ∈ zgt) (h0 : c0 ≤ h.1.2.1 ∧ n0 ≤ h.1.2.2) (hroom : r.2.2.1.2.1 - c0 ≤ R.cells ∧ r.2.2.1.2.2 - n0 ≤ R.slots) (hge : ∀ st' h', κ st' h' = some r → zge h' r.2.2)
    (hr : zo_na h (101 + k) κ st = some r) (hkk : ∀ st' h', zge h h' → κ st' h' = some r → zG p l e R s m args below meth c Q D base H0 M c0 n0 (pc + 3) L st' h') : zG p l e R s m args below meth c Q D base H0 M c0 n0 pc L st h := by
  intro ls H locs hS
  obtain ⟨C1, C2, C3, C4, C5, C6, C7, C8, C9, C10, C11⟩ := C
  have hAO : va_AO CN s := by
    rcases (show k = 3 ∨ k = 4 ∨ k = 5 ∨ k = 6 by omega) with rfl | rfl | rfl | rfl <;> cases hty
    · exact C11.2.1
    · exact C11.2.2.1
    · exact C11.2.2.2.1
    · exact C11.2.2.2.2
  unfold zo_na at hr
  split at hr
  · rename_i n rest
    obtain ⟨h', hx, hr⟩ := Option.bind_eq_some_iff.mp hr
    unfold zna at hx
    split at hx
    · cases hx
    · rename_i hn
      cases hx
      have hg := hge _ _ hr
      have hG := hkk _ _ ⟨Nat.le_succ _, Nat.le_add_right _ _⟩ hr
      have g1 : h.1.2.1 + 1 ≤ r.2.2.1.2.1 := hg.1
      have g2 : h.1.2.2 + n.toNatClampNeg ≤ r.2.2.1.2.2 := hg.2
      have ec : (zmk h (101 + k) n.toNatClampNeg).1.2.1 - c0 = h.1.2.1 - c0 + 1 := by show h.1.2.1 + 1 - c0 = _; have := h0.1; omega
      have es : (zmk h (101 + k) n.toNatClampNeg).1.2.2 - n0 = h.1.2.2 - n0 + n.toNatClampNeg := by show h.1.2.2 + n.toNatClampNeg - n0 = _; have := h0.2; omega
      have hN9 : n.toNatClampNeg ≤ 1000000 := Nat.not_lt.mp fun q => hn (Or.inr q)
      refine W.anew C1 C2 C4 (C5 _ hl) (va_AO.use hAO) rfl hd rfl (fun q => hn (Or.inl q)) (by omega) (by have := h0.1; have := hroom.1; omega) (by have := h0.2; have := hroom.2; omega) fun cA kA comp f1 f2 f3 f4 => ?_
      generalize hH1 : H.push ({ cls := cA, slots := Array.replicate n.toNatClampNeg .null, vm := .none } : Cell) = H1
      have z1 : H1.size = H.size + 1 := by rw [← hH1, Array.size_push]
      have e1 : H1[H.size]? = some (arrV cA n.toNatClampNeg (fun _ => .null)) := by rw [← hH1, Array.getElem?_push_size, ← arrV_new]
      have o1 : ∀ q : Nat, q < H.size → H1[q]? = H[q]? := fun q hq => by rw [← hH1, Array.getElem?_push, if_neg (Nat.ne_of_lt hq)]
      have hnx : h.1.1 = H.size + 1 := hS.2.1.1
      have hcA : cA = D.2.2 k := by
        have h2 := (C6.2 k _ (ztys_at (by omega))).2
        rw [hty] at h2
        obtain ⟨_, _, _, _, _, h5⟩ := h2
        exact Option.some.inj (f1.symm.trans h5)
      subst hcA
      have hS' : zSt D base s H0 (zMl M) L (zmk h (101 + k) n.toNatClampNeg) ls H1 locs := by
        refine ⟨hS.1, hS.2.1.push z1 o1 (Or.inr (Or.inr (Or.inl (by omega)))) ?_, ⟨Nat.le_trans hS.2.2.1 (by omega), fun x k1 k2 => (o1 x (Nat.lt_of_lt_of_le k1 hS.2.2.1)).trans (hS.2.2.2.1 x k1 k2), hS.2.2.2.2⟩⟩
        have e2 : (zmk h (101 + k) n.toNatClampNeg).2.1 (H.size + 1) = (101 + k, n.toNatClampNeg) := by unfold zmk; rw [hnx]; exact va_up_self _ _ _
        have e3 : (zmk h (101 + k) n.toNatClampNeg).2.2.2 (H.size + 1) = fun _ => 0 := by unfold zmk; rw [hnx]; exact va_up_self _ _ _
        have ek : zK (zmk h (101 + k) n.toNatClampNeg) (H.size + 1) = 101 + k := by unfold zK; rw [e2]
        have en : zN (zmk h (101 + k) n.toNatClampNeg) (H.size + 1) = n.toNatClampNeg := by unfold zN; rw [e2]
        refine ⟨fun c' hc' hlt => by omega, fun t' ht' h4 => by omega, fun t' ht' h3 h4 => ?_, fun ht' => by omega⟩
        have : t' = k := by omega
        subst this
        rw [e1, en, e3, vp_cell_q]
        rfl
      have hW := hG ls H1 locs hS'
      rw [ec, es] at hW
      have hv : zval (.inr h.1.1) = .ref H.size := by rw [hnx]; rfl
      rw [List.map_cons, hv] at hW
      exact hW
  · cases hr
end ZREST
end
section
section ZMORE
variable {p : Program} {l : Launch} {e : Env} {R : Room} {s : State} {m : MethodId} {args : Array Value} {below : List Frame} {meth : Method} {c : Code} {Q : State → Prop} {D : zD3} {base : Nat} {H0 : Heap} {M : zRec} {c0 n0 : Nat}
theorem zs_dup (C : zCx p s m args meth c R D base H0 M) {L : zL} {pc : Nat} {h : zM} {κ : List zV → Option zR} {st : List zV} {r : zR} (hd : decode (zMb M) pc = .ok (.dup, 1))
    (hr : zo_dup κ st = some r) (hkk : ∀ st', κ st' = some r → zG p l e R s m args below meth c Q D base H0 M c0 n0 (pc + 1) L st' h) : zG p l e R s m args below meth c Q D base H0 M c0 n0 pc L st h := by
  intro ls H locs hS
  unfold zo_dup at hr
  split at hr
  · exact lv_dup C.1 C.2.1 hd (zval_cat _) (hkk _ hr ls H locs hS)
  · cases hr
theorem zs_dup2 (C : zCx p s m args meth c R D base H0 M) {L : zL} {pc : Nat} {h : zM} {κ : List zV → Option zR} {st : List zV} {r : zR} (hd : decode (zMb M) pc = .ok (.dup2, 1))
    (hr : zo_dup2 κ st = some r) (hkk : ∀ st', κ st' = some r → zG p l e R s m args below meth c Q D base H0 M c0 n0 (pc + 1) L st' h) : zG p l e R s m args below meth c Q D base H0 M c0 n0 pc L st h := by
  intro ls H locs hS
  unfold zo_dup2 at hr
  split at hr
  · exact lv_dup2_11 C.1 C.2.1 hd (zval_cat _) (zval_cat _) (hkk _ hr ls H locs hS)
  · cases hr
theorem zs_pop (C : zCx p s m args meth c R D base H0 M) {L : zL} {pc : Nat} {h : zM} {κ : List zV → Option zR} {st : List zV} {r : zR} (hd : decode (zMb M) pc = .ok (.pop, 1))
    (hr : zo_pop κ st = some r) (hkk : ∀ st', κ st' = some r → zG p l e R s m args below meth c Q D base H0 M c0 n0 (pc + 1) L st' h) : zG p l e R s m args below meth c Q D base H0 M c0 n0 pc L st h := by
  intro ls H locs hS
  unfold zo_pop at hr
  split at hr
  · exact lv_pop C.1 C.2.1 hd (zval_cat _) (hkk _ hr ls H locs hS)
  · cases hr
theorem zs_obj (C : zCx p s m args meth c R D base H0 M) {L : zL} {pc idx : Nat} {h : zM} {κ : List zV → Option zR} {st : List zV} {r : zR} (hd : decode (zMb M) pc = .ok (.invokespecial idx, 3))
    (hl : Cond.methodLink (zMo M) idx Lib.objectInit ∈ zgt) (hin : Cond.instanceMethod Lib.objectInit ∈ zgt) (hco : Cond.code Lib.objectInit ⟨#[0xb1]⟩ 1 none ∈ zgt) (hf : 1 ≤ zMf M) (hn : 20 ≤ zMn M)
    (hr : zo_obj h κ st = some r) (hkk : ∀ st', κ st' = some r → zG p l e R s m args below meth c Q D base H0 M c0 n0 (pc + 3) L st' h) : zG p l e R s m args below meth c Q D base H0 M c0 n0 pc L st h := by
  intro ls H locs hS
  obtain ⟨C1, C2, C3, C4, C5, C6, C7, C8, C9, C10, C11⟩ := C
  unfold zo_obj at hr
  split at hr
  · rename_i a rest
    split at hr
    · rename_i hsh
      split at hr
      · cases hr
      · rename_i ha
        rcases a with _ | a
        · exact absurd rfl ha
        · have hsm : ((rest.map zval).map fun v => v.category).sum ≤ 8 := by rw [zcat_sum]; exact zshort_len hsh
          exact W.objInit C1 C2 C4 (C5 _ hl) (C5 _ hin) (C5 _ hco) rfl (by rw [C3]; exact hS.1.2.1) rfl hd (Nat.le_trans hf C9) (by show 2 * 0 + _ + 12 ≤ _; omega) (hkk _ hr ls H locs hS)
    · cases hr
  · cases hr
theorem zs_copy (C : zCx p s m args meth c R D base H0 M) {L : zL} {pc idx : Nat} {h : zM} {κ : List zV → zM → Option zR} {st : List zV} {r : zR} (hd : decode (zMb M) pc = .ok (.invokestatic idx, 3))
    (hlink : Cond.methodLink (zMo M) idx arraycopyName ∈ zgt) (hnat : Cond.native arraycopyName ∈ zgt) (hstat : Cond.static arraycopyName ∈ zgt) (hini : Cond.initialized "java/lang/System" ∈ zgt) (hf : 1 ≤ zMf M) (hn9 : 4 + (nativeFrameWords "java/lang/System" "arraycopy" 5 + 11) ≤ zMn M)
    (hr : zo_copy h κ st = some r) (hkk : ∀ st' h', zge h h' → κ st' h' = some r → zG p l e R s m args below meth c Q D base H0 M c0 n0 (pc + 3) L st' h') : zG p l e R s m args below meth c Q D base H0 M c0 n0 pc L st h := by
  intro ls H locs hS
  obtain ⟨C1, C2, C3, C4, C5, C6, C7, C8, C9, C10, C11⟩ := C
  unfold zo_copy at hr
  split at hr
  · rename_i n dp a sp a0 rest
    split at hr
    · rename_i hsh
      obtain ⟨h', hx, hr⟩ := Option.bind_eq_some_iff.mp hr
      unfold zcp at hx
      split at hx
      · rename_i ha
        cases hx
        obtain ⟨⟨k0, k1⟩, ⟨h1, h2, h3⟩, h4, h5⟩ := ha
        have hG := hkk _ (h.1, h.2.1, va_up h.2.2.1 a (va_cpy (h.2.2.1 a0) (h.2.2.1 a) sp.toNatClampNeg dp.toNatClampNeg n.toNatClampNeg), h.2.2.2) ⟨Nat.le_refl _, Nat.le_refl _⟩ hr
        clear hkk hr
        obtain ⟨b0, rfl, -⟩ := zarr (t := 0) hS.2.1 k0 (by omega)
        obtain ⟨b, rfl, hb⟩ := zarr (t := 0) hS.2.1 k1 (by omega)
        have nn : ∀ z : Int32, ¬ z < 0 → z.toInt = (z.toNatClampNeg : Int) := by
          intro z hz
          have hz0 : (0 : Int) ≤ z.toInt := by
            have := Int32.not_lt.mp hz
            simpa using Int32.le_iff_toInt_le.mp this
          show z.toInt = ((z.toInt.toNat : Nat) : Int)
          omega
        generalize hf0 : h.2.2.1 (b0 + 1) = f at *
        generalize hg0 : h.2.2.1 (b + 1) = g at *
        generalize hn0 : zN h (b0 + 1) = N0 at *
        generalize hn1 : zN h (b + 1) = N1 at *
        have hc0 : H[b0]? = some (vp_cell (D.2.2 0) (N0, .inl f)) := by have := (hS.2.1.2.2.1 b0).2.1 0 k0 (by omega); rw [hf0, hn0] at this; exact this
        have hc1 : H[b]? = some (vp_cell (D.2.2 0) (N1, .inl g)) := by have := (hS.2.1.2.2.1 b).2.1 0 k1 (by omega); rw [hg0, hn1] at this; exact this
        have hT0 := (C6.2 0 _ (ztys_at (by omega))).1
        intro T hT X
        obtain ⟨-, q0, hk0, cm0, hkk0⟩ := hT0 N0 (fun j => .int (f j))
        obtain ⟨-, q1, hk1, cm1, hkk1⟩ := hT0 N1 (fun j => .int (g j))
        obtain ⟨vm', X', step⟩ := X.arraycopy C1 C4 (C5 _ hlink) (C5 _ hnat) (C5 _ hstat) (C5 _ hini) (src := b0) (dst := b) (cs := vp_cell (D.2.2 0) (N0, .inl f)) (cd := vp_cell (D.2.2 0) (N1, .inl g)) (srcPos := sp) (destPos := dp) (n := n) (by rw [hT]; exact hc0) (by rw [hT]; exact hc1)
          (fun _ h => by cases h) (fun _ h => by cases h) (fun h => by cases h) (fun h => by cases h) hk0 hk1 hkk0 hkk1 (by simp [refKind, zaty]) h1 h2 h3
          (by rw [nn sp h1, nn n h3]; show ¬ _ > ((arrV (D.2.2 0) N0 (fun j => .int (f j))).slots.size : Int); rw [arrV_size]; omega)
          (by rw [nn dp h2, nn n h3]; show ¬ _ > ((arrV (D.2.2 0) N1 (fun j => .int (g j))).slots.size : Int); rw [arrV_size]; omega)
          (fun vm₁ _ i hi => by
            have e : (vp_cell (D.2.2 0) (N0, .inl f)).slots.getD (sp.toNatClampNeg + i) .null = .int (f (sp.toNatClampNeg + i)) := by
              show (arrV (D.2.2 0) N0 (fun j => .int (f j))).slots.getD _ _ = _
              rw [Array.getD_eq_getD_getElem?, arrV_read _ _ (by omega)]
              rfl
            refine ⟨?_, ?_⟩
            · rw [e]
              rfl
            · rw [e]
              exact trivial)
          (g := F0 m pc ls (.int n :: .int dp :: .ref b :: .int sp :: .ref b0 :: rest.map zval)) rfl (by rw [C3]; exact hS.1.2.1) (rest := rest.map zval) rfl (by rw [C2]; exact hd) (Nat.le_trans hf C9) (by
            show 2 * 0 + ((rest.map zval).map fun v => v.category).sum + _ ≤ _
            rw [zcat_sum]
            have := zshort_len hsh
            omega)
        have e1 : copied (vp_cell (D.2.2 0) (N0, .inl f)) (vp_cell (D.2.2 0) (N1, .inl g)) sp dp n = vp_cell (D.2.2 0) (N1, .inl (va_cpy f g sp.toNatClampNeg dp.toNatClampNeg n.toNatClampNeg)) := va_copied (fun z => .int z) (D.2.2 0) (D.2.2 0) f g h4
        rw [e1] at X' step
        have hl : b < H.size := (Array.getElem?_eq_some_iff.mp hc1).1
        have hheap : ((T.setVm vm').setCell b (vp_cell (D.2.2 0) (N1, .inl (va_cpy f g sp.toNatClampNeg dp.toNatClampNeg n.toNatClampNeg)))).heap = H.setIfInBounds b (vp_cell (D.2.2 0) (N1, .inl (va_cpy f g sp.toNatClampNeg dp.toNatClampNeg n.toNatClampNeg))) := by rw [← hT]; rfl
        generalize hH1 : H.setIfInBounds b (vp_cell (D.2.2 0) (N1, .inl (va_cpy f g sp.toNatClampNeg dp.toNatClampNeg n.toNatClampNeg))) = H1 at hheap
        have oq : ∀ q : Nat, q ≠ b → H1[q]? = H[q]? := fun q hq => by rw [← hH1]; simp [Array.getElem?_setIfInBounds, Ne.symm hq]
        have eb : H1[b]? = some (vp_cell (D.2.2 0) (N1, .inl (va_cpy f g sp.toNatClampNeg dp.toNatClampNeg n.toNatClampNeg))) := by rw [← hH1]; simp [Array.getElem?_setIfInBounds, hl]
        have z1 : H1.size = H.size := by rw [← hH1]; simp
        have hS1 : zRel D base s (h.1, h.2.1, va_up h.2.2.1 (b + 1) (va_cpy f g sp.toNatClampNeg dp.toNatClampNeg n.toNatClampNeg), h.2.2.2) H1 := by
          refine hS.2.1.set z1 oq rfl rfl (fun q hq => va_up_ne _ _ hq) (fun _ _ => rfl) ?_
          refine ⟨fun c' hc' hlt => ?_, fun t' ht' h3 => ?_, fun t' ht' h3 h4 => ?_, fun ht' => ?_⟩
          · have : zK h (b + 1) = c' + 1 := hc'
            omega
          · have : zK h (b + 1) = 101 + t' := ht'
            have : t' = 0 := by omega
            subst this
            rw [eb]
            show _ = some (vp_cell _ (zN h (b + 1), .inl (va_up h.2.2.1 (b + 1) _ (b + 1))))
            rw [va_up_self, hn1]
          · have : zK h (b + 1) = 101 + t' := ht'
            omega
          · have : zK h (b + 1) = 200 := ht'
            omega
        have hS2 : ∀ LL : List Loc, (∀ q ∈ LL, base ≤ q.base) → va_S (fun q => base ≤ q) H0 H1 (locs ++ LL) := by
          intro LL hLL
          have hS3 := hS.2.2
          refine ⟨by rw [z1]; exact hS3.1, fun q g1 g2 => ?_, fun q hq => ?_⟩
          · rw [oq q (fun e => g2 (by rw [e]; exact hb))]
            exact hS3.2.1 q g1 g2
          · rcases List.mem_append.mp hq with h9 | h9
            · exact hS3.2.2 q h9
            · exact hLL q h9
        obtain ⟨t, a1, b1⟩ := hG ls H1 _ ⟨hS.1, hS1, hS2 _ (fun q hq => by obtain ⟨z, -, hz⟩ := List.mem_map.mp hq; rw [← hz]; exact hb)⟩ _ hheap X'
        exact ⟨t, step t a1, b1⟩
      · cases hx
    · cases hr
  · cases hr
theorem zo_table_spec {κ : Nat → Option zR} {x : Int32} {d : Nat} {r : zR} : ∀ (ts : List Nat) (k : Nat), k + ts.length < 1000 → zo_table κ x d ts (nI k) = some r → (∃ (j t : Nat), ts[j]? = some t ∧ x = nI (k + j) ∧ κ t = some r) ∨ ((∀ j, j < ts.length → x ≠ nI (k + j)) ∧ κ d = some r)
  | [], k, _, h => Or.inr ⟨fun j hj => by simp at hj, h⟩
  | t :: ts, k, hk, h => by
    simp only [zo_table] at h
    split at h
    · rename_i hx
      exact Or.inl ⟨0, t, rfl, hx, h⟩
    · rename_i hx
      rw [show nI k + 1 = nI (k + 1) from nI_1 k] at h
      rcases zo_table_spec ts (k + 1) (by simp at hk; omega) h with ⟨j, t', h1, h2, h3⟩ | ⟨h1, h2⟩
      · exact Or.inl ⟨j + 1, t', h1, by rw [h2]; congr 1; omega, h3⟩
      · refine Or.inr ⟨fun j hj => ?_, h2⟩
        rcases j with _ | j
        · exact hx
        · have := h1 j (by simpa using hj)
          rw [show k + (j + 1) = k + 1 + j by omega]
          exact this
theorem zs_table (C : zCx p s m args meth c R D base H0 M) {L : zL} {pc len : Nat} {d hi : Int} {offs : Array Int} {x : Int32} {h : zM} {κ : Nat → Option zR} {rest : List zV} {r : zR} (hd : decode (zMb M) pc = .ok (.tableswitch d 0 hi offs, len))
    (hsz : hi + 1 = (offs.size : Int)) (hs9 : offs.size < 900) (hdn : 0 ≤ (pc : Int) + d) (hon : ∀ o ∈ offs.toList, 0 ≤ (pc : Int) + o)
    (hr : zo_table κ x ((pc : Int) + d).toNat (offs.toList.map fun o => ((pc : Int) + o).toNat) 0 = some r) (hkk : ∀ t, κ t = some r → zG p l e R s m args below meth c Q D base H0 M c0 n0 t L rest h) : zG p l e R s m args below meth c Q D base H0 M c0 n0 pc L (.inl x :: rest) h := by
  intro ls H locs hS
  rcases zo_table_spec _ 0 (by simp; omega) (show zo_table κ x _ _ (nI 0) = some r from hr) with ⟨j, t, h1, h2, h3⟩ | ⟨h1, h2⟩
  · rw [List.getElem?_map, Option.map_eq_some_iff] at h1
    obtain ⟨o, ho, ht⟩ := h1
    rw [Nat.zero_add] at h2
    have hj : j < offs.size := by have := (List.getElem?_eq_some_iff.mp ho).1; simpa using this
    have hx : x.toInt = (j : Int) := by rw [h2]; exact nI_toInt (by omega)
    have hop := hon o (List.mem_of_getElem? ho)
    refine lv_tableIn (tgt := t) (off := o) C.1 C.2.1 hd (by omega) (by omega) ?_ (by omega) (hkk t h3 ls H locs hS)
    rw [hx, ← Array.getElem?_toList]
    rw [show ((j : Int) - 0).toNat = j by omega]
    exact ho
  · refine lv_tableOut (tgt := ((pc : Int) + d).toNat) C.1 C.2.1 hd ?_ (by omega) (hkk _ h2 ls H locs hS)
    rcases Classical.em (x.toInt < 0 ∨ hi < x.toInt) with q | q
    · exact q
    · exfalso
      have hq : ∃ j : Nat, x.toInt = (j : Int) := ⟨x.toInt.toNat, by omega⟩
      obtain ⟨j, hj⟩ := hq
      have hj9 : j < offs.size := by omega
      refine h1 j (by simpa using hj9) ?_
      apply Int32.toInt_inj.mp
      rw [Nat.zero_add, nI_toInt (by omega), hj]
end ZMORE
end
section
/-! What a program checks of a record, and the step. -/
def zat (q : Nat) (w : Jvm.Cond) : Bool := match znth lw_tbl q with
  | some v => decide (v = w)
  | none => false
def zatN (q : Nat) (own : String) (k : Nat) (y : MethodName) : Bool := match znth lw_tbl q with
  | some (.methodLinkNest a i x _) => decide (a = own ∧ i = k ∧ x = y)
  | _ => false
def zil (i : ClassFile.Instr) : Nat := match i with
  | .iload _ => 2
  | .aload _ => 2
  | .istore _ => 2
  | .astore _ => 2
  | .iinc _ _ => 3
  | .bipush _ => 2
  | .sipush _ => 3
  | .ldc _ => 2
  | .ldc_w _ => 3
  | .ifCond _ _ => 3
  | .if_icmp _ _ => 3
  | .ifnull _ => 3
  | .ifnonnull _ => 3
  | .goto _ => 3
  | .getfield _ => 3
  | .putfield _ => 3
  | .new _ => 3
  | .newarray _ => 2
  | .anewarray _ => 3
  | .invokestatic _ => 3
  | .invokevirtual _ => 3
  | .invokespecial _ => 3
  | _ => 1
def zcal (M J : zRec) (na : Nat) : Bool := decide ((zMy J).cls ≠ "java/lang/invoke/MethodHandle" ∧ (zMy J).cls ≠ "java/lang/invoke/VarHandle" ∧ (parseMethodDescriptor (zMy J).desc).map (fun d => d.parameters.length) = some na) && decide (zMf J + 1 ≤ zMf M ∧ 8 + (zMl J + 11) + zMn J ≤ zMn M)
def zisr (t : FieldType) : Bool := match t with
  | .object _ => true
  | .array _ => true
  | _ => false
def zdec (b : ByteArray) (pc : Nat) (i : ClassFile.Instr) : Bool := decide (decode b pc = .ok (i, zil i))
theorem zdec_ok {b : ByteArray} {pc : Nat} {i : ClassFile.Instr} (h : zdec b pc i = true) : decode b pc = .ok (i, zil i) := of_decide_eq_true h
/-- one entry of a record; q1, q2, q3: places of words -/
def zchk (recs : List zRec) (M : zRec) (pc : Nat) (E : zE) (q1 q2 q3 : Nat) : Bool := match E with
  | (.tableswitch d lo hi offs, _, _, _, _) => (match decode (zMb M) pc with
      | .ok (i, _) => decide (i = .tableswitch d lo hi offs)
      | _ => false) && decide (hi + 1 = (offs.size : Int)) && decide (offs.size < 900) && decide (0 ≤ (pc : Int) + d) && offs.toList.all (fun o => decide (0 ≤ (pc : Int) + o)) && decide (lo = 0)
  | (i, a1, a2, a3, a4) => zdec (zMb M) pc i && match i with
    | .ifCond _ o => decide ((pc : Int) + o = (a1 : Int))
    | .if_icmp _ o => decide ((pc : Int) + o = (a1 : Int))
    | .ifnull o => decide ((pc : Int) + o = (a1 : Int))
    | .ifnonnull o => decide ((pc : Int) + o = (a1 : Int))
    | .goto o => decide ((pc : Int) + o = (a1 : Int))
    | .ldc k => zat q1 (.constant (zMo M) k (Int32.ofNat a1))
    | .ldc_w k => zat q1 (.constant (zMo M) k (Int32.ofNat a1))
    | .getfield k => match zcls[a1]? with
      | some r => decide (a2 < r.2.2) && zat q1 (.fieldLink (zMo M) k r.1 (r.2.1 a2).2.1 (r.2.1 a2).2.2.1) && decide ((r.2.1 a2).1 = r.1) && decide (zfk (ztyc a1 a2) = a3)
      | none => false
    | .putfield k => match zcls[a1]? with
      | some r => decide (a2 < r.2.2) && zat q1 (.fieldLink (zMo M) k r.1 (r.2.1 a2).2.1 (r.2.1 a2).2.2.1) && decide ((r.2.1 a2).1 = r.1) && decide (zfk (ztyc a1 a2) = a3) && (decide ((r.2.1 a2).2.2.2 = false) || decide ((zMy M).name = "<init>" ∧ (r.2.1 a2).1 = zMo M)) && (decide (a3 ≠ 1) || zisr (ztyc a1 a2))
      | none => false
    | .new k => match zcls[a1]? with
      | some r => decide (r.2.2 = a2) && zat q1 (.classLink (zMo M) k r.1) && zat q2 (.instantiable r.1 a2) && zat q3 (.initialized r.1)
      | none => false
    | .newarray t => (decide (t = .int) || decide (t = .byte) || decide (t = .boolean)) && zat q1 (.arrayClass (newarray.typeOf t))
    | .anewarray k => decide (104 ≤ a1 ∧ a1 < 108) && match zaty (a1 - 101) with
      | .object C => zat q1 (.classLink (zMo M) k C)
      | _ => false
    | .ireturn => match a1 with
      | 0 => decide (zMr M = some .int)
      | _ => decide (zMr M = some .boolean)
    | .areturn => match zMr M with
      | some t => zisr t
      | none => false
    | .return_ => decide (zMr M = none)
    | .invokestatic k => match a4 with
      | 0 => match znth recs a1 with
        | some J => zcal M J a2 && (zat q1 (.methodLink (zMo M) k (zMy J)) || zatN q1 (zMo M) k (zMy J)) && zat q2 (.static (zMy J)) && decide (a3 = zrk J)
        | none => false
      | _ => zat q1 (.methodLink (zMo M) k arraycopyName) && zat q2 (.native arraycopyName) && zat q3 (.static arraycopyName) && decide (1 ≤ zMf M ∧ 4 + (nativeFrameWords "java/lang/System" "arraycopy" 5 + 11) ≤ zMn M)
    | .invokevirtual k => match a4, znth recs a1 with
      | rc + 1, some J => match zcls[rc]? with
        | some r => zcal M J a2 && zat q1 (.methodLink (zMo M) k (zMy J)) && zat q2 (.instanceMethod (zMy J)) && zat q3 (.selects r.1 (zMy J) (zMy J)) && decide (a3 = zrk J)
        | none => false
      | _, _ => false
    | .invokespecial k => match a4 with
      | 0 => zat q1 (.methodLink (zMo M) k Lib.objectInit) && zat q2 (.instanceMethod Lib.objectInit) && decide (1 ≤ zMf M ∧ 20 ≤ zMn M)
      | rc + 1 => match znth recs a1 with
        | some J => zcal M J a2 && zat q1 (.methodLink (zMo M) k (zMy J)) && zat q2 (.instanceMethod (zMy J)) && decide ((zMy J).name = "<init>" ∧ zMr J = none ∧ rc < 13)
        | none => false
    | _ => true
theorem zat_mem {q : Nat} {w : Jvm.Cond} (h : zat q w = true) : w ∈ lw_tbl := by
  unfold zat at h
  split at h
  · rename_i v hv
    have : v = w := of_decide_eq_true h
    subst this
    clear h
    have key : ∀ (l : List Jvm.Cond) (q : Nat), znth l q = some v → v ∈ l := by
      intro l
      induction l with
      | nil => intro q h; simp [znth] at h
      | cons a l ih =>
        intro q h
        cases q with
        | zero => simp [znth] at h; subst h; exact List.mem_cons_self
        | succ q => exact List.mem_cons_of_mem _ (ih q h)
    exact key _ _ hv
  · cases h
theorem zatN_mem {q : Nat} {own : String} {k : Nat} {y : MethodName} (h : zatN q own k y = true) : ∃ host, Jvm.Cond.methodLinkNest own k y host ∈ lw_tbl := by
  unfold zatN at h
  split at h
  · rename_i a i x b hv
    obtain ⟨h1, h2, h3⟩ := of_decide_eq_true h
    subst h1; subst h2; subst h3
    refine ⟨b, zat_mem (q := q) ?_⟩
    unfold zat
    rw [hv]
    simp
  · cases h
theorem zg_at {q : Nat} {w : Jvm.Cond} (h : zat q w = true) (hg : goodWord w = true) : w ∈ zgt := zg_of (zat_mem h) hg
section ZSTEP
variable {p : Program} {l : Launch} {e : Env} {R : Room} {s : State} {m : MethodId} {args : Array Value} {below : List Frame} {meth : Method} {c : Code} {Q : State → Prop} {D : zD3} {base : Nat} {H0 : Heap} {M : zRec} {c0 n0 : Nat}
set_option maxHeartbeats 4000000 in
set_option maxRecDepth 20000 in
theorem zone_sim (C : zCx p s m args meth c R D base H0 M) {recs : List zRec} {f : zF3} {κ : zK4} {pc : Nat} {L : zL} {st : List zV} {h : zM} {r : zR}
    (hchk : ∀ pc E, znth (zMp M) pc = some (some E) → ∃ q1 q2 q3, zchk recs M pc E q1 q2 q3 = true)
    (hsys : Jvm.Cond.initialized "java/lang/System" ∈ zgt ∧ Jvm.Cond.code Lib.objectInit ⟨#[0xb1]⟩ 1 none ∈ zgt)
    (hrec : ∀ j J, znth recs j = some J → Jvm.Cond.code (zMy J) (zMb J) (zMl J) (zMr J) ∈ zgt ∧ Jvm.Cond.initialized (zMy J).cls ∈ zgt)
    (hM : ∀ j J, znth recs j = some J → ∀ as u, f j as h = some u → zMet l D base J as h u ∧ zge h u.2.2)
    (h0 : c0 ≤ h.1.2.1 ∧ n0 ≤ h.1.2.2) (hroom : r.2.2.1.2.1 - c0 ≤ R.cells ∧ r.2.2.1.2.2 - n0 ≤ R.slots)
    (hret : ∀ (x : Int32) (pc : Nat) (L : zL), decode (zMb M) pc = .ok (.ireturn, 1) → (zMr M = some .int ∨ (zMr M = some .boolean ∧ (x = 0 ∨ x = 1))) → r = (x, 0, h) → zG p l e R s m args below meth c Q D base H0 M c0 n0 pc L [.inl x] h)
    (haret : ∀ (x : Nat) (pc : Nat) (L : zL) (t : FieldType), decode (zMb M) pc = .ok (.areturn, 1) → zMr M = some t → zisr t = true → r = (0, x, h) → zG p l e R s m args below meth c Q D base H0 M c0 n0 pc L [.inr x] h)
    (hvret : ∀ (pc : Nat) (L : zL), decode (zMb M) pc = .ok (.return_, 1) → zMr M = none → r = (0, 0, h) → zG p l e R s m args below meth c Q D base H0 M c0 n0 pc L [] h)
    (hge : ∀ pc' L' st' h', κ pc' L' st' h' = some r → zge h' r.2.2)
    (hr : zone f (zMp M) κ pc L st h = some r) (hkk : ∀ pc' L' st' h', zge h h' → κ pc' L' st' h' = some r → zG p l e R s m args below meth c Q D base H0 M c0 n0 pc' L' st' h') : zG p l e R s m args below meth c Q D base H0 M c0 n0 pc L st h := by
  unfold zone at hr
  split at hr
  · rename_i i a1 a2 a3 a4 hE
    obtain ⟨q1, q2, q3, hck⟩ := hchk _ _ hE
    have hx := C.1
    have hb := C.2.1
    have hown := C.2.2.2.1
    have hts := C.2.2.2.2.1
    cases i <;> (try dsimp only at hr) <;> try (cases hr; done)
    case iload_n k =>
      have hd : decode (zMb M) pc = .ok (.iload_n k, 1) := zdec_ok (by simpa [zchk] using hck)
      exact zs_load (fun ls H locs x rest hl => lv_iload_n hx hb hd rfl hl) hr (fun st' hs => hkk _ _ _ _ zge.rf hs)
    case iload k =>
      have hd : decode (zMb M) pc = .ok (.iload k, 2) := zdec_ok (by simpa [zchk] using hck)
      exact zs_load (fun ls H locs x rest hl => lv_iload hx hb hd hl) hr (fun st' hs => hkk _ _ _ _ zge.rf hs)
    case aload_n k =>
      have hd : decode (zMb M) pc = .ok (.aload_n k, 1) := zdec_ok (by simpa [zchk] using hck)
      exact zs_aload (fun ls H locs x rest hl => lv_aload_n hx hb hd rfl hl) (fun ls H locs rest hl => lv_aload_nN hx hb hd rfl hl) hr (fun st' hs => hkk _ _ _ _ zge.rf hs)
    case aload k =>
      have hd : decode (zMb M) pc = .ok (.aload k, 2) := zdec_ok (by simpa [zchk] using hck)
      exact zs_aload (fun ls H locs x rest hl => lv_aload hx hb hd hl) (fun ls H locs rest hl => lv_aloadN hx hb hd hl) hr (fun st' hs => hkk _ _ _ _ zge.rf hs)
    case istore_n k =>
      have hd : decode (zMb M) pc = .ok (.istore_n k, 1) := zdec_ok (by simpa [zchk] using hck)
      exact zs_store (fun ls H locs x rest lv h1 h2 h3 => lv_istore_n hx hb hd rfl h1 h2 rfl h3) hr (fun L' st' hs => hkk _ _ _ _ zge.rf hs)
    case istore k =>
      have hd : decode (zMb M) pc = .ok (.istore k, 2) := zdec_ok (by simpa [zchk] using hck)
      exact zs_store (fun ls H locs x rest lv h1 h2 h3 => lv_istore hx hb hd h1 h2 rfl h3) hr (fun L' st' hs => hkk _ _ _ _ zge.rf hs)
    case astore_n k =>
      have hd : decode (zMb M) pc = .ok (.astore_n k, 1) := zdec_ok (by simpa [zchk] using hck)
      exact zs_astore (fun ls H locs x rest lv h1 h2 h3 => lv_astore_n hx hb hd rfl h1 h2 rfl h3) (fun ls H locs rest lv h1 h2 h3 => lv_astore_nN hx hb hd rfl h1 h2 rfl h3) hr (fun L' st' hs => hkk _ _ _ _ zge.rf hs)
    case astore k =>
      have hd : decode (zMb M) pc = .ok (.astore k, 2) := zdec_ok (by simpa [zchk] using hck)
      exact zs_astore (fun ls H locs x rest lv h1 h2 h3 => lv_astore hx hb hd h1 h2 rfl h3) (fun ls H locs rest lv h1 h2 h3 => lv_astoreN hx hb hd h1 h2 rfl h3) hr (fun L' st' hs => hkk _ _ _ _ zge.rf hs)
    case iinc k d =>
      have hd : decode (zMb M) pc = .ok (.iinc k d, 3) := zdec_ok (by simpa [zchk] using hck)
      exact zs_iinc C hd hr (fun L' hs => hkk _ _ _ _ zge.rf hs)
    case iconst n =>
      have hd : decode (zMb M) pc = .ok (.iconst n, 1) := zdec_ok (by simpa [zchk] using hck)
      exact zs_push (fun ls H locs rest => lv_iconst hx hb hd rfl) (hkk _ _ _ _ zge.rf hr)
    case bipush n =>
      have hd : decode (zMb M) pc = .ok (.bipush n, 2) := zdec_ok (by simpa [zchk] using hck)
      exact zs_push (fun ls H locs rest => lv_bipush hx hb hd rfl) (hkk _ _ _ _ zge.rf hr)
    case sipush n =>
      have hd : decode (zMb M) pc = .ok (.sipush n, 3) := zdec_ok (by simpa [zchk] using hck)
      exact zs_push (fun ls H locs rest => lv_sipush hx hb hd rfl) (hkk _ _ _ _ zge.rf hr)
    case ldc k =>
      simp only [zchk, Bool.and_eq_true, decide_eq_true_eq] at hck
      exact zs_push (fun ls H locs rest => lv_ldc hx hb hown (hts _ (zg_at hck.2 rfl)) (zdec_ok hck.1)) (hkk _ _ _ _ zge.rf hr)
    case ldc_w k =>
      simp only [zchk, Bool.and_eq_true, decide_eq_true_eq] at hck
      exact zs_push (fun ls H locs rest => lv_ldcw hx hb hown (hts _ (zg_at hck.2 rfl)) (zdec_ok hck.1)) (hkk _ _ _ _ zge.rf hr)
    case aconst_null =>
      have hd : decode (zMb M) pc = .ok (.aconst_null, 1) := zdec_ok (by simpa [zchk] using hck)
      exact zs_push (fun ls H locs rest => lv_null hx hb hd) (hkk _ _ _ _ zge.rf hr)
    case iadd =>
      have hd : decode (zMb M) pc = .ok (.iadd, 1) := zdec_ok (by simpa [zchk] using hck)
      exact zs_bin (fun ls H locs x y rest => lv_iadd hx hb hd) hr (fun st' hs => hkk _ _ _ _ zge.rf hs)
    case isub =>
      have hd : decode (zMb M) pc = .ok (.isub, 1) := zdec_ok (by simpa [zchk] using hck)
      exact zs_bin (fun ls H locs x y rest => lv_isub hx hb hd) hr (fun st' hs => hkk _ _ _ _ zge.rf hs)
    case imul =>
      have hd : decode (zMb M) pc = .ok (.imul, 1) := zdec_ok (by simpa [zchk] using hck)
      exact zs_bin (fun ls H locs x y rest => lv_imul hx hb hd) hr (fun st' hs => hkk _ _ _ _ zge.rf hs)
    case iand =>
      have hd : decode (zMb M) pc = .ok (.iand, 1) := zdec_ok (by simpa [zchk] using hck)
      exact zs_bin (fun ls H locs x y rest => lv_iand hx hb hd) hr (fun st' hs => hkk _ _ _ _ zge.rf hs)
    case ior =>
      have hd : decode (zMb M) pc = .ok (.ior, 1) := zdec_ok (by simpa [zchk] using hck)
      exact zs_bin (fun ls H locs x y rest => lv_ior hx hb hd) hr (fun st' hs => hkk _ _ _ _ zge.rf hs)
    case ixor =>
      have hd : decode (zMb M) pc = .ok (.ixor, 1) := zdec_ok (by simpa [zchk] using hck)
      exact zs_bin (fun ls H locs x y rest => lv_ixor hx hb hd) hr (fun st' hs => hkk _ _ _ _ zge.rf hs)
    case ishl =>
      have hd : decode (zMb M) pc = .ok (.ishl, 1) := zdec_ok (by simpa [zchk] using hck)
      exact zs_bin (fun ls H locs x y rest => lv_ishl hx hb hd) hr (fun st' hs => hkk _ _ _ _ zge.rf hs)
    case ishr =>
      have hd : decode (zMb M) pc = .ok (.ishr, 1) := zdec_ok (by simpa [zchk] using hck)
      exact zs_bin (fun ls H locs x y rest => lv_ishr hx hb hd) hr (fun st' hs => hkk _ _ _ _ zge.rf hs)
    case iushr =>
      have hd : decode (zMb M) pc = .ok (.iushr, 1) := zdec_ok (by simpa [zchk] using hck)
      exact zs_bin (fun ls H locs x y rest => lv_iushr hx hb hd rfl) hr (fun st' hs => hkk _ _ _ _ zge.rf hs)
    case idiv =>
      have hd : decode (zMb M) pc = .ok (.idiv, 1) := zdec_ok (by simpa [zchk] using hck)
      exact zs_div (fun ls H locs x y rest hy => lv_idiv hx hb hd hy) hr (fun st' hs => hkk _ _ _ _ zge.rf hs)
    case irem =>
      have hd : decode (zMb M) pc = .ok (.irem, 1) := zdec_ok (by simpa [zchk] using hck)
      exact zs_div (fun ls H locs x y rest hy => lv_irem hx hb hd hy) hr (fun st' hs => hkk _ _ _ _ zge.rf hs)
    case i2b =>
      have hd : decode (zMb M) pc = .ok (.i2b, 1) := zdec_ok (by simpa [zchk] using hck)
      exact zs_un (fun ls H locs x rest => lv_i2b hx hb hd rfl) hr (fun st' hs => hkk _ _ _ _ zge.rf hs)
    case ifCond q o =>
      simp only [zchk, Bool.and_eq_true, decide_eq_true_eq] at hck
      exact zs_if C (zdec_ok hck.1) hck.2 hr (fun st' hs => hkk _ _ _ _ zge.rf hs) (fun st' hs => hkk _ _ _ _ zge.rf hs)
    case if_icmp q o =>
      simp only [zchk, Bool.and_eq_true, decide_eq_true_eq] at hck
      exact zs_icmp C (zdec_ok hck.1) hck.2 hr (fun st' hs => hkk _ _ _ _ zge.rf hs) (fun st' hs => hkk _ _ _ _ zge.rf hs)
    case ifnull o =>
      simp only [zchk, Bool.and_eq_true, decide_eq_true_eq] at hck
      exact zs_ifnull C (zdec_ok hck.1) hck.2 hr (fun st' hs => hkk _ _ _ _ zge.rf hs) (fun st' hs => hkk _ _ _ _ zge.rf hs)
    case ifnonnull o =>
      simp only [zchk, Bool.and_eq_true, decide_eq_true_eq] at hck
      exact zs_ifnonnull C (zdec_ok hck.1) hck.2 hr (fun st' hs => hkk _ _ _ _ zge.rf hs) (fun st' hs => hkk _ _ _ _ zge.rf hs)
    case goto o =>
      simp only [zchk, Bool.and_eq_true, decide_eq_true_eq] at hck
      exact fun ls H locs hS => lv_goto hx hb (zdec_ok hck.1) hck.2 (hkk _ _ _ _ zge.rf hr ls H locs hS)
    case tableswitch d lo hi offs =>
      unfold zo_sw at hr
      split at hr
      · rename_i x rest
        simp only [zchk, Bool.and_eq_true, decide_eq_true_eq, List.all_eq_true] at hck
        obtain ⟨⟨⟨⟨⟨g0, g1⟩, g2⟩, g3⟩, g4⟩, g5⟩ := hck
        split at g0
        · rename_i i len hde
          have : i = .tableswitch d lo hi offs := of_decide_eq_true g0
          subst this
          subst g5
          exact zs_table C hde g1 g2 g3 g4 hr (fun t ht => hkk _ _ _ _ zge.rf ht)
        · cases g0
      · cases hr
    case getfield k =>
      simp only [zchk, Bool.and_eq_true, decide_eq_true_eq] at hck
      obtain ⟨hd, hck⟩ := hck
      have hd := zdec_ok hd
      split at hck
      · rename_i cl hcl
        simp only [Bool.and_eq_true, decide_eq_true_eq] at hck
        obtain ⟨⟨⟨g1, g2⟩, g3⟩, g4⟩ := hck
        exact zs_get C hd hcl g1 (zg_at g2 rfl) g3 g4 hr (fun st' hs => hkk _ _ _ _ zge.rf hs)
      · cases hck
    case putfield k =>
      simp only [zchk, Bool.and_eq_true, decide_eq_true_eq] at hck
      obtain ⟨hd, hck⟩ := hck
      have hd := zdec_ok hd
      split at hck
      · rename_i cl hcl
        simp only [Bool.and_eq_true, Bool.or_eq_true, decide_eq_true_eq] at hck
        obtain ⟨⟨⟨⟨⟨g1, g2⟩, g3⟩, g4⟩, g5⟩, g6⟩ := hck
        refine zs_put C hd hcl g1 (zg_at g2 rfl) g3 g4 g5 (fun h1 => ?_) hr (fun st' h' hz hs => hkk _ _ _ _ hz hs)
        rcases g6 with g6 | g6
        · exact absurd h1 g6
        · unfold zisr at g6
          split at g6
          · rename_i n hn; exact Or.inl ⟨n, hn⟩
          · rename_i n hn; exact Or.inr ⟨n, hn⟩
          · cases g6
      · cases hck
    case iaload =>
      have hd : decode (zMb M) pc = .ok (.iaload, 1) := zdec_ok (by simpa [zchk] using hck)
      exact zs_iald C hd hr (fun st' hs => hkk _ _ _ _ zge.rf hs)
    case baload =>
      have hd : decode (zMb M) pc = .ok (.baload, 1) := zdec_ok (by simpa [zchk] using hck)
      exact zs_bald C hd hr (fun st' hs => hkk _ _ _ _ zge.rf hs)
    case aaload =>
      have hd : decode (zMb M) pc = .ok (.aaload, 1) := zdec_ok (by simpa [zchk] using hck)
      exact zs_aald C hd hr (fun st' hs => hkk _ _ _ _ zge.rf hs)
    case iastore =>
      have hd : decode (zMb M) pc = .ok (.iastore, 1) := zdec_ok (by simpa [zchk] using hck)
      exact zs_iast C hd hr (fun st' h' hz hs => hkk _ _ _ _ hz hs)
    case bastore =>
      have hd : decode (zMb M) pc = .ok (.bastore, 1) := zdec_ok (by simpa [zchk] using hck)
      exact zs_bast C hd hr (fun st' h' hz hs => hkk _ _ _ _ hz hs)
    case aastore =>
      have hd : decode (zMb M) pc = .ok (.aastore, 1) := zdec_ok (by simpa [zchk] using hck)
      exact zs_aast C hd hr (fun st' h' hz hs => hkk _ _ _ _ hz hs)
    case arraylength =>
      have hd : decode (zMb M) pc = .ok (.arraylength, 1) := zdec_ok (by simpa [zchk] using hck)
      exact zs_len C hd hr (fun st' hs => hkk _ _ _ _ zge.rf hs)
    case new k =>
      simp only [zchk, Bool.and_eq_true, decide_eq_true_eq] at hck
      obtain ⟨hd, hck⟩ := hck
      have hd := zdec_ok hd
      split at hck
      · rename_i cl hcl
        simp only [Bool.and_eq_true, decide_eq_true_eq] at hck
        obtain ⟨⟨⟨g1, g2⟩, g3⟩, g4⟩ := hck
        exact zs_new C hd hcl g1 (zg_at g2 rfl) (zg_at g3 rfl) (zg_at g4 rfl) h0 hroom (hge _ _ _ _ hr) (hkk _ _ _ _ ⟨Nat.le_succ _, Nat.le_add_right _ _⟩ hr)
      · cases hck
    case newarray t =>
      simp only [zchk, Bool.and_eq_true, Bool.or_eq_true, decide_eq_true_eq] at hck
      obtain ⟨hd, g1, g2⟩ := hck
      have hd := zdec_ok hd
      exact zs_newarr C hd (by rcases g1 with (q | q) | q <;> simp [q]) (zg_at g2 rfl) h0 hroom (fun st' h' hs => hge _ _ _ _ hs) hr (fun st' h' hz hs => hkk _ _ _ _ hz hs)
    case anewarray k =>
      simp only [zchk, Bool.and_eq_true, decide_eq_true_eq] at hck
      obtain ⟨hd, g1, g2⟩ := hck
      have hd := zdec_ok hd
      split at g2
      · rename_i CN hCN
        obtain ⟨t, rfl⟩ : ∃ t, a1 = 101 + t := ⟨a1 - 101, by omega⟩
        rw [show 101 + t - 101 = t by omega] at hCN
        exact zs_anew C hd (by omega) (by omega) hCN (zg_at g2 rfl) h0 hroom (fun st' h' hs => hge _ _ _ _ hs) hr (fun st' h' hz hs => hkk _ _ _ _ hz hs)
      · cases g2
    case dup =>
      have hd : decode (zMb M) pc = .ok (.dup, 1) := zdec_ok (by simpa [zchk] using hck)
      exact zs_dup C hd hr (fun st' hs => hkk _ _ _ _ zge.rf hs)
    case dup2 =>
      have hd : decode (zMb M) pc = .ok (.dup2, 1) := zdec_ok (by simpa [zchk] using hck)
      exact zs_dup2 C hd hr (fun st' hs => hkk _ _ _ _ zge.rf hs)
    case pop =>
      have hd : decode (zMb M) pc = .ok (.pop, 1) := zdec_ok (by simpa [zchk] using hck)
      exact zs_pop C hd hr (fun st' hs => hkk _ _ _ _ zge.rf hs)
    case ireturn =>
      simp only [zchk, Bool.and_eq_true, decide_eq_true_eq] at hck
      obtain ⟨hd, hck⟩ := hck
      have hd := zdec_ok hd
      unfold zo_iret at hr
      split at hr
      · rename_i x
        split at hr
        · exact hret x pc L hd (Or.inl (by simpa using hck)) (Option.some.inj hr).symm
        · rename_i hne
          split at hr
          · rename_i hx01
            refine hret x pc L hd (Or.inr ⟨?_, hx01⟩) (Option.some.inj hr).symm
            split at hck
            · exact absurd rfl hne
            · simpa using hck
          · cases hr
      · cases hr
    case areturn =>
      simp only [zchk, Bool.and_eq_true, decide_eq_true_eq] at hck
      obtain ⟨hd, hck⟩ := hck
      have hd := zdec_ok hd
      unfold zo_aret at hr
      split at hr
      · rename_i x
        split at hck
        · rename_i t ht
          exact haret x pc L t hd ht hck (Option.some.inj hr).symm
        · cases hck
      · cases hr
    case return_ =>
      simp only [zchk, Bool.and_eq_true, decide_eq_true_eq] at hck
      obtain ⟨hd, hck⟩ := hck
      have hd := zdec_ok hd
      unfold zo_vret at hr
      split at hr
      · exact hvret pc L hd hck (Option.some.inj hr).symm
      · cases hr
    case invokestatic k =>
      simp only [zchk, Bool.and_eq_true, decide_eq_true_eq] at hck
      obtain ⟨hd, hck⟩ := hck
      have hd := zdec_ok hd
      rcases a4 with _ | a4
      · have hr : zo_cs f a1 a2 a3 h (fun s g => κ (pc + 3) L s g) st = some r := hr
        have hck : (match znth recs a1 with
          | some J => zcal M J a2 && (zat q1 (.methodLink (zMo M) k (zMy J)) || zatN q1 (zMo M) k (zMy J)) && zat q2 (.static (zMy J)) && decide (a3 = zrk J)
          | none => false) = true := hck
        split at hck
        · rename_i J hJ
          simp only [zcal, Bool.and_eq_true, Bool.or_eq_true, decide_eq_true_eq] at hck
          obtain ⟨⟨⟨⟨g1, g2⟩, g3⟩, g4⟩, g5⟩ := hck
          refine zs_callS C hd ⟨(hrec _ _ hJ).1, (hrec _ _ hJ).2, g1⟩ ?_ (zg_at g4 rfl) g5 g2 (fun as u hu => hM _ _ hJ as u hu) h0 hroom (fun st' h' hs => hge _ _ _ _ hs) hr (fun st' h' hz hs => hkk _ _ _ _ hz hs)
          rcases g3 with q | q
          · exact Or.inl (zg_at q rfl)
          · exact Or.inr (zatN_mem q)
        · cases hck
      · have hr : zo_copy h (fun s g => κ (pc + 3) L s g) st = some r := hr
        have hck : (zat q1 (.methodLink (zMo M) k arraycopyName) && zat q2 (.native arraycopyName) && zat q3 (.static arraycopyName) && decide (1 ≤ zMf M ∧ 4 + (nativeFrameWords "java/lang/System" "arraycopy" 5 + 11) ≤ zMn M)) = true := hck
        simp only [Bool.and_eq_true, decide_eq_true_eq] at hck
        obtain ⟨⟨⟨g1, g2⟩, g3⟩, g4, g5⟩ := hck
        exact zs_copy C hd (zg_at g1 rfl) (zg_at g2 rfl) (zg_at g3 rfl) hsys.1 g4 g5 hr (fun st' h' hz hs => hkk _ _ _ _ hz hs)
    case invokevirtual k =>
      simp only [zchk, Bool.and_eq_true, decide_eq_true_eq] at hck
      obtain ⟨hd, hck⟩ := hck
      have hd := zdec_ok hd
      split at hck
      · rename_i rc J hJ
        split at hck
        · rename_i cl hcl
          simp only [zcal, Bool.and_eq_true, Bool.or_eq_true, decide_eq_true_eq] at hck
          obtain ⟨⟨⟨⟨⟨g1, g2⟩, g3⟩, g4⟩, g5⟩, g6⟩ := hck
          exact zs_callV C hd ⟨(hrec _ _ hJ).1, (hrec _ _ hJ).2, g1⟩ (zg_at g3 rfl) (zg_at g4 rfl) (zg_at g5 rfl) g6 hcl g2 (fun as u hu => hM _ _ hJ as u hu) h0 hroom (fun st' h' hs => hge _ _ _ _ hs) hr (fun st' h' hz hs => hkk _ _ _ _ hz hs)
        · cases hck
      · cases hck
    case invokespecial k =>
      simp only [zchk, Bool.and_eq_true, decide_eq_true_eq] at hck
      obtain ⟨hd, hck⟩ := hck
      have hd := zdec_ok hd
      split at hr
      · simp only [Bool.and_eq_true, decide_eq_true_eq] at hck
        obtain ⟨⟨g1, g2⟩, g3, g4⟩ := hck
        exact zs_obj C hd (zg_at g1 rfl) (zg_at g2 rfl) hsys.2 g3 g4 hr (fun st' hs => hkk _ _ _ _ zge.rf hs)
      · rename_i hne
        rcases a4 with _ | rc
        · exact absurd rfl hne
        · dsimp only at hck
          split at hck
          · rename_i J hJ
            simp only [zcal, Bool.and_eq_true, Bool.or_eq_true, decide_eq_true_eq] at hck
            obtain ⟨⟨⟨⟨g1, g2⟩, g3⟩, g4⟩, g5, g6, g7⟩ := hck
            exact zs_callI C hd ⟨(hrec _ _ hJ).1, (hrec _ _ hJ).2, g1⟩ (zg_at g3 rfl) (zg_at g4 rfl) g5 g6 g7 g2 (fun as u hu => hM _ _ hJ as u hu) h0 hroom (fun st' h' hs => hge _ _ _ _ hs) hr (fun st' h' hz hs => hkk _ _ _ _ hz hs)
          · cases hck
  · cases hr
end ZSTEP
end
section
/-! A step goes on at one place, whatever comes behind; runs. -/
def zD1 (h : zM) (F : zK4 → Option zR) : Prop := (∃ o : Option zR, (∀ r, o = some r → zge h r.2.2) ∧ ∀ κ, F κ = o) ∨ ∃ (pc : Nat) (L : zL) (st : List zV) (h' : zM), zge h h' ∧ ∀ κ, F κ = κ pc L st h'
theorem zd_none {h : zM} : zD1 h (fun _ => none) := Or.inl ⟨none, (fun r hr => by cases hr), fun _ => rfl⟩
theorem zd_some {h : zM} {x : Int32} {q : Nat} : zD1 h (fun _ => some (x, q, h)) := Or.inl ⟨_, fun r hr => by cases hr; exact zge.rf, fun _ => rfl⟩
theorem zd_go {h h' : zM} {pc : Nat} {L : zL} {st : List zV} (hz : zge h h') : zD1 h (fun κ => κ pc L st h') := Or.inr ⟨pc, L, st, h', hz, fun _ => rfl⟩
theorem zd_ite {h : zM} {c : Prop} [Decidable c] {F G : zK4 → Option zR} (h1 : zD1 h F) (h2 : zD1 h G) : zD1 h (fun κ => if c then F κ else G κ) := by
  by_cases hc : c
  · rw [show (fun κ => if c then F κ else G κ) = F from funext fun κ => if_pos hc]; exact h1
  · rw [show (fun κ => if c then F κ else G κ) = G from funext fun κ => if_neg hc]; exact h2
theorem zd_bind {h : zM} {α : Type} {o : Option α} {F : zK4 → α → Option zR} (h1 : ∀ a, o = some a → zD1 h (fun κ => F κ a)) : zD1 h (fun κ => o.bind (F κ)) := by
  cases o with
  | none => exact zd_none
  | some a => exact h1 a rfl
theorem zge_of_zpI {h h' : zM} {a c k : Nat} {x : Int32} (e : zpI h a c k x = some h') : zge h h' := by unfold zpI at e; split at e <;> cases e; exact zge.rf
theorem zge_of_zpZ {h h' : zM} {a c k : Nat} {x : Int32} (e : zpZ h a c k x = some h') : zge h h' := by unfold zpZ at e; split at e <;> cases e; exact zge.rf
theorem zge_of_zpF {h h' : zM} {a c k : Nat} {x : Nat} (e : zpF h a c k x = some h') : zge h h' := by unfold zpF at e; split at e <;> cases e; exact zge.rf
theorem zge_of_zis {h h' : zM} {a : Nat} {i x : Int32} (e : zis h a i x = some h') : zge h h' := by unfold zis at e; split at e <;> cases e; exact zge.rf
theorem zge_of_zbs {h h' : zM} {a : Nat} {i x : Int32} (e : zbs h a i x = some h') : zge h h' := by
  unfold zbs at e
  split at e
  · cases e; exact zge.rf
  · split at e <;> cases e; exact zge.rf
theorem zge_of_zas {h h' : zM} {a : Nat} {i : Int32} {x : Nat} (e : zas h a i x = some h') : zge h h' := by unfold zas at e; split at e <;> cases e; exact zge.rf
theorem zge_of_zcp {h h' : zM} {a0 a : Nat} {sp dp n : Int32} (e : zcp h a0 sp a dp n = some h') : zge h h' := by unfold zcp at e; split at e <;> cases e; exact zge.rf
theorem zge_mk {h : zM} {k n : Nat} : zge h (zmk h k n) := ⟨Nat.le_succ _, Nat.le_add_right _ _⟩
theorem zge_of_zna {h h' : zM} {k : Nat} {n : Int32} (e : zna h k n = some h') : zge h h' := by unfold zna at e; split at e <;> cases e; exact zge_mk
theorem zd_cond {h : zM} {q : ClassFile.Cond} {x y : Int32} {F G : zK4 → Option zR} (h1 : zD1 h F) (h2 : zD1 h G) : zD1 h (fun κ => zcond q x y (F κ) (G κ)) := by
  cases q
  · exact zd_ite h1 h2
  · exact zd_ite h2 h1
  · exact zd_ite h1 h2
  · exact zd_ite h2 h1
  · exact zd_ite h1 h2
  · exact zd_ite h2 h1
theorem zd_table {h : zM} {x : Int32} {d : Nat} {F : zK4 → Nat → Option zR} (hF : ∀ t, zD1 h (fun κ => F κ t)) : ∀ (ts : List Nat) (i : Int32), zD1 h (fun κ => zo_table (F κ) x d ts i)
  | [], _ => hF d
  | t :: ts, i => zd_ite (hF t) (zd_table hF ts (i + 1))
set_option maxHeartbeats 4000000 in
theorem zone_dir {f : zF3} {ops : zO} {pc : Nat} {L : zL} {st : List zV} {h : zM} (hf : ∀ j as u, f j as h = some u → zge h u.2.2) : zD1 h (fun κ => zone f ops κ pc L st h) := by
  unfold zone
  rcases znth ops pc with _ | _ | ⟨i, a1, a2, a3, a4⟩
  · exact zd_none
  · exact zd_none
  · have ld : ∀ k p, zD1 h (fun κ => zo_load L k (fun s => κ p L s h) st) := by
      intro k p
      unfold zo_load
      rcases zlget L k with _ | _ | _ <;> first | exact zd_none | exact zd_go zge.rf
    have ald : ∀ k p, zD1 h (fun κ => zo_aload L k (fun s => κ p L s h) st) := by
      intro k p
      unfold zo_aload
      rcases zlget L k with _ | _ | _ <;> first | exact zd_none | exact zd_go zge.rf
    have sto : ∀ k p, zD1 h (fun κ => zo_store L k (fun M s => κ p M s h) st) := by
      intro k p
      unfold zo_store
      rcases st with _ | ⟨x | x, r⟩
      · exact zd_none
      · dsimp only
        rcases zlset L k (Sum.inl x) with _ | _ <;> first | exact zd_none | exact zd_go zge.rf
      · exact zd_none
    have asto : ∀ k p, zD1 h (fun κ => zo_astore L k (fun M s => κ p M s h) st) := by
      intro k p
      unfold zo_astore
      rcases st with _ | ⟨x | x, r⟩
      · exact zd_none
      · exact zd_none
      · dsimp only
        rcases zlset L k (Sum.inr x) with _ | _ <;> first | exact zd_none | exact zd_go zge.rf
    have bin : ∀ o p, zD1 h (fun κ => zo_bin o (fun s => κ p L s h) st) := by
      intro o p
      unfold zo_bin
      rcases st with _ | ⟨x | x, _ | ⟨y | y, r⟩⟩ <;> first | exact zd_none | exact zd_go zge.rf
    have div : ∀ o p, zD1 h (fun κ => zo_div o (fun s => κ p L s h) st) := by
      intro o p
      unfold zo_div
      rcases st with _ | ⟨x | x, _ | ⟨y | y, r⟩⟩ <;> first | exact zd_none | exact zd_ite zd_none (zd_go zge.rf)
    cases i with
    | iload_n k => exact ld _ _
    | iload k => exact ld _ _
    | aload_n k => exact ald _ _
    | aload k => exact ald _ _
    | istore_n k => exact sto _ _
    | istore k => exact sto _ _
    | astore_n k => exact asto _ _
    | astore k => exact asto _ _
    | iinc k d =>
      show zD1 h (fun κ => zo_iinc L k _ (fun M => κ (pc + 3) M st h))
      unfold zo_iinc
      rcases zlget L k with _ | x | x
      · exact zd_none
      · dsimp only
        rcases zlset L k (Sum.inl (x + Int32.ofInt d)) with _ | _ <;> first | exact zd_none | exact zd_go zge.rf
      · exact zd_none
    | iconst n => exact zd_go zge.rf
    | bipush n => exact zd_go zge.rf
    | sipush n => exact zd_go zge.rf
    | ldc n => exact zd_go zge.rf
    | ldc_w n => exact zd_go zge.rf
    | aconst_null => exact zd_go zge.rf
    | iadd => exact bin _ _
    | isub => exact bin _ _
    | imul => exact bin _ _
    | iand => exact bin _ _
    | ior => exact bin _ _
    | ixor => exact bin _ _
    | ishl => exact bin _ _
    | ishr => exact bin _ _
    | iushr => exact bin _ _
    | idiv => exact div _ _
    | irem => exact div _ _
    | i2b =>
      show zD1 h (fun κ => zo_un _ (fun s => κ (pc + 1) L s h) st)
      unfold zo_un
      rcases st with _ | ⟨x | x, r⟩ <;> first | exact zd_none | exact zd_go zge.rf
    | ifCond q o =>
      show zD1 h (fun κ => zo_if q (fun s => κ a1 L s h) (fun s => κ (pc + 3) L s h) st)
      unfold zo_if
      rcases st with _ | ⟨x | x, r⟩ <;> first | exact zd_none | exact zd_cond (zd_go zge.rf) (zd_go zge.rf)
    | if_icmp q o =>
      show zD1 h (fun κ => zo_icmp q (fun s => κ a1 L s h) (fun s => κ (pc + 3) L s h) st)
      unfold zo_icmp
      rcases st with _ | ⟨x | x, _ | ⟨y | y, r⟩⟩ <;> first | exact zd_none | exact zd_cond (zd_go zge.rf) (zd_go zge.rf)
    | ifnull o =>
      show zD1 h (fun κ => zo_null (fun s => κ a1 L s h) (fun s => κ (pc + 3) L s h) st)
      unfold zo_null
      rcases st with _ | ⟨x | x, r⟩ <;> first | exact zd_none | exact zd_ite (zd_go zge.rf) (zd_go zge.rf)
    | ifnonnull o =>
      show zD1 h (fun κ => zo_null (fun s => κ (pc + 3) L s h) (fun s => κ a1 L s h) st)
      unfold zo_null
      rcases st with _ | ⟨x | x, r⟩ <;> first | exact zd_none | exact zd_ite (zd_go zge.rf) (zd_go zge.rf)
    | goto o => exact zd_go zge.rf
    | tableswitch d lo hi offs =>
      show zD1 h (fun κ => zo_sw (fun t r => κ t L r h) _ _ st)
      unfold zo_sw
      rcases st with _ | ⟨x | x, r⟩
      · exact zd_none
      · exact zd_table (F := fun κ t => κ t L r h) (fun t => zd_go zge.rf) _ _
      · exact zd_none
    | getfield k =>
      show zD1 h (fun κ => zo_get h a1 a2 a3 (fun s => κ (pc + 3) L s h) st)
      unfold zo_get
      rcases st with _ | ⟨x | x, r⟩
      · exact zd_none
      · exact zd_none
      · dsimp only
        split
        · exact zd_bind (fun a _ => zd_go zge.rf)
        · exact zd_bind (fun a _ => zd_go zge.rf)
    | putfield k =>
      show zD1 h (fun κ => zo_put h a1 a2 a3 (fun s g => κ (pc + 3) L s g) st)
      unfold zo_put
      split
      · rcases st with _ | ⟨x | x, _ | ⟨y | y, r⟩⟩ <;> first | exact zd_none | exact zd_bind (fun a ha => zd_go (zge_of_zpF ha))
      · rcases st with _ | ⟨x | x, _ | ⟨y | y, r⟩⟩ <;> first | exact zd_none | exact zd_bind (fun a ha => zd_go (zge_of_zpI ha))
      · rcases st with _ | ⟨x | x, _ | ⟨y | y, r⟩⟩ <;> first | exact zd_none | exact zd_bind (fun a ha => zd_go (zge_of_zpZ ha))
    | iaload =>
      show zD1 h (fun κ => zo_ald (zia h) (fun s => κ (pc + 1) L s h) st)
      unfold zo_ald
      rcases st with _ | ⟨x | x, _ | ⟨y | y, r⟩⟩ <;> first | exact zd_none | exact zd_bind (fun a ha => zd_go zge.rf)
    | baload =>
      show zD1 h (fun κ => zo_ald (zba h) (fun s => κ (pc + 1) L s h) st)
      unfold zo_ald
      rcases st with _ | ⟨x | x, _ | ⟨y | y, r⟩⟩ <;> first | exact zd_none | exact zd_bind (fun a ha => zd_go zge.rf)
    | aaload =>
      show zD1 h (fun κ => zo_aald h (fun s => κ (pc + 1) L s h) st)
      unfold zo_aald
      rcases st with _ | ⟨x | x, _ | ⟨y | y, r⟩⟩ <;> first | exact zd_none | exact zd_bind (fun a ha => zd_go zge.rf)
    | iastore =>
      show zD1 h (fun κ => zo_ast (zis h) (fun s g => κ (pc + 1) L s g) st)
      unfold zo_ast
      rcases st with _ | ⟨x | x, _ | ⟨y | y, _ | ⟨w | w, r⟩⟩⟩ <;> first | exact zd_none | exact zd_bind (fun a ha => zd_go (zge_of_zis ha))
    | bastore =>
      show zD1 h (fun κ => zo_ast (zbs h) (fun s g => κ (pc + 1) L s g) st)
      unfold zo_ast
      rcases st with _ | ⟨x | x, _ | ⟨y | y, _ | ⟨w | w, r⟩⟩⟩ <;> first | exact zd_none | exact zd_bind (fun a ha => zd_go (zge_of_zbs ha))
    | aastore =>
      show zD1 h (fun κ => zo_aast h (fun s g => κ (pc + 1) L s g) st)
      unfold zo_aast
      rcases st with _ | ⟨x | x, _ | ⟨y | y, _ | ⟨w | w, r⟩⟩⟩ <;> first | exact zd_none | exact zd_bind (fun a ha => zd_go (zge_of_zas ha))
    | arraylength =>
      show zD1 h (fun κ => zo_len h (fun s => κ (pc + 1) L s h) st)
      unfold zo_len
      rcases st with _ | ⟨x | x, r⟩ <;> first | exact zd_none | exact zd_bind (fun a ha => zd_go zge.rf)
    | new k => exact zd_go zge_mk
    | newarray t =>
      show zD1 h (fun κ => zo_na h (zatk t) (fun s g => κ (pc + 2) L s g) st)
      unfold zo_na
      rcases st with _ | ⟨x | x, r⟩ <;> first | exact zd_none | exact zd_bind (fun a ha => zd_go (zge_of_zna ha))
    | anewarray k =>
      show zD1 h (fun κ => zo_na h a1 (fun s g => κ (pc + 3) L s g) st)
      unfold zo_na
      rcases st with _ | ⟨x | x, r⟩ <;> first | exact zd_none | exact zd_bind (fun a ha => zd_go (zge_of_zna ha))
    | dup =>
      show zD1 h (fun κ => zo_dup (fun s => κ (pc + 1) L s h) st)
      unfold zo_dup
      rcases st with _ | ⟨x, r⟩ <;> first | exact zd_none | exact zd_go zge.rf
    | dup2 =>
      show zD1 h (fun κ => zo_dup2 (fun s => κ (pc + 1) L s h) st)
      unfold zo_dup2
      rcases st with _ | ⟨x, _ | ⟨y, r⟩⟩ <;> first | exact zd_none | exact zd_go zge.rf
    | pop =>
      show zD1 h (fun κ => zo_pop (fun s => κ (pc + 1) L s h) st)
      unfold zo_pop
      rcases st with _ | ⟨x, r⟩ <;> first | exact zd_none | exact zd_go zge.rf
    | ireturn =>
      show zD1 h (fun _ => zo_iret a1 h st)
      unfold zo_iret
      rcases st with _ | ⟨x | x, _ | ⟨y, r⟩⟩ <;> first | exact zd_none | skip
      dsimp only
      split
      · exact zd_some
      · exact zd_ite zd_some zd_none
    | areturn =>
      show zD1 h (fun _ => zo_aret h st)
      unfold zo_aret
      rcases st with _ | ⟨x | x, _ | ⟨y, r⟩⟩ <;> first | exact zd_none | exact zd_some
    | return_ =>
      show zD1 h (fun _ => zo_vret h st)
      unfold zo_vret
      rcases st with _ | ⟨x, r⟩ <;> first | exact zd_none | exact zd_some
    | invokestatic k =>
      rcases a4 with _ | a4
      · show zD1 h (fun κ => zo_cs f a1 a2 a3 h (fun s g => κ (pc + 3) L s g) st)
        unfold zo_cs
        rcases zpop a2 [] st with _ | ⟨as, r⟩
        · exact zd_none
        · dsimp only
          rcases zshort 8 r with _ | _
          · exact zd_none
          · exact zd_bind (fun u hu => zd_go (hf _ _ _ hu))
      · show zD1 h (fun κ => zo_copy h (fun s g => κ (pc + 3) L s g) st)
        unfold zo_copy
        rcases st with _ | ⟨x1 | x1, _ | ⟨x2 | x2, _ | ⟨x3 | x3, _ | ⟨x4 | x4, _ | ⟨x5 | x5, r⟩⟩⟩⟩⟩ <;> first | exact zd_none | skip
        dsimp only
        rcases zshort 4 r with _ | _
        · exact zd_none
        · exact zd_bind (fun u hu => zd_go (zge_of_zcp hu))
    | invokevirtual k =>
      show zD1 h (fun κ => zo_cv f a1 a2 a3 a4 h (fun s g => κ (pc + 3) L s g) st)
      unfold zo_cv
      rcases zpop (a2 + 1) [] st with _ | ⟨_ | ⟨x | x, as⟩, r⟩ <;> first | exact zd_none | skip
      dsimp only
      rcases zshort 8 r with _ | _
      · exact zd_none
      · exact zd_ite (zd_bind (fun u hu => zd_go (hf _ _ _ hu))) zd_none
    | invokespecial k =>
      rcases a4 with _ | a4
      · show zD1 h (fun κ => zo_obj h (fun s => κ (pc + 3) L s h) st)
        unfold zo_obj
        rcases st with _ | ⟨x | x, r⟩ <;> first | exact zd_none | skip
        dsimp only
        rcases zshort 8 r with _ | _
        · exact zd_none
        · exact zd_ite zd_none (zd_go zge.rf)
      · show zD1 h (fun κ => zo_cv f a1 a2 0 (a4 + 1) h (fun s g => κ (pc + 3) L s g) st)
        unfold zo_cv
        rcases zpop (a2 + 1) [] st with _ | ⟨_ | ⟨x | x, as⟩, r⟩ <;> first | exact zd_none | skip
        dsimp only
        rcases zshort 8 r with _ | _
        · exact zd_none
        · exact zd_ite (zd_bind (fun u hu => zd_go (hf _ _ _ hu))) zd_none
    | _ => exact zd_none
theorem zD1.weak {h h1 : zM} {F : zK4 → Option zR} (hz : zge h h1) (d : zD1 h1 F) : zD1 h F := by
  rcases d with ⟨o, h2, h3⟩ | ⟨pc, L, st, h', h2, h3⟩
  · exact Or.inl ⟨o, fun r hr => hz.tr (h2 r hr), h3⟩
  · exact Or.inr ⟨pc, L, st, h', hz.tr h2, h3⟩
theorem zexec_dir {f : zF3} {ops : zO} {cuts : List (Nat × Nat)} (hf : ∀ j as h u, f j as h = some u → zge h u.2.2) : ∀ (n pc : Nat) (L : zL) (st : List zV) (h : zM), zD1 h (fun κ => zexec f ops cuts κ n pc L st h)
  | 0, pc, L, st, h => zd_go zge.rf
  | n + 1, pc, L, st, h => by
    rcases zone_dir (f := f) (ops := ops) (pc := pc) (L := L) (st := st) (h := h) (fun j as u hu => hf j as h u hu) with ⟨o, h1, h2⟩ | ⟨pc', L', st', h', h1, h2⟩
    · exact Or.inl ⟨o, h1, fun κ => h2 _⟩
    · have e : (fun κ => zexec f ops cuts κ (n + 1) pc L st h) = fun κ => (match zcut cuts pc' with
          | some k => κ pc' (ztrim k L') st' h'
          | none => zexec f ops cuts κ n pc' L' st' h') := funext fun κ => h2 _
      rw [e]
      rcases zcut cuts pc' with _ | k
      · exact (zexec_dir hf n pc' L' st' h').weak h1
      · exact zd_go h1
end
section
/-! Methods as functions; what they say of the real machine. -/
def zZn (f : zF3) (ops : zO) (cuts : List (Nat × Nat)) : Nat → zK4
  | 0 => fun _ _ _ _ => none
  | n + 1 => fun pc L st h => zexec f ops cuts (zZn f ops cuts n) 1000 pc L st h
noncomputable def zlim (Z : Nat → zK4) : zK4 := fun pc L st h =>
  @dite _ (∃ n r, Z n pc L st h = some r) (Classical.propDecidable _) (fun hx => some (Classical.choose (Classical.choose_spec hx))) (fun _ => none)
noncomputable def zZ (f : zF3) (ops : zO) (cuts : List (Nat × Nat)) : zK4 := zlim (zZn f ops cuts)
def zmono (f : zF3) : Prop := ∀ j as h u, f j as h = some u → zge h u.2.2
theorem zZn_succ {f : zF3} {ops : zO} {cuts : List (Nat × Nat)} (hf : zmono f) : ∀ (n pc : Nat) (L : zL) (st : List zV) (h : zM) (r : zR), zZn f ops cuts n pc L st h = some r → zZn f ops cuts (n + 1) pc L st h = some r
  | 0, _, _, _, _, _, e => by cases e
  | n + 1, pc, L, st, h, r, e => by
    have e1 : zexec f ops cuts (zZn f ops cuts n) 1000 pc L st h = some r := e
    show zexec f ops cuts (zZn f ops cuts (n + 1)) 1000 pc L st h = some r
    rcases zexec_dir (ops := ops) (cuts := cuts) hf 1000 pc L st h with ⟨o, -, h2⟩ | ⟨pc', L', st', h', -, h2⟩
    · have a1 := h2 (zZn f ops cuts n)
      have a2 := h2 (zZn f ops cuts (n + 1))
      dsimp only at a1 a2
      rw [a2, ← a1]
      exact e1
    · have a1 := h2 (zZn f ops cuts n)
      have a2 := h2 (zZn f ops cuts (n + 1))
      dsimp only at a1 a2
      rw [a2]
      rw [a1] at e1
      exact zZn_succ hf n pc' L' st' h' r e1
theorem zZn_le {f : zF3} {ops : zO} {cuts : List (Nat × Nat)} (hf : zmono f) {n m pc : Nat} {L : zL} {st : List zV} {h : zM} {r : zR} (hnm : n ≤ m) (e : zZn f ops cuts n pc L st h = some r) : zZn f ops cuts m pc L st h = some r := by
  induction hnm with
  | refl => exact e
  | step _ ih => exact zZn_succ hf _ _ _ _ _ _ ih
theorem zZ_iff {f : zF3} {ops : zO} {cuts : List (Nat × Nat)} (hf : zmono f) {pc : Nat} {L : zL} {st : List zV} {h : zM} {r : zR} : zZ f ops cuts pc L st h = some r ↔ ∃ n, zZn f ops cuts n pc L st h = some r := by
  unfold zZ zlim
  by_cases hx : ∃ n r, zZn f ops cuts n pc L st h = some r
  · rw [dif_pos hx]
    have hs := Classical.choose_spec (Classical.choose_spec hx)
    generalize Classical.choose (Classical.choose_spec hx) = r0 at hs ⊢
    generalize Classical.choose hx = n0 at hs
    constructor
    · intro e
      cases e
      exact ⟨n0, hs⟩
    · rintro ⟨n, hn⟩
      have a1 := zZn_le hf (Nat.le_max_left n n0) hn
      have a2 := zZn_le hf (Nat.le_max_right n n0) hs
      rw [a1] at a2
      exact a2.symm
  · rw [dif_neg hx]
    constructor
    · intro e; cases e
    · rintro ⟨n, hn⟩
      exact absurd ⟨n, r, hn⟩ hx
/-- the run's own equation -/
theorem zZ_eq {f : zF3} {ops : zO} {cuts : List (Nat × Nat)} (hf : zmono f) (pc : Nat) (L : zL) (st : List zV) (h : zM) : zZ f ops cuts pc L st h = zexec f ops cuts (zZ f ops cuts) 1000 pc L st h := by
  apply Option.ext
  intro r
  rw [zZ_iff hf]
  rcases zexec_dir (ops := ops) (cuts := cuts) hf 1000 pc L st h with ⟨o, -, h2⟩ | ⟨pc', L', st', h', -, h2⟩
  · have a1 := h2 (zZ f ops cuts)
    dsimp only at a1
    rw [a1]
    constructor
    · rintro ⟨n, hn⟩
      rcases n with _ | n
      · cases hn
      · have a2 := h2 (zZn f ops cuts n)
        dsimp only at a2
        rw [← a2]
        exact hn
    · intro e
      refine ⟨1, ?_⟩
      have a2 := h2 (zZn f ops cuts 0)
      dsimp only at a2
      show zexec f ops cuts (zZn f ops cuts 0) 1000 pc L st h = some r
      rw [a2]
      exact e
  · have a1 := h2 (zZ f ops cuts)
    dsimp only at a1
    rw [a1, zZ_iff hf]
    constructor
    · rintro ⟨n, hn⟩
      rcases n with _ | n
      · cases hn
      · have a2 := h2 (zZn f ops cuts n)
        dsimp only at a2
        refine ⟨n, ?_⟩
        rw [← a2]
        exact hn
    · rintro ⟨n, hn⟩
      refine ⟨n + 1, ?_⟩
      have a2 := h2 (zZn f ops cuts n)
      dsimp only at a2
      show zexec f ops cuts (zZn f ops cuts n) 1000 pc L st h = some r
      rw [a2]
      exact hn
theorem zexec_ge {f : zF3} {ops : zO} {cuts : List (Nat × Nat)} {κ : zK4} (hf : zmono f) {n pc : Nat} {L : zL} {st : List zV} {h : zM} {r : zR} (hκ : ∀ pc' L' st' h', κ pc' L' st' h' = some r → zge h' r.2.2) (e : zexec f ops cuts κ n pc L st h = some r) : zge h r.2.2 := by
  rcases zexec_dir (ops := ops) (cuts := cuts) hf n pc L st h with ⟨o, h1, h2⟩ | ⟨pc', L', st', h', h1, h2⟩
  · have a1 := h2 κ
    dsimp only at a1
    rw [a1] at e
    exact h1 r e
  · have a1 := h2 κ
    dsimp only at a1
    rw [a1] at e
    exact h1.tr (hκ _ _ _ _ e)
theorem zZn_ge {f : zF3} {ops : zO} {cuts : List (Nat × Nat)} (hf : zmono f) : ∀ (n pc : Nat) (L : zL) (st : List zV) (h : zM) (r : zR), zZn f ops cuts n pc L st h = some r → zge h r.2.2
  | 0, _, _, _, _, _, e => by cases e
  | n + 1, pc, L, st, h, r, e => zexec_ge hf (fun pc' L' st' h' e' => zZn_ge hf n pc' L' st' h' r e') (show zexec f ops cuts (zZn f ops cuts n) 1000 pc L st h = some r from e)
def zinit (n : Nat) (as : List zV) : zL := as.map some ++ List.replicate (n - as.length) none
noncomputable def zrun (f : zF3) (M : zRec) (as : List zV) (h : zM) : Option zR := if as.length ≤ zMl M then zZ f (zMp M) (zMc M) 0 (zinit (zMl M) as) [] h else none
theorem zrun_ge {f : zF3} {M : zRec} (hf : zmono f) {as : List zV} {h : zM} {u : zR} (e : zrun f M as h = some u) : zge h u.2.2 := by
  unfold zrun at e
  split at e
  · obtain ⟨n, hn⟩ := (zZ_iff hf).mp e
    exact zZn_ge hf n _ _ _ _ _ hn
  · cases e
noncomputable def zT (recs : List zRec) : Nat → zF3
  | 0 => fun _ _ _ => none
  | k + 1 => fun j as h => if j = k then (match znth recs k with
    | some M => zrun (zT recs k) M as h
    | none => none) else zT recs k j as h
noncomputable def zFn (recs : List zRec) : zF3 := fun j => zT recs (j + 1) j
theorem zT_lt {recs : List zRec} : ∀ (k j : Nat), zT recs k j = if j < k then zFn recs j else fun _ _ => none
  | 0, j => rfl
  | k + 1, j => by
    by_cases hj : j = k
    · subst hj
      rw [if_pos (Nat.lt_succ_self _)]
      rfl
    · have e : zT recs (k + 1) j = zT recs k j := by
        funext as h
        show (if j = k then _ else zT recs k j as h) = _
        rw [if_neg hj]
      rw [e, zT_lt k j]
      by_cases h2 : j < k
      · rw [if_pos h2, if_pos (by omega)]
      · rw [if_neg h2, if_neg (by omega)]
theorem zT_mono {recs : List zRec} : ∀ k, zmono (zT recs k)
  | 0 => fun j as h u e => by cases e
  | k + 1 => fun j as h u e => by
    have e : (if j = k then (match znth recs k with
      | some M => zrun (zT recs k) M as h
      | none => none) else zT recs k j as h) = some u := e
    split at e
    · split at e
      · exact zrun_ge (zT_mono k) e
      · cases e
    · exact zT_mono k j as h u e
theorem zFn_mono {recs : List zRec} : zmono (zFn recs) := fun j as h u e => zT_mono (j + 1) j as h u e
/-- calls of a record go to lesser numbers -/
def zdown (k : Nat) (ops : zO) : Bool := ops.all fun o => match o with
  | some (.invokestatic _, a1, _, _, a4) => decide (a4 ≠ 0) || decide (a1 < k)
  | some (.invokevirtual _, a1, _, _, _) => decide (a1 < k)
  | some (.invokespecial _, a1, _, _, a4) => decide (a4 = 0) || decide (a1 < k)
  | _ => true
theorem znth_mem {α : Type} : ∀ {l : List α} {i : Nat} {a : α}, znth l i = some a → a ∈ l
  | [], _, _, h => by simp [znth] at h
  | b :: l, 0, a, h => by simp [znth] at h; subst h; exact List.mem_cons_self
  | b :: l, i + 1, a, h => List.mem_cons_of_mem _ (znth_mem (by simpa [znth] using h))
theorem zone_congr {f g : zF3} {ops : zO} {k : Nat} (hd : zdown k ops = true) (hfg : ∀ j, j < k → f j = g j) (κ : zK4) (pc : Nat) (L : zL) (st : List zV) (h : zM) : zone f ops κ pc L st h = zone g ops κ pc L st h := by
  unfold zone
  rcases hE : znth ops pc with _ | _ | ⟨i, a1, a2, a3, a4⟩
  · rfl
  · rfl
  · have hm := List.all_eq_true.mp hd _ (znth_mem hE)
    cases i with
    | invokestatic kk =>
      rcases a4 with _ | a4
      · have : a1 < k := by simpa using hm
        show zo_cs f a1 a2 a3 h _ st = zo_cs g a1 a2 a3 h _ st
        unfold zo_cs
        rw [hfg a1 this]
      · rfl
    | invokevirtual kk =>
      have : a1 < k := by simpa using hm
      show zo_cv f a1 a2 a3 a4 h _ st = zo_cv g a1 a2 a3 a4 h _ st
      unfold zo_cv
      rw [hfg a1 this]
    | invokespecial kk =>
      rcases a4 with _ | a4
      · rfl
      · have : a1 < k := by simpa using hm
        show zo_cv f a1 a2 0 (a4 + 1) h _ st = zo_cv g a1 a2 0 (a4 + 1) h _ st
        unfold zo_cv
        rw [hfg a1 this]
    | _ => rfl
theorem zexec_congr {f g : zF3} {ops : zO} {k : Nat} {cuts : List (Nat × Nat)} (hd : zdown k ops = true) (hfg : ∀ j, j < k → f j = g j) (κ : zK4) : ∀ n, zexec f ops cuts κ n = zexec g ops cuts κ n
  | 0 => rfl
  | n + 1 => by
    funext pc L st h
    show zone f ops _ pc L st h = zone g ops _ pc L st h
    rw [zone_congr hd hfg, zexec_congr hd hfg κ n]
theorem zZn_congr {f g : zF3} {ops : zO} {k : Nat} {cuts : List (Nat × Nat)} (hd : zdown k ops = true) (hfg : ∀ j, j < k → f j = g j) : ∀ n, zZn f ops cuts n = zZn g ops cuts n
  | 0 => rfl
  | n + 1 => by
    funext pc L st h
    show zexec f ops cuts (zZn f ops cuts n) 1000 pc L st h = zexec g ops cuts (zZn g ops cuts n) 1000 pc L st h
    rw [zexec_congr hd hfg, zZn_congr hd hfg n]
theorem zZ_congr {f g : zF3} {ops : zO} {k : Nat} {cuts : List (Nat × Nat)} (hd : zdown k ops = true) (hfg : ∀ j, j < k → f j = g j) : zZ f ops cuts = zZ g ops cuts := by
  have e : zZn f ops cuts = zZn g ops cuts := funext (zZn_congr hd hfg)
  funext pc L st h
  unfold zZ
  rw [e]
/-- a method's function is its run, with all functions behind its calls -/
theorem zFn_eq {recs : List zRec} {k : Nat} {M : zRec} (hk : znth recs k = some M) (hd : zdown k (zMp M) = true) (as : List zV) (h : zM) : zFn recs k as h = zrun (zFn recs) M as h := by
  show (if k = k then (match znth recs k with
    | some M => zrun (zT recs k) M as h
    | none => none) else _) = _
  rw [if_pos rfl, hk]
  show zrun (zT recs k) M as h = _
  unfold zrun
  rw [zZ_congr hd (g := zFn recs) (fun j hj => by rw [zT_lt, if_pos hj])]
end
section
/-! The contract of every method, by the order of the calls. -/
section ZCON
variable {p : Program} {l : Launch} {e : Env} {R : Room} {s : State} {m : MethodId} {args : Array Value} {below : List Frame} {meth : Method} {c : Code} {Q : State → Prop} {D : zD3} {base : Nat} {H0 : Heap} {M : zRec} {c0 n0 : Nat}
/-- what a record is checked for -/
def zrok (recs : List zRec) (M : zRec) : Prop := (∀ pc E, znth (zMp M) pc = some (some E) → ∃ q1 q2 q3, zchk recs M pc E q1 q2 q3 = true)
theorem zexec_sim (C : zCx p s m args meth c R D base H0 M) {recs : List zRec} {f : zF3} {κ : zK4} {cuts : List (Nat × Nat)} {r : zR} (hmono : zmono f)
    (hchk : zrok recs M)
    (hsys : Jvm.Cond.initialized "java/lang/System" ∈ zgt ∧ Jvm.Cond.code Lib.objectInit ⟨#[0xb1]⟩ 1 none ∈ zgt)
    (hrec : ∀ j J, znth recs j = some J → Jvm.Cond.code (zMy J) (zMb J) (zMl J) (zMr J) ∈ zgt ∧ Jvm.Cond.initialized (zMy J).cls ∈ zgt)
    (hM : ∀ j J, znth recs j = some J → ∀ as h u, f j as h = some u → zMet l D base J as h u)
    (hroom : r.2.2.1.2.1 - c0 ≤ R.cells ∧ r.2.2.1.2.2 - n0 ≤ R.slots)
    (hret : ∀ (h : zM) (x : Int32) (pc : Nat) (L : zL), c0 ≤ h.1.2.1 ∧ n0 ≤ h.1.2.2 → decode (zMb M) pc = .ok (.ireturn, 1) → (zMr M = some .int ∨ (zMr M = some .boolean ∧ (x = 0 ∨ x = 1))) → r = (x, 0, h) → zG p l e R s m args below meth c Q D base H0 M c0 n0 pc L [.inl x] h)
    (haret : ∀ (h : zM) (x : Nat) (pc : Nat) (L : zL) (t : FieldType), c0 ≤ h.1.2.1 ∧ n0 ≤ h.1.2.2 → decode (zMb M) pc = .ok (.areturn, 1) → zMr M = some t → zisr t = true → r = (0, x, h) → zG p l e R s m args below meth c Q D base H0 M c0 n0 pc L [.inr x] h)
    (hvret : ∀ (h : zM) (pc : Nat) (L : zL), c0 ≤ h.1.2.1 ∧ n0 ≤ h.1.2.2 → decode (zMb M) pc = .ok (.return_, 1) → zMr M = none → r = (0, 0, h) → zG p l e R s m args below meth c Q D base H0 M c0 n0 pc L [] h)
    (hge : ∀ pc' L' st' h', κ pc' L' st' h' = some r → zge h' r.2.2) (hκ : ∀ pc' L' st' h', c0 ≤ h'.1.2.1 ∧ n0 ≤ h'.1.2.2 → κ pc' L' st' h' = some r → zG p l e R s m args below meth c Q D base H0 M c0 n0 pc' L' st' h') :
    ∀ (n pc : Nat) (L : zL) (st : List zV) (h : zM), c0 ≤ h.1.2.1 ∧ n0 ≤ h.1.2.2 → zexec f (zMp M) cuts κ n pc L st h = some r → zG p l e R s m args below meth c Q D base H0 M c0 n0 pc L st h
  | 0, pc, L, st, h, h0, hr => hκ pc L st h h0 hr
  | n + 1, pc, L, st, h, h0, hr => by
    refine zone_sim (recs := recs) (f := f) (κ := fun pc' L' st' h' => match zcut cuts pc' with
      | some k => κ pc' (ztrim k L') st' h'
      | none => zexec f (zMp M) cuts κ n pc' L' st' h') C hchk hsys hrec (fun j J hJ as u hu => ⟨hM j J hJ as h u hu, hmono _ _ _ _ hu⟩) h0 hroom (fun x pc L => hret h x pc L h0) (fun x pc L t => haret h x pc L t h0) (fun pc L => hvret h pc L h0) ?_ hr ?_
    · intro pc' L' st' h' hk
      split at hk
      · exact hge _ _ _ _ hk
      · exact zexec_ge hmono hge hk
    · intro pc' L' st' h' hz hk
      have h0' : c0 ≤ h'.1.2.1 ∧ n0 ≤ h'.1.2.2 := ⟨Nat.le_trans h0.1 hz.1, Nat.le_trans h0.2 hz.2⟩
      split at hk
      · exact fun ls H locs hS => hκ _ _ _ _ h0' hk ls H locs ⟨hS.1.trim _, hS.2⟩
      · exact zexec_sim C hmono hchk hsys hrec hM hroom hret haret hvret hge hκ n pc' L' st' h' h0' hk
theorem zZn_sim (C : zCx p s m args meth c R D base H0 M) {recs : List zRec} {f : zF3} {cuts : List (Nat × Nat)} {r : zR} (hmono : zmono f)
    (hchk : zrok recs M)
    (hsys : Jvm.Cond.initialized "java/lang/System" ∈ zgt ∧ Jvm.Cond.code Lib.objectInit ⟨#[0xb1]⟩ 1 none ∈ zgt)
    (hrec : ∀ j J, znth recs j = some J → Jvm.Cond.code (zMy J) (zMb J) (zMl J) (zMr J) ∈ zgt ∧ Jvm.Cond.initialized (zMy J).cls ∈ zgt)
    (hM : ∀ j J, znth recs j = some J → ∀ as h u, f j as h = some u → zMet l D base J as h u)
    (hroom : r.2.2.1.2.1 - c0 ≤ R.cells ∧ r.2.2.1.2.2 - n0 ≤ R.slots)
    (hret : ∀ (h : zM) (x : Int32) (pc : Nat) (L : zL), c0 ≤ h.1.2.1 ∧ n0 ≤ h.1.2.2 → decode (zMb M) pc = .ok (.ireturn, 1) → (zMr M = some .int ∨ (zMr M = some .boolean ∧ (x = 0 ∨ x = 1))) → r = (x, 0, h) → zG p l e R s m args below meth c Q D base H0 M c0 n0 pc L [.inl x] h)
    (haret : ∀ (h : zM) (x : Nat) (pc : Nat) (L : zL) (t : FieldType), c0 ≤ h.1.2.1 ∧ n0 ≤ h.1.2.2 → decode (zMb M) pc = .ok (.areturn, 1) → zMr M = some t → zisr t = true → r = (0, x, h) → zG p l e R s m args below meth c Q D base H0 M c0 n0 pc L [.inr x] h)
    (hvret : ∀ (h : zM) (pc : Nat) (L : zL), c0 ≤ h.1.2.1 ∧ n0 ≤ h.1.2.2 → decode (zMb M) pc = .ok (.return_, 1) → zMr M = none → r = (0, 0, h) → zG p l e R s m args below meth c Q D base H0 M c0 n0 pc L [] h) :
    ∀ (n pc : Nat) (L : zL) (st : List zV) (h : zM), c0 ≤ h.1.2.1 ∧ n0 ≤ h.1.2.2 → zZn f (zMp M) cuts n pc L st h = some r → zG p l e R s m args below meth c Q D base H0 M c0 n0 pc L st h
  | 0, _, _, _, _, _, hr => by cases hr
  | n + 1, pc, L, st, h, h0, hr =>
    zexec_sim C hmono hchk hsys hrec hM hroom hret haret hvret (fun pc' L' st' h' hk => zZn_ge hmono n pc' L' st' h' r hk) (zZn_sim C hmono hchk hsys hrec hM hroom hret haret hvret n) 1000 pc L st h h0 (show zexec f (zMp M) cuts (zZn f (zMp M) cuts n) 1000 pc L st h = some r from hr)
end ZCON
theorem znth_append : ∀ (l : List (Option zV)) (i : Nat) (n : Nat) (v : zV), znth (l ++ List.replicate n none) i = some (some v) → znth l i = some (some v)
  | [], i, n, v, h => by
    have := znth_mem h
    rw [List.nil_append] at this
    exact absurd (List.eq_of_mem_replicate this) (by simp)
  | a :: l, 0, n, v, h => h
  | a :: l, i + 1, n, v, h => znth_append l i n v h
theorem zargs_mem : ∀ (as : List zV) (b i : Nat) (v : zV), znth (as.map some) i = some (some v) → (b + i, zval v) ∈ lv_args b (as.map zval)
  | [], _, _, _, h => by simp [znth] at h
  | a :: as, b, 0, v, h => by
    simp [znth] at h
    subst h
    exact List.mem_cons_self
  | a :: as, b, i + 1, v, h => by
    have := zargs_mem as (b + 1) i v h
    refine List.mem_cons_of_mem _ ?_
    rw [if_neg (by rw [zval_cat]; decide)]
    rw [show b + (i + 1) = b + 1 + i by omega]
    exact this
theorem zsl_len (as : List zV) : (lg_sl (as.map zval)).length = as.length := by
  induction as with
  | nil => rfl
  | cons a as ih =>
    have e : lg_sl ((a :: as).map zval) = [Slot.val (zval a)] ++ lg_sl (as.map zval) := by
      show (List.flatMap _ (zval a :: as.map zval)) = _
      rw [List.flatMap_cons, if_neg (by rw [zval_cat]; decide)]
      rfl
    rw [e, List.length_append, ih]
    simp; omega
theorem zlr_init {as : List zV} {n : Nat} (h : as.length ≤ n) : zlr ((lg_sl (as.map zval) ++ List.replicate (n - (lg_sl (as.map zval)).length) Slot.unset).toArray) n (zinit n as) := by
  have hl := lv_entry (as.map zval) (n := n) (by rw [zsl_len]; exact h)
  refine ⟨by simp [zinit]; omega, hl.1, hl.2.1, fun q hq => hl.2.2 q ?_⟩
  obtain ⟨i, v, h1, h2⟩ := zlv_of _ _ _ hq
  rw [h1, Nat.zero_add]
  have := zargs_mem as 0 i v (znth_append _ _ _ _ h2)
  rw [Nat.zero_add] at this
  exact this
theorem zmeet {l : Launch} {D : zD3} {base : Nat} {recs : List zRec} {f : zF3} {M : zRec} (hmono : zmono f) (hchk : zrok recs M) (hplain : plainFor (zMy M) = true)
    (hsys : Jvm.Cond.initialized "java/lang/System" ∈ zgt ∧ Jvm.Cond.code Lib.objectInit ⟨#[0xb1]⟩ 1 none ∈ zgt)
    (hrec : ∀ j J, znth recs j = some J → Jvm.Cond.code (zMy J) (zMb J) (zMl J) (zMr J) ∈ zgt ∧ Jvm.Cond.initialized (zMy J).cls ∈ zgt)
    (hM : ∀ j J, znth recs j = some J → ∀ as h u, f j as h = some u → zMet l D base J as h u)
    {as : List zV} {h : zM} {u : zR} (hrun : zrun f M as h = some u) : zMet l D base M as h u := by
  have hgu := zrun_ge hmono hrun
  unfold zrun at hrun
  split at hrun
  case isFalse => cases hrun
  rename_i hlen
  obtain ⟨n, hn⟩ := (zZ_iff hmono).mp hrun
  refine va_MetF (cc := zMb M) (maxL := zMl M) (ret := zMr M) (ws' := zgt) hplain rfl ?_
  intro p e s m args below meth c s₁ B hml hv
  obtain ⟨rfl, hR, hK, hE⟩ := hv
  have hts := atoms_spec (ws := zws M) B.pre
  have hlocks := B.notSynchronized
  have hr := B.returns
  have hx := B.exec
  have hb := B.bytes
  have C : zCx p s m ((as.map zval).toArray) meth c (headSpec (zws M) (zrm M h u)).room D base s.heap M :=
    ⟨hx, hb, hml, findClass_of_methodNamed B.named, fun w hw => hts w (List.mem_cons_of_mem _ hw), hK, (fun h9 => (name_of_methodNamed B.named B.method).1.trans h9), hR.2.1, Nat.le_refl _, Nat.le_refl _, hE⟩
  have fin : ∀ (o : Option Value) (H : Heap) (locs : List Loc) (ls : Array Slot) (L : zL), o = zrv (zrk M) u → zSt D base s s.heap (zMl M) L u.2.2 ls H locs → ∀ t : State, t.heap = H → s.WarmedH t.vm → zQc D base M u ((as.map zval).toArray) s (.returned o) t := by
    intro o H locs ls L ho hS t ht hW
    exact ⟨by rw [ho], by rw [ht]; exact hS.2.1.moved hW.alike, hK.moved hW.alike, hS.2.2.F ht⟩
  have hG := zZn_sim (p := p) (l := l) (e := e) (R := (headSpec (zws M) (zrm M h u)).room) (s := s) (m := m) (args := (as.map zval).toArray) (below := below) (meth := meth) (c := c) (Q := MQ below (zQc D base M u) ((as.map zval).toArray) s (u.2.2.1.2.1 - h.1.2.1) (u.2.2.1.2.2 - h.1.2.2) (fun q => base ≤ q)) (D := D) (base := base) (H0 := s.heap) (M := M) (c0 := h.1.2.1) (n0 := h.1.2.2) (r := u) C hmono hchk hsys hrec hM ⟨Nat.le_refl _, Nat.le_refl _⟩ ?_ ?_ ?_ n 0 (zinit (zMl M) as) [] h ⟨Nat.le_refl _, Nat.le_refl _⟩ hn
  · have hl := zlr_init (as := as) (n := zMl M) hlen
    rw [lg_entry_eq]
    generalize (lg_sl (as.map zval) ++ List.replicate (zMl M - (lg_sl (as.map zval)).length) Slot.unset).toArray = ls at hl ⊢
    have := hG ls s.heap [] ⟨hl, hR, va_S.rf⟩
    rw [Nat.sub_self, Nat.sub_self] at this
    exact this
  · intro h' x pc L h0 hd hty hru ls H locs hS
    have ha : u.2.2 = h' := by rw [hru]
    subst ha
    rcases hty with hty | ⟨hty, hx01⟩
    · exact W.iret hx hb (hr.trans hty) (fin _ _ _ _ _ (by unfold zrk; rw [hty, hru]; rfl) hS) hS.2.2.2.2 hd hlocks
    · exact W.zret hx hb (hr.trans hty) (by rcases hx01 with q | q <;> subst q <;> rfl) (fin _ _ _ _ _ (by unfold zrk; rw [hty, hru]; rfl) hS) hS.2.2.2.2 hd hlocks
  · intro h' x pc L t h0 hd hty hir hru ls H locs hS
    have ha : u.2.2 = h' := by rw [hru]
    subst ha
    have hobj : (∃ n, t = .object n) ∨ ∃ t', t = .array t' := by
      unfold zisr at hir
      split at hir
      · exact Or.inl ⟨_, rfl⟩
      · exact Or.inr ⟨_, rfl⟩
      · cases hir
    refine W.aret hx hb (hr.trans hty) hobj ?_ (fin _ _ _ _ _ ?_ hS) hS.2.2.2.2 hd hlocks
    · rcases x with _ | x
      · exact Or.inl rfl
      · exact Or.inr ⟨x, rfl⟩
    · unfold zrk
      rw [hty, hru]
      rcases hobj with ⟨n, rfl⟩ | ⟨n, rfl⟩ <;> rfl
  · intro h' pc L h0 hd hty hru ls H locs hS
    have ha : u.2.2 = h' := by rw [hru]
    subst ha
    exact W.vret hx hb (hr.trans hty) (fin _ _ _ _ _ (by unfold zrk; rw [hty]; rfl) hS) hS.2.2.2.2 hd hlocks
/-- all methods -/
theorem zall {l : Launch} {D : zD3} {base : Nat} {recs : List zRec}
    (hchk : ∀ k M, znth recs k = some M → zrok recs M ∧ plainFor (zMy M) = true)
    (hsys : Jvm.Cond.initialized "java/lang/System" ∈ zgt ∧ Jvm.Cond.code Lib.objectInit ⟨#[0xb1]⟩ 1 none ∈ zgt)
    (hrec : ∀ j J, znth recs j = some J → Jvm.Cond.code (zMy J) (zMb J) (zMl J) (zMr J) ∈ zgt ∧ Jvm.Cond.initialized (zMy J).cls ∈ zgt) :
    ∀ k j J, znth recs j = some J → ∀ as h u, zT recs k j as h = some u → zMet l D base J as h u
  | 0, _, _, _, _, _, _, hu => by cases hu
  | k + 1, j, J, hJ, as, h, u, hu => by
    have hu : (if j = k then (match znth recs k with
      | some M => zrun (zT recs k) M as h
      | none => none) else zT recs k j as h) = some u := hu
    split at hu
    · rename_i hjk
      subst hjk
      rw [hJ] at hu
      exact zmeet (zT_mono j) (hchk j J hJ).1 (hchk j J hJ).2 hsys hrec (zall hchk hsys hrec j) hu
    · exact zall hchk hsys hrec k j J hJ as h u hu
end
