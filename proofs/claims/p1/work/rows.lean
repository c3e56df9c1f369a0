section
-- ===== PART A: goes FIRST, ahead of the names: the tables' words, and 'selects' of the private methods out of them =====
/-- a private method of a class that the tables say can be made, by its rows of tables_1 -/
def lw_okq (q : MethodName × Nat) : Prop := (q.1.cls ≠ "java/lang/invoke/MethodHandle" ∧ q.1.cls ≠ "java/lang/invoke/VarHandle") ∧ Cond.instantiable q.1.cls q.2 ∈ tables_1 ∧ Cond.privateMethod q.1 ∈ tables_1 ∧ Cond.instanceMethod q.1 ∈ tables_1
theorem lw_p0 : lw_okq (⟨"GridLaws$Board", "findSlot", "(IIIII)V"⟩, 15) := ⟨⟨by decide +kernel, by decide +kernel⟩, List.mem_of_getElem? (i := 294) (by decide +kernel), List.mem_of_getElem? (i := 535) (by decide +kernel), List.mem_of_getElem? (i := 536) (by decide +kernel)⟩
theorem lw_p1 : lw_okq (⟨"GridLaws$Board", "countMeets", "()V"⟩, 15) := ⟨⟨by decide +kernel, by decide +kernel⟩, List.mem_of_getElem? (i := 294) (by decide +kernel), List.mem_of_getElem? (i := 539) (by decide +kernel), List.mem_of_getElem? (i := 540) (by decide +kernel)⟩
theorem lw_p2 : lw_okq (⟨"GridLaws$Tape", "isLetter", "(I)Z"⟩, 10) := ⟨⟨by decide +kernel, by decide +kernel⟩, List.mem_of_getElem? (i := 32) (by decide +kernel), List.mem_of_getElem? (i := 659) (by decide +kernel), List.mem_of_getElem? (i := 660) (by decide +kernel)⟩
theorem lw_p3 : lw_okq (⟨"GridLaws$Tape", "readWord", "()V"⟩, 10) := ⟨⟨by decide +kernel, by decide +kernel⟩, List.mem_of_getElem? (i := 32) (by decide +kernel), List.mem_of_getElem? (i := 663) (by decide +kernel), List.mem_of_getElem? (i := 664) (by decide +kernel)⟩
theorem lw_p4 : lw_okq (⟨"GridLaws$Tape", "isDigit", "(I)Z"⟩, 10) := ⟨⟨by decide +kernel, by decide +kernel⟩, List.mem_of_getElem? (i := 32) (by decide +kernel), List.mem_of_getElem? (i := 667) (by decide +kernel), List.mem_of_getElem? (i := 668) (by decide +kernel)⟩
theorem lw_p5 : lw_okq (⟨"GridLaws$Tape", "readNumber", "()V"⟩, 10) := ⟨⟨by decide +kernel, by decide +kernel⟩, List.mem_of_getElem? (i := 32) (by decide +kernel), List.mem_of_getElem? (i := 671) (by decide +kernel), List.mem_of_getElem? (i := 672) (by decide +kernel)⟩
theorem lw_p6 : lw_okq (⟨"GridLaws$Tape", "readSign", "()V"⟩, 10) := ⟨⟨by decide +kernel, by decide +kernel⟩, List.mem_of_getElem? (i := 32) (by decide +kernel), List.mem_of_getElem? (i := 675) (by decide +kernel), List.mem_of_getElem? (i := 676) (by decide +kernel)⟩
theorem lw_p7 : lw_okq (⟨"GridLaws$Reader", "enter", "(Z)Z"⟩, 5) := ⟨⟨by decide +kernel, by decide +kernel⟩, List.mem_of_getElem? (i := 270) (by decide +kernel), List.mem_of_getElem? (i := 749) (by decide +kernel), List.mem_of_getElem? (i := 750) (by decide +kernel)⟩
theorem lw_p8 : lw_okq (⟨"GridLaws$Reader", "refuse", "(I)Z"⟩, 5) := ⟨⟨by decide +kernel, by decide +kernel⟩, List.mem_of_getElem? (i := 270) (by decide +kernel), List.mem_of_getElem? (i := 753) (by decide +kernel), List.mem_of_getElem? (i := 754) (by decide +kernel)⟩
theorem lw_p9 : lw_okq (⟨"GridLaws$Reader", "refuseAt", "(II)Z"⟩, 5) := ⟨⟨by decide +kernel, by decide +kernel⟩, List.mem_of_getElem? (i := 270) (by decide +kernel), List.mem_of_getElem? (i := 757) (by decide +kernel), List.mem_of_getElem? (i := 758) (by decide +kernel)⟩
theorem lw_p10 : lw_okq (⟨"GridLaws$Reader", "readSize", "()Z"⟩, 5) := ⟨⟨by decide +kernel, by decide +kernel⟩, List.mem_of_getElem? (i := 270) (by decide +kernel), List.mem_of_getElem? (i := 762) (by decide +kernel), List.mem_of_getElem? (i := 763) (by decide +kernel)⟩
theorem lw_p11 : lw_okq (⟨"GridLaws$Reader", "takeNumber", "(III)I"⟩, 5) := ⟨⟨by decide +kernel, by decide +kernel⟩, List.mem_of_getElem? (i := 270) (by decide +kernel), List.mem_of_getElem? (i := 766) (by decide +kernel), List.mem_of_getElem? (i := 767) (by decide +kernel)⟩
theorem lw_p12 : lw_okq (⟨"GridLaws$Reader", "takeKeyword", "(I)Z"⟩, 5) := ⟨⟨by decide +kernel, by decide +kernel⟩, List.mem_of_getElem? (i := 270) (by decide +kernel), List.mem_of_getElem? (i := 770) (by decide +kernel), List.mem_of_getElem? (i := 771) (by decide +kernel)⟩
theorem lw_p13 : lw_okq (⟨"GridLaws$Reader", "takeSign", "(C)Z"⟩, 5) := ⟨⟨by decide +kernel, by decide +kernel⟩, List.mem_of_getElem? (i := 270) (by decide +kernel), List.mem_of_getElem? (i := 779) (by decide +kernel), List.mem_of_getElem? (i := 780) (by decide +kernel)⟩
theorem lw_p14 : lw_okq (⟨"GridLaws$Reader", "readParty", "()Z"⟩, 5) := ⟨⟨by decide +kernel, by decide +kernel⟩, List.mem_of_getElem? (i := 270) (by decide +kernel), List.mem_of_getElem? (i := 787) (by decide +kernel), List.mem_of_getElem? (i := 788) (by decide +kernel)⟩
theorem lw_p15 : lw_okq (⟨"GridLaws$Reader", "readAct", "()Z"⟩, 5) := ⟨⟨by decide +kernel, by decide +kernel⟩, List.mem_of_getElem? (i := 270) (by decide +kernel), List.mem_of_getElem? (i := 806) (by decide +kernel), List.mem_of_getElem? (i := 807) (by decide +kernel)⟩
def lw_privs_1 : List (MethodName × Nat) := [(⟨"GridLaws$Board", "findSlot", "(IIIII)V"⟩, 15), (⟨"GridLaws$Board", "countMeets", "()V"⟩, 15), (⟨"GridLaws$Tape", "isLetter", "(I)Z"⟩, 10), (⟨"GridLaws$Tape", "readWord", "()V"⟩, 10), (⟨"GridLaws$Tape", "isDigit", "(I)Z"⟩, 10), (⟨"GridLaws$Tape", "readNumber", "()V"⟩, 10), (⟨"GridLaws$Tape", "readSign", "()V"⟩, 10), (⟨"GridLaws$Reader", "enter", "(Z)Z"⟩, 5), (⟨"GridLaws$Reader", "refuse", "(I)Z"⟩, 5), (⟨"GridLaws$Reader", "refuseAt", "(II)Z"⟩, 5), (⟨"GridLaws$Reader", "readSize", "()Z"⟩, 5), (⟨"GridLaws$Reader", "takeNumber", "(III)I"⟩, 5), (⟨"GridLaws$Reader", "takeKeyword", "(I)Z"⟩, 5), (⟨"GridLaws$Reader", "takeSign", "(C)Z"⟩, 5), (⟨"GridLaws$Reader", "readParty", "()Z"⟩, 5), (⟨"GridLaws$Reader", "readAct", "()Z"⟩, 5)]
theorem lw_r1 : ∀ q ∈ lw_privs_1, lw_okq q := List.forall_mem_cons.mpr ⟨lw_p0, List.forall_mem_cons.mpr ⟨lw_p1, List.forall_mem_cons.mpr ⟨lw_p2, List.forall_mem_cons.mpr ⟨lw_p3, List.forall_mem_cons.mpr ⟨lw_p4, List.forall_mem_cons.mpr ⟨lw_p5, List.forall_mem_cons.mpr ⟨lw_p6, List.forall_mem_cons.mpr ⟨lw_p7, List.forall_mem_cons.mpr ⟨lw_p8, List.forall_mem_cons.mpr ⟨lw_p9, List.forall_mem_cons.mpr ⟨lw_p10, List.forall_mem_cons.mpr ⟨lw_p11, List.forall_mem_cons.mpr ⟨lw_p12, List.forall_mem_cons.mpr ⟨lw_p13, List.forall_mem_cons.mpr ⟨lw_p14, List.forall_mem_cons.mpr ⟨lw_p15, fun _ h => absurd h List.not_mem_nil⟩⟩⟩⟩⟩⟩⟩⟩⟩⟩⟩⟩⟩⟩⟩⟩
theorem lw_p16 : lw_okq (⟨"GridLaws$Law", "addLetter", "(II)V"⟩, 17) := ⟨⟨by decide +kernel, by decide +kernel⟩, List.mem_of_getElem? (i := 127) (by decide +kernel), List.mem_of_getElem? (i := 819) (by decide +kernel), List.mem_of_getElem? (i := 820) (by decide +kernel)⟩
theorem lw_p17 : lw_okq (⟨"GridLaws$Reader", "readWant", "(I)Z"⟩, 5) := ⟨⟨by decide +kernel, by decide +kernel⟩, List.mem_of_getElem? (i := 270) (by decide +kernel), List.mem_of_getElem? (i := 828) (by decide +kernel), List.mem_of_getElem? (i := 829) (by decide +kernel)⟩
theorem lw_p18 : lw_okq (⟨"GridLaws$Reader", "readBlack", "()Z"⟩, 5) := ⟨⟨by decide +kernel, by decide +kernel⟩, List.mem_of_getElem? (i := 270) (by decide +kernel), List.mem_of_getElem? (i := 833) (by decide +kernel), List.mem_of_getElem? (i := 834) (by decide +kernel)⟩
theorem lw_p19 : lw_okq (⟨"GridLaws$Reader", "readIf", "()Z"⟩, 5) := ⟨⟨by decide +kernel, by decide +kernel⟩, List.mem_of_getElem? (i := 270) (by decide +kernel), List.mem_of_getElem? (i := 841) (by decide +kernel), List.mem_of_getElem? (i := 842) (by decide +kernel)⟩
theorem lw_p20 : lw_okq (⟨"GridLaws$Reader", "takeAct", "()I"⟩, 5) := ⟨⟨by decide +kernel, by decide +kernel⟩, List.mem_of_getElem? (i := 270) (by decide +kernel), List.mem_of_getElem? (i := 845) (by decide +kernel), List.mem_of_getElem? (i := 846) (by decide +kernel)⟩
theorem lw_p21 : lw_okq (⟨"GridLaws$Reader", "takeSecond", "(LGridLaws$Rules;I)I"⟩, 5) := ⟨⟨by decide +kernel, by decide +kernel⟩, List.mem_of_getElem? (i := 270) (by decide +kernel), List.mem_of_getElem? (i := 849) (by decide +kernel), List.mem_of_getElem? (i := 850) (by decide +kernel)⟩
theorem lw_p22 : lw_okq (⟨"GridLaws$Reader", "readNever", "()Z"⟩, 5) := ⟨⟨by decide +kernel, by decide +kernel⟩, List.mem_of_getElem? (i := 270) (by decide +kernel), List.mem_of_getElem? (i := 862) (by decide +kernel), List.mem_of_getElem? (i := 863) (by decide +kernel)⟩
theorem lw_p23 : lw_okq (⟨"GridLaws$Reader", "readForce", "()Z"⟩, 5) := ⟨⟨by decide +kernel, by decide +kernel⟩, List.mem_of_getElem? (i := 270) (by decide +kernel), List.mem_of_getElem? (i := 866) (by decide +kernel), List.mem_of_getElem? (i := 867) (by decide +kernel)⟩
theorem lw_p24 : lw_okq (⟨"GridLaws$Reader", "readAny", "(I)Z"⟩, 5) := ⟨⟨by decide +kernel, by decide +kernel⟩, List.mem_of_getElem? (i := 270) (by decide +kernel), List.mem_of_getElem? (i := 870) (by decide +kernel), List.mem_of_getElem? (i := 871) (by decide +kernel)⟩
theorem lw_p25 : lw_okq (⟨"GridLaws$Reader", "readBoth", "(I)Z"⟩, 5) := ⟨⟨by decide +kernel, by decide +kernel⟩, List.mem_of_getElem? (i := 270) (by decide +kernel), List.mem_of_getElem? (i := 874) (by decide +kernel), List.mem_of_getElem? (i := 875) (by decide +kernel)⟩
theorem lw_p26 : lw_okq (⟨"GridLaws$Reader", "readOne", "(I)Z"⟩, 5) := ⟨⟨by decide +kernel, by decide +kernel⟩, List.mem_of_getElem? (i := 270) (by decide +kernel), List.mem_of_getElem? (i := 878) (by decide +kernel), List.mem_of_getElem? (i := 879) (by decide +kernel)⟩
theorem lw_p27 : lw_okq (⟨"GridLaws$Reader", "readSum", "(I)Z"⟩, 5) := ⟨⟨by decide +kernel, by decide +kernel⟩, List.mem_of_getElem? (i := 270) (by decide +kernel), List.mem_of_getElem? (i := 886) (by decide +kernel), List.mem_of_getElem? (i := 887) (by decide +kernel)⟩
theorem lw_p28 : lw_okq (⟨"GridLaws$Reader", "readTerm", "(I)Z"⟩, 5) := ⟨⟨by decide +kernel, by decide +kernel⟩, List.mem_of_getElem? (i := 270) (by decide +kernel), List.mem_of_getElem? (i := 890) (by decide +kernel), List.mem_of_getElem? (i := 891) (by decide +kernel)⟩
theorem lw_p29 : lw_okq (⟨"GridLaws$Reader", "readUnit", "(I)Z"⟩, 5) := ⟨⟨by decide +kernel, by decide +kernel⟩, List.mem_of_getElem? (i := 270) (by decide +kernel), List.mem_of_getElem? (i := 894) (by decide +kernel), List.mem_of_getElem? (i := 895) (by decide +kernel)⟩
theorem lw_p30 : lw_okq (⟨"GridLaws$Reader", "termSignHere", "()I"⟩, 5) := ⟨⟨by decide +kernel, by decide +kernel⟩, List.mem_of_getElem? (i := 270) (by decide +kernel), List.mem_of_getElem? (i := 898) (by decide +kernel), List.mem_of_getElem? (i := 899) (by decide +kernel)⟩
theorem lw_p31 : lw_okq (⟨"GridLaws$Reader", "sumSignHere", "()I"⟩, 5) := ⟨⟨by decide +kernel, by decide +kernel⟩, List.mem_of_getElem? (i := 270) (by decide +kernel), List.mem_of_getElem? (i := 902) (by decide +kernel), List.mem_of_getElem? (i := 903) (by decide +kernel)⟩
def lw_privs_2 : List (MethodName × Nat) := [(⟨"GridLaws$Law", "addLetter", "(II)V"⟩, 17), (⟨"GridLaws$Reader", "readWant", "(I)Z"⟩, 5), (⟨"GridLaws$Reader", "readBlack", "()Z"⟩, 5), (⟨"GridLaws$Reader", "readIf", "()Z"⟩, 5), (⟨"GridLaws$Reader", "takeAct", "()I"⟩, 5), (⟨"GridLaws$Reader", "takeSecond", "(LGridLaws$Rules;I)I"⟩, 5), (⟨"GridLaws$Reader", "readNever", "()Z"⟩, 5), (⟨"GridLaws$Reader", "readForce", "()Z"⟩, 5), (⟨"GridLaws$Reader", "readAny", "(I)Z"⟩, 5), (⟨"GridLaws$Reader", "readBoth", "(I)Z"⟩, 5), (⟨"GridLaws$Reader", "readOne", "(I)Z"⟩, 5), (⟨"GridLaws$Reader", "readSum", "(I)Z"⟩, 5), (⟨"GridLaws$Reader", "readTerm", "(I)Z"⟩, 5), (⟨"GridLaws$Reader", "readUnit", "(I)Z"⟩, 5), (⟨"GridLaws$Reader", "termSignHere", "()I"⟩, 5), (⟨"GridLaws$Reader", "sumSignHere", "()I"⟩, 5)]
theorem lw_r2 : ∀ q ∈ lw_privs_2, lw_okq q := List.forall_mem_cons.mpr ⟨lw_p16, List.forall_mem_cons.mpr ⟨lw_p17, List.forall_mem_cons.mpr ⟨lw_p18, List.forall_mem_cons.mpr ⟨lw_p19, List.forall_mem_cons.mpr ⟨lw_p20, List.forall_mem_cons.mpr ⟨lw_p21, List.forall_mem_cons.mpr ⟨lw_p22, List.forall_mem_cons.mpr ⟨lw_p23, List.forall_mem_cons.mpr ⟨lw_p24, List.forall_mem_cons.mpr ⟨lw_p25, List.forall_mem_cons.mpr ⟨lw_p26, List.forall_mem_cons.mpr ⟨lw_p27, List.forall_mem_cons.mpr ⟨lw_p28, List.forall_mem_cons.mpr ⟨lw_p29, List.forall_mem_cons.mpr ⟨lw_p30, List.forall_mem_cons.mpr ⟨lw_p31, fun _ h => absurd h List.not_mem_nil⟩⟩⟩⟩⟩⟩⟩⟩⟩⟩⟩⟩⟩⟩⟩⟩
theorem lw_p32 : lw_okq (⟨"GridLaws$Reader", "relationHere", "()I"⟩, 5) := ⟨⟨by decide +kernel, by decide +kernel⟩, List.mem_of_getElem? (i := 270) (by decide +kernel), List.mem_of_getElem? (i := 906) (by decide +kernel), List.mem_of_getElem? (i := 907) (by decide +kernel)⟩
theorem lw_p33 : lw_okq (⟨"GridLaws", "takeDraft", "()V"⟩, 13) := ⟨⟨by decide +kernel, by decide +kernel⟩, List.mem_of_getElem? (i := 24) (by decide +kernel), List.mem_of_getElem? (i := 910) (by decide +kernel), List.mem_of_getElem? (i := 911) (by decide +kernel)⟩
theorem lw_p34 : lw_okq (⟨"GridLaws$Formula", "outcome", "()I"⟩, 6) := ⟨⟨by decide +kernel, by decide +kernel⟩, List.mem_of_getElem? (i := 161) (by decide +kernel), List.mem_of_getElem? (i := 960) (by decide +kernel), List.mem_of_getElem? (i := 961) (by decide +kernel)⟩
theorem lw_p35 : lw_okq (⟨"GridLaws$Board", "mostWanted", "(I)I"⟩, 15) := ⟨⟨by decide +kernel, by decide +kernel⟩, List.mem_of_getElem? (i := 294) (by decide +kernel), List.mem_of_getElem? (i := 1040) (by decide +kernel), List.mem_of_getElem? (i := 1041) (by decide +kernel)⟩
theorem lw_p36 : lw_okq (⟨"GridLaws$Board", "firstPlace", "(I)I"⟩, 15) := ⟨⟨by decide +kernel, by decide +kernel⟩, List.mem_of_getElem? (i := 294) (by decide +kernel), List.mem_of_getElem? (i := 1046) (by decide +kernel), List.mem_of_getElem? (i := 1047) (by decide +kernel)⟩
theorem lw_p37 : lw_okq (⟨"GridLaws$Board", "applies", "(II)Z"⟩, 15) := ⟨⟨by decide +kernel, by decide +kernel⟩, List.mem_of_getElem? (i := 294) (by decide +kernel), List.mem_of_getElem? (i := 1084) (by decide +kernel), List.mem_of_getElem? (i := 1085) (by decide +kernel)⟩
theorem lw_p38 : lw_okq (⟨"GridLaws$Board", "doCross", "(II)Z"⟩, 15) := ⟨⟨by decide +kernel, by decide +kernel⟩, List.mem_of_getElem? (i := 294) (by decide +kernel), List.mem_of_getElem? (i := 1092) (by decide +kernel), List.mem_of_getElem? (i := 1093) (by decide +kernel)⟩
theorem lw_p39 : lw_okq (⟨"GridLaws$Filler", "begin", "(Z)V"⟩, 13) := ⟨⟨by decide +kernel, by decide +kernel⟩, List.mem_of_getElem? (i := 442) (by decide +kernel), List.mem_of_getElem? (i := 1148) (by decide +kernel), List.mem_of_getElem? (i := 1149) (by decide +kernel)⟩
theorem lw_p40 : lw_okq (⟨"GridLaws$Filler", "fill", "(III)V"⟩, 13) := ⟨⟨by decide +kernel, by decide +kernel⟩, List.mem_of_getElem? (i := 442) (by decide +kernel), List.mem_of_getElem? (i := 1156) (by decide +kernel), List.mem_of_getElem? (i := 1157) (by decide +kernel)⟩
theorem lw_p41 : lw_okq (⟨"GridLaws$Filler", "arrive", "(I)V"⟩, 13) := ⟨⟨by decide +kernel, by decide +kernel⟩, List.mem_of_getElem? (i := 442) (by decide +kernel), List.mem_of_getElem? (i := 1160) (by decide +kernel), List.mem_of_getElem? (i := 1161) (by decide +kernel)⟩
theorem lw_p42 : lw_okq (⟨"GridLaws$Filler", "countLetters", "()V"⟩, 13) := ⟨⟨by decide +kernel, by decide +kernel⟩, List.mem_of_getElem? (i := 442) (by decide +kernel), List.mem_of_getElem? (i := 1169) (by decide +kernel), List.mem_of_getElem? (i := 1170) (by decide +kernel)⟩
theorem lw_p43 : lw_okq (⟨"GridLaws$Filler", "give", "(IIII)V"⟩, 13) := ⟨⟨by decide +kernel, by decide +kernel⟩, List.mem_of_getElem? (i := 442) (by decide +kernel), List.mem_of_getElem? (i := 1176) (by decide +kernel), List.mem_of_getElem? (i := 1177) (by decide +kernel)⟩
theorem lw_p44 : lw_okq (⟨"GridLaws$Filler", "tryEach", "(IIII)V"⟩, 13) := ⟨⟨by decide +kernel, by decide +kernel⟩, List.mem_of_getElem? (i := 442) (by decide +kernel), List.mem_of_getElem? (i := 1185) (by decide +kernel), List.mem_of_getElem? (i := 1186) (by decide +kernel)⟩
theorem lw_p45 : lw_okq (⟨"GridLaws", "findFillings", "(I)Z"⟩, 13) := ⟨⟨by decide +kernel, by decide +kernel⟩, List.mem_of_getElem? (i := 24) (by decide +kernel), List.mem_of_getElem? (i := 1199) (by decide +kernel), List.mem_of_getElem? (i := 1200) (by decide +kernel)⟩
theorem lw_p46 : lw_okq (⟨"GridLaws$Duel", "tryMove", "(II)V"⟩, 6) := ⟨⟨by decide +kernel, by decide +kernel⟩, List.mem_of_getElem? (i := 493) (by decide +kernel), List.mem_of_getElem? (i := 1235) (by decide +kernel), List.mem_of_getElem? (i := 1236) (by decide +kernel)⟩
theorem lw_p47 : lw_okq (⟨"GridLaws$Duel", "worstReply", "()I"⟩, 6) := ⟨⟨by decide +kernel, by decide +kernel⟩, List.mem_of_getElem? (i := 493) (by decide +kernel), List.mem_of_getElem? (i := 1242) (by decide +kernel), List.mem_of_getElem? (i := 1243) (by decide +kernel)⟩
def lw_privs_3 : List (MethodName × Nat) := [(⟨"GridLaws$Reader", "relationHere", "()I"⟩, 5), (⟨"GridLaws", "takeDraft", "()V"⟩, 13), (⟨"GridLaws$Formula", "outcome", "()I"⟩, 6), (⟨"GridLaws$Board", "mostWanted", "(I)I"⟩, 15), (⟨"GridLaws$Board", "firstPlace", "(I)I"⟩, 15), (⟨"GridLaws$Board", "applies", "(II)Z"⟩, 15), (⟨"GridLaws$Board", "doCross", "(II)Z"⟩, 15), (⟨"GridLaws$Filler", "begin", "(Z)V"⟩, 13), (⟨"GridLaws$Filler", "fill", "(III)V"⟩, 13), (⟨"GridLaws$Filler", "arrive", "(I)V"⟩, 13), (⟨"GridLaws$Filler", "countLetters", "()V"⟩, 13), (⟨"GridLaws$Filler", "give", "(IIII)V"⟩, 13), (⟨"GridLaws$Filler", "tryEach", "(IIII)V"⟩, 13), (⟨"GridLaws", "findFillings", "(I)Z"⟩, 13), (⟨"GridLaws$Duel", "tryMove", "(II)V"⟩, 6), (⟨"GridLaws$Duel", "worstReply", "()I"⟩, 6)]
theorem lw_r3 : ∀ q ∈ lw_privs_3, lw_okq q := List.forall_mem_cons.mpr ⟨lw_p32, List.forall_mem_cons.mpr ⟨lw_p33, List.forall_mem_cons.mpr ⟨lw_p34, List.forall_mem_cons.mpr ⟨lw_p35, List.forall_mem_cons.mpr ⟨lw_p36, List.forall_mem_cons.mpr ⟨lw_p37, List.forall_mem_cons.mpr ⟨lw_p38, List.forall_mem_cons.mpr ⟨lw_p39, List.forall_mem_cons.mpr ⟨lw_p40, List.forall_mem_cons.mpr ⟨lw_p41, List.forall_mem_cons.mpr ⟨lw_p42, List.forall_mem_cons.mpr ⟨lw_p43, List.forall_mem_cons.mpr ⟨lw_p44, List.forall_mem_cons.mpr ⟨lw_p45, List.forall_mem_cons.mpr ⟨lw_p46, List.forall_mem_cons.mpr ⟨lw_p47, fun _ h => absurd h List.not_mem_nil⟩⟩⟩⟩⟩⟩⟩⟩⟩⟩⟩⟩⟩⟩⟩⟩
theorem lw_p48 : lw_okq (⟨"GridLaws$Duel", "gainsNow", "()I"⟩, 6) := ⟨⟨by decide +kernel, by decide +kernel⟩, List.mem_of_getElem? (i := 493) (by decide +kernel), List.mem_of_getElem? (i := 1246) (by decide +kernel), List.mem_of_getElem? (i := 1247) (by decide +kernel)⟩
theorem lw_p49 : lw_okq (⟨"GridLaws$Duel", "gainOf", "(II)I"⟩, 6) := ⟨⟨by decide +kernel, by decide +kernel⟩, List.mem_of_getElem? (i := 493) (by decide +kernel), List.mem_of_getElem? (i := 1250) (by decide +kernel), List.mem_of_getElem? (i := 1251) (by decide +kernel)⟩
theorem lw_p50 : lw_okq (⟨"GridLaws", "findPrints", "(I)Z"⟩, 13) := ⟨⟨by decide +kernel, by decide +kernel⟩, List.mem_of_getElem? (i := 24) (by decide +kernel), List.mem_of_getElem? (i := 1292) (by decide +kernel), List.mem_of_getElem? (i := 1293) (by decide +kernel)⟩
theorem lw_p51 : lw_okq (⟨"GridLawsModel", "clearBank", "()V"⟩, 84) := ⟨⟨by decide +kernel, by decide +kernel⟩, List.mem_of_getElem? (i := 1345) (by decide +kernel), List.mem_of_getElem? (i := 1351) (by decide +kernel), List.mem_of_getElem? (i := 1352) (by decide +kernel)⟩
theorem lw_p52 : lw_okq (⟨"GridLawsModel", "startAnew", "()V"⟩, 84) := ⟨⟨by decide +kernel, by decide +kernel⟩, List.mem_of_getElem? (i := 1345) (by decide +kernel), List.mem_of_getElem? (i := 1355) (by decide +kernel), List.mem_of_getElem? (i := 1356) (by decide +kernel)⟩
theorem lw_p53 : lw_okq (⟨"GridLawsModel", "goOn", "()V"⟩, 84) := ⟨⟨by decide +kernel, by decide +kernel⟩, List.mem_of_getElem? (i := 1345) (by decide +kernel), List.mem_of_getElem? (i := 1619) (by decide +kernel), List.mem_of_getElem? (i := 1620) (by decide +kernel)⟩
theorem lw_p54 : lw_okq (⟨"GridLawsModel", "sign", "(I)I"⟩, 84) := ⟨⟨by decide +kernel, by decide +kernel⟩, List.mem_of_getElem? (i := 1345) (by decide +kernel), List.mem_of_getElem? (i := 1623) (by decide +kernel), List.mem_of_getElem? (i := 1624) (by decide +kernel)⟩
theorem lw_p55 : lw_okq (⟨"GridLawsModel", "isGood", "()Z"⟩, 84) := ⟨⟨by decide +kernel, by decide +kernel⟩, List.mem_of_getElem? (i := 1345) (by decide +kernel), List.mem_of_getElem? (i := 1657) (by decide +kernel), List.mem_of_getElem? (i := 1658) (by decide +kernel)⟩
theorem lw_p56 : lw_okq (⟨"GridLawsModel", "readLine", "()V"⟩, 84) := ⟨⟨by decide +kernel, by decide +kernel⟩, List.mem_of_getElem? (i := 1345) (by decide +kernel), List.mem_of_getElem? (i := 1661) (by decide +kernel), List.mem_of_getElem? (i := 1662) (by decide +kernel)⟩
theorem lw_p57 : lw_okq (⟨"GridLawsModel", "isFull", "()Z"⟩, 84) := ⟨⟨by decide +kernel, by decide +kernel⟩, List.mem_of_getElem? (i := 1345) (by decide +kernel), List.mem_of_getElem? (i := 1665) (by decide +kernel), List.mem_of_getElem? (i := 1666) (by decide +kernel)⟩
theorem lw_p58 : lw_okq (⟨"GridLawsModel", "isWord", "(J)Z"⟩, 84) := ⟨⟨by decide +kernel, by decide +kernel⟩, List.mem_of_getElem? (i := 1345) (by decide +kernel), List.mem_of_getElem? (i := 1669) (by decide +kernel), List.mem_of_getElem? (i := 1670) (by decide +kernel)⟩
theorem lw_p59 : lw_okq (⟨"GridLawsModel", "misplaced", "()V"⟩, 84) := ⟨⟨by decide +kernel, by decide +kernel⟩, List.mem_of_getElem? (i := 1345) (by decide +kernel), List.mem_of_getElem? (i := 1673) (by decide +kernel), List.mem_of_getElem? (i := 1674) (by decide +kernel)⟩
theorem lw_p60 : lw_okq (⟨"GridLawsModel", "fails", "(II)V"⟩, 84) := ⟨⟨by decide +kernel, by decide +kernel⟩, List.mem_of_getElem? (i := 1345) (by decide +kernel), List.mem_of_getElem? (i := 1677) (by decide +kernel), List.mem_of_getElem? (i := 1678) (by decide +kernel)⟩
theorem lw_p61 : lw_okq (⟨"GridLawsModel", "numeral", "(II)I"⟩, 84) := ⟨⟨by decide +kernel, by decide +kernel⟩, List.mem_of_getElem? (i := 1345) (by decide +kernel), List.mem_of_getElem? (i := 1681) (by decide +kernel), List.mem_of_getElem? (i := 1682) (by decide +kernel)⟩
theorem lw_p62 : lw_okq (⟨"GridLawsModel", "must", "(Z)V"⟩, 84) := ⟨⟨by decide +kernel, by decide +kernel⟩, List.mem_of_getElem? (i := 1345) (by decide +kernel), List.mem_of_getElem? (i := 1685) (by decide +kernel), List.mem_of_getElem? (i := 1686) (by decide +kernel)⟩
theorem lw_p63 : lw_okq (⟨"GridLawsModel", "partyHere", "()I"⟩, 84) := ⟨⟨by decide +kernel, by decide +kernel⟩, List.mem_of_getElem? (i := 1345) (by decide +kernel), List.mem_of_getElem? (i := 1689) (by decide +kernel), List.mem_of_getElem? (i := 1690) (by decide +kernel)⟩
def lw_privs_4 : List (MethodName × Nat) := [(⟨"GridLaws$Duel", "gainsNow", "()I"⟩, 6), (⟨"GridLaws$Duel", "gainOf", "(II)I"⟩, 6), (⟨"GridLaws", "findPrints", "(I)Z"⟩, 13), (⟨"GridLawsModel", "clearBank", "()V"⟩, 84), (⟨"GridLawsModel", "startAnew", "()V"⟩, 84), (⟨"GridLawsModel", "goOn", "()V"⟩, 84), (⟨"GridLawsModel", "sign", "(I)I"⟩, 84), (⟨"GridLawsModel", "isGood", "()Z"⟩, 84), (⟨"GridLawsModel", "readLine", "()V"⟩, 84), (⟨"GridLawsModel", "isFull", "()Z"⟩, 84), (⟨"GridLawsModel", "isWord", "(J)Z"⟩, 84), (⟨"GridLawsModel", "misplaced", "()V"⟩, 84), (⟨"GridLawsModel", "fails", "(II)V"⟩, 84), (⟨"GridLawsModel", "numeral", "(II)I"⟩, 84), (⟨"GridLawsModel", "must", "(Z)V"⟩, 84), (⟨"GridLawsModel", "partyHere", "()I"⟩, 84)]
theorem lw_r4 : ∀ q ∈ lw_privs_4, lw_okq q := List.forall_mem_cons.mpr ⟨lw_p48, List.forall_mem_cons.mpr ⟨lw_p49, List.forall_mem_cons.mpr ⟨lw_p50, List.forall_mem_cons.mpr ⟨lw_p51, List.forall_mem_cons.mpr ⟨lw_p52, List.forall_mem_cons.mpr ⟨lw_p53, List.forall_mem_cons.mpr ⟨lw_p54, List.forall_mem_cons.mpr ⟨lw_p55, List.forall_mem_cons.mpr ⟨lw_p56, List.forall_mem_cons.mpr ⟨lw_p57, List.forall_mem_cons.mpr ⟨lw_p58, List.forall_mem_cons.mpr ⟨lw_p59, List.forall_mem_cons.mpr ⟨lw_p60, List.forall_mem_cons.mpr ⟨lw_p61, List.forall_mem_cons.mpr ⟨lw_p62, List.forall_mem_cons.mpr ⟨lw_p63, fun _ h => absurd h List.not_mem_nil⟩⟩⟩⟩⟩⟩⟩⟩⟩⟩⟩⟩⟩⟩⟩⟩
theorem lw_p64 : lw_okq (⟨"GridLawsModel", "here", "([JII)I"⟩, 84) := ⟨⟨by decide +kernel, by decide +kernel⟩, List.mem_of_getElem? (i := 1345) (by decide +kernel), List.mem_of_getElem? (i := 1693) (by decide +kernel), List.mem_of_getElem? (i := 1694) (by decide +kernel)⟩
theorem lw_p65 : lw_okq (⟨"GridLawsModel", "fresh", "(I)J"⟩, 84) := ⟨⟨by decide +kernel, by decide +kernel⟩, List.mem_of_getElem? (i := 1345) (by decide +kernel), List.mem_of_getElem? (i := 1697) (by decide +kernel), List.mem_of_getElem? (i := 1698) (by decide +kernel)⟩
theorem lw_p66 : lw_okq (⟨"GridLawsModel", "readAct", "()V"⟩, 84) := ⟨⟨by decide +kernel, by decide +kernel⟩, List.mem_of_getElem? (i := 1345) (by decide +kernel), List.mem_of_getElem? (i := 1701) (by decide +kernel), List.mem_of_getElem? (i := 1702) (by decide +kernel)⟩
theorem lw_p67 : lw_okq (⟨"GridLawsModel", "actHere", "()I"⟩, 84) := ⟨⟨by decide +kernel, by decide +kernel⟩, List.mem_of_getElem? (i := 1345) (by decide +kernel), List.mem_of_getElem? (i := 1705) (by decide +kernel), List.mem_of_getElem? (i := 1706) (by decide +kernel)⟩
theorem lw_p68 : lw_okq (⟨"GridLawsModel", "isSignHere", "(I)Z"⟩, 84) := ⟨⟨by decide +kernel, by decide +kernel⟩, List.mem_of_getElem? (i := 1345) (by decide +kernel), List.mem_of_getElem? (i := 1709) (by decide +kernel), List.mem_of_getElem? (i := 1710) (by decide +kernel)⟩
theorem lw_p69 : lw_okq (⟨"GridLawsModel", "known", "(I)I"⟩, 84) := ⟨⟨by decide +kernel, by decide +kernel⟩, List.mem_of_getElem? (i := 1345) (by decide +kernel), List.mem_of_getElem? (i := 1713) (by decide +kernel), List.mem_of_getElem? (i := 1714) (by decide +kernel)⟩
theorem lw_p70 : lw_okq (⟨"GridLawsModel", "signed", "()I"⟩, 84) := ⟨⟨by decide +kernel, by decide +kernel⟩, List.mem_of_getElem? (i := 1345) (by decide +kernel), List.mem_of_getElem? (i := 1717) (by decide +kernel), List.mem_of_getElem? (i := 1718) (by decide +kernel)⟩
theorem lw_p71 : lw_okq (⟨"GridLawsModel", "readBlack", "()V"⟩, 84) := ⟨⟨by decide +kernel, by decide +kernel⟩, List.mem_of_getElem? (i := 1345) (by decide +kernel), List.mem_of_getElem? (i := 1721) (by decide +kernel), List.mem_of_getElem? (i := 1722) (by decide +kernel)⟩
theorem lw_p72 : lw_okq (⟨"GridLawsModel", "readIf", "()V"⟩, 84) := ⟨⟨by decide +kernel, by decide +kernel⟩, List.mem_of_getElem? (i := 1345) (by decide +kernel), List.mem_of_getElem? (i := 1725) (by decide +kernel), List.mem_of_getElem? (i := 1726) (by decide +kernel)⟩
theorem lw_p73 : lw_okq (⟨"GridLawsModel", "second", "(I[I[II)I"⟩, 84) := ⟨⟨by decide +kernel, by decide +kernel⟩, List.mem_of_getElem? (i := 1345) (by decide +kernel), List.mem_of_getElem? (i := 1729) (by decide +kernel), List.mem_of_getElem? (i := 1730) (by decide +kernel)⟩
theorem lw_p74 : lw_okq (⟨"GridLawsModel", "readNever", "()V"⟩, 84) := ⟨⟨by decide +kernel, by decide +kernel⟩, List.mem_of_getElem? (i := 1345) (by decide +kernel), List.mem_of_getElem? (i := 1733) (by decide +kernel), List.mem_of_getElem? (i := 1734) (by decide +kernel)⟩
theorem lw_p75 : lw_okq (⟨"GridLawsModel", "readRule", "(I)V"⟩, 84) := ⟨⟨by decide +kernel, by decide +kernel⟩, List.mem_of_getElem? (i := 1345) (by decide +kernel), List.mem_of_getElem? (i := 1737) (by decide +kernel), List.mem_of_getElem? (i := 1738) (by decide +kernel)⟩
theorem lw_p76 : lw_okq (⟨"GridLawsModel", "e", "()V"⟩, 84) := ⟨⟨by decide +kernel, by decide +kernel⟩, List.mem_of_getElem? (i := 1345) (by decide +kernel), List.mem_of_getElem? (i := 1741) (by decide +kernel), List.mem_of_getElem? (i := 1742) (by decide +kernel)⟩
theorem lw_p77 : lw_okq (⟨"GridLawsModel", "pushE", "(II)V"⟩, 84) := ⟨⟨by decide +kernel, by decide +kernel⟩, List.mem_of_getElem? (i := 1345) (by decide +kernel), List.mem_of_getElem? (i := 1745) (by decide +kernel), List.mem_of_getElem? (i := 1746) (by decide +kernel)⟩
theorem lw_p78 : lw_okq (⟨"GridLawsModel", "unit", "()Z"⟩, 84) := ⟨⟨by decide +kernel, by decide +kernel⟩, List.mem_of_getElem? (i := 1345) (by decide +kernel), List.mem_of_getElem? (i := 1749) (by decide +kernel), List.mem_of_getElem? (i := 1750) (by decide +kernel)⟩
theorem lw_p79 : lw_okq (⟨"GridLawsModel", "wordHere", "()I"⟩, 84) := ⟨⟨by decide +kernel, by decide +kernel⟩, List.mem_of_getElem? (i := 1345) (by decide +kernel), List.mem_of_getElem? (i := 1753) (by decide +kernel), List.mem_of_getElem? (i := 1754) (by decide +kernel)⟩
def lw_privs_5 : List (MethodName × Nat) := [(⟨"GridLawsModel", "here", "([JII)I"⟩, 84), (⟨"GridLawsModel", "fresh", "(I)J"⟩, 84), (⟨"GridLawsModel", "readAct", "()V"⟩, 84), (⟨"GridLawsModel", "actHere", "()I"⟩, 84), (⟨"GridLawsModel", "isSignHere", "(I)Z"⟩, 84), (⟨"GridLawsModel", "known", "(I)I"⟩, 84), (⟨"GridLawsModel", "signed", "()I"⟩, 84), (⟨"GridLawsModel", "readBlack", "()V"⟩, 84), (⟨"GridLawsModel", "readIf", "()V"⟩, 84), (⟨"GridLawsModel", "second", "(I[I[II)I"⟩, 84), (⟨"GridLawsModel", "readNever", "()V"⟩, 84), (⟨"GridLawsModel", "readRule", "(I)V"⟩, 84), (⟨"GridLawsModel", "e", "()V"⟩, 84), (⟨"GridLawsModel", "pushE", "(II)V"⟩, 84), (⟨"GridLawsModel", "unit", "()Z"⟩, 84), (⟨"GridLawsModel", "wordHere", "()I"⟩, 84)]
theorem lw_r5 : ∀ q ∈ lw_privs_5, lw_okq q := List.forall_mem_cons.mpr ⟨lw_p64, List.forall_mem_cons.mpr ⟨lw_p65, List.forall_mem_cons.mpr ⟨lw_p66, List.forall_mem_cons.mpr ⟨lw_p67, List.forall_mem_cons.mpr ⟨lw_p68, List.forall_mem_cons.mpr ⟨lw_p69, List.forall_mem_cons.mpr ⟨lw_p70, List.forall_mem_cons.mpr ⟨lw_p71, List.forall_mem_cons.mpr ⟨lw_p72, List.forall_mem_cons.mpr ⟨lw_p73, List.forall_mem_cons.mpr ⟨lw_p74, List.forall_mem_cons.mpr ⟨lw_p75, List.forall_mem_cons.mpr ⟨lw_p76, List.forall_mem_cons.mpr ⟨lw_p77, List.forall_mem_cons.mpr ⟨lw_p78, List.forall_mem_cons.mpr ⟨lw_p79, fun _ h => absurd h List.not_mem_nil⟩⟩⟩⟩⟩⟩⟩⟩⟩⟩⟩⟩⟩⟩⟩⟩
theorem lw_p80 : lw_okq (⟨"GridLawsModel", "emit", "(II)V"⟩, 84) := ⟨⟨by decide +kernel, by decide +kernel⟩, List.mem_of_getElem? (i := 1345) (by decide +kernel), List.mem_of_getElem? (i := 1757) (by decide +kernel), List.mem_of_getElem? (i := 1758) (by decide +kernel)⟩
theorem lw_p81 : lw_okq (⟨"GridLawsModel", "behindUnit", "()Z"⟩, 84) := ⟨⟨by decide +kernel, by decide +kernel⟩, List.mem_of_getElem? (i := 1345) (by decide +kernel), List.mem_of_getElem? (i := 1761) (by decide +kernel), List.mem_of_getElem? (i := 1762) (by decide +kernel)⟩
theorem lw_p82 : lw_okq (⟨"GridLawsModel", "rankHere", "()I"⟩, 84) := ⟨⟨by decide +kernel, by decide +kernel⟩, List.mem_of_getElem? (i := 1345) (by decide +kernel), List.mem_of_getElem? (i := 1765) (by decide +kernel), List.mem_of_getElem? (i := 1766) (by decide +kernel)⟩
theorem lw_p83 : lw_okq (⟨"GridLawsModel", "isCompared", "()Z"⟩, 84) := ⟨⟨by decide +kernel, by decide +kernel⟩, List.mem_of_getElem? (i := 1345) (by decide +kernel), List.mem_of_getElem? (i := 1769) (by decide +kernel), List.mem_of_getElem? (i := 1770) (by decide +kernel)⟩
theorem lw_p84 : lw_okq (⟨"GridLawsModel", "cells", "()I"⟩, 84) := ⟨⟨by decide +kernel, by decide +kernel⟩, List.mem_of_getElem? (i := 1345) (by decide +kernel), List.mem_of_getElem? (i := 1781) (by decide +kernel), List.mem_of_getElem? (i := 1782) (by decide +kernel)⟩
theorem lw_p85 : lw_okq (⟨"GridLawsModel", "laySlots", "()V"⟩, 84) := ⟨⟨by decide +kernel, by decide +kernel⟩, List.mem_of_getElem? (i := 1345) (by decide +kernel), List.mem_of_getElem? (i := 1792) (by decide +kernel), List.mem_of_getElem? (i := 1793) (by decide +kernel)⟩
theorem lw_p86 : lw_okq (⟨"GridLawsModel", "width", "()I"⟩, 84) := ⟨⟨by decide +kernel, by decide +kernel⟩, List.mem_of_getElem? (i := 1345) (by decide +kernel), List.mem_of_getElem? (i := 1796) (by decide +kernel), List.mem_of_getElem? (i := 1797) (by decide +kernel)⟩
theorem lw_p87 : lw_okq (⟨"GridLawsModel", "addSlot", "(IIZ)V"⟩, 84) := ⟨⟨by decide +kernel, by decide +kernel⟩, List.mem_of_getElem? (i := 1345) (by decide +kernel), List.mem_of_getElem? (i := 1800) (by decide +kernel), List.mem_of_getElem? (i := 1801) (by decide +kernel)⟩
theorem lw_p88 : lw_okq (⟨"GridLawsModel", "layActs", "()V"⟩, 84) := ⟨⟨by decide +kernel, by decide +kernel⟩, List.mem_of_getElem? (i := 1345) (by decide +kernel), List.mem_of_getElem? (i := 1804) (by decide +kernel), List.mem_of_getElem? (i := 1805) (by decide +kernel)⟩
theorem lw_p89 : lw_okq (⟨"GridLawsModel", "blankIn", "(I)I"⟩, 84) := ⟨⟨by decide +kernel, by decide +kernel⟩, List.mem_of_getElem? (i := 1345) (by decide +kernel), List.mem_of_getElem? (i := 1808) (by decide +kernel), List.mem_of_getElem? (i := 1809) (by decide +kernel)⟩
theorem lw_p90 : lw_okq (⟨"GridLawsModel", "stepOf", "(I)I"⟩, 84) := ⟨⟨by decide +kernel, by decide +kernel⟩, List.mem_of_getElem? (i := 1345) (by decide +kernel), List.mem_of_getElem? (i := 1812) (by decide +kernel), List.mem_of_getElem? (i := 1813) (by decide +kernel)⟩
theorem lw_p91 : lw_okq (⟨"GridLawsModel", "many", "()I"⟩, 84) := ⟨⟨by decide +kernel, by decide +kernel⟩, List.mem_of_getElem? (i := 1345) (by decide +kernel), List.mem_of_getElem? (i := 1816) (by decide +kernel), List.mem_of_getElem? (i := 1817) (by decide +kernel)⟩
theorem lw_p92 : lw_okq (⟨"GridLawsModel", "doesFit", "(II)Z"⟩, 84) := ⟨⟨by decide +kernel, by decide +kernel⟩, List.mem_of_getElem? (i := 1345) (by decide +kernel), List.mem_of_getElem? (i := 1820) (by decide +kernel), List.mem_of_getElem? (i := 1821) (by decide +kernel)⟩
theorem lw_p93 : lw_okq (⟨"GridLawsModel", "longOf", "(I)I"⟩, 84) := ⟨⟨by decide +kernel, by decide +kernel⟩, List.mem_of_getElem? (i := 1345) (by decide +kernel), List.mem_of_getElem? (i := 1824) (by decide +kernel), List.mem_of_getElem? (i := 1825) (by decide +kernel)⟩
theorem lw_p94 : lw_okq (⟨"GridLawsModel", "letterAt", "(II)I"⟩, 84) := ⟨⟨by decide +kernel, by decide +kernel⟩, List.mem_of_getElem? (i := 1345) (by decide +kernel), List.mem_of_getElem? (i := 1828) (by decide +kernel), List.mem_of_getElem? (i := 1829) (by decide +kernel)⟩
theorem lw_p95 : lw_okq (⟨"GridLawsModel", "forceOf", "(II)I"⟩, 84) := ⟨⟨by decide +kernel, by decide +kernel⟩, List.mem_of_getElem? (i := 1345) (by decide +kernel), List.mem_of_getElem? (i := 1836) (by decide +kernel), List.mem_of_getElem? (i := 1837) (by decide +kernel)⟩
def lw_privs_6 : List (MethodName × Nat) := [(⟨"GridLawsModel", "emit", "(II)V"⟩, 84), (⟨"GridLawsModel", "behindUnit", "()Z"⟩, 84), (⟨"GridLawsModel", "rankHere", "()I"⟩, 84), (⟨"GridLawsModel", "isCompared", "()Z"⟩, 84), (⟨"GridLawsModel", "cells", "()I"⟩, 84), (⟨"GridLawsModel", "laySlots", "()V"⟩, 84), (⟨"GridLawsModel", "width", "()I"⟩, 84), (⟨"GridLawsModel", "addSlot", "(IIZ)V"⟩, 84), (⟨"GridLawsModel", "layActs", "()V"⟩, 84), (⟨"GridLawsModel", "blankIn", "(I)I"⟩, 84), (⟨"GridLawsModel", "stepOf", "(I)I"⟩, 84), (⟨"GridLawsModel", "many", "()I"⟩, 84), (⟨"GridLawsModel", "doesFit", "(II)Z"⟩, 84), (⟨"GridLawsModel", "longOf", "(I)I"⟩, 84), (⟨"GridLawsModel", "letterAt", "(II)I"⟩, 84), (⟨"GridLawsModel", "forceOf", "(II)I"⟩, 84)]
theorem lw_r6 : ∀ q ∈ lw_privs_6, lw_okq q := List.forall_mem_cons.mpr ⟨lw_p80, List.forall_mem_cons.mpr ⟨lw_p81, List.forall_mem_cons.mpr ⟨lw_p82, List.forall_mem_cons.mpr ⟨lw_p83, List.forall_mem_cons.mpr ⟨lw_p84, List.forall_mem_cons.mpr ⟨lw_p85, List.forall_mem_cons.mpr ⟨lw_p86, List.forall_mem_cons.mpr ⟨lw_p87, List.forall_mem_cons.mpr ⟨lw_p88, List.forall_mem_cons.mpr ⟨lw_p89, List.forall_mem_cons.mpr ⟨lw_p90, List.forall_mem_cons.mpr ⟨lw_p91, List.forall_mem_cons.mpr ⟨lw_p92, List.forall_mem_cons.mpr ⟨lw_p93, List.forall_mem_cons.mpr ⟨lw_p94, List.forall_mem_cons.mpr ⟨lw_p95, fun _ h => absurd h List.not_mem_nil⟩⟩⟩⟩⟩⟩⟩⟩⟩⟩⟩⟩⟩⟩⟩⟩
theorem lw_p96 : lw_okq (⟨"GridLawsModel", "meetsOf", "(I)I"⟩, 84) := ⟨⟨by decide +kernel, by decide +kernel⟩, List.mem_of_getElem? (i := 1345) (by decide +kernel), List.mem_of_getElem? (i := 1843) (by decide +kernel), List.mem_of_getElem? (i := 1844) (by decide +kernel)⟩
theorem lw_p97 : lw_okq (⟨"GridLawsModel", "comes", "()I"⟩, 84) := ⟨⟨by decide +kernel, by decide +kernel⟩, List.mem_of_getElem? (i := 1345) (by decide +kernel), List.mem_of_getElem? (i := 1850) (by decide +kernel), List.mem_of_getElem? (i := 1851) (by decide +kernel)⟩
theorem lw_p98 : lw_okq (⟨"GridLawsModel", "asked", "(II)I"⟩, 84) := ⟨⟨by decide +kernel, by decide +kernel⟩, List.mem_of_getElem? (i := 1345) (by decide +kernel), List.mem_of_getElem? (i := 1854) (by decide +kernel), List.mem_of_getElem? (i := 1855) (by decide +kernel)⟩
theorem lw_p99 : lw_okq (⟨"GridLawsModel", "isAct", "(I)Z"⟩, 84) := ⟨⟨by decide +kernel, by decide +kernel⟩, List.mem_of_getElem? (i := 1345) (by decide +kernel), List.mem_of_getElem? (i := 1869) (by decide +kernel), List.mem_of_getElem? (i := 1870) (by decide +kernel)⟩
theorem lw_p100 : lw_okq (⟨"GridLawsModel", "isParty", "(I)Z"⟩, 84) := ⟨⟨by decide +kernel, by decide +kernel⟩, List.mem_of_getElem? (i := 1345) (by decide +kernel), List.mem_of_getElem? (i := 1877) (by decide +kernel), List.mem_of_getElem? (i := 1878) (by decide +kernel)⟩
theorem lw_p101 : lw_okq (⟨"GridLawsModel", "wantOf", "(II)I"⟩, 84) := ⟨⟨by decide +kernel, by decide +kernel⟩, List.mem_of_getElem? (i := 1345) (by decide +kernel), List.mem_of_getElem? (i := 1881) (by decide +kernel), List.mem_of_getElem? (i := 1882) (by decide +kernel)⟩
theorem lw_p102 : lw_okq (⟨"GridLawsModel", "inForce", "()I"⟩, 84) := ⟨⟨by decide +kernel, by decide +kernel⟩, List.mem_of_getElem? (i := 1345) (by decide +kernel), List.mem_of_getElem? (i := 1890) (by decide +kernel), List.mem_of_getElem? (i := 1891) (by decide +kernel)⟩
theorem lw_p103 : lw_okq (⟨"GridLawsModel", "keepAct", "()V"⟩, 84) := ⟨⟨by decide +kernel, by decide +kernel⟩, List.mem_of_getElem? (i := 1345) (by decide +kernel), List.mem_of_getElem? (i := 1894) (by decide +kernel), List.mem_of_getElem? (i := 1895) (by decide +kernel)⟩
theorem lw_p104 : lw_okq (⟨"GridLawsModel", "lay", "(II)I"⟩, 84) := ⟨⟨by decide +kernel, by decide +kernel⟩, List.mem_of_getElem? (i := 1345) (by decide +kernel), List.mem_of_getElem? (i := 1898) (by decide +kernel), List.mem_of_getElem? (i := 1899) (by decide +kernel)⟩
theorem lw_p105 : lw_okq (⟨"GridLawsModel", "blackOnes", "()I"⟩, 84) := ⟨⟨by decide +kernel, by decide +kernel⟩, List.mem_of_getElem? (i := 1345) (by decide +kernel), List.mem_of_getElem? (i := 1910) (by decide +kernel), List.mem_of_getElem? (i := 1911) (by decide +kernel)⟩
theorem lw_p106 : lw_okq (⟨"GridLawsModel", "goSitting", "()I"⟩, 84) := ⟨⟨by decide +kernel, by decide +kernel⟩, List.mem_of_getElem? (i := 1345) (by decide +kernel), List.mem_of_getElem? (i := 1918) (by decide +kernel), List.mem_of_getElem? (i := 1919) (by decide +kernel)⟩
theorem lw_p107 : lw_okq (⟨"GridLawsModel", "firstFor", "(I)I"⟩, 84) := ⟨⟨by decide +kernel, by decide +kernel⟩, List.mem_of_getElem? (i := 1345) (by decide +kernel), List.mem_of_getElem? (i := 1922) (by decide +kernel), List.mem_of_getElem? (i := 1923) (by decide +kernel)⟩
theorem lw_p108 : lw_okq (⟨"GridLawsModel", "exchange", "()V"⟩, 84) := ⟨⟨by decide +kernel, by decide +kernel⟩, List.mem_of_getElem? (i := 1345) (by decide +kernel), List.mem_of_getElem? (i := 1930) (by decide +kernel), List.mem_of_getElem? (i := 1931) (by decide +kernel)⟩
theorem lw_p109 : lw_okq (⟨"GridLawsModel", "doCross", "(II)Z"⟩, 84) := ⟨⟨by decide +kernel, by decide +kernel⟩, List.mem_of_getElem? (i := 1345) (by decide +kernel), List.mem_of_getElem? (i := 1946) (by decide +kernel), List.mem_of_getElem? (i := 1947) (by decide +kernel)⟩
theorem lw_p110 : lw_okq (⟨"GridLawsModel", "worthOf", "(I)I"⟩, 84) := ⟨⟨by decide +kernel, by decide +kernel⟩, List.mem_of_getElem? (i := 1345) (by decide +kernel), List.mem_of_getElem? (i := 1959) (by decide +kernel), List.mem_of_getElem? (i := 1960) (by decide +kernel)⟩
theorem lw_p111 : lw_okq (⟨"GridLawsModel", "inSlots", "()I"⟩, 84) := ⟨⟨by decide +kernel, by decide +kernel⟩, List.mem_of_getElem? (i := 1345) (by decide +kernel), List.mem_of_getElem? (i := 1967) (by decide +kernel), List.mem_of_getElem? (i := 1968) (by decide +kernel)⟩
def lw_privs_7 : List (MethodName × Nat) := [(⟨"GridLawsModel", "meetsOf", "(I)I"⟩, 84), (⟨"GridLawsModel", "comes", "()I"⟩, 84), (⟨"GridLawsModel", "asked", "(II)I"⟩, 84), (⟨"GridLawsModel", "isAct", "(I)Z"⟩, 84), (⟨"GridLawsModel", "isParty", "(I)Z"⟩, 84), (⟨"GridLawsModel", "wantOf", "(II)I"⟩, 84), (⟨"GridLawsModel", "inForce", "()I"⟩, 84), (⟨"GridLawsModel", "keepAct", "()V"⟩, 84), (⟨"GridLawsModel", "lay", "(II)I"⟩, 84), (⟨"GridLawsModel", "blackOnes", "()I"⟩, 84), (⟨"GridLawsModel", "goSitting", "()I"⟩, 84), (⟨"GridLawsModel", "firstFor", "(I)I"⟩, 84), (⟨"GridLawsModel", "exchange", "()V"⟩, 84), (⟨"GridLawsModel", "doCross", "(II)Z"⟩, 84), (⟨"GridLawsModel", "worthOf", "(I)I"⟩, 84), (⟨"GridLawsModel", "inSlots", "()I"⟩, 84)]
theorem lw_r7 : ∀ q ∈ lw_privs_7, lw_okq q := List.forall_mem_cons.mpr ⟨lw_p96, List.forall_mem_cons.mpr ⟨lw_p97, List.forall_mem_cons.mpr ⟨lw_p98, List.forall_mem_cons.mpr ⟨lw_p99, List.forall_mem_cons.mpr ⟨lw_p100, List.forall_mem_cons.mpr ⟨lw_p101, List.forall_mem_cons.mpr ⟨lw_p102, List.forall_mem_cons.mpr ⟨lw_p103, List.forall_mem_cons.mpr ⟨lw_p104, List.forall_mem_cons.mpr ⟨lw_p105, List.forall_mem_cons.mpr ⟨lw_p106, List.forall_mem_cons.mpr ⟨lw_p107, List.forall_mem_cons.mpr ⟨lw_p108, List.forall_mem_cons.mpr ⟨lw_p109, List.forall_mem_cons.mpr ⟨lw_p110, List.forall_mem_cons.mpr ⟨lw_p111, fun _ h => absurd h List.not_mem_nil⟩⟩⟩⟩⟩⟩⟩⟩⟩⟩⟩⟩⟩⟩⟩⟩
theorem lw_p112 : lw_okq (⟨"GridLawsModel", "goThrough", "(I)Z"⟩, 84) := ⟨⟨by decide +kernel, by decide +kernel⟩, List.mem_of_getElem? (i := 1345) (by decide +kernel), List.mem_of_getElem? (i := 1987) (by decide +kernel), List.mem_of_getElem? (i := 1988) (by decide +kernel)⟩
theorem lw_p113 : lw_okq (⟨"GridLawsModel", "meet", "(I)V"⟩, 84) := ⟨⟨by decide +kernel, by decide +kernel⟩, List.mem_of_getElem? (i := 1345) (by decide +kernel), List.mem_of_getElem? (i := 1991) (by decide +kernel), List.mem_of_getElem? (i := 1992) (by decide +kernel)⟩
theorem lw_p114 : lw_okq (⟨"GridLawsModel", "isSeen", "()Z"⟩, 84) := ⟨⟨by decide +kernel, by decide +kernel⟩, List.mem_of_getElem? (i := 1345) (by decide +kernel), List.mem_of_getElem? (i := 1995) (by decide +kernel), List.mem_of_getElem? (i := 1996) (by decide +kernel)⟩
theorem lw_p115 : lw_okq (⟨"GridLawsModel", "take", "(I)V"⟩, 84) := ⟨⟨by decide +kernel, by decide +kernel⟩, List.mem_of_getElem? (i := 1345) (by decide +kernel), List.mem_of_getElem? (i := 1999) (by decide +kernel), List.mem_of_getElem? (i := 2000) (by decide +kernel)⟩
theorem lw_p116 : lw_okq (⟨"GridLawsModel", "nextFor", "(III)I"⟩, 84) := ⟨⟨by decide +kernel, by decide +kernel⟩, List.mem_of_getElem? (i := 1345) (by decide +kernel), List.mem_of_getElem? (i := 2003) (by decide +kernel), List.mem_of_getElem? (i := 2004) (by decide +kernel)⟩
theorem lw_p117 : lw_okq (⟨"GridLawsModel", "takeAll", "(I)V"⟩, 84) := ⟨⟨by decide +kernel, by decide +kernel⟩, List.mem_of_getElem? (i := 1345) (by decide +kernel), List.mem_of_getElem? (i := 2007) (by decide +kernel), List.mem_of_getElem? (i := 2008) (by decide +kernel)⟩
theorem lw_p118 : lw_okq (⟨"GridLawsModel", "fillFor", "(I)Z"⟩, 84) := ⟨⟨by decide +kernel, by decide +kernel⟩, List.mem_of_getElem? (i := 1345) (by decide +kernel), List.mem_of_getElem? (i := 2015) (by decide +kernel), List.mem_of_getElem? (i := 2016) (by decide +kernel)⟩
theorem lw_p119 : lw_okq (⟨"GridLawsModel", "answered", "(II)I"⟩, 84) := ⟨⟨by decide +kernel, by decide +kernel⟩, List.mem_of_getElem? (i := 1345) (by decide +kernel), List.mem_of_getElem? (i := 2031) (by decide +kernel), List.mem_of_getElem? (i := 2032) (by decide +kernel)⟩
theorem lw_p120 : lw_okq (⟨"GridLawsModel", "layPrints", "(I)Z"⟩, 84) := ⟨⟨by decide +kernel, by decide +kernel⟩, List.mem_of_getElem? (i := 1345) (by decide +kernel), List.mem_of_getElem? (i := 2056) (by decide +kernel), List.mem_of_getElem? (i := 2057) (by decide +kernel)⟩
def lw_privs_8 : List (MethodName × Nat) := [(⟨"GridLawsModel", "goThrough", "(I)Z"⟩, 84), (⟨"GridLawsModel", "meet", "(I)V"⟩, 84), (⟨"GridLawsModel", "isSeen", "()Z"⟩, 84), (⟨"GridLawsModel", "take", "(I)V"⟩, 84), (⟨"GridLawsModel", "nextFor", "(III)I"⟩, 84), (⟨"GridLawsModel", "takeAll", "(I)V"⟩, 84), (⟨"GridLawsModel", "fillFor", "(I)Z"⟩, 84), (⟨"GridLawsModel", "answered", "(II)I"⟩, 84), (⟨"GridLawsModel", "layPrints", "(I)Z"⟩, 84)]
theorem lw_r8 : ∀ q ∈ lw_privs_8, lw_okq q := List.forall_mem_cons.mpr ⟨lw_p112, List.forall_mem_cons.mpr ⟨lw_p113, List.forall_mem_cons.mpr ⟨lw_p114, List.forall_mem_cons.mpr ⟨lw_p115, List.forall_mem_cons.mpr ⟨lw_p116, List.forall_mem_cons.mpr ⟨lw_p117, List.forall_mem_cons.mpr ⟨lw_p118, List.forall_mem_cons.mpr ⟨lw_p119, List.forall_mem_cons.mpr ⟨lw_p120, fun _ h => absurd h List.not_mem_nil⟩⟩⟩⟩⟩⟩⟩⟩⟩
def lw_privs : List (MethodName × Nat) := lw_privs_1 ++ (lw_privs_2 ++ (lw_privs_3 ++ (lw_privs_4 ++ (lw_privs_5 ++ (lw_privs_6 ++ (lw_privs_7 ++ (lw_privs_8)))))))
def lw_tbl : List Cond := k2_sels lw_privs ++ tables_1
theorem lw_privs_ok : ∀ q ∈ lw_privs, lw_okq q := by
  show ∀ q ∈ lw_privs_1 ++ (lw_privs_2 ++ (lw_privs_3 ++ (lw_privs_4 ++ (lw_privs_5 ++ (lw_privs_6 ++ (lw_privs_7 ++ (lw_privs_8))))))), lw_okq q
  exact List.forall_mem_append.mpr ⟨lw_r1, List.forall_mem_append.mpr ⟨lw_r2, List.forall_mem_append.mpr ⟨lw_r3, List.forall_mem_append.mpr ⟨lw_r4, List.forall_mem_append.mpr ⟨lw_r5, List.forall_mem_append.mpr ⟨lw_r6, List.forall_mem_append.mpr ⟨lw_r7, lw_r8⟩⟩⟩⟩⟩⟩⟩
end
section
/-! values, symbols, cells of the checked run: lists side by side, numbers packed in one -/
theorem xx_n_of (x : Int32) : Int32.ofNat x.toUInt32.toNat = x := by
  apply Int32.toBitVec_inj.mp
  simp
theorem xx_l_of (x : Int64) : Int64.ofNat x.toUInt64.toNat = x := by
  apply Int64.toBitVec_inj.mp
  simp
def xx_n (x : Int32) : Nat := x.toUInt32.toNat
def xx_ln (x : Int64) : Nat := x.toUInt64.toNat
theorem xx_n_mod (n : Nat) : Int32.ofNat (n % 4294967296) = Int32.ofNat n := by
  apply Int32.toBitVec_inj.mp
  apply BitVec.eq_of_toNat_eq
  simp
theorem xx_l_mod (n : Nat) : Int64.ofNat (n % 18446744073709551616) = Int64.ofNat n := by
  apply Int64.toBitVec_inj.mp
  apply BitVec.eq_of_toNat_eq
  simp
/-- a number, made plain before it goes on -/
def xx_f {α : Type} (n : Nat) (k : Nat → α) : α := Nat.rec (motive := fun _ => α) (k 0) (fun m _ => k (Nat.succ m)) n
theorem xx_f_eq {α : Type} (n : Nat) (k : Nat → α) : xx_f n k = k n := by cases n <;> rfl
/-! two lists, entry by entry -/
def xx_2 {α β : Type} (R : α → β → Prop) : List α → List β → Prop
  | [], [] => True
  | a :: l, b :: m => R a b ∧ xx_2 R l m
  | _, _ => False
section X2
variable {α β : Type} {R R' : α → β → Prop}
theorem xx_2_nil {m : List β} (h : xx_2 R [] m) : m = [] := by
  cases m with
  | nil => rfl
  | cons b m => exact absurd h id
theorem xx_2_cons {a : α} {l : List α} {m : List β} (h : xx_2 R (a :: l) m) : ∃ b m', m = b :: m' ∧ R a b ∧ xx_2 R l m' := by
  cases m with
  | nil => exact absurd h id
  | cons b m => exact ⟨b, m, rfl, h.1, h.2⟩
theorem xx_2_len : ∀ {l : List α} {m : List β}, xx_2 R l m → l.length = m.length
  | [], [], _ => rfl
  | _ :: l, _ :: m, h => by simp [xx_2_len h.2]
  | [], _ :: _, h => absurd h id
  | _ :: _, [], h => absurd h id
theorem xx_2_get : ∀ {l : List α} {m : List β}, xx_2 R l m → ∀ {k : Nat} {a : α}, l[k]? = some a → ∃ b, m[k]? = some b ∧ R a b
  | [], [], _, k, a, h => by simp at h
  | x :: l, y :: m, H, 0, a, h => by
    simp at h
    subst h
    exact ⟨y, rfl, H.1⟩
  | x :: l, y :: m, H, k + 1, a, h => by
    simp at h
    obtain ⟨b, h1, h2⟩ := xx_2_get H.2 h
    exact ⟨b, by simpa using h1, h2⟩
  | [], _ :: _, h, _, _, _ => absurd h id
  | _ :: _, [], h, _, _, _ => absurd h id
theorem xx_2_set : ∀ {l : List α} {m : List β}, xx_2 R l m → ∀ (k : Nat) {a : α} {b : β}, R a b → xx_2 R (l.set k a) (m.set k b)
  | [], [], _, k, a, b, _ => by simp [xx_2]
  | x :: l, y :: m, H, 0, a, b, h => ⟨h, H.2⟩
  | x :: l, y :: m, H, k + 1, a, b, h => ⟨H.1, xx_2_set H.2 k h⟩
  | [], _ :: _, h, _, _, _, _ => absurd h id
  | _ :: _, [], h, _, _, _, _ => absurd h id
theorem xx_2_app : ∀ {l : List α} {m : List β}, xx_2 R l m → ∀ {l' : List α} {m' : List β}, xx_2 R l' m' → xx_2 R (l ++ l') (m ++ m')
  | [], [], _, _, _, h => h
  | _ :: _, _ :: _, H, _, _, h => ⟨H.1, xx_2_app H.2 h⟩
  | [], _ :: _, h, _, _, _ => absurd h id
  | _ :: _, [], h, _, _, _ => absurd h id
theorem xx_2_mono (hr : ∀ a b, R a b → R' a b) : ∀ {l : List α} {m : List β}, xx_2 R l m → xx_2 R' l m
  | [], [], _ => trivial
  | _ :: _, _ :: _, H => ⟨hr _ _ H.1, xx_2_mono hr H.2⟩
  | [], _ :: _, h => absurd h id
  | _ :: _, [], h => absurd h id
theorem xx_2_split : ∀ {l : List α} {l' : List α} {m : List β}, xx_2 R (l ++ l') m → ∃ m1 m2, m = m1 ++ m2 ∧ xx_2 R l m1 ∧ xx_2 R l' m2
  | [], l', m, h => ⟨[], m, rfl, trivial, h⟩
  | a :: l, l', [], h => absurd h id
  | a :: l, l', b :: m, h => by
    obtain ⟨m1, m2, e, h1, h2⟩ := xx_2_split h.2
    exact ⟨b :: m1, m2, by rw [e]; rfl, ⟨h.1, h1⟩, h2⟩
theorem xx_2_rev {l : List α} {m : List β} (h : xx_2 R l m) : xx_2 R l.reverse m.reverse := by
  induction l generalizing m with
  | nil => rw [xx_2_nil h]; trivial
  | cons a l ih =>
    obtain ⟨b, m', rfl, h1, h2⟩ := xx_2_cons h
    simp only [List.reverse_cons]
    exact xx_2_app (ih h2) ⟨h1, trivial⟩
end X2
/-- one list goes on where another ends -/
def xx_e {α : Type} (l l' : List α) : Prop := ∃ t, l' = l ++ t
theorem xx_e_rf {α : Type} (l : List α) : xx_e l l := ⟨[], by simp⟩
theorem xx_e_tr {α : Type} {a b c : List α} (h : xx_e a b) (k : xx_e b c) : xx_e a c := by
  obtain ⟨t, rfl⟩ := h
  obtain ⟨u, rfl⟩ := k
  exact ⟨t ++ u, by simp⟩
theorem xx_e_get {α : Type} {a b : List α} (h : xx_e a b) {k : Nat} {x : α} (hx : a[k]? = some x) : b[k]? = some x := by
  obtain ⟨t, rfl⟩ := h
  rw [List.getElem?_append_left (List.getElem?_eq_some_iff.mp hx).1]
  exact hx
theorem xx_e_one {α : Type} (l : List α) (x : α) : xx_e l (l ++ [x]) := ⟨[x], rfl⟩
/-! rows of numbers in one number -/
def xx_g (w N i : Nat) : Nat := (N >>> (w * i)) % 2 ^ w
def xx_p (w N i v : Nat) : Nat := N ^^^ ((xx_g w N i ^^^ (v % 2 ^ w)) <<< (w * i))
theorem xx_gp_same (w N i v : Nat) : xx_g w (xx_p w N i v) i = v % 2 ^ w := by
  apply Nat.eq_of_testBit_eq
  intro j
  simp only [xx_g, xx_p, Nat.testBit_mod_two_pow, Nat.testBit_shiftRight, Nat.testBit_xor, Nat.testBit_shiftLeft]
  by_cases hj : j < w
  · simp [hj]
  · simp [hj]
theorem xx_gp_other (w N i v k : Nat) (h : k ≠ i) : xx_g w (xx_p w N i v) k = xx_g w N k := by
  apply Nat.eq_of_testBit_eq
  intro j
  simp only [xx_g, xx_p, Nat.testBit_mod_two_pow, Nat.testBit_shiftRight, Nat.testBit_xor, Nat.testBit_shiftLeft]
  by_cases hj : j < w
  · simp only [hj, decide_true, Bool.true_and]
    rcases Nat.lt_or_gt_of_ne h with q | q
    · have : ¬ w * i ≤ w * k + j := by
        have := Nat.mul_le_mul_left w (show k + 1 ≤ i from q)
        rw [Nat.mul_add] at this
        omega
      simp [this]
    · have h1 := Nat.mul_le_mul_left w (show i + 1 ≤ k from q)
      rw [Nat.mul_add] at h1
      have : ¬ w * k + j - w * i < w := by omega
      simp [this]
  · simp [hj]
end
section
/-! THE CHECKED RUN, in words that are cheap to compute. A value: (0, n) the int n; (1, k) the k-th symbol; (2, _) null; (3, k) the k-th cell; (4, n) the long n; (5, _) some long; (6, _) the script; (7, k) the k-th text; (8, k) its bytes; (9, _) nothing known; (10, _) some reference, or null. -/
abbrev xV : Type := Nat × Nat
abbrev xS : Type := List (Int × Int)
abbrev xA : Type := FieldType × Nat × (Nat ⊕ (Int × Int))
abbrev xC : Type := (Nat × List xV) ⊕ xA
/-- how many cells, and the cells, twelve to a row -/
abbrev xH : Type := Nat × List (List xC)
/-- place, length, instruction, three numbers for what it links or where it jumps, the place of its word -/
abbrev xE : Type := Nat × Nat × Instr × Nat × Nat × Nat × Nat
/-- a method: name, bytes, locals, answer, cells and slots that it may make, arguments, its rows -/
abbrev xM : Type := MethodName × ByteArray × Nat × Option FieldType × Nat × Nat × Nat × List xE
abbrev xO : Type := Option xV × xH × xS
abbrev xR : Type := Option (List xO)
/-- locals, stack, cells, symbols, cells and slots made so far -/
abbrev xN : Type := List xV → List xV → xH → xS → Nat → Nat → xR
/-- a call: which method, its arguments, the stack behind it -/
abbrev xK : Type := Nat → List xV → List xV → List xV → xH → xS → Nat → Nat → xR
/-- an instruction: how it goes on, where it jumps, again, how it calls -/
abbrev xD : Type := xN → (Nat → xN) → xN → xK → xN
/-- a method made ready: locals, cells, slots, arguments, its instructions -/
abbrev xP : Type := Nat × Nat × Nat × Nat × List xD
/-- what is the same all through: the methods, the fields each class begins with, the texts' bytes, the script's length -/
abbrev xG : Type := List xP × List (List xV) × List (List Int32) × xV
noncomputable def xk_nth {α β : Type} (l : List α) : Nat → (α → Option β) → Option β := List.rec (motive := fun _ => Nat → (α → Option β) → Option β) (fun _ _ => none) (fun a _ ih n k => Nat.rec (motive := fun _ => Option β) (k a) (fun m _ => ih m k) n) l
noncomputable def xk_set {α β : Type} (l : List α) : Nat → α → (List α → Option β) → Option β := List.rec (motive := fun _ => Nat → α → (List α → Option β) → Option β) (fun _ _ _ => none) (fun a t ih n v k => Nat.rec (motive := fun _ => Option β) (k (v :: t)) (fun m _ => ih m v (fun t' => k (a :: t'))) n) l
def xk_push {α β : Type} : List α → α → Nat → (List α → Nat → Option β) → Option β
  | [], x, n, k => k [x] n
  | a :: l, x, n, k => xk_push l x (Nat.succ n) (fun l' m => k (a :: l') m)
/-- the first n of a list, turned round, and the rest -/
noncomputable def xk_take {α β : Type} (n : Nat) : List α → List α → (List α → List α → Option β) → Option β := Nat.rec (motive := fun _ => List α → List α → (List α → List α → Option β) → Option β) (fun acc l k => k acc l) (fun _ ih acc l k => List.rec (motive := fun _ => Option β) none (fun a t _ => ih (a :: acc) t k) l) n
noncomputable def xk_drop {α : Type} (n : Nat) : List α → List α := Nat.rec (motive := fun _ => List α → List α) (fun l => l) (fun _ ih l => List.rec (motive := fun _ => List α) [] (fun _ t _ => ih t) l) n
noncomputable def xk_at {α : Type} (l : List α) : Nat → Option α := List.rec (motive := fun _ => Nat → Option α) (fun _ => none) (fun a _ ih n => Nat.rec (motive := fun _ => Option α) (some a) (fun m _ => ih m) n) l
noncomputable def xk_hget {β : Type} (h : xH) (i : Nat) (k : xC → Option β) : Option β := xk_nth h.2 (Nat.div i 12) fun c => xk_nth c (Nat.mod i 12) k
noncomputable def xk_hset {β : Type} (h : xH) (i : Nat) (v : xC) (k : xH → Option β) : Option β := xk_nth h.2 (Nat.div i 12) fun c => xk_set c (Nat.mod i 12) v fun c' => xk_set h.2 (Nat.div i 12) c' fun hs => k (h.1, hs)
def xc_i (a : xV) : Bool := or (Nat.beq a.1 0) (Nat.beq a.1 1)
def xc_l (a : xV) : Bool := or (Nat.beq a.1 4) (Nat.beq a.1 5)
def xc_r (a : xV) : Bool := or (Nat.beq a.1 3) (or (Nat.beq a.1 6) (or (Nat.beq a.1 7) (Nat.beq a.1 8)))
def xs_full : Int × Int := (-2147483648, 2147483647)
def xh_fresh (sy : xS) (iv : Int × Int) (k : xV → xS → xR) : xR := xk_push sy iv 0 (fun sy' n => k (1, n) sy')
/-- an int, moved up so that the order is that of numbers from 0 on -/
def xo (n : Nat) : Nat := Nat.mod (Nat.add n 2147483648) 4294967296
/-- between which numbers an int lies -/
def xh_rng (sy : xS) (a : xV) : Option (Int × Int) := match a.1 with
  | 0 => some ((Int32.ofNat a.2).toInt, (Int32.ofNat a.2).toInt)
  | 1 => sy[a.2]?
  | _ => none
def xh_within (sy : xS) (a : xV) (lo hi : Int) : Bool := match xh_rng sy a with
  | some iv => decide (lo ≤ iv.1) && decide (iv.2 ≤ hi)
  | none => false
/-- 0 int, 1 boolean, 2 byte, 3 char, 4 short, 5 long, 6 reference -/
def xh_fit (c : Nat) (a : xV) (sy : xS) : Bool := match c with
  | 0 => xc_i a
  | 1 => xh_within sy a 0 1
  | 2 => xh_within sy a (-128) 127
  | 3 => xh_within sy a 0 65535
  | 4 => xh_within sy a (-32768) 32767
  | 5 => xc_l a
  | 6 => or (xc_r a) (Nat.beq a.1 2)
  | _ => false
def xh_tc (ty : FieldType) : Nat := match ty with
  | .int => 0
  | .boolean => 1
  | .byte => 2
  | .char => 3
  | .short => 4
  | .long => 5
  | .object _ => 6
  | .array _ => 6
  | _ => 7
def xh_cap (iv : Int × Int) : Int × Int := if decide (-2147483648 ≤ iv.1) && decide (iv.2 ≤ 2147483647) then iv else xs_full
def xg_any (_ _ : Int × Int) : Int × Int := xs_full
def xg_add (a b : Int × Int) : Int × Int := xh_cap (a.1 + b.1, a.2 + b.2)
def xg_sub (a b : Int × Int) : Int × Int := xh_cap (a.1 - b.2, a.2 - b.1)
def xh_binS (g : Int × Int → Int × Int → Int × Int) (b a : xV) (sy : xS) (k : xV → xS → xR) : xR := match xh_rng sy a with
  | none => none
  | some ia => match xh_rng sy b with
    | none => none
    | some ib => xh_fresh sy (g ia ib) k
def xh_bin (f : Nat → Nat → Nat) (g : Int × Int → Int × Int → Int × Int) (b a : xV) (sy : xS) (k : xV → xS → xR) : xR := cond (and (Nat.beq a.1 0) (Nat.beq b.1 0)) (xx_f (f a.2 b.2) fun n => k (0, n) sy) (xh_binS g b a sy k)
/-- the int operations on numbers -/
def xn_add (a b : Nat) : Nat := Nat.mod (Nat.add a b) 4294967296
def xn_sub (a b : Nat) : Nat := Nat.mod (Nat.add a (Nat.sub 4294967296 (Nat.mod b 4294967296))) 4294967296
def xn_mul (a b : Nat) : Nat := Nat.mod (Nat.mul a b) 4294967296
def xn_of (f : Int32 → Int32 → Int32) (a b : Nat) : Nat := xx_n (f (Int32.ofNat a) (Int32.ofNat b))
def xh_all {α : Type} : List α → (α → xR) → xR
  | [], _ => some []
  | o :: os, k => match k o with
    | none => none
    | some x => match xh_all os k with
      | none => none
      | some y => some (x ++ y)
def xh_put (sy : xS) (a : xV) (iv : Int × Int) : xS := if a.1 = 1 then sy.set a.2 iv else sy
/-- numbers from lo on -/
def xh_num (lo : Int) : Nat → List Int
  | 0 => []
  | n + 1 => lo :: xh_num (lo + 1) n
/-- a symbol's numbers, one by one -/
def xh_conc (sy : xS) (a : xV) (k : xV → xS → xR) : xR := match xh_rng sy a with
  | none => none
  | some iv => if iv.2 - iv.1 < 64 then xh_all (xh_num iv.1 (iv.2 - iv.1 + 1).toNat) fun z => xx_f (xx_n (Int32.ofInt z)) fun n => k (0, n) (xh_put sy a (z, z)) else none
def xh_few (sy : xS) (a : xV) : Bool := match xh_rng sy a with
  | none => false
  | some iv => decide (iv.2 - iv.1 < 64)
/-! comparing -/
def xh_cc (c : ClassFile.Cond) (x y : Nat) : Bool := match c with
  | .eq => Nat.beq (xo x) (xo y)
  | .ne => not (Nat.beq (xo x) (xo y))
  | .lt => Nat.ble (Nat.succ (xo x)) (xo y)
  | .ge => Nat.ble (xo y) (xo x)
  | .gt => Nat.ble (Nat.succ (xo y)) (xo x)
  | .le => Nat.ble (xo x) (xo y)
abbrev xQ : Type := Bool × Bool × (Int × Int) × (Int × Int) × (Int × Int) × (Int × Int)
/-- of two ranges: can it be, can it not be, and what the two are then -/
def xh_lt (a b : Int × Int) : xQ := (decide (a.1 < b.2), decide (b.1 ≤ a.2), (a.1, min a.2 (b.2 - 1)), (max b.1 (a.1 + 1), b.2), (max a.1 b.1, a.2), (b.1, min b.2 a.2))
def xh_le (a b : Int × Int) : xQ := (decide (a.1 ≤ b.2), decide (b.1 < a.2), (a.1, min a.2 b.2), (max b.1 a.1, b.2), (max a.1 (b.1 + 1), a.2), (b.1, min b.2 (a.2 - 1)))
/-- a range without a number at its edge -/
def xh_trim (a b : Int × Int) : Int × Int := if b.1 = b.2 then (if a.1 = b.1 then a.1 + 1 else a.1, if a.2 = b.1 then a.2 - 1 else a.2) else a
def xh_eq (a b : Int × Int) : xQ := (decide (a.1 ≤ b.2) && decide (b.1 ≤ a.2), !(decide (a.1 = a.2) && decide (b.1 = b.2) && decide (a.1 = b.1)), (max a.1 b.1, min a.2 b.2), (max a.1 b.1, min a.2 b.2), xh_trim a b, xh_trim b a)
def xh_flip (q : xQ) : xQ := (q.2.1, q.1, q.2.2.2.2.1, q.2.2.2.2.2, q.2.2.1, q.2.2.2.1)
def xh_cq (c : ClassFile.Cond) (a b : Int × Int) : xQ := match c with
  | .eq => xh_eq a b
  | .ne => xh_flip (xh_eq a b)
  | .lt => xh_lt a b
  | .ge => xh_flip (xh_lt a b)
  | .gt => xh_flip (xh_le a b)
  | .le => xh_le a b
def xh_both (a b : xR) : xR := match a with
  | none => none
  | some x => match b with
    | none => none
    | some y => some (x ++ y)
def xh_brS (c : ClassFile.Cond) (a b : xV) (sy : xS) (kt kf : xS → xR) : xR :=
  cond (and (Nat.beq a.1 1) (and (Nat.beq b.1 1) (Nat.beq a.2 b.2))) (cond (xh_cc c 0 0) (kt sy) (kf sy)) (match xh_rng sy a with
    | none => none
    | some ia => match xh_rng sy b with
      | none => none
      | some ib => xh_both (cond (xh_cq c ia ib).1 (kt (xh_put (xh_put sy a (xh_cq c ia ib).2.2.1) b (xh_cq c ia ib).2.2.2.1)) (some [])) (cond (xh_cq c ia ib).2.1 (kf (xh_put (xh_put sy a (xh_cq c ia ib).2.2.2.2.1) b (xh_cq c ia ib).2.2.2.2.2)) (some [])))
def xh_br (c : ClassFile.Cond) (a b : xV) (sy : xS) (kt kf : xS → xR) : xR := cond (and (Nat.beq a.1 0) (Nat.beq b.1 0)) (cond (xh_cc c a.2 b.2) (kt sy) (kf sy)) (xh_brS c a b sy kt kf)
/-- a range, cut at keys -/
def xh_cut : List Int → Int → Int → List (Int × Int)
  | [], l, u => [(l, u)]
  | m :: ms, l, u => if m < l then xh_cut ms l u else if u < m then [(l, u)] else (if l < m then [(l, m - 1)] else []) ++ (m, m) :: (if m < u then xh_cut ms (m + 1) u else [])
def xh_ttab (lo hi : Int) (dft N : Nat) (iv : Int × Int) : Option Nat := if decide (iv.2 < lo) || decide (hi < iv.1) then some dft else if decide (iv.1 = iv.2) then some (xx_g 16 N (iv.1 - lo).toNat) else none
def xh_tlook : List (Int × Int) → Nat → Nat → Nat → Int × Int → Option Nat
  | [], _, dft, _, _ => some dft
  | p :: ps, j, dft, N, iv => if decide (iv.2 < p.1) || decide (p.1 < iv.1) then xh_tlook ps (j + 1) dft N iv else if decide (iv.1 = iv.2) then some (xx_g 16 N j) else none
def xh_sw (keys : List Int) (t : Int × Int → Option Nat) (a : xV) (sy : xS) (k : Nat → xS → xR) : xR := cond (Nat.beq a.1 0) (match t ((Int32.ofNat a.2).toInt, (Int32.ofNat a.2).toInt) with
    | none => none
    | some j => xx_f j fun j' => k j' sy) (match xh_rng sy a with
    | none => none
    | some iv => xh_all (xh_cut keys iv.1 iv.2) fun q => match t q with
      | none => none
      | some j => xx_f j fun j' => k j' (xh_put sy a q))
/-- is the int n a place in a row of len -/
def xh_in (n len : Nat) : Bool := and (Nat.ble 2147483648 (xo n)) (Nat.ble (Nat.succ (xo n)) (Nat.add len 2147483648))
def xh_ix (n : Nat) : Nat := Nat.sub (xo n) 2147483648
/-- 0: int, 1: byte or boolean, 2: long -/
def xh_kind (ty : FieldType) : Nat := match ty with
  | .int => 0
  | .byte => 1
  | .boolean => 1
  | .long => 2
  | _ => 9
/-- how many words a stack has -/
noncomputable def xh_words (l : List xV) : Nat := List.rec (motive := fun _ => Nat) 0 (fun a _ ih => Nat.add (cond (xc_l a) 2 1) ih) l
/-- arguments as locals -/
def xh_lay : List xV → List xV
  | [] => []
  | a :: l => cond (xc_l a) (a :: (9, 0) :: xh_lay l) (a :: xh_lay l)
/-- n places, the rest unknown -/
noncomputable def xk_pad {β : Type} (n : Nat) : List xV → (List xV → Option β) → Option β := Nat.rec (motive := fun _ => List xV → (List xV → Option β) → Option β) (fun l k => match l with
    | [] => k []
    | _ :: _ => none) (fun _ ih l k => List.rec (motive := fun _ => Option β) (ih [] fun t => k ((9, 0) :: t)) (fun a t _ => ih t fun t' => k (a :: t')) l) n
/-! the instructions -/
def xd_none : xD := fun _ _ _ _ _ _ _ _ _ _ => none
def xd_push (v : xV) : xD := fun nx _ _ _ lv st h sy ce sl => nx lv (v :: st) h sy ce sl
noncomputable def xd_ld (t : xV → Bool) (i : Nat) : xD := fun nx _ _ _ lv st h sy ce sl => xk_nth lv i fun a => cond (t a) (nx lv (a :: st) h sy ce sl) none
/-- the place ahead of i holds no long -/
noncomputable def xh_nl (lv : List xV) (i : Nat) : Bool := Nat.rec (motive := fun _ => Bool) true (fun j _ => match xk_at lv j with
  | some a => not (xc_l a)
  | none => false) i
noncomputable def xd_st1 (t : xV → Bool) (i : Nat) : xD := fun nx _ _ _ lv st h sy ce sl => match st with
  | v :: st' => cond (and (t v) (xh_nl lv i)) (xk_set lv i v fun lv' => nx lv' st' h sy ce sl) none
  | _ => none
noncomputable def xd_st2 (i : Nat) : xD := fun nx _ _ _ lv st h sy ce sl => match st with
  | v :: st' => cond (and (xc_l v) (xh_nl lv i)) (xk_set lv i v fun lv' => xk_set lv' (Nat.succ i) (9, 0) fun lv'' => nx lv'' st' h sy ce sl) none
  | _ => none
noncomputable def xd_inc (i n : Nat) : xD := fun nx _ _ _ lv st h sy ce sl => xk_nth lv i fun a => cond (xh_nl lv i) (xh_bin xn_add xg_add (0, n) a sy fun v sy' => xk_set lv i v fun lv' => nx lv' st h sy' ce sl) none
def xd_bin (f : Nat → Nat → Nat) (g : Int × Int → Int × Int → Int × Int) : xD := fun nx _ _ _ lv st h sy ce sl => match st with
  | b :: a :: st' => xh_bin f g b a sy fun v sy' => nx lv (v :: st') h sy' ce sl
  | _ => none
/-- and: the script's first int and 63 is a symbol of its own -/
def xd_and (G : xG) : xD := fun nx _ _ _ lv st h sy ce sl => match st with
  | b :: a :: st' => cond (and (Nat.beq a.1 1) (and (Nat.beq a.2 0) (and (Nat.beq b.1 0) (and (Nat.beq b.2 63) (and (Nat.beq G.2.2.2.1 0) (Nat.beq G.2.2.2.2 6)))))) (nx lv ((1, 6) :: st') h sy ce sl) (xh_bin (xn_of fun x y => x &&& y) xg_any b a sy fun v sy' => nx lv (v :: st') h sy' ce sl)
  | _ => none
/-- a sum, 0 left out -/
def xd_add : xD := fun nx _ _ _ lv st h sy ce sl => match st with
  | b :: a :: st' => cond (and (Nat.beq b.1 1) (and (Nat.beq a.1 0) (Nat.beq a.2 0))) (nx lv (b :: st') h sy ce sl) (xh_bin xn_add xg_add b a sy fun v sy' => nx lv (v :: st') h sy' ce sl)
  | _ => none
/-- division and rest, by a number that is not 0 -/
def xd_div (f : Nat → Nat → Nat) : xD := fun nx _ _ _ lv st h sy ce sl => match st with
  | b :: a :: st' => cond (and (Nat.beq b.1 0) (not (Nat.beq (Nat.mod b.2 4294967296) 0))) (xh_bin f xg_any b a sy fun v sy' => nx lv (v :: st') h sy' ce sl) none
  | _ => none
/-- a product: symbols of few numbers are taken one by one first -/
def xd_mul : xD := fun nx _ ag _ lv st h sy ce sl => match st with
  | b :: a :: st' => cond (and (Nat.beq a.1 1) (xh_few sy a)) (xh_conc sy a fun a' sy' => ag lv (b :: a' :: st') h sy' ce sl) (cond (and (Nat.beq b.1 1) (xh_few sy b)) (xh_conc sy b fun b' sy' => ag lv (b' :: a :: st') h sy' ce sl) (xh_bin xn_mul xg_any b a sy fun v sy' => nx lv (v :: st') h sy' ce sl))
  | _ => none
def xd_un (f : Int32 → Int32) : xD := fun nx _ _ _ lv st h sy ce sl => match st with
  | a :: st' => cond (Nat.beq a.1 0) (xx_f (xx_n (f (Int32.ofNat a.2))) fun n => nx lv ((0, n) :: st') h sy ce sl) (cond (xc_i a) (xh_fresh sy xs_full fun v sy' => nx lv (v :: st') h sy' ce sl) none)
  | _ => none
def xd_lbin (f : Int64 → Int64 → Int64) : xD := fun nx _ _ _ lv st h sy ce sl => match st with
  | b :: a :: st' => cond (and (Nat.beq a.1 4) (Nat.beq b.1 4)) (xx_f (xx_ln (f (Int64.ofNat a.2) (Int64.ofNat b.2))) fun n => nx lv ((4, n) :: st') h sy ce sl) (cond (and (xc_l a) (xc_l b)) (nx lv ((5, 0) :: st') h sy ce sl) none)
  | _ => none
def xd_lsh (f : Int64 → Int32 → Int64) : xD := fun nx _ _ _ lv st h sy ce sl => match st with
  | b :: a :: st' => cond (and (Nat.beq a.1 4) (Nat.beq b.1 0)) (xx_f (xx_ln (f (Int64.ofNat a.2) (Int32.ofNat b.2))) fun n => nx lv ((4, n) :: st') h sy ce sl) (cond (and (xc_l a) (xc_i b)) (nx lv ((5, 0) :: st') h sy ce sl) none)
  | _ => none
def xd_i2l : xD := fun nx _ _ _ lv st h sy ce sl => match st with
  | a :: st' => cond (Nat.beq a.1 0) (xx_f (xx_ln (Int32.ofNat a.2).toInt64) fun n => nx lv ((4, n) :: st') h sy ce sl) (cond (xc_i a) (nx lv ((5, 0) :: st') h sy ce sl) none)
  | _ => none
def xd_l2i : xD := fun nx _ _ _ lv st h sy ce sl => match st with
  | a :: st' => cond (Nat.beq a.1 4) (xx_f (xx_n (Int64.ofNat a.2).toInt32) fun n => nx lv ((0, n) :: st') h sy ce sl) (cond (xc_l a) (xh_fresh sy xs_full fun v sy' => nx lv (v :: st') h sy' ce sl) none)
  | _ => none
def xd_lcmp : xD := fun nx _ _ _ lv st h sy ce sl => match st with
  | b :: a :: st' => cond (and (Nat.beq a.1 4) (Nat.beq b.1 4)) (xx_f (xx_n (lg_cmp (Int64.ofNat a.2) (Int64.ofNat b.2))) fun n => nx lv ((0, n) :: st') h sy ce sl) (cond (and (xc_l a) (xc_l b)) (xh_fresh sy xs_full fun v sy' => nx lv (v :: st') h sy' ce sl) none)
  | _ => none
def xd_dup : xD := fun nx _ _ _ lv st h sy ce sl => match st with
  | a :: st' => cond (xc_l a) none (nx lv (a :: a :: st') h sy ce sl)
  | _ => none
def xd_pop : xD := fun nx _ _ _ lv st h sy ce sl => match st with
  | a :: st' => cond (xc_l a) none (nx lv st' h sy ce sl)
  | _ => none
def xd_dup2 : xD := fun nx _ _ _ lv st h sy ce sl => match st with
  | a :: b :: st' => cond (or (xc_l a) (xc_l b)) none (nx lv (a :: b :: a :: b :: st') h sy ce sl)
  | _ => none
def xd_goto (j : Nat) : xD := fun _ jp _ _ lv st h sy ce sl => jp j lv st h sy ce sl
def xd_if (c : ClassFile.Cond) (j : Nat) : xD := fun nx jp _ _ lv st h sy ce sl => match st with
  | a :: st' => xh_br c a (0, 0) sy (fun sy' => jp j lv st' h sy' ce sl) (fun sy' => nx lv st' h sy' ce sl)
  | _ => none
def xd_icmp (c : ClassFile.Cond) (j : Nat) : xD := fun nx jp _ _ lv st h sy ce sl => match st with
  | b :: a :: st' => xh_br c a b sy (fun sy' => jp j lv st' h sy' ce sl) (fun sy' => nx lv st' h sy' ce sl)
  | _ => none
def xd_sw (keys : List Int) (t : Int × Int → Option Nat) : xD := fun _ jp _ _ lv st h sy ce sl => match st with
  | a :: st' => xh_sw keys t a sy fun j sy' => jp j lv st' h sy' ce sl
  | _ => none
noncomputable def xd_get (G : xG) (a1 a2 : Nat) : xD := fun nx _ _ _ lv st h sy ce sl => match st with
  | a :: st' => cond (Nat.beq a.1 3) (xk_hget h a.2 fun c => match c with
      | .inl o => cond (Nat.beq o.1 a1) (xk_nth o.2 a2 fun v => nx lv (v :: st') h sy ce sl) none
      | .inr _ => none) (cond (and (Nat.beq a.1 7) (and (Nat.beq a1 1000) (Nat.ble (Nat.succ a.2) G.2.2.1.length))) (cond (Nat.beq a2 0) (nx lv ((0, 0) :: st') h sy ce sl) (cond (Nat.beq a2 1) (nx lv ((8, a.2) :: st') h sy ce sl) none)) none)
  | _ => none
noncomputable def xd_putf (a1 a2 a3 : Nat) : xD := fun nx _ _ _ lv st h sy ce sl => match st with
  | v :: a :: st' => cond (and (Nat.beq a.1 3) (xh_fit a3 v sy)) (xk_hget h a.2 fun c => match c with
      | .inl o => cond (Nat.beq o.1 a1) (xk_set o.2 a2 v fun fs => xk_hset h a.2 (.inl (o.1, fs)) fun h' => nx lv st' h' sy ce sl) none
      | .inr _ => none) none
  | _ => none
noncomputable def xd_ald (G : xG) (kd : Nat) : xD := fun nx _ ag _ lv st h sy ce sl => match st with
  | i :: a :: st' => cond (Nat.beq i.1 0) (cond (Nat.beq a.1 3) (xk_hget h a.2 fun c => match c with
        | .inl _ => none
        | .inr r => cond (and (Nat.beq (xh_kind r.1) kd) (xh_in i.2 r.2.1)) (match r.2.2 with
            | .inl N => xx_f (xx_g 32 N (xh_ix i.2)) fun n => nx lv ((0, n) :: st') h sy ce sl
            | .inr iv => xh_fresh sy iv fun v sy' => nx lv (v :: st') h sy' ce sl) none)
      (cond (and (Nat.beq a.1 6) (Nat.beq kd 0)) (cond (and (xh_in i.2 6) (and (Nat.beq G.2.2.2.1 0) (Nat.beq G.2.2.2.2 6))) (xx_f (xh_ix i.2) fun n => nx lv ((1, n) :: st') h sy ce sl) none)
      (cond (and (Nat.beq a.1 8) (Nat.beq kd 1)) (xk_nth G.2.2.1 a.2 fun bs => cond (xh_in i.2 bs.length) (xx_f (xx_n (bs.getD (xh_ix i.2) 0)) fun n => nx lv ((0, n) :: st') h sy ce sl) none) none)))
    (xh_conc sy i fun i' sy' => ag lv (i' :: a :: st') h sy' ce sl)
  | _ => none
noncomputable def xd_ast (kd : Nat) : xD := fun nx _ ag _ lv st h sy ce sl => match st with
  | v :: i :: a :: st' => cond (Nat.beq i.1 0) (cond (and (Nat.beq a.1 3) (xc_i v)) (xk_hget h a.2 fun c => match c with
        | .inl _ => none
        | .inr r => cond (and (Nat.beq (xh_kind r.1) kd) (xh_in i.2 r.2.1)) (match r.2.2 with
            | .inl N => cond (Nat.beq v.1 0) (xx_f (xx_p 32 N (xh_ix i.2) (cond (Nat.beq kd 0) v.2 (xx_n (vp_nar r.1 (Int32.ofNat v.2))))) fun N' => xk_hset h a.2 (.inr (r.1, r.2.1, .inl N')) fun h' => nx lv st' h' sy ce sl) (xk_hset h a.2 (.inr (r.1, r.2.1, .inr xs_full)) fun h' => nx lv st' h' sy ce sl)
            | .inr _ => xk_hset h a.2 (.inr (r.1, r.2.1, .inr xs_full)) fun h' => nx lv st' h' sy ce sl) none) none)
    (xh_conc sy i fun i' sy' => ag lv (v :: i' :: a :: st') h sy' ce sl)
  | _ => none
noncomputable def xd_lald : xD := fun nx _ _ _ lv st h sy ce sl => match st with
  | i :: a :: st' => cond (and (Nat.beq i.1 0) (Nat.beq a.1 3)) (xk_hget h a.2 fun c => match c with
      | .inl _ => none
      | .inr r => cond (and (Nat.beq (xh_kind r.1) 2) (xh_in i.2 r.2.1)) (match r.2.2 with
          | .inl N => xx_f (xx_g 64 N (xh_ix i.2)) fun n => nx lv ((4, n) :: st') h sy ce sl
          | .inr _ => nx lv ((5, 0) :: st') h sy ce sl) none) none
  | _ => none
noncomputable def xd_last : xD := fun nx _ _ _ lv st h sy ce sl => match st with
  | v :: i :: a :: st' => cond (and (Nat.beq i.1 0) (and (Nat.beq a.1 3) (xc_l v))) (xk_hget h a.2 fun c => match c with
      | .inl _ => none
      | .inr r => cond (and (Nat.beq (xh_kind r.1) 2) (xh_in i.2 r.2.1)) (match r.2.2 with
          | .inl N => cond (Nat.beq v.1 4) (xx_f (xx_p 64 N (xh_ix i.2) v.2) fun N' => xk_hset h a.2 (.inr (r.1, r.2.1, .inl N')) fun h' => nx lv st' h' sy ce sl) (xk_hset h a.2 (.inr (r.1, r.2.1, .inr xs_full)) fun h' => nx lv st' h' sy ce sl)
          | .inr _ => xk_hset h a.2 (.inr (r.1, r.2.1, .inr xs_full)) fun h' => nx lv st' h' sy ce sl) none) none
  | _ => none
noncomputable def xd_alen (G : xG) : xD := fun nx _ _ _ lv st h sy ce sl => match st with
  | a :: st' => cond (Nat.beq a.1 3) (xk_hget h a.2 fun c => match c with
      | .inl _ => none
      | .inr r => nx lv ((0, r.2.1) :: st') h sy ce sl)
    (cond (Nat.beq a.1 6) (nx lv (G.2.2.2 :: st') h sy ce sl)
    (cond (Nat.beq a.1 8) (xk_nth G.2.2.1 a.2 fun bs => nx lv ((0, bs.length) :: st') h sy ce sl) none))
  | _ => none
noncomputable def xd_newa (mc ms : Nat) (ty : FieldType) : xD := fun nx _ _ _ lv st h sy ce sl => match st with
  | a :: st' => cond (and (Nat.beq a.1 0) (and (xh_in a.2 65537) (and (Nat.ble (Nat.succ ce) mc) (and (Nat.ble (Nat.add sl (xh_ix a.2)) ms) (Nat.ble (xh_kind ty) 2))))) (xx_f (xh_ix a.2) fun n => xk_hset h h.1 (.inr (ty, n, .inl 0)) fun h' => nx lv ((3, h.1) :: st') (Nat.succ h'.1, h'.2) sy (Nat.succ ce) (Nat.add sl n)) none
  | _ => none
noncomputable def xd_new (G : xG) (mc ms a1 : Nat) : xD := fun nx _ _ _ lv st h sy ce sl => xk_nth G.2.1 a1 fun df => cond (and (Nat.ble (Nat.succ ce) mc) (Nat.ble (Nat.add sl df.length) ms)) (xk_hset h h.1 (.inl (a1, df)) fun h' => nx lv ((3, h.1) :: st) (Nat.succ h'.1, h'.2) sy (Nat.succ ce) (Nat.add sl df.length)) none
noncomputable def xd_virt (G : xG) (n mi ci : Nat) : xD := fun _ _ _ ca lv st h sy ce sl => xk_take n [] st fun as r => match r with
  | [] => none
  | b :: rest => cond (Nat.beq b.1 3) (xk_hget h b.2 fun c => match c with
      | .inl o => cond (Nat.beq o.1 ci) (ca mi (b :: as) rest lv h sy ce sl) none
      | .inr _ => none) (cond (and (Nat.beq b.1 7) (and (Nat.beq ci 1000) (Nat.ble (Nat.succ b.2) G.2.2.1.length))) (ca mi (b :: as) rest lv h sy ce sl) none)
noncomputable def xd_init (n mi : Nat) : xD := fun _ _ _ ca lv st h sy ce sl => xk_take n [] st fun as r => match r with
  | [] => none
  | b :: rest => cond (Nat.beq b.1 3) (ca mi (b :: as) rest lv h sy ce sl) none
noncomputable def xd_stat (n mi : Nat) : xD := fun _ _ _ ca lv st h sy ce sl => xk_take n [] st fun as rest => ca mi as rest lv h sy ce sl
noncomputable def xd_obj : xD := fun nx _ _ _ lv st h sy ce sl => match st with
  | b :: st' => cond (and (Nat.beq b.1 3) (Nat.ble (xh_words st') 8)) (nx lv st' h sy ce sl) none
  | _ => none
/-- n numbers of one row to another's places -/
def xh_cpy (N0 : Nat) : Nat → Nat → Nat → Nat → Nat
  | 0, _, _, N1 => N1
  | n + 1, sp, dp, N1 => xx_f (xx_p 32 N1 dp (xx_g 32 N0 sp)) fun N2 => xh_cpy N0 n (Nat.succ sp) (Nat.succ dp) N2
noncomputable def xd_copy : xD := fun nx _ _ _ lv st h sy ce sl => match st with
  | n :: dp :: b :: sp :: a :: st' => cond (and (Nat.beq n.1 0) (and (Nat.beq dp.1 0) (and (Nat.beq sp.1 0) (and (Nat.beq a.1 3) (and (Nat.beq b.1 3) (and (not (Nat.beq a.2 b.2)) (Nat.ble (xh_words st') 8))))))) (xk_hget h a.2 fun ca => xk_hget h b.2 fun cb => match ca with
      | .inl _ => none
      | .inr ra => match cb with
        | .inl _ => none
        | .inr rb => cond (and (Nat.beq (xh_kind ra.1) 0) (and (Nat.beq (xh_kind rb.1) 0) (and (Nat.ble 2147483648 (xo n.2)) (and (Nat.ble 2147483648 (xo dp.2)) (and (Nat.ble 2147483648 (xo sp.2)) (and (Nat.ble (Nat.add (xh_ix sp.2) (xh_ix n.2)) ra.2.1) (Nat.ble (Nat.add (xh_ix dp.2) (xh_ix n.2)) rb.2.1))))))) (match ra.2.2 with
          | .inr _ => none
          | .inl N0 => match rb.2.2 with
            | .inr _ => none
            | .inl N1 => xx_f (xh_cpy N0 (xh_ix n.2) (xh_ix sp.2) (xh_ix dp.2) N1) fun N2 => xk_hset h b.2 (.inr (rb.1, rb.2.1, .inl N2)) fun h' => nx lv st' h' sy ce sl) none) none
  | _ => none
def xd_ret (mc ms : Nat) (long : Bool) (ret : Option FieldType) : xD := fun _ _ _ _ _ st h sy ce sl => match st with
  | [v] => match ret with
    | none => none
    | some ty => cond (and (Nat.ble ce mc) (and (Nat.ble sl ms) (and (xh_fit (xh_tc ty) v sy) (cond long (Nat.beq (xh_tc ty) 5) (Nat.ble (xh_tc ty) 4))))) (some [(some v, h, sy)]) none
  | _ => none
def xd_vret (mc ms : Nat) (ret : Option FieldType) : xD := fun _ _ _ _ _ st h sy ce sl => match st with
  | [] => match ret with
    | none => cond (and (Nat.ble ce mc) (Nat.ble sl ms)) (some [(none, h, sy)]) none
    | some _ => none
  | _ => none
/-- the greater, the less of two -/
def xf_max (x y : Int32) : Int32 := if x < y then y else x
def xf_min (x y : Int32) : Int32 := if y < x then y else x
noncomputable def xd_mm (mc ms : Nat) (f : Int32 → Int32 → Int32) : xD := fun nx _ _ _ lv st h sy ce sl => match st with
  | b :: a :: st' => cond (and (Nat.ble (xh_words st') 8) (and (Nat.ble ce mc) (Nat.ble sl ms))) (xh_bin (xn_of f) xg_any b a sy fun v sy' => nx lv (v :: st') h sy' ce sl) none
  | _ => none
/-- an instruction made ready; MT: how many arguments the methods have -/
noncomputable def xd_of (G : xG) (NA : List Nat) (mc ms : Nat) (ret : Option FieldType) (e : xE) : xD := match e with
  | (_, _, ins, a1, a2, a3, w) => cond (Nat.beq w 999999) xd_none (match ins with
    | .iconst n => xx_f (xx_n (Int32.ofInt n)) fun v => xd_push (0, v)
    | .bipush n => xx_f (xx_n (Int8.ofInt n).toInt32) fun v => xd_push (0, v)
    | .sipush n => xx_f (xx_n (Int16.ofInt n).toInt32) fun v => xd_push (0, v)
    | .lconst n => xx_f n.val fun v => xd_push (4, v)
    | .ldc _ => cond (Nat.beq a1 0) (xd_push (0, a2)) (xd_push (7, a2))
    | .ldc_w _ => xd_push (0, a2)
    | .ldc2_w _ => xd_push (4, a2)
    | .iload i => xd_ld xc_i i
    | .iload_n i => xx_f i.val fun j => xd_ld xc_i j
    | .lload i => xd_ld xc_l i
    | .lload_n i => xx_f i.val fun j => xd_ld xc_l j
    | .aload i => xd_ld xc_r i
    | .aload_n i => xx_f i.val fun j => xd_ld xc_r j
    | .istore i => xd_st1 xc_i i
    | .istore_n i => xx_f i.val fun j => xd_st1 xc_i j
    | .astore i => xd_st1 xc_r i
    | .astore_n i => xx_f i.val fun j => xd_st1 xc_r j
    | .lstore i => xd_st2 i
    | .lstore_n i => xx_f i.val fun j => xd_st2 j
    | .iinc i n => xx_f (xx_n (Int32.ofInt n)) fun v => xd_inc i v
    | .iadd => xd_add
    | .isub => xd_bin xn_sub xg_sub
    | .imul => xd_mul
    | .iand => xd_and G
    | .ior => xd_bin (xn_of fun x y => x ||| y) xg_any
    | .ixor => xd_bin (xn_of fun x y => x ^^^ y) xg_any
    | .ishl => xd_bin (xn_of fun x y => x <<< (y &&& 31)) xg_any
    | .ishr => xd_bin (xn_of fun x y => x >>> (y &&& 31)) xg_any
    | .iushr => xd_bin (xn_of fun x y => (x.toUInt32 >>> (y.toUInt32 &&& Int32.toUInt32 31)).toInt32) xg_any
    | .idiv => xd_div (xn_of fun x y => x / y)
    | .irem => xd_div (xn_of fun x y => x - x / y * y)
    | .ineg => xd_un fun x => -x
    | .i2b => xd_un fun x => x.toInt8.toInt32
    | .i2c => xd_un fun x => (x.toUInt32 % 65536).toInt32
    | .i2l => xd_i2l
    | .l2i => xd_l2i
    | .ladd => xd_lbin fun x y => x + y
    | .lmul => xd_lbin fun x y => x * y
    | .land => xd_lbin fun x y => x &&& y
    | .lor => xd_lbin fun x y => x ||| y
    | .lshl => xd_lsh fun x y => x <<< (y.toInt64 &&& 63)
    | .lushr => xd_lsh fun x y => (x.toUInt64 >>> (y.toInt64.toUInt64 &&& Int64.toUInt64 63)).toInt64
    | .lcmp => xd_lcmp
    | .dup => xd_dup
    | .pop => xd_pop
    | .dup2 => xd_dup2
    | .goto _ => xd_goto a1
    | .ifCond c _ => xd_if c a1
    | .if_icmp c _ => xd_icmp c a1
    | .tableswitch _ lo hi _ => xd_sw (xh_num lo (hi - lo + 1).toNat) (xh_ttab lo hi a1 a2)
    | .lookupswitch _ ps => xd_sw (ps.toList.map Prod.fst) (xh_tlook ps.toList 0 a1 a2)
    | .getfield _ => xd_get G a1 a2
    | .putfield _ => xd_putf a1 a2 a3
    | .getstatic _ => cond (Nat.beq a1 0) (xd_push (0, a2)) (xd_push (10, 0))
    | .iaload => xd_ald G 0
    | .baload => xd_ald G 1
    | .iastore => xd_ast 0
    | .bastore => xd_ast 1
    | .laload => xd_lald
    | .lastore => xd_last
    | .arraylength => xd_alen G
    | .newarray t => xd_newa mc ms (newarray.typeOf t)
    | .new _ => xd_new G mc ms a1
    | .invokevirtual _ => (match xk_at NA a1 with
      | none => xd_none
      | some n => xd_virt G n a1 a3)
    | .invokespecial _ => cond (Nat.beq a2 2) xd_obj (match xk_at NA a1 with
      | none => xd_none
      | some n => xd_init n a1)
    | .invokestatic _ => cond (Nat.beq a2 3) xd_copy (cond (Nat.beq a2 4) (xd_mm mc ms xf_max) (cond (Nat.beq a2 5) (xd_mm mc ms xf_min) (match xk_at NA a1 with
      | none => xd_none
      | some n => xd_stat n a1)))
    | .ireturn => xd_ret mc ms false ret
    | .lreturn => xd_ret mc ms true ret
    | .return_ => xd_vret mc ms ret
    | _ => xd_none)
/-- a method's rows made ready -/
noncomputable def xd_rows (G : xG) (NA : List Nat) (mc ms : Nat) (ret : Option FieldType) (l : List xE) : List xD := List.rec (motive := fun _ => List xD) [] (fun e _ ih => xd_of G NA mc ms ret e :: ih) l
noncomputable def xd_meth (G : xG) (NA : List Nat) (M : xM) : xP := (M.2.2.1, M.2.2.2.2.1, M.2.2.2.2.2.1, M.2.2.2.2.2.2.1, xd_rows G NA M.2.2.2.2.1 M.2.2.2.2.2.1 M.2.2.2.1 M.2.2.2.2.2.2.2)
noncomputable def xd_meths (G : xG) (NA : List Nat) (l : List xM) : List xP := List.rec (motive := fun _ => List xP) [] (fun M _ ih => xd_meth G NA M :: ih) l
/-- depth, the method's limits of cells and slots, its rows, the rows from here on -/
abbrev xI : Type := Nat → Nat → Nat → List xD → List xD → xN
noncomputable def xh_call (MP : List xP) (ih : xI) (d mc ms : Nat) (nx : xN) : xK := fun mi as rest lv h sy ce sl => Nat.rec (motive := fun _ => xR) none (fun d' _ => match xk_at MP mi with
  | none => none
  | some N => cond (and (Nat.ble (Nat.add ce N.2.1) mc) (and (Nat.ble (Nat.add sl N.2.2.1) ms) (and (Nat.ble (xh_words rest) 8) (Nat.ble N.1 40))))
      (xk_pad N.1 (xh_lay as) fun lv' => match ih d' N.2.1 N.2.2.1 N.2.2.2.2 N.2.2.2.2 lv' [] h sy 0 0 with
      | none => none
      | some outs => xh_all outs fun o => xx_f (Nat.add ce N.2.1) fun ce' => xx_f (Nat.add sl N.2.2.1) fun sl' => nx lv (match o.1 with
        | none => rest
        | some v => v :: rest) o.2.1 o.2.2 ce' sl') none) d
noncomputable def xh_step (MP : List xP) (ih : xI) : xI := fun d mc ms C rest => match rest with
  | [] => fun _ _ _ _ _ _ => none
  | f :: rs => f (ih d mc ms C rs) (fun j => ih d mc ms C (xk_drop j C)) (ih d mc ms C rest) (xh_call MP ih d mc ms (ih d mc ms C rs))
noncomputable def xh_run (MP : List xP) (fuel : Nat) : xI := Nat.rec (motive := fun _ => xI) (fun _ _ _ _ _ _ _ _ _ _ _ => none) (fun _ ih => xh_step MP ih) fuel
end
section
/-! the classes, words and methods of the run: printed by wip/p1/gen2.py out of the claim's tables and decode rows -/
def xTb : List Cond := lw_tbl.filter goodWord
theorem xTb_good : ∀ w ∈ xTb, goodWord w = true := fun w h => (List.mem_filter.mp h).2
/-- the word at a place of the tables -/
def xch : List (List Cond) := [k2_sels lw_privs, tables_1_1, tables_1_2, tables_1_3, tables_1_4, tables_1_5, tables_1_6, tables_1_7, tables_1_8, tables_1_9]
theorem xch_ok : ∀ l ∈ xch, ∀ w ∈ l, w ∈ lw_tbl := by
  intro l hl w hw
  have h : w ∈ xch.flatten := List.mem_flatten.mpr ⟨l, hl, hw⟩
  have e : xch.flatten = lw_tbl := by simp [xch, lw_tbl, tables_1]
  rw [← e]
  exact h
noncomputable def xwd (i : Nat) (w : Cond) : Bool := match xk_at xch (Nat.div i 1000) with
  | some l => (match xk_at l (Nat.mod i 1000) with
    | some w' => and (decide (w' = w)) (goodWord w)
    | none => false)
  | none => false
def xT_0 : u_T := fun k => match k with
  | 0 => ("GridLaws$Board", "slotCount", "I", false)
  | 1 => ("GridLaws$Board", "slotCells", "[I", true)
  | 2 => ("GridLaws$Board", "cells", "[I", true)
  | 3 => ("GridLaws$Board", "downAt", "[I", true)
  | 4 => ("GridLaws$Board", "acrossAt", "[I", true)
  | 5 => ("GridLaws$Board", "lengths", "[I", true)
  | 6 => ("GridLaws$Board", "lines", "[I", true)
  | 7 => ("GridLaws$Board", "acrossCount", "I", false)
  | 8 => ("GridLaws$Board", "law", "LGridLaws$Law;", false)
  | 9 => ("GridLaws$Board", "acts", "[I", true)
  | 10 => ("GridLaws$Board", "blanksIn", "[I", true)
  | 11 => ("GridLaws$Board", "cellCount", "I", false)
  | 12 => ("GridLaws$Board", "inForce", "I", false)
  | 13 => ("GridLaws$Board", "meets", "[I", true)
  | _ => ("GridLaws$Board", "year", "I", false)
def xy_0 : Nat → FieldType := fun k => match k with
  | 0 => .int
  | 1 => .array .int
  | 2 => .array .int
  | 3 => .array .int
  | 4 => .array .int
  | 5 => .array .int
  | 6 => .array .int
  | 7 => .int
  | 8 => .object "GridLaws$Law"
  | 9 => .array .int
  | 10 => .array .int
  | 11 => .int
  | 12 => .int
  | 13 => .array .int
  | _ => .int
def xT_1 : u_T := fun k => match k with
  | 0 => ("GridLaws$Duel", "move", "I", false)
  | 1 => ("GridLaws$Duel", "reply", "I", false)
  | 2 => ("GridLaws$Duel", "outcome", "I", false)
  | 3 => ("GridLaws$Duel", "board", "LGridLaws$Board;", true)
  | 4 => ("GridLaws$Duel", "answer", "I", false)
  | _ => ("GridLaws$Duel", "gains", "[I", true)
def xy_1 : Nat → FieldType := fun k => match k with
  | 0 => .int
  | 1 => .int
  | 2 => .int
  | 3 => .object "GridLaws$Board"
  | 4 => .int
  | _ => .array .int
def xT_2 : u_T := fun k => match k with
  | 0 => ("GridLaws$Filler", "board", "LGridLaws$Board;", true)
  | 1 => ("GridLaws$Filler", "found", "I", false)
  | 2 => ("GridLaws$Filler", "spent", "Z", false)
  | 3 => ("GridLaws$Filler", "sights", "LGridLaws$Sights;", true)
  | 4 => ("GridLaws$Filler", "tally", "[I", true)
  | 5 => ("GridLaws$Filler", "greatest", "I", false)
  | 6 => ("GridLaws$Filler", "least", "I", false)
  | 7 => ("GridLaws$Filler", "best", "[I", true)
  | 8 => ("GridLaws$Filler", "gains", "[I", true)
  | 9 => ("GridLaws$Filler", "isSeeing", "Z", false)
  | 10 => ("GridLaws$Filler", "counting", "I", false)
  | 11 => ("GridLaws$Filler", "tried", "I", false)
  | _ => ("GridLaws$Filler", "given", "[I", true)
def xy_2 : Nat → FieldType := fun k => match k with
  | 0 => .object "GridLaws$Board"
  | 1 => .int
  | 2 => .boolean
  | 3 => .object "GridLaws$Sights"
  | 4 => .array .int
  | 5 => .int
  | 6 => .int
  | 7 => .array .int
  | 8 => .array .int
  | 9 => .boolean
  | 10 => .int
  | 11 => .int
  | _ => .array .int
def xT_3 : u_T := fun k => match k with
  | 0 => ("GridLaws$Formula", "units", "I", false)
  | 1 => ("GridLaws$Formula", "told", "Z", false)
  | 2 => ("GridLaws$Formula", "size", "I", false)
  | 3 => ("GridLaws$Formula", "steps", "[I", true)
  | 4 => ("GridLaws$Formula", "stack", "[I", true)
  | _ => ("GridLaws$Formula", "variables", "[I", true)
def xy_3 : Nat → FieldType := fun k => match k with
  | 0 => .int
  | 1 => .boolean
  | 2 => .int
  | 3 => .array .int
  | 4 => .array .int
  | _ => .array .int
def xT_4 : u_T := fun k => match k with
  | 0 => ("GridLaws$History", "place", "I", false)
  | 1 => ("GridLaws$History", "states", "LGridLaws$Shelf;", true)
  | 2 => ("GridLaws$History", "behind", "I", false)
  | _ => ("GridLaws$History", "ahead", "I", false)
def xy_4 : Nat → FieldType := fun k => match k with
  | 0 => .int
  | 1 => .object "GridLaws$Shelf"
  | 2 => .int
  | _ => .int
def xT_5 : u_T := fun k => match k with
  | 0 => ("GridLaws$Law", "columns", "I", false)
  | 1 => ("GridLaws$Law", "rows", "I", false)
  | 2 => ("GridLaws$Law", "ofLength", "[I", true)
  | 3 => ("GridLaws$Law", "withLetter", "[I", true)
  | 4 => ("GridLaws$Law", "ifs", "LGridLaws$Rules;", true)
  | 5 => ("GridLaws$Law", "partyCount", "I", false)
  | 6 => ("GridLaws$Law", "actCount", "I", false)
  | 7 => ("GridLaws$Law", "nevers", "LGridLaws$Rules;", true)
  | 8 => ("GridLaws$Law", "blackCells", "I", false)
  | 9 => ("GridLaws$Law", "formula", "LGridLaws$Formula;", true)
  | 10 => ("GridLaws$Law", "actLengths", "[I", true)
  | 11 => ("GridLaws$Law", "wanted", "[I", true)
  | 12 => ("GridLaws$Law", "partyNames", "[J", true)
  | 13 => ("GridLaws$Law", "actNames", "[J", true)
  | 14 => ("GridLaws$Law", "letters", "[I", true)
  | 15 => ("GridLaws$Law", "vowels", "[I", true)
  | _ => ("GridLaws$Law", "blackCount", "I", false)
def xy_5 : Nat → FieldType := fun k => match k with
  | 0 => .int
  | 1 => .int
  | 2 => .array .int
  | 3 => .array .int
  | 4 => .object "GridLaws$Rules"
  | 5 => .int
  | 6 => .int
  | 7 => .object "GridLaws$Rules"
  | 8 => .int
  | 9 => .object "GridLaws$Formula"
  | 10 => .array .int
  | 11 => .array .int
  | 12 => .array .long
  | 13 => .array .long
  | 14 => .array .int
  | 15 => .array .int
  | _ => .int
def xT_6 : u_T := fun k => match k with
  | 0 => ("GridLaws$Reader", "tokens", "LGridLaws$Tape;", true)
  | 1 => ("GridLaws$Reader", "fault", "I", false)
  | 2 => ("GridLaws$Reader", "faultPlace", "I", false)
  | 3 => ("GridLaws$Reader", "law", "LGridLaws$Law;", false)
  | _ => ("GridLaws$Reader", "toldParties", "I", false)
def xy_6 : Nat → FieldType := fun k => match k with
  | 0 => .object "GridLaws$Tape"
  | 1 => .int
  | 2 => .int
  | 3 => .object "GridLaws$Law"
  | _ => .int
def xT_7 : u_T := fun k => match k with
  | 0 => ("GridLaws$Rules", "count", "I", false)
  | 1 => ("GridLaws$Rules", "first", "[I", true)
  | 2 => ("GridLaws$Rules", "second", "[I", true)
  | _ => ("GridLaws$Rules", "third", "[I", true)
def xy_7 : Nat → FieldType := fun k => match k with
  | 0 => .int
  | 1 => .array .int
  | 2 => .array .int
  | _ => .array .int
def xT_8 : u_T := fun k => match k with
  | 0 => ("GridLaws$Shelf", "kept", "[I", true)
  | 1 => ("GridLaws$Shelf", "count", "I", true)
  | _ => ("GridLaws$Shelf", "filled", "[Z", true)
def xy_8 : Nat → FieldType := fun k => match k with
  | 0 => .array .int
  | 1 => .int
  | _ => .array .boolean
def xT_9 : u_T := fun k => match k with
  | 0 => ("GridLaws$Sights", "count", "I", false)
  | 1 => ("GridLaws$Sights", "untold", "[I", true)
  | 2 => ("GridLaws$Sights", "told", "[I", true)
  | 3 => ("GridLaws$Sights", "time", "I", false)
  | 4 => ("GridLaws$Sights", "cells", "[I", true)
  | 5 => ("GridLaws$Sights", "letters", "[I", true)
  | _ => ("GridLaws$Sights", "are", "[Z", true)
def xy_9 : Nat → FieldType := fun k => match k with
  | 0 => .int
  | 1 => .array .int
  | 2 => .array .int
  | 3 => .int
  | 4 => .array .int
  | 5 => .array .int
  | _ => .array .boolean
def xT_10 : u_T := fun k => match k with
  | 0 => ("GridLaws$Tape", "length", "I", false)
  | 1 => ("GridLaws$Tape", "next", "I", false)
  | 2 => ("GridLaws$Tape", "bytes", "[B", true)
  | 3 => ("GridLaws$Tape", "keywords", "[J", true)
  | 4 => ("GridLaws$Tape", "kind", "I", false)
  | 5 => ("GridLaws$Tape", "place", "I", false)
  | 6 => ("GridLaws$Tape", "size", "I", false)
  | 7 => ("GridLaws$Tape", "word", "J", false)
  | 8 => ("GridLaws$Tape", "number", "I", false)
  | _ => ("GridLaws$Tape", "sign", "C", false)
def xy_10 : Nat → FieldType := fun k => match k with
  | 0 => .int
  | 1 => .int
  | 2 => .array .byte
  | 3 => .array .long
  | 4 => .int
  | 5 => .int
  | 6 => .int
  | 7 => .long
  | 8 => .int
  | _ => .char
def xT_11 : u_T := fun k => match k with
  | 0 => ("GridLaws", "board", "LGridLaws$Board;", true)
  | 1 => ("GridLaws", "filler", "LGridLaws$Filler;", true)
  | 2 => ("GridLaws", "trial", "LGridLaws$Board;", true)
  | 3 => ("GridLaws", "law", "LGridLaws$Law;", false)
  | 4 => ("GridLaws", "tape", "LGridLaws$Tape;", true)
  | 5 => ("GridLaws", "history", "LGridLaws$History;", true)
  | 6 => ("GridLaws", "sights", "LGridLaws$Sights;", true)
  | 7 => ("GridLaws", "reader", "LGridLaws$Reader;", true)
  | 8 => ("GridLaws", "duel", "LGridLaws$Duel;", true)
  | 9 => ("GridLaws", "draft", "LGridLaws$Law;", false)
  | 10 => ("GridLaws", "boxes", "LGridLaws$Shelf;", true)
  | 11 => ("GridLaws", "lyingCount", "I", false)
  | _ => ("GridLaws", "lying", "[I", true)
def xy_11 : Nat → FieldType := fun k => match k with
  | 0 => .object "GridLaws$Board"
  | 1 => .object "GridLaws$Filler"
  | 2 => .object "GridLaws$Board"
  | 3 => .object "GridLaws$Law"
  | 4 => .object "GridLaws$Tape"
  | 5 => .object "GridLaws$History"
  | 6 => .object "GridLaws$Sights"
  | 7 => .object "GridLaws$Reader"
  | 8 => .object "GridLaws$Duel"
  | 9 => .object "GridLaws$Law"
  | 10 => .object "GridLaws$Shelf"
  | 11 => .int
  | _ => .array .int
def xT_12 : u_T := fun k => match k with
  | 0 => ("GridLawsModel", "bank", "I", false)
  | 1 => ("GridLawsModel", "columns", "[I", true)
  | 2 => ("GridLawsModel", "slotMany", "I", false)
  | 3 => ("GridLawsModel", "isAcross", "[Z", true)
  | 4 => ("GridLawsModel", "rows", "[I", true)
  | 5 => ("GridLawsModel", "slotCells", "[I", true)
  | 6 => ("GridLawsModel", "slotLong", "[I", true)
  | 7 => ("GridLawsModel", "slotFrom", "[I", true)
  | 8 => ("GridLawsModel", "all", "[I", true)
  | 9 => ("GridLawsModel", "slotAct", "[I", true)
  | 10 => ("GridLawsModel", "sights", "I", false)
  | 11 => ("GridLawsModel", "next", "[I", true)
  | 12 => ("GridLawsModel", "kepts", "I", false)
  | 13 => ("GridLawsModel", "time", "I", false)
  | 14 => ("GridLawsModel", "laidCells", "[I", true)
  | 15 => ("GridLawsModel", "parties", "[I", true)
  | 16 => ("GridLawsModel", "found", "I", false)
  | 17 => ("GridLawsModel", "was", "[I", true)
  | 18 => ("GridLawsModel", "acts", "[I", true)
  | 19 => ("GridLawsModel", "letterCount", "[I", true)
  | 20 => ("GridLawsModel", "kept", "[I", true)
  | 21 => ("GridLawsModel", "taped", "I", false)
  | 22 => ("GridLawsModel", "rb", "I", false)
  | 23 => ("GridLawsModel", "given", "[I", true)
  | 24 => ("GridLawsModel", "tried", "I", false)
  | 25 => ("GridLawsModel", "ifs", "[I", true)
  | 26 => ("GridLawsModel", "nevers", "[I", true)
  | 27 => ("GridLawsModel", "undone", "I", false)
  | 28 => ("GridLawsModel", "units", "[I", true)
  | 29 => ("GridLawsModel", "laid", "I", false)
  | 30 => ("GridLawsModel", "sUntold", "[I", true)
  | 31 => ("GridLawsModel", "sCell", "[I", true)
  | 32 => ("GridLawsModel", "sLetter", "[I", true)
  | 33 => ("GridLawsModel", "sIs", "[I", true)
  | 34 => ("GridLawsModel", "sTold", "[I", true)
  | 35 => ("GridLawsModel", "at", "I", false)
  | 36 => ("GridLawsModel", "isBoxed", "[Z", true)
  | 37 => ("GridLawsModel", "end", "I", false)
  | 38 => ("GridLawsModel", "boxAll", "[I", true)
  | 39 => ("GridLawsModel", "size", "I", false)
  | 40 => ("GridLawsModel", "faultKind", "I", false)
  | 41 => ("GridLawsModel", "most", "I", false)
  | 42 => ("GridLawsModel", "faultPlace", "I", false)
  | 43 => ("GridLawsModel", "isBlack", "[I", true)
  | 44 => ("GridLawsModel", "laidRow", "[I", true)
  | 45 => ("GridLawsModel", "least", "I", false)
  | 46 => ("GridLawsModel", "tape", "[B", true)
  | 47 => ("GridLawsModel", "text", "[B", true)
  | 48 => ("GridLawsModel", "name", "J", false)
  | 49 => ("GridLawsModel", "blacks", "[I", true)
  | 50 => ("GridLawsModel", "lines", "[I", true)
  | 51 => ("GridLawsModel", "ifOne", "[I", true)
  | 52 => ("GridLawsModel", "ifOther", "[I", true)
  | 53 => ("GridLawsModel", "ifThen", "[I", true)
  | 54 => ("GridLawsModel", "hasForce", "[Z", true)
  | 55 => ("GridLawsModel", "bestRow", "[I", true)
  | 56 => ("GridLawsModel", "answer", "I", false)
  | 57 => ("GridLawsModel", "token", "I", false)
  | 58 => ("GridLawsModel", "number", "I", false)
  | 59 => ("GridLawsModel", "neverOne", "[I", true)
  | 60 => ("GridLawsModel", "neverOther", "[I", true)
  | 61 => ("GridLawsModel", "letters", "[I", true)
  | 62 => ("GridLawsModel", "letterOf", "[I", true)
  | 63 => ("GridLawsModel", "want", "[I", true)
  | 64 => ("GridLawsModel", "ruleFrom", "[I", true)
  | 65 => ("GridLawsModel", "ruleTo", "[I", true)
  | 66 => ("GridLawsModel", "pName", "[J", true)
  | 67 => ("GridLawsModel", "aName", "[J", true)
  | 68 => ("GridLawsModel", "code", "[I", true)
  | 69 => ("GridLawsModel", "codeNumber", "[I", true)
  | 70 => ("GridLawsModel", "eWhat", "[I", true)
  | 71 => ("GridLawsModel", "eSign", "[I", true)
  | 72 => ("GridLawsModel", "pile", "[I", true)
  | 73 => ("GridLawsModel", "codes", "I", false)
  | 74 => ("GridLawsModel", "within", "I", false)
  | 75 => ("GridLawsModel", "piled", "I", false)
  | 76 => ("GridLawsModel", "unitsInRule", "I", false)
  | 77 => ("GridLawsModel", "askLong", "I", false)
  | 78 => ("GridLawsModel", "askVowels", "I", false)
  | 79 => ("GridLawsModel", "askAcross", "I", false)
  | 80 => ("GridLawsModel", "askLine", "I", false)
  | 81 => ("GridLawsModel", "askMeets", "I", false)
  | 82 => ("GridLawsModel", "asker", "I", false)
  | _ => ("GridLawsModel", "timeAsked", "I", false)
def xy_12 : Nat → FieldType := fun k => match k with
  | 0 => .int
  | 1 => .array .int
  | 2 => .int
  | 3 => .array .boolean
  | 4 => .array .int
  | 5 => .array .int
  | 6 => .array .int
  | 7 => .array .int
  | 8 => .array .int
  | 9 => .array .int
  | 10 => .int
  | 11 => .array .int
  | 12 => .int
  | 13 => .int
  | 14 => .array .int
  | 15 => .array .int
  | 16 => .int
  | 17 => .array .int
  | 18 => .array .int
  | 19 => .array .int
  | 20 => .array .int
  | 21 => .int
  | 22 => .int
  | 23 => .array .int
  | 24 => .int
  | 25 => .array .int
  | 26 => .array .int
  | 27 => .int
  | 28 => .array .int
  | 29 => .int
  | 30 => .array .int
  | 31 => .array .int
  | 32 => .array .int
  | 33 => .array .int
  | 34 => .array .int
  | 35 => .int
  | 36 => .array .boolean
  | 37 => .int
  | 38 => .array .int
  | 39 => .int
  | 40 => .int
  | 41 => .int
  | 42 => .int
  | 43 => .array .int
  | 44 => .array .int
  | 45 => .int
  | 46 => .array .byte
  | 47 => .array .byte
  | 48 => .long
  | 49 => .array .int
  | 50 => .array .int
  | 51 => .array .int
  | 52 => .array .int
  | 53 => .array .int
  | 54 => .array .boolean
  | 55 => .array .int
  | 56 => .int
  | 57 => .int
  | 58 => .int
  | 59 => .array .int
  | 60 => .array .int
  | 61 => .array .int
  | 62 => .array .int
  | 63 => .array .int
  | 64 => .array .int
  | 65 => .array .int
  | 66 => .array .long
  | 67 => .array .long
  | 68 => .array .int
  | 69 => .array .int
  | 70 => .array .int
  | 71 => .array .int
  | 72 => .array .int
  | 73 => .int
  | 74 => .int
  | 75 => .int
  | 76 => .int
  | 77 => .int
  | 78 => .int
  | 79 => .int
  | 80 => .int
  | 81 => .int
  | 82 => .int
  | _ => .int
def xcl : List vw_C := [("GridLaws$Board", xT_0, 15), ("GridLaws$Duel", xT_1, 6), ("GridLaws$Filler", xT_2, 13), ("GridLaws$Formula", xT_3, 6), ("GridLaws$History", xT_4, 4), ("GridLaws$Law", xT_5, 17), ("GridLaws$Reader", xT_6, 5), ("GridLaws$Rules", xT_7, 4), ("GridLaws$Shelf", xT_8, 3), ("GridLaws$Sights", xT_9, 7), ("GridLaws$Tape", xT_10, 10), ("GridLaws", xT_11, 13), ("GridLawsModel", xT_12, 84)]
theorem xcl_1000 : xcl[1000]? = none := rfl
def xTY (ci : Nat) : Nat → FieldType := match ci with
  | 0 => xy_0
  | 1 => xy_1
  | 2 => xy_2
  | 3 => xy_3
  | 4 => xy_4
  | 5 => xy_5
  | 6 => xy_6
  | 7 => xy_7
  | 8 => xy_8
  | 9 => xy_9
  | 10 => xy_10
  | 11 => xy_11
  | _ => xy_12
def xDF : List (List xV) := [[(0, 0), (2, 0), (2, 0), (2, 0), (2, 0), (2, 0), (2, 0), (0, 0), (2, 0), (2, 0), (2, 0), (0, 0), (0, 0), (2, 0), (0, 0)], [(0, 0), (0, 0), (0, 0), (2, 0), (0, 0), (2, 0)], [(2, 0), (0, 0), (0, 0), (2, 0), (2, 0), (0, 0), (0, 0), (2, 0), (2, 0), (0, 0), (0, 0), (0, 0), (2, 0)], [(0, 0), (0, 0), (0, 0), (2, 0), (2, 0), (2, 0)], [(0, 0), (2, 0), (0, 0), (0, 0)], [(0, 0), (0, 0), (2, 0), (2, 0), (2, 0), (0, 0), (0, 0), (2, 0), (0, 0), (2, 0), (2, 0), (2, 0), (2, 0), (2, 0), (2, 0), (2, 0), (0, 0)], [(2, 0), (0, 0), (0, 0), (2, 0), (0, 0)], [(0, 0), (2, 0), (2, 0), (2, 0)], [(2, 0), (0, 0), (2, 0)], [(0, 0), (2, 0), (2, 0), (0, 0), (2, 0), (2, 0), (2, 0)], [(0, 0), (0, 0), (2, 0), (2, 0), (0, 0), (0, 0), (0, 0), (4, 0), (0, 0), (0, 0)], [(2, 0), (2, 0), (2, 0), (2, 0), (2, 0), (2, 0), (2, 0), (2, 0), (2, 0), (2, 0), (2, 0), (0, 0), (2, 0)], [(0, 0), (2, 0), (0, 0), (2, 0), (2, 0), (2, 0), (2, 0), (2, 0), (2, 0), (2, 0), (0, 0), (2, 0), (0, 0), (0, 0), (2, 0), (2, 0), (0, 0), (2, 0), (2, 0), (2, 0), (2, 0), (0, 0), (0, 0), (2, 0), (0, 0), (2, 0), (2, 0), (0, 0), (2, 0), (0, 0), (2, 0), (2, 0), (2, 0), (2, 0), (2, 0), (0, 0), (2, 0), (0, 0), (2, 0), (0, 0), (0, 0), (0, 0), (0, 0), (2, 0), (2, 0), (0, 0), (2, 0), (2, 0), (4, 0), (2, 0), (2, 0), (2, 0), (2, 0), (2, 0), (2, 0), (2, 0), (0, 0), (0, 0), (0, 0), (2, 0), (2, 0), (2, 0), (2, 0), (2, 0), (2, 0), (2, 0), (2, 0), (2, 0), (2, 0), (2, 0), (2, 0), (2, 0), (2, 0), (0, 0), (0, 0), (0, 0), (0, 0), (0, 0), (0, 0), (0, 0), (0, 0), (0, 0), (0, 0), (0, 0)]]
def xBY : List (List Int32) := [[97, 101, 105, 111, 117], [115, 105, 122, 101, 32, 98, 121, 32, 112, 97, 114, 116, 121, 32, 97, 99, 116, 32, 98, 108, 97, 99, 107, 32, 105, 102, 32, 97, 110, 100, 32, 116, 104, 101, 110, 32, 110, 101, 118, 101, 114, 32, 102, 111, 114, 99, 101, 32, 111, 114, 32, 110, 111, 116, 32, 108, 111, 110, 103, 32, 118, 111, 119, 101, 108, 115, 32, 97, 99, 114, 111, 115, 115, 32, 108, 105, 110, 101, 32, 121, 101, 97, 114, 32, 109, 101, 101, 116, 115, 32], [59, 40, 41, 60, 62, 61, 43, 45, 42, 47, 37]]
theorem xBYs : ∀ bs ∈ xBY, bs.length < 2 ^ 31 := by decide +kernel
def xSR : List (String × Nat × String × Nat) := [("GridLaws$Law", 99, "aeiou", 0), ("GridLaws$Tape", 46, "size by party act black if and then never force or not long vowels across line year meets ", 1), ("GridLaws$Tape", 78, ";()<>=+-*/%", 2)]
def xNW : List Cond := [Cond.methodLinkNest "GridLaws" 18 ⟨"GridLaws$Law", "<init>", "()V"⟩ "GridLaws", Cond.methodLinkNest "GridLaws$Law" 58 ⟨"GridLaws$Rules", "<init>", "()V"⟩ "GridLaws", Cond.methodLinkNest "GridLaws$Law" 68 ⟨"GridLaws$Formula", "<init>", "()V"⟩ "GridLaws", Cond.fieldLinkNest "GridLaws$Duel" 94 "GridLaws$Board" "law" "LGridLaws$Law;" "GridLaws", Cond.methodLinkNest "GridLaws" 49 ⟨"GridLaws$History", "<init>", "()V"⟩ "GridLaws", Cond.methodLinkNest "GridLaws" 65 ⟨"GridLaws$Sights", "<init>", "()V"⟩ "GridLaws", Cond.methodLinkNest "GridLaws$Board" 70 ⟨"GridLaws", "isIn", "(II)Z"⟩ "GridLaws", Cond.methodLinkNest "GridLaws$Reader" 168 ⟨"GridLaws", "isIn", "(II)Z"⟩ "GridLaws", Cond.methodLinkNest "GridLaws$Sights" 35 ⟨"GridLaws", "isIn", "(II)Z"⟩ "GridLaws", Cond.methodLinkNest "GridLaws$Filler" 90 ⟨"GridLaws", "isIn", "(II)Z"⟩ "GridLaws", Cond.methodLinkNest "GridLaws$Duel" 45 ⟨"GridLaws", "isIn", "(II)Z"⟩ "GridLaws"]
theorem xNW_ok : ∀ w ∈ xNW, (∃ a i b n d ho, w = Cond.fieldLinkNest a i b n d ho) ∨ ∃ a i y ho, w = Cond.methodLinkNest a i y ho := List.forall_mem_cons.mpr ⟨Or.inr ⟨_, _, _, _, rfl⟩, List.forall_mem_cons.mpr ⟨Or.inr ⟨_, _, _, _, rfl⟩, List.forall_mem_cons.mpr ⟨Or.inr ⟨_, _, _, _, rfl⟩, List.forall_mem_cons.mpr ⟨Or.inl ⟨_, _, _, _, _, _, rfl⟩, List.forall_mem_cons.mpr ⟨Or.inr ⟨_, _, _, _, rfl⟩, List.forall_mem_cons.mpr ⟨Or.inr ⟨_, _, _, _, rfl⟩, List.forall_mem_cons.mpr ⟨Or.inr ⟨_, _, _, _, rfl⟩, List.forall_mem_cons.mpr ⟨Or.inr ⟨_, _, _, _, rfl⟩, List.forall_mem_cons.mpr ⟨Or.inr ⟨_, _, _, _, rfl⟩, List.forall_mem_cons.mpr ⟨Or.inr ⟨_, _, _, _, rfl⟩, List.forall_mem_cons.mpr ⟨Or.inr ⟨_, _, _, _, rfl⟩, fun _ h => absurd h List.not_mem_nil⟩⟩⟩⟩⟩⟩⟩⟩⟩⟩⟩
def xe_0 (pc len : Nat) (i : Instr) : xE := (pc, len, i, 0, 0, 0, 0)
def xe_1 (pc len : Nat) (i : Instr) (a : Nat) : xE := (pc, len, i, a, 0, 0, 0)
def xe_4 (pc len : Nat) (i : Instr) (a b c w : Nat) : xE := (pc, len, i, a, b, c, w)
/-- a row that the run never comes to -/
def xe_d (pc len : Nat) : xE := (pc, len, .nop, 0, 0, 0, 999999)
/-- GridLaws$Board.<init>(LGridLaws$Law;)V -/
def xt_0 : List xE := [xe_0 0 1 (.aload_n 0), xe_4 1 3 (.invokespecial 3) 0 2 0 2058, xe_0 4 1 (.aload_n 0), xe_0 5 1 (.iconst 0), xe_4 6 3 (.putfield 9) 0 14 0 2061, xe_0 9 1 (.aload_n 0), xe_0 10 1 (.iconst 0), xe_4 11 3 (.putfield 15) 0 11 0 2064, xe_0 14 1 (.aload_n 0), xe_0 15 2 (.bipush 20), xe_4 17 2 (.newarray .int) 0 0 0 1159, xe_4 19 3 (.putfield 18) 0 2 6 2067, xe_0 22 1 (.aload_n 0), xe_0 23 1 (.iconst 0), xe_4 24 3 (.putfield 22) 0 0 0 2072, xe_0 27 1 (.aload_n 0), xe_0 28 1 (.iconst 0), xe_4 29 3 (.putfield 25) 0 7 0 2076, xe_0 32 1 (.aload_n 0), xe_0 33 2 (.bipush 80), xe_4 35 2 (.newarray .int) 0 0 0 1159, xe_4 37 3 (.putfield 28) 0 1 6 2077, xe_0 40 1 (.aload_n 0), xe_0 41 2 (.bipush 16), xe_4 43 2 (.newarray .int) 0 0 0 1159, xe_4 45 3 (.putfield 31) 0 5 6 2078, xe_0 48 1 (.aload_n 0), xe_0 49 2 (.bipush 16), xe_4 51 2 (.newarray .int) 0 0 0 1159, xe_4 53 3 (.putfield 34) 0 6 6 2081, xe_0 56 1 (.aload_n 0), xe_0 57 2 (.bipush 16), xe_4 59 2 (.newarray .int) 0 0 0 1159, xe_4 61 3 (.putfield 37) 0 13 6 2082, xe_0 64 1 (.aload_n 0), xe_0 65 2 (.bipush 20), xe_4 67 2 (.newarray .int) 0 0 0 1159, xe_4 69 3 (.putfield 40) 0 4 6 2084, xe_0 72 1 (.aload_n 0), xe_0 73 2 (.bipush 20), xe_4 75 2 (.newarray .int) 0 0 0 1159, xe_4 77 3 (.putfield 43) 0 3 6 2086, xe_0 80 1 (.aload_n 0), xe_0 81 2 (.bipush 16), xe_4 83 2 (.newarray .int) 0 0 0 1159, xe_4 85 3 (.putfield 46) 0 9 6 2088, xe_0 88 1 (.aload_n 0), xe_0 89 2 (.bipush 16), xe_4 91 2 (.newarray .int) 0 0 0 1159, xe_4 93 3 (.putfield 49) 0 10 6 2092, xe_0 96 1 (.aload_n 0), xe_0 97 1 (.iconst 0), xe_4 98 3 (.putfield 52) 0 12 0 2095, xe_0 101 1 (.aload_n 0), xe_0 102 1 (.aload_n 1), xe_4 103 3 (.putfield 55) 0 8 6 2059, xe_0 106 1 .return_]
def xm_0 : xM := (⟨"GridLaws$Board", "<init>", "(LGridLaws$Law;)V"⟩, prog_2_method_1_code, 2, none, 9, 220, 1, xt_0)
/-- GridLaws$Board.begin(LGridLaws$Law;)V -/
def xt_1 : List xE := [xe_0 0 1 (.aload_n 0), xe_0 1 1 (.aload_n 1), xe_4 2 3 (.putfield 55) 0 8 6 2059, xe_0 5 1 (.aload_n 0), xe_0 6 1 (.iconst 0), xe_4 7 3 (.putfield 9) 0 14 0 2061, xe_0 10 1 (.aload_n 0), xe_0 11 1 (.aload_n 0), xe_4 12 3 (.getfield 55) 0 8 6 2059, xe_4 15 3 (.getfield 59) 5 1 0 1189, xe_0 18 1 (.aload_n 0), xe_4 19 3 (.getfield 55) 0 8 6 2059, xe_4 22 3 (.getfield 64) 5 0 0 1193, xe_0 25 1 .imul, xe_4 26 3 (.putfield 15) 0 11 0 2064, xe_0 29 1 (.iconst 0), xe_0 30 1 (.istore_n 2), xe_0 31 1 (.iload_n 2), xe_0 32 1 (.aload_n 0), xe_4 33 3 (.getfield 15) 0 11 0 2064, xe_1 36 3 (.if_icmp .ge 35) 36, xe_0 39 1 (.aload_n 0), xe_4 40 3 (.getfield 18) 0 2 6 2067, xe_0 43 1 (.iload_n 2), xe_0 44 1 (.aload_n 0), xe_4 45 3 (.getfield 55) 0 8 6 2059, xe_4 48 3 (.getfield 67) 5 8 0 1221, xe_0 51 1 (.iload_n 2), xe_4 52 3 (.invokestatic 70) 100 1 11 6, xe_1 55 3 (.ifCond .eq 8) 32, xe_d 58 2, xe_d 60 3, xe_0 63 1 (.iconst 0), xe_0 64 1 .iastore, xe_0 65 3 (.iinc 2 1), xe_1 68 3 (.goto (-37)) 17, xe_0 71 1 (.aload_n 0), xe_4 72 3 (.invokevirtual 74) 12 0 0 3047, xe_0 75 1 .return_]
def xm_1 : xM := (⟨"GridLaws$Board", "begin", "(LGridLaws$Law;)V"⟩, prog_2_method_2_code, 3, none, 0, 0, 1, xt_1)
/-- GridLaws$Board.follow(LGridLaws$Board;)V -/
def xt_2 : List xE := [xe_0 0 1 (.aload_n 0), xe_0 1 1 (.aload_n 1), xe_4 2 3 (.getfield 55) 0 8 6 2059, xe_4 5 3 (.putfield 55) 0 8 6 2059, xe_0 8 1 (.aload_n 0), xe_0 9 1 (.aload_n 1), xe_4 10 3 (.getfield 9) 0 14 0 2061, xe_4 13 3 (.putfield 9) 0 14 0 2061, xe_0 16 1 (.aload_n 0), xe_0 17 1 (.aload_n 1), xe_4 18 3 (.getfield 15) 0 11 0 2064, xe_4 21 3 (.putfield 15) 0 11 0 2064, xe_0 24 1 (.aload_n 1), xe_4 25 3 (.getfield 18) 0 2 6 2067, xe_0 28 1 (.iconst 0), xe_0 29 1 (.aload_n 0), xe_4 30 3 (.getfield 18) 0 2 6 2067, xe_0 33 1 (.iconst 0), xe_0 34 2 (.bipush 20), xe_4 36 3 (.invokestatic 77) 0 3 0 5182, xe_0 39 1 (.aload_n 0), xe_4 40 3 (.invokevirtual 74) 12 0 0 3047, xe_0 43 1 .return_]
def xm_2 : xM := (⟨"GridLaws$Board", "follow", "(LGridLaws$Board;)V"⟩, prog_2_method_3_code, 2, none, 0, 0, 1, xt_2)
/-- GridLaws$Board.wipe()V -/
def xt_3 : List xE := [xe_0 0 1 (.iconst 0), xe_0 1 1 (.istore_n 1), xe_0 2 1 (.iload_n 1), xe_0 3 1 (.aload_n 0), xe_4 4 3 (.getfield 15) 0 11 0 2064, xe_1 7 3 (.if_icmp .ge 32) 21, xe_0 10 1 (.aload_n 0), xe_4 11 3 (.getfield 18) 0 2 6 2067, xe_0 14 1 (.iload_n 1), xe_0 15 1 (.aload_n 0), xe_4 16 3 (.getfield 18) 0 2 6 2067, xe_0 19 1 (.iload_n 1), xe_0 20 1 .iaload, xe_0 21 2 (.bipush 27), xe_1 23 3 (.if_icmp .ne 8) 17, xe_d 26 2, xe_d 28 3, xe_0 31 1 (.iconst 0), xe_0 32 1 .iastore, xe_0 33 3 (.iinc 1 1), xe_1 36 3 (.goto (-34)) 2, xe_0 39 1 (.aload_n 0), xe_4 40 3 (.invokevirtual 83) 15 0 0 3074, xe_0 43 1 .return_]
def xm_3 : xM := (⟨"GridLaws$Board", "wipe", "()V"⟩, prog_2_method_4_code, 2, none, 0, 0, 0, xt_3)
/-- GridLaws$Board.hasCell(I)Z -/
def xt_4 : List xE := [xe_0 0 1 (.iload_n 1), xe_1 1 3 (.ifCond .lt 15) 8, xe_0 4 1 (.iload_n 1), xe_0 5 1 (.aload_n 0), xe_4 6 3 (.getfield 15) 0 11 0 2064, xe_1 9 3 (.if_icmp .ge 7) 8, xe_0 12 1 (.iconst 1), xe_1 13 3 (.goto 4) 9, xe_0 16 1 (.iconst 0), xe_0 17 1 .ireturn]
def xm_4 : xM := (⟨"GridLaws$Board", "hasCell", "(I)Z"⟩, prog_2_method_5_code, 2, (some .boolean), 0, 0, 1, xt_4)
/-- GridLaws$Board.hasLetter(I)Z -/
def xt_5 : List xE := [xe_0 0 1 (.aload_n 0), xe_0 1 1 (.iload_n 1), xe_4 2 3 (.invokevirtual 86) 4 0 0 5061, xe_1 5 3 (.ifCond .eq 27) 17, xe_0 8 1 (.aload_n 0), xe_4 9 3 (.getfield 18) 0 2 6 2067, xe_0 12 1 (.iload_n 1), xe_0 13 1 .iaload, xe_1 14 3 (.ifCond .eq 18) 17, xe_d 17 1, xe_d 18 3, xe_d 21 1, xe_d 22 1, xe_d 23 2, xe_d 25 3, xe_d 28 1, xe_d 29 3, xe_0 32 1 (.iconst 0), xe_0 33 1 .ireturn]
def xm_5 : xM := (⟨"GridLaws$Board", "hasLetter", "(I)Z"⟩, prog_2_method_6_code, 2, (some .boolean), 0, 0, 1, xt_5)
/-- GridLaws$Board.hasSlot(I)Z -/
def xt_6 : List xE := [xe_0 0 1 (.iload_n 1), xe_1 1 3 (.ifCond .lt 15) 8, xe_0 4 1 (.iload_n 1), xe_0 5 1 (.aload_n 0), xe_4 6 3 (.getfield 22) 0 0 0 2072, xe_1 9 3 (.if_icmp .ge 7) 8, xe_0 12 1 (.iconst 1), xe_1 13 3 (.goto 4) 9, xe_0 16 1 (.iconst 0), xe_0 17 1 .ireturn]
def xm_6 : xM := (⟨"GridLaws$Board", "hasSlot", "(I)Z"⟩, prog_2_method_7_code, 2, (some .boolean), 0, 0, 1, xt_6)
/-- GridLaws$Board.isAcross(I)Z -/
def xt_7 : List xE := [xe_0 0 1 (.iload_n 1), xe_0 1 1 (.aload_n 0), xe_4 2 3 (.getfield 25) 0 7 0 2076, xe_1 5 3 (.if_icmp .ge 7) 6, xe_0 8 1 (.iconst 1), xe_1 9 3 (.goto 4) 7, xe_0 12 1 (.iconst 0), xe_0 13 1 .ireturn]
def xm_7 : xM := (⟨"GridLaws$Board", "isAcross", "(I)Z"⟩, prog_2_method_8_code, 2, (some .boolean), 0, 0, 1, xt_7)
/-- GridLaws$Board.isInSlot(I)Z -/
def xt_8 : List xE := [xe_0 0 1 (.aload_n 0), xe_4 1 3 (.getfield 40) 0 4 6 2084, xe_0 4 1 (.iload_n 1), xe_0 5 1 .iaload, xe_0 6 1 (.iconst (-1)), xe_1 7 3 (.if_icmp .ne 13) 12, xe_d 10 1, xe_d 11 3, xe_d 14 1, xe_d 15 1, xe_d 16 1, xe_d 17 3, xe_0 20 1 (.iconst 1), xe_1 21 3 (.goto 4) 15, xe_d 24 1, xe_0 25 1 .ireturn]
def xm_8 : xM := (⟨"GridLaws$Board", "isInSlot", "(I)Z"⟩, prog_2_method_9_code, 2, (some .boolean), 0, 0, 1, xt_8)
/-- GridLaws$Board.cellOf(II)I -/
def xt_9 : List xE := [xe_0 0 1 (.aload_n 0), xe_4 1 3 (.getfield 28) 0 1 6 2077, xe_0 4 1 (.iload_n 1), xe_0 5 1 (.iconst 5), xe_0 6 1 .imul, xe_0 7 1 (.iload_n 2), xe_0 8 1 .iadd, xe_0 9 1 .iaload, xe_0 10 1 .ireturn]
def xm_9 : xM := (⟨"GridLaws$Board", "cellOf", "(II)I"⟩, prog_2_method_11_code, 3, (some .int), 0, 0, 2, xt_9)
/-- GridLaws$Board.crossingAt(II)I -/
def xt_10 : List xE := [xe_0 0 1 (.aload_n 0), xe_0 1 1 (.iload_n 1), xe_4 2 3 (.invokevirtual 90) 7 0 0 3070, xe_1 5 3 (.ifCond .eq 12) 9, xe_0 8 1 (.aload_n 0), xe_4 9 3 (.getfield 43) 0 3 6 2086, xe_0 12 1 (.iload_n 2), xe_0 13 1 .iaload, xe_1 14 3 (.goto 9) 13, xe_0 17 1 (.aload_n 0), xe_4 18 3 (.getfield 40) 0 4 6 2084, xe_0 21 1 (.iload_n 2), xe_0 22 1 .iaload, xe_0 23 1 .ireturn]
def xm_10 : xM := (⟨"GridLaws$Board", "crossingAt", "(II)I"⟩, prog_2_method_12_code, 3, (some .int), 0, 0, 2, xt_10)
/-- GridLaws$Board.countBlack()I -/
def xt_11 : List xE := [xe_0 0 1 (.iconst 0), xe_0 1 1 (.istore_n 1), xe_0 2 1 (.iconst 0), xe_0 3 1 (.istore_n 2), xe_0 4 1 (.iload_n 2), xe_0 5 1 (.aload_n 0), xe_4 6 3 (.getfield 15) 0 11 0 2064, xe_1 9 3 (.if_icmp .ge 28) 22, xe_0 12 1 (.iload_n 1), xe_0 13 1 (.aload_n 0), xe_4 14 3 (.getfield 18) 0 2 6 2067, xe_0 17 1 (.iload_n 2), xe_0 18 1 .iaload, xe_0 19 2 (.bipush 27), xe_1 21 3 (.if_icmp .ne 7) 17, xe_0 24 1 (.iconst 1), xe_1 25 3 (.goto 4) 18, xe_0 28 1 (.iconst 0), xe_0 29 1 .iadd, xe_0 30 1 (.istore_n 1), xe_0 31 3 (.iinc 2 1), xe_1 34 3 (.goto (-30)) 4, xe_0 37 1 (.iload_n 1), xe_0 38 1 .ireturn]
def xm_11 : xM := (⟨"GridLaws$Board", "countBlack", "()I"⟩, prog_2_method_13_code, 3, (some .int), 0, 0, 0, xt_11)
/-- GridLaws$Board.findSlots()V -/
def xt_12 : List xE := [xe_0 0 1 (.aload_n 0), xe_0 1 1 (.iconst 0), xe_4 2 3 (.putfield 22) 0 0 0 2072, xe_0 5 1 (.aload_n 0), xe_4 6 3 (.getfield 40) 0 4 6 2084, xe_0 9 1 (.iconst (-1)), xe_4 10 3 (.invokestatic 93) 175 0 2000 3051, xe_0 13 1 (.aload_n 0), xe_4 14 3 (.getfield 43) 0 3 6 2086, xe_0 17 1 (.iconst (-1)), xe_4 18 3 (.invokestatic 93) 175 0 2000 3051, xe_0 21 1 (.iconst 0), xe_0 22 1 (.istore_n 1), xe_0 23 1 (.iload_n 1), xe_0 24 1 (.aload_n 0), xe_4 25 3 (.getfield 55) 0 8 6 2059, xe_4 28 3 (.getfield 59) 5 1 0 1189, xe_1 31 3 (.if_icmp .ge 53) 44, xe_0 34 1 (.iconst 0), xe_0 35 1 (.istore_n 2), xe_0 36 1 (.iload_n 2), xe_0 37 1 (.aload_n 0), xe_4 38 3 (.getfield 55) 0 8 6 2059, xe_4 41 3 (.getfield 64) 5 0 0 1193, xe_1 44 3 (.if_icmp .ge 34) 42, xe_0 47 1 (.aload_n 0), xe_0 48 1 (.iload_n 1), xe_0 49 1 (.aload_n 0), xe_4 50 3 (.getfield 55) 0 8 6 2059, xe_4 53 3 (.getfield 64) 5 0 0 1193, xe_0 56 1 .imul, xe_0 57 1 (.iload_n 2), xe_0 58 1 .iadd, xe_0 59 1 (.iconst 1), xe_0 60 1 (.iload_n 2), xe_0 61 1 (.aload_n 0), xe_4 62 3 (.getfield 55) 0 8 6 2059, xe_4 65 3 (.getfield 64) 5 0 0 1193, xe_0 68 1 (.iload_n 1), xe_4 69 3 (.invokevirtual 99) 13 0 0 3054, xe_0 72 3 (.iinc 2 1), xe_1 75 3 (.goto (-39)) 20, xe_0 78 3 (.iinc 1 1), xe_1 81 3 (.goto (-58)) 13, xe_0 84 1 (.aload_n 0), xe_0 85 1 (.aload_n 0), xe_4 86 3 (.getfield 22) 0 0 0 2072, xe_4 89 3 (.putfield 25) 0 7 0 2076, xe_0 92 1 (.iconst 0), xe_0 93 1 (.istore_n 1), xe_0 94 1 (.iload_n 1), xe_0 95 1 (.aload_n 0), xe_4 96 3 (.getfield 55) 0 8 6 2059, xe_4 99 3 (.getfield 59) 5 1 0 1189, xe_1 102 3 (.if_icmp .ge 59) 83, xe_0 105 1 (.iconst 0), xe_0 106 1 (.istore_n 2), xe_0 107 1 (.iload_n 2), xe_0 108 1 (.aload_n 0), xe_4 109 3 (.getfield 55) 0 8 6 2059, xe_4 112 3 (.getfield 64) 5 0 0 1193, xe_1 115 3 (.if_icmp .ge 40) 81, xe_0 118 1 (.aload_n 0), xe_0 119 1 (.iload_n 1), xe_0 120 1 (.aload_n 0), xe_4 121 3 (.getfield 55) 0 8 6 2059, xe_4 124 3 (.getfield 64) 5 0 0 1193, xe_0 127 1 .imul, xe_0 128 1 (.iload_n 2), xe_0 129 1 .iadd, xe_0 130 1 (.aload_n 0), xe_4 131 3 (.getfield 55) 0 8 6 2059, xe_4 134 3 (.getfield 64) 5 0 0 1193, xe_0 137 1 (.iload_n 1), xe_0 138 1 (.aload_n 0), xe_4 139 3 (.getfield 55) 0 8 6 2059, xe_4 142 3 (.getfield 59) 5 1 0 1189, xe_0 145 1 (.iload_n 2), xe_4 146 3 (.invokevirtual 99) 13 0 0 3054, xe_0 149 3 (.iinc 2 1), xe_1 152 3 (.goto (-45)) 57, xe_0 155 3 (.iinc 1 1), xe_1 158 3 (.goto (-64)) 50, xe_0 161 1 (.aload_n 0), xe_4 162 3 (.invokevirtual 103) 14 0 0 3058, xe_0 165 1 (.aload_n 0), xe_4 166 3 (.invokevirtual 83) 15 0 0 3074, xe_0 169 1 .return_]
def xm_12 : xM := (⟨"GridLaws$Board", "findSlots", "()V"⟩, prog_2_method_14_code, 3, none, 0, 0, 0, xt_12)
/-- GridLaws$Board.findSlot(IIIII)V -/
def xt_13 : List xE := [xe_0 0 1 (.iload_n 3), xe_1 1 3 (.ifCond .eq 16) 10, xe_0 4 1 (.aload_n 0), xe_4 5 3 (.getfield 18) 0 2 6 2067, xe_0 8 1 (.iload_n 1), xe_0 9 1 (.iload_n 2), xe_0 10 1 .isub, xe_0 11 1 .iaload, xe_0 12 2 (.bipush 27), xe_1 14 3 (.if_icmp .ne 7) 12, xe_0 17 1 (.iconst 1), xe_1 18 3 (.goto 4) 13, xe_0 21 1 (.iconst 0), xe_0 22 2 (.istore 6), xe_0 24 2 (.iload 6), xe_1 26 3 (.ifCond .eq 12) 20, xe_0 29 1 (.aload_n 0), xe_4 30 3 (.getfield 22) 0 0 0 2072, xe_0 33 2 (.bipush 16), xe_1 35 3 (.if_icmp .lt 4) 21, xe_0 38 1 .return_, xe_0 39 1 (.iconst 0), xe_0 40 2 (.istore 7), xe_0 42 1 (.iload_n 3), xe_0 43 2 (.iload 7), xe_0 45 1 .iadd, xe_0 46 2 (.iload 4), xe_1 48 3 (.if_icmp .ge 25) 40, xe_0 51 1 (.aload_n 0), xe_4 52 3 (.getfield 18) 0 2 6 2067, xe_0 55 1 (.iload_n 1), xe_0 56 2 (.iload 7), xe_0 58 1 (.iload_n 2), xe_0 59 1 .imul, xe_0 60 1 .iadd, xe_0 61 1 .iaload, xe_0 62 2 (.bipush 27), xe_1 64 3 (.if_icmp .eq 9) 40, xe_0 67 3 (.iinc 7 1), xe_1 70 3 (.goto (-28)) 23, xe_0 73 2 (.iload 7), xe_0 75 1 (.iconst 2), xe_1 76 3 (.if_icmp .ge 4) 44, xe_0 79 1 .return_, xe_0 80 1 (.aload_n 0), xe_4 81 3 (.getfield 31) 0 5 6 2078, xe_0 84 1 (.aload_n 0), xe_4 85 3 (.getfield 22) 0 0 0 2072, xe_0 88 2 (.iload 7), xe_0 90 1 .iastore, xe_0 91 1 (.aload_n 0), xe_4 92 3 (.getfield 34) 0 6 6 2081, xe_0 95 1 (.aload_n 0), xe_4 96 3 (.getfield 22) 0 0 0 2072, xe_0 99 2 (.iload 5), xe_0 101 1 .iastore, xe_0 102 1 (.iload_n 2), xe_0 103 1 (.iconst 1), xe_1 104 3 (.if_icmp .ne 10) 62, xe_0 107 1 (.aload_n 0), xe_4 108 3 (.getfield 40) 0 4 6 2084, xe_1 111 3 (.goto 7) 64, xe_0 114 1 (.aload_n 0), xe_4 115 3 (.getfield 43) 0 3 6 2086, xe_0 118 2 (.astore 8), xe_0 120 1 (.iconst 0), xe_0 121 2 (.istore 9), xe_0 123 2 (.iload 9), xe_0 125 2 (.iload 7), xe_1 127 3 (.if_icmp .ge 42) 95, xe_0 130 1 (.aload_n 0), xe_4 131 3 (.getfield 28) 0 1 6 2077, xe_0 134 1 (.aload_n 0), xe_4 135 3 (.getfield 22) 0 0 0 2072, xe_0 138 1 (.iconst 5), xe_0 139 1 .imul, xe_0 140 2 (.iload 9), xe_0 142 1 .iadd, xe_0 143 1 (.iload_n 1), xe_0 144 2 (.iload 9), xe_0 146 1 (.iload_n 2), xe_0 147 1 .imul, xe_0 148 1 .iadd, xe_0 149 1 .iastore, xe_0 150 2 (.aload 8), xe_0 152 1 (.iload_n 1), xe_0 153 2 (.iload 9), xe_0 155 1 (.iload_n 2), xe_0 156 1 .imul, xe_0 157 1 .iadd, xe_0 158 1 (.aload_n 0), xe_4 159 3 (.getfield 22) 0 0 0 2072, xe_0 162 1 .iastore, xe_0 163 3 (.iinc 9 1), xe_1 166 3 (.goto (-43)) 67, xe_0 169 1 (.aload_n 0), xe_0 170 1 .dup, xe_4 171 3 (.getfield 22) 0 0 0 2072, xe_0 174 1 (.iconst 1), xe_0 175 1 .iadd, xe_4 176 3 (.putfield 22) 0 0 0 2072, xe_0 179 1 .return_]
def xm_13 : xM := (⟨"GridLaws$Board", "findSlot", "(IIIII)V"⟩, prog_2_method_15_code, 10, none, 0, 0, 5, xt_13)
/-- GridLaws$Board.countMeets()V -/
def xt_14 : List xE := [xe_0 0 1 (.iconst 0), xe_0 1 1 (.istore_n 1), xe_0 2 1 (.iload_n 1), xe_0 3 1 (.aload_n 0), xe_4 4 3 (.getfield 22) 0 0 0 2072, xe_1 7 3 (.if_icmp .ge 63) 42, xe_0 10 1 (.aload_n 0), xe_4 11 3 (.getfield 37) 0 13 6 2082, xe_0 14 1 (.iload_n 1), xe_0 15 1 (.iconst 0), xe_0 16 1 .iastore, xe_0 17 1 (.iconst 0), xe_0 18 1 (.istore_n 2), xe_0 19 1 (.iload_n 2), xe_0 20 1 (.aload_n 0), xe_4 21 3 (.getfield 31) 0 5 6 2078, xe_0 24 1 (.iload_n 1), xe_0 25 1 .iaload, xe_1 26 3 (.if_icmp .ge 38) 40, xe_0 29 1 (.aload_n 0), xe_4 30 3 (.getfield 37) 0 13 6 2082, xe_0 33 1 (.iload_n 1), xe_0 34 1 .dup2, xe_0 35 1 .iaload, xe_0 36 1 (.aload_n 0), xe_0 37 1 (.iload_n 1), xe_0 38 1 (.aload_n 0), xe_0 39 1 (.iload_n 1), xe_0 40 1 (.iload_n 2), xe_4 41 3 (.invokevirtual 106) 9 0 0 3062, xe_4 44 3 (.invokevirtual 110) 10 0 0 3066, xe_0 47 1 (.iconst (-1)), xe_1 48 3 (.if_icmp .eq 7) 35, xe_0 51 1 (.iconst 1), xe_1 52 3 (.goto 4) 36, xe_0 55 1 (.iconst 0), xe_0 56 1 .iadd, xe_0 57 1 .iastore, xe_0 58 3 (.iinc 2 1), xe_1 61 3 (.goto (-42)) 13, xe_0 64 3 (.iinc 1 1), xe_1 67 3 (.goto (-65)) 2, xe_0 70 1 .return_]
def xm_14 : xM := (⟨"GridLaws$Board", "countMeets", "()V"⟩, prog_2_method_16_code, 3, none, 0, 0, 0, xt_14)
/-- GridLaws$Board.lookAtSlots()V -/
def xt_15 : List xE := [xe_0 0 1 (.aload_n 0), xe_0 1 1 (.iconst 0), xe_4 2 3 (.putfield 52) 0 12 0 2095, xe_0 5 1 (.iconst 0), xe_0 6 1 (.istore_n 1), xe_0 7 1 (.iload_n 1), xe_0 8 1 (.aload_n 0), xe_4 9 3 (.getfield 22) 0 0 0 2072, xe_1 12 3 (.if_icmp .ge 117) 77, xe_0 15 1 (.aload_n 0), xe_4 16 3 (.getfield 49) 0 10 6 2092, xe_0 19 1 (.iload_n 1), xe_0 20 1 (.iconst 0), xe_0 21 1 .iastore, xe_0 22 1 (.iconst 0), xe_0 23 1 (.istore_n 2), xe_0 24 1 (.iload_n 2), xe_0 25 1 (.aload_n 0), xe_4 26 3 (.getfield 31) 0 5 6 2078, xe_0 29 1 (.iload_n 1), xe_0 30 1 .iaload, xe_1 31 3 (.if_icmp .ge 37) 42, xe_0 34 1 (.aload_n 0), xe_4 35 3 (.getfield 49) 0 10 6 2092, xe_0 38 1 (.iload_n 1), xe_0 39 1 .dup2, xe_0 40 1 .iaload, xe_0 41 1 (.aload_n 0), xe_4 42 3 (.getfield 18) 0 2 6 2067, xe_0 45 1 (.aload_n 0), xe_0 46 1 (.iload_n 1), xe_0 47 1 (.iload_n 2), xe_4 48 3 (.invokevirtual 106) 9 0 0 3062, xe_0 51 1 .iaload, xe_1 52 3 (.ifCond .ne 7) 37, xe_0 55 1 (.iconst 1), xe_1 56 3 (.goto 4) 38, xe_d 59 1, xe_0 60 1 .iadd, xe_0 61 1 .iastore, xe_0 62 3 (.iinc 2 1), xe_1 65 3 (.goto (-41)) 16, xe_0 68 1 (.aload_n 0), xe_4 69 3 (.getfield 46) 0 9 6 2088, xe_0 72 1 (.iload_n 1), xe_0 73 1 (.aload_n 0), xe_4 74 3 (.getfield 49) 0 10 6 2092, xe_0 77 1 (.iload_n 1), xe_0 78 1 .iaload, xe_1 79 3 (.ifCond .ne 11) 54, xe_d 82 1, xe_d 83 1, xe_d 84 3, xe_d 87 3, xe_0 90 1 (.iconst (-1)), xe_0 91 1 .iastore, xe_0 92 1 (.aload_n 0), xe_0 93 1 .dup, xe_4 94 3 (.getfield 52) 0 12 0 2095, xe_0 97 1 (.aload_n 0), xe_4 98 3 (.getfield 46) 0 9 6 2088, xe_0 101 1 (.iload_n 1), xe_0 102 1 .iaload, xe_0 103 1 (.iconst (-1)), xe_1 104 3 (.if_icmp .ne 7) 67, xe_0 107 1 (.iconst 0), xe_1 108 3 (.goto 11) 73, xe_d 111 1, xe_d 112 1, xe_d 113 3, xe_d 116 1, xe_d 117 1, xe_d 118 1, xe_0 119 1 .ior, xe_4 120 3 (.putfield 52) 0 12 0 2095, xe_0 123 3 (.iinc 1 1), xe_1 126 3 (.goto (-119)) 5, xe_0 129 1 .return_]
def xm_15 : xM := (⟨"GridLaws$Board", "lookAtSlots", "()V"⟩, prog_2_method_17_code, 3, none, 0, 0, 0, xt_15)
/-- GridLaws$Board.actsThatFit(I)I -/
def xt_16 : List xE := [xe_0 0 1 (.aload_n 0), xe_4 1 3 (.getfield 31) 0 5 6 2078, xe_0 4 1 (.iload_n 1), xe_0 5 1 .iaload, xe_0 6 1 (.istore_n 2), xe_0 7 1 (.iload_n 1), xe_0 8 1 (.iconst 5), xe_0 9 1 .imul, xe_0 10 1 (.istore_n 3), xe_0 11 1 (.aload_n 0), xe_4 12 3 (.getfield 55) 0 8 6 2059, xe_4 15 3 (.getfield 125) 5 2 6 1213, xe_0 18 1 (.iload_n 2), xe_0 19 1 .iaload, xe_0 20 2 (.istore 4), xe_0 22 1 (.iconst 0), xe_0 23 2 (.istore 5), xe_0 25 2 (.iload 5), xe_0 27 1 (.iload_n 2), xe_1 28 3 (.if_icmp .ge 47) 44, xe_0 31 2 (.iload 4), xe_1 33 3 (.ifCond .eq 42) 44, xe_d 36 2, xe_d 38 1, xe_d 39 3, xe_d 42 3, xe_d 45 2, xe_d 47 2, xe_d 49 1, xe_d 50 1, xe_d 51 3, xe_d 54 1, xe_d 55 3, xe_d 58 1, xe_d 59 2, xe_d 61 1, xe_d 62 1, xe_d 63 1, xe_d 64 1, xe_d 65 1, xe_d 66 1, xe_d 67 2, xe_d 69 3, xe_d 72 3, xe_0 75 2 (.iload 4), xe_0 77 1 .ireturn]
def xm_16 : xM := (⟨"GridLaws$Board", "actsThatFit", "(I)I"⟩, prog_2_method_19_code, 6, (some .int), 0, 0, 1, xt_16)
/-- GridLaws$Board.actsToWrite(I)I -/
def xt_17 : List xE := [xe_0 0 1 (.aload_n 0), xe_0 1 1 (.iload_n 1), xe_4 2 3 (.invokevirtual 117) 16 0 0 3082, xe_0 5 1 (.aload_n 0), xe_4 6 3 (.getfield 52) 0 12 0 2095, xe_0 9 1 (.iconst (-1)), xe_0 10 1 .ixor, xe_0 11 1 .iand, xe_0 12 1 .ireturn]
def xm_17 : xM := (⟨"GridLaws$Board", "actsToWrite", "(I)I"⟩, prog_2_method_20_code, 2, (some .int), 0, 0, 1, xt_17)
/-- GridLaws$Board.sit()I -/
def xt_18 : List xE := [xe_0 0 1 (.iconst (-1)), xe_0 1 1 (.istore_n 1), xe_0 2 1 (.aload_n 0), xe_4 3 3 (.getfield 55) 0 8 6 2059, xe_4 6 3 (.getfield 137) 5 5 0 1198, xe_1 9 3 (.ifCond .le 22) 15, xe_d 12 1, xe_d 13 1, xe_d 14 3, xe_d 17 1, xe_d 18 3, xe_d 21 3, xe_d 24 1, xe_d 25 3, xe_d 28 3, xe_0 31 1 (.iconst (-1)), xe_0 32 1 (.istore_n 2), xe_0 33 1 (.iload_n 2), xe_0 34 1 (.iconst (-1)), xe_1 35 3 (.if_icmp .ne 7) 22, xe_0 38 1 (.iconst (-1)), xe_1 39 3 (.goto 8) 25, xe_d 42 1, xe_d 43 1, xe_d 44 3, xe_0 47 1 (.istore_n 3), xe_0 48 1 (.iload_n 3), xe_0 49 1 (.iconst (-1)), xe_1 50 3 (.if_icmp .eq 20) 41, xe_d 53 1, xe_d 54 1, xe_d 55 1, xe_d 56 3, xe_d 59 1, xe_d 60 3, xe_d 63 2, xe_d 65 1, xe_d 66 1, xe_d 67 1, xe_d 68 1, xe_d 69 1, xe_0 70 1 (.aload_n 0), xe_0 71 1 .dup, xe_4 72 3 (.getfield 9) 0 14 0 2061, xe_0 75 1 (.iconst 1), xe_0 76 1 .iadd, xe_4 77 3 (.putfield 9) 0 14 0 2061, xe_0 80 1 (.iload_n 1), xe_0 81 1 .ireturn]
def xm_18 : xM := (⟨"GridLaws$Board", "sit", "()I"⟩, prog_2_method_25_code, 4, (some .int), 0, 0, 0, xt_18)
/-- GridLaws$Board.findGains([III)V -/
def xt_19 : List xE := [xe_0 0 1 (.iconst 0), xe_0 1 2 (.istore 4), xe_0 3 2 (.iload 4), xe_0 5 1 (.aload_n 0), xe_4 6 3 (.getfield 22) 0 0 0 2072, xe_1 9 3 (.if_icmp .ge 137) 74, xe_0 12 1 (.iconst 0), xe_0 13 2 (.istore 5), xe_0 15 2 (.iload 5), xe_0 17 1 (.aload_n 0), xe_4 18 3 (.getfield 55) 0 8 6 2059, xe_4 21 3 (.getfield 153) 5 6 0 1204, xe_1 24 3 (.if_icmp .ge 116) 72, xe_d 27 1, xe_d 28 1, xe_d 29 3, xe_d 32 1, xe_d 33 3, xe_d 36 1, xe_d 37 3, xe_d 40 1, xe_d 41 2, xe_d 43 3, xe_d 46 2, xe_d 48 2, xe_d 50 1, xe_d 51 1, xe_d 52 3, xe_d 55 1, xe_d 56 3, xe_d 59 1, xe_d 60 3, xe_d 63 1, xe_d 64 2, xe_d 66 3, xe_d 69 1, xe_d 70 2, xe_d 72 2, xe_d 74 3, xe_d 77 1, xe_d 78 3, xe_d 81 3, xe_d 84 2, xe_d 86 1, xe_d 87 1, xe_d 88 3, xe_d 91 2, xe_d 93 1, xe_d 94 3, xe_d 97 1, xe_d 98 3, xe_d 101 1, xe_d 102 2, xe_d 104 1, xe_d 105 2, xe_d 107 2, xe_d 109 1, xe_d 110 2, xe_d 112 1, xe_d 113 2, xe_d 115 3, xe_d 118 2, xe_d 120 1, xe_d 121 2, xe_d 123 2, xe_d 125 3, xe_d 128 1, xe_d 129 3, xe_d 132 1, xe_d 133 1, xe_d 134 3, xe_d 137 3, xe_0 140 3 (.iinc 4 1), xe_1 143 3 (.goto (-140)) 2, xe_0 146 1 .return_]
def xm_19 : xM := (⟨"GridLaws$Board", "findGains", "([III)V"⟩, prog_2_method_30_code, 8, none, 0, 0, 3, xt_19)
/-- GridLaws$Board.consequences()I -/
def xt_20 : List xE := [xe_0 0 1 (.aload_n 0), xe_4 1 3 (.getfield 52) 0 12 0 2095, xe_0 4 1 (.istore_n 1), xe_0 5 1 (.iconst 0), xe_0 6 1 (.istore_n 2), xe_0 7 1 (.iload_n 2), xe_0 8 2 (.bipush 16), xe_1 10 3 (.if_icmp .ge 120) 64, xe_0 13 1 (.iload_n 1), xe_0 14 1 (.istore_n 3), xe_0 15 1 (.iconst 0), xe_0 16 2 (.istore 4), xe_0 18 2 (.iload 4), xe_0 20 1 (.aload_n 0), xe_4 21 3 (.getfield 55) 0 8 6 2059, xe_4 24 3 (.getfield 181) 5 4 6 1225, xe_4 27 3 (.getfield 185) 7 0 0 1141, xe_1 30 3 (.if_icmp .ge 86) 58, xe_d 33 1, xe_d 34 3, xe_d 37 3, xe_d 40 3, xe_d 43 2, xe_d 45 1, xe_d 46 2, xe_d 48 1, xe_d 49 3, xe_d 52 3, xe_d 55 3, xe_d 58 2, xe_d 60 1, xe_d 61 2, xe_d 63 1, xe_d 64 2, xe_d 66 3, xe_d 69 3, xe_d 72 1, xe_d 73 2, xe_d 75 3, xe_d 78 3, xe_d 81 1, xe_d 82 2, xe_d 84 2, xe_d 86 3, xe_d 89 3, xe_d 92 1, xe_d 93 1, xe_d 94 1, xe_d 95 3, xe_d 98 3, xe_d 101 3, xe_d 104 2, xe_d 106 1, xe_d 107 1, xe_d 108 1, xe_d 109 1, xe_d 110 3, xe_d 113 3, xe_0 116 1 (.iload_n 1), xe_0 117 1 (.iload_n 3), xe_1 118 3 (.if_icmp .ne 6) 62, xe_1 121 3 (.goto 9) 64, xe_d 124 3, xe_d 127 3, xe_0 130 1 (.iload_n 1), xe_0 131 1 .ireturn]
def xm_20 : xM := (⟨"GridLaws$Board", "consequences", "()I"⟩, prog_2_method_31_code, 7, (some .int), 0, 0, 0, xt_20)
/-- GridLaws$Board.actLengthAt(I)I -/
def xt_21 : List xE := [xe_0 0 1 (.iload_n 1), xe_0 1 1 (.iconst (-1)), xe_1 2 3 (.if_icmp .eq 13) 9, xe_0 5 1 (.aload_n 0), xe_4 6 3 (.getfield 46) 0 9 6 2088, xe_0 9 1 (.iload_n 1), xe_0 10 1 .iaload, xe_0 11 1 (.iconst (-1)), xe_1 12 3 (.if_icmp .ne 7) 11, xe_0 15 1 (.iconst 0), xe_1 16 3 (.goto 9) 15, xe_d 19 1, xe_d 20 3, xe_d 23 1, xe_d 24 1, xe_0 25 1 .ireturn]
def xm_21 : xM := (⟨"GridLaws$Board", "actLengthAt", "(I)I"⟩, prog_2_method_34_code, 2, (some .int), 0, 0, 1, xt_21)
/-- GridLaws$Board.longestActAcross()I -/
def xt_22 : List xE := [xe_0 0 1 (.iconst 0), xe_0 1 1 (.istore_n 1), xe_0 2 1 (.iconst 0), xe_0 3 1 (.istore_n 2), xe_0 4 1 (.iload_n 2), xe_0 5 1 (.aload_n 0), xe_4 6 3 (.getfield 25) 0 7 0 2076, xe_1 9 3 (.if_icmp .ge 19) 16, xe_0 12 1 (.iload_n 1), xe_0 13 1 (.aload_n 0), xe_0 14 1 (.iload_n 2), xe_4 15 3 (.invokevirtual 208) 21 0 0 5164, xe_4 18 3 (.invokestatic 211) 0 4 0 5168, xe_0 21 1 (.istore_n 1), xe_0 22 3 (.iinc 2 1), xe_1 25 3 (.goto (-21)) 4, xe_0 28 1 (.iload_n 1), xe_0 29 1 .ireturn]
def xm_22 : xM := (⟨"GridLaws$Board", "longestActAcross", "()I"⟩, prog_2_method_35_code, 3, (some .int), 0, 0, 0, xt_22)
/-- GridLaws$Duel.<init>(LGridLaws$Board;)V -/
def xt_23 : List xE := [xe_0 0 1 (.aload_n 0), xe_4 1 3 (.invokespecial 3) 0 2 0 3017, xe_0 4 1 (.aload_n 0), xe_0 5 1 (.iconst (-1)), xe_4 6 3 (.putfield 9) 1 0 0 3019, xe_0 9 1 (.aload_n 0), xe_0 10 1 (.iconst (-1)), xe_4 11 3 (.putfield 15) 1 1 0 3021, xe_0 14 1 (.aload_n 0), xe_0 15 1 (.iconst 0), xe_4 16 3 (.putfield 18) 1 2 0 3023, xe_0 19 1 (.aload_n 0), xe_0 20 1 (.iconst (-1)), xe_4 21 3 (.putfield 21) 1 4 0 3025, xe_0 24 1 (.aload_n 0), xe_0 25 3 (.sipush 256), xe_4 28 2 (.newarray .int) 0 0 0 1159, xe_4 30 3 (.putfield 24) 1 5 6 3026, xe_0 33 1 (.aload_n 0), xe_0 34 1 (.aload_n 1), xe_4 35 3 (.putfield 28) 1 3 6 3018, xe_0 38 1 .return_]
def xm_23 : xM := (⟨"GridLaws$Duel", "<init>", "(LGridLaws$Board;)V"⟩, prog_3_method_1_code, 2, none, 1, 256, 1, xt_23)
/-- GridLaws$Filler.<init>(LGridLaws$Board;LGridLaws$Sights;)V -/
def xt_24 : List xE := [xe_0 0 1 (.aload_n 0), xe_4 1 3 (.invokespecial 3) 0 2 0 2206, xe_0 4 1 (.aload_n 0), xe_0 5 1 (.iconst 0), xe_4 6 3 (.putfield 9) 2 9 1 2209, xe_0 9 1 (.aload_n 0), xe_0 10 1 (.iconst 0), xe_4 11 3 (.putfield 15) 2 10 0 2210, xe_0 14 1 (.aload_n 0), xe_0 15 1 (.iconst 0), xe_4 16 3 (.putfield 19) 2 11 0 2211, xe_0 19 1 (.aload_n 0), xe_0 20 1 (.iconst 0), xe_4 21 3 (.putfield 22) 2 2 1 2212, xe_0 24 1 (.aload_n 0), xe_0 25 1 (.iconst 0), xe_4 26 3 (.putfield 25) 2 1 0 2214, xe_0 29 1 (.aload_n 0), xe_0 30 1 (.iconst 0), xe_4 31 3 (.putfield 28) 2 6 0 2216, xe_0 34 1 (.aload_n 0), xe_0 35 1 (.iconst 0), xe_4 36 3 (.putfield 31) 2 5 0 2218, xe_0 39 1 (.aload_n 0), xe_0 40 2 (.bipush 16), xe_4 42 2 (.newarray .int) 0 0 0 1159, xe_4 44 3 (.putfield 34) 2 7 6 2220, xe_0 47 1 (.aload_n 0), xe_0 48 2 (.bipush 16), xe_4 50 2 (.newarray .int) 0 0 0 1159, xe_4 52 3 (.putfield 38) 2 12 6 2222, xe_0 55 1 (.aload_n 0), xe_0 56 3 (.sipush 256), xe_4 59 2 (.newarray .int) 0 0 0 1159, xe_4 61 3 (.putfield 41) 2 8 6 2223, xe_0 64 1 (.aload_n 0), xe_0 65 3 (.sipush 560), xe_4 68 2 (.newarray .int) 0 0 0 1159, xe_4 70 3 (.putfield 44) 2 4 6 2224, xe_0 73 1 (.aload_n 0), xe_0 74 1 (.aload_n 1), xe_4 75 3 (.putfield 47) 2 0 6 2207, xe_0 78 1 (.aload_n 0), xe_0 79 1 (.aload_n 2), xe_4 80 3 (.putfield 51) 2 3 6 2208, xe_0 83 1 .return_]
def xm_24 : xM := (⟨"GridLaws$Filler", "<init>", "(LGridLaws$Board;LGridLaws$Sights;)V"⟩, prog_4_method_1_code, 3, none, 4, 848, 2, xt_24)
/-- GridLaws$Filler.fillAll(I)V -/
def xt_25 : List xE := [xe_0 0 1 (.aload_n 0), xe_0 1 1 (.iconst 0), xe_4 2 3 (.invokevirtual 55) 27 0 2 5187, xe_0 5 1 (.aload_n 0), xe_4 6 3 (.getfield 47) 2 0 6 2207, xe_0 9 1 (.aload_n 0), xe_4 10 3 (.getfield 41) 2 8 6 2223, xe_0 13 1 (.iload_n 1), xe_0 14 1 (.iconst (-1)), xe_4 15 3 (.invokevirtual 59) 19 0 0 5191, xe_0 18 1 (.aload_n 0), xe_0 19 1 (.iconst 0), xe_0 20 1 (.iconst 0), xe_0 21 1 (.iconst 0), xe_4 22 3 (.invokevirtual 65) 28 0 2 5195, xe_0 25 1 .return_]
def xm_25 : xM := (⟨"GridLaws$Filler", "fillAll", "(I)V"⟩, prog_4_method_2_code, 2, none, 0, 0, 1, xt_25)
/-- GridLaws$Filler.fillSeen(I)V -/
def xt_26 : List xE := [xe_0 0 1 (.aload_n 0), xe_0 1 1 (.iconst 1), xe_4 2 3 (.invokevirtual 55) 27 0 2 5187, xe_0 5 1 (.aload_n 0), xe_0 6 1 (.aload_n 0), xe_4 7 3 (.getfield 51) 2 3 6 2208, xe_0 10 1 (.iload_n 1), xe_4 11 3 (.invokevirtual 69) 52 0 9 6103, xe_4 14 3 (.putfield 15) 2 10 0 2210, xe_0 17 1 (.aload_n 0), xe_4 18 3 (.getfield 44) 2 4 6 2224, xe_0 21 1 (.iconst 0), xe_4 22 3 (.invokestatic 75) 175 0 2000 6107, xe_0 25 1 (.aload_n 0), xe_0 26 1 (.iconst 0), xe_0 27 1 (.iconst 0), xe_0 28 1 (.iconst 0), xe_4 29 3 (.invokevirtual 65) 28 0 2 5195, xe_0 32 1 .return_]
def xm_26 : xM := (⟨"GridLaws$Filler", "fillSeen", "(I)V"⟩, prog_4_method_3_code, 2, none, 0, 0, 1, xt_26)
/-- GridLaws$Filler.begin(Z)V -/
def xt_27 : List xE := [xe_0 0 1 (.aload_n 0), xe_0 1 1 (.iload_n 1), xe_4 2 3 (.putfield 9) 2 9 1 2209, xe_0 5 1 (.aload_n 0), xe_0 6 1 (.iconst 0), xe_4 7 3 (.putfield 19) 2 11 0 2211, xe_0 10 1 (.aload_n 0), xe_0 11 1 (.iconst 0), xe_4 12 3 (.putfield 22) 2 2 1 2212, xe_0 15 1 (.aload_n 0), xe_0 16 1 (.iconst 0), xe_4 17 3 (.putfield 25) 2 1 0 2214, xe_0 20 1 .return_]
def xm_27 : xM := (⟨"GridLaws$Filler", "begin", "(Z)V"⟩, prog_4_method_4_code, 2, none, 0, 0, 1, xt_27)
/-- GridLaws$Filler.fill(III)V -/
def xt_28 : List xE := [xe_0 0 1 (.iload_n 1), xe_0 1 1 (.aload_n 0), xe_4 2 3 (.getfield 47) 2 0 6 2207, xe_4 5 3 (.getfield 80) 0 0 0 2074, xe_1 8 3 (.if_icmp .ge 9) 8, xe_0 11 1 (.iload_n 1), xe_0 12 2 (.bipush 16), xe_1 14 3 (.if_icmp .lt 9) 12, xe_d 17 1, xe_d 18 1, xe_d 19 3, xe_d 22 1, xe_0 23 1 (.aload_n 0), xe_4 24 3 (.getfield 47) 2 0 6 2207, xe_4 27 3 (.getfield 87) 0 9 6 2090, xe_0 30 1 (.iload_n 1), xe_0 31 1 .iaload, xe_0 32 2 (.istore 4), xe_0 34 2 (.iload 4), xe_0 36 1 (.iconst (-1)), xe_1 37 3 (.if_icmp .eq 22) 32, xe_d 40 1, xe_d 41 2, xe_d 43 3, xe_d 46 3, xe_d 49 1, xe_d 50 1, xe_d 51 2, xe_d 53 1, xe_d 54 1, xe_d 55 3, xe_d 58 1, xe_0 59 1 (.aload_n 0), xe_4 60 3 (.getfield 47) 2 0 6 2207, xe_0 63 1 (.iload_n 1), xe_4 64 3 (.invokevirtual 98) 17 0 0 5219, xe_0 67 1 (.iload_n 2), xe_0 68 1 (.iconst (-1)), xe_0 69 1 .ixor, xe_0 70 1 .iand, xe_0 71 2 (.istore 5), xe_0 73 2 (.iload 5), xe_1 75 3 (.ifCond .eq 32) 59, xe_d 78 1, xe_d 79 3, xe_d 82 1, xe_d 83 3, xe_d 86 2, xe_d 88 1, xe_d 89 2, xe_d 91 1, xe_d 92 1, xe_d 93 1, xe_d 94 3, xe_d 97 1, xe_d 98 3, xe_d 101 1, xe_d 102 2, xe_d 104 3, xe_0 107 1 .return_]
def xm_28 : xM := (⟨"GridLaws$Filler", "fill", "(III)V"⟩, prog_4_method_5_code, 7, none, 0, 0, 3, xt_28)
/-- GridLaws$Formula.<init>()V -/
def xt_29 : List xE := [xe_0 0 1 (.aload_n 0), xe_4 1 3 (.invokespecial 1) 0 2 0 1165, xe_0 4 1 (.aload_n 0), xe_0 5 1 (.iconst 0), xe_4 6 3 (.putfield 7) 3 1 1 1166, xe_0 9 1 (.aload_n 0), xe_0 10 1 (.iconst 0), xe_4 11 3 (.putfield 13) 3 0 0 1168, xe_0 14 1 (.aload_n 0), xe_0 15 1 (.iconst 0), xe_4 16 3 (.putfield 17) 3 2 0 1171, xe_0 19 1 (.aload_n 0), xe_0 20 3 (.sipush 270), xe_4 23 2 (.newarray .int) 0 0 0 1159, xe_4 25 3 (.putfield 20) 3 3 6 1172, xe_0 28 1 (.aload_n 0), xe_0 29 2 (.bipush 30), xe_4 31 2 (.newarray .int) 0 0 0 1159, xe_4 33 3 (.putfield 24) 3 4 6 1173, xe_0 36 1 (.aload_n 0), xe_0 37 2 (.bipush 6), xe_4 39 2 (.newarray .int) 0 0 0 1159, xe_4 41 3 (.putfield 27) 3 5 6 1174, xe_0 44 1 .return_]
def xm_29 : xM := (⟨"GridLaws$Formula", "<init>", "()V"⟩, prog_5_method_1_code, 1, none, 3, 306, 0, xt_29)
/-- GridLaws$Formula.clear()V -/
def xt_30 : List xE := [xe_0 0 1 (.aload_n 0), xe_0 1 1 (.iconst 0), xe_4 2 3 (.putfield 7) 3 1 1 1166, xe_0 5 1 (.aload_n 0), xe_0 6 1 (.iconst 0), xe_4 7 3 (.putfield 13) 3 0 0 1168, xe_0 10 1 (.aload_n 0), xe_0 11 1 (.iconst 0), xe_4 12 3 (.putfield 17) 3 2 0 1171, xe_0 15 1 .return_]
def xm_30 : xM := (⟨"GridLaws$Formula", "clear", "()V"⟩, prog_5_method_2_code, 1, none, 0, 0, 0, xt_30)
/-- GridLaws$History.<init>()V -/
def xt_31 : List xE := [xe_0 0 1 (.aload_n 0), xe_4 1 3 (.invokespecial 3) 0 2 0 2133, xe_0 4 1 (.aload_n 0), xe_4 5 3 (.new 9) 8 0 0 2134, xe_0 8 1 .dup, xe_0 9 2 (.bipush 41), xe_4 11 3 (.invokespecial 11) 44 0 8 2136, xe_4 14 3 (.putfield 14) 4 1 6 2154, xe_0 17 1 (.aload_n 0), xe_0 18 1 (.iconst 0), xe_4 19 3 (.putfield 18) 4 0 0 2155, xe_0 22 1 (.aload_n 0), xe_0 23 1 (.iconst 0), xe_4 24 3 (.putfield 22) 4 2 0 2156, xe_0 27 1 (.aload_n 0), xe_0 28 1 (.iconst 0), xe_4 29 3 (.putfield 25) 4 3 0 2158, xe_0 32 1 .return_]
def xm_31 : xM := (⟨"GridLaws$History", "<init>", "()V"⟩, prog_6_method_1_code, 1, none, 3, 905, 0, xt_31)
/-- GridLaws$History.begin(LGridLaws$Board;)V -/
def xt_32 : List xE := [xe_0 0 1 (.aload_n 0), xe_0 1 1 (.iconst 0), xe_4 2 3 (.putfield 22) 4 2 0 2156, xe_0 5 1 (.aload_n 0), xe_0 6 1 (.iconst 0), xe_4 7 3 (.putfield 25) 4 3 0 2158, xe_0 10 1 (.aload_n 0), xe_4 11 3 (.getfield 14) 4 1 6 2154, xe_0 14 1 (.aload_n 0), xe_4 15 3 (.getfield 18) 4 0 0 2155, xe_0 18 1 (.aload_n 1), xe_4 19 3 (.invokevirtual 28) 47 0 8 3094, xe_0 22 1 .return_]
def xm_32 : xM := (⟨"GridLaws$History", "begin", "(LGridLaws$Board;)V"⟩, prog_6_method_2_code, 2, none, 0, 0, 1, xt_32)
/-- GridLaws$History.keep(LGridLaws$Board;)V -/
def xt_33 : List xE := [xe_0 0 1 (.aload_n 0), xe_0 1 1 (.aload_n 0), xe_4 2 3 (.getfield 18) 4 0 0 2155, xe_0 5 1 (.iconst 1), xe_0 6 1 .iadd, xe_0 7 2 (.bipush 41), xe_0 9 1 .irem, xe_4 10 3 (.putfield 18) 4 0 0 2155, xe_0 13 1 (.aload_n 0), xe_0 14 2 (.bipush 40), xe_0 16 1 (.aload_n 0), xe_4 17 3 (.getfield 22) 4 2 0 2156, xe_0 20 1 (.iconst 1), xe_0 21 1 .iadd, xe_4 22 3 (.invokestatic 32) 0 5 0 5052, xe_4 25 3 (.putfield 22) 4 2 0 2156, xe_0 28 1 (.aload_n 0), xe_0 29 1 (.iconst 0), xe_4 30 3 (.putfield 25) 4 3 0 2158, xe_0 33 1 (.aload_n 0), xe_4 34 3 (.getfield 14) 4 1 6 2154, xe_0 37 1 (.aload_n 0), xe_4 38 3 (.getfield 18) 4 0 0 2155, xe_0 41 1 (.aload_n 1), xe_4 42 3 (.invokevirtual 28) 47 0 8 3094, xe_0 45 1 .return_]
def xm_33 : xM := (⟨"GridLaws$History", "keep", "(LGridLaws$Board;)V"⟩, prog_6_method_3_code, 2, none, 0, 0, 1, xt_33)
/-- GridLaws$History.goBack(LGridLaws$Board;)Z -/
def xt_34 : List xE := [xe_0 0 1 (.aload_n 0), xe_4 1 3 (.getfield 22) 4 2 0 2156, xe_1 4 3 (.ifCond .ne 5) 5, xe_0 7 1 (.iconst 0), xe_0 8 1 .ireturn, xe_d 9 1, xe_d 10 1, xe_d 11 3, xe_d 14 1, xe_d 15 1, xe_d 16 3, xe_d 19 1, xe_d 20 1, xe_d 21 3, xe_d 24 1, xe_d 25 1, xe_d 26 3, xe_d 29 1, xe_d 30 1, xe_d 31 3, xe_d 34 2, xe_d 36 1, xe_d 37 1, xe_d 38 1, xe_d 39 2, xe_d 41 1, xe_d 42 3, xe_d 45 1, xe_d 46 3, xe_d 49 1, xe_d 50 3, xe_d 53 1, xe_d 54 3, xe_d 57 1, xe_d 58 1]
def xm_34 : xM := (⟨"GridLaws$History", "goBack", "(LGridLaws$Board;)Z"⟩, prog_6_method_4_code, 2, (some .boolean), 0, 0, 1, xt_34)
/-- GridLaws$History.goForth(LGridLaws$Board;)Z -/
def xt_35 : List xE := [xe_0 0 1 (.aload_n 0), xe_4 1 3 (.getfield 25) 4 3 0 2158, xe_1 4 3 (.ifCond .ne 5) 5, xe_0 7 1 (.iconst 0), xe_0 8 1 .ireturn, xe_d 9 1, xe_d 10 1, xe_d 11 3, xe_d 14 1, xe_d 15 1, xe_d 16 3, xe_d 19 1, xe_d 20 1, xe_d 21 3, xe_d 24 1, xe_d 25 1, xe_d 26 3, xe_d 29 1, xe_d 30 1, xe_d 31 3, xe_d 34 1, xe_d 35 1, xe_d 36 2, xe_d 38 1, xe_d 39 3, xe_d 42 1, xe_d 43 3, xe_d 46 1, xe_d 47 3, xe_d 50 1, xe_d 51 3, xe_d 54 1, xe_d 55 1]
def xm_35 : xM := (⟨"GridLaws$History", "goForth", "(LGridLaws$Board;)Z"⟩, prog_6_method_5_code, 2, (some .boolean), 0, 0, 1, xt_35)
/-- GridLaws$Law.<init>()V -/
def xt_36 : List xE := [xe_0 0 1 (.aload_n 0), xe_4 1 3 (.invokespecial 3) 0 2 0 1131, xe_0 4 1 (.aload_n 0), xe_0 5 1 (.iconst 3), xe_4 6 3 (.putfield 9) 5 1 0 1188, xe_0 9 1 (.aload_n 0), xe_0 10 1 (.iconst 3), xe_4 11 3 (.putfield 15) 5 0 0 1192, xe_0 14 1 (.aload_n 0), xe_0 15 1 (.iconst 0), xe_4 16 3 (.putfield 18) 5 5 0 1196, xe_0 19 1 (.aload_n 0), xe_0 20 1 (.iconst 3), xe_4 21 2 (.newarray .long) 0 0 0 1125, xe_4 23 3 (.putfield 21) 5 12 6 1200, xe_0 26 1 (.aload_n 0), xe_0 27 1 (.iconst 0), xe_4 28 3 (.putfield 25) 5 6 0 1201, xe_0 31 1 (.aload_n 0), xe_0 32 2 (.bipush 16), xe_4 34 2 (.newarray .long) 0 0 0 1125, xe_4 36 3 (.putfield 28) 5 13 6 1205, xe_0 39 1 (.aload_n 0), xe_0 40 2 (.bipush 16), xe_4 42 2 (.newarray .int) 0 0 0 1159, xe_4 44 3 (.putfield 31) 5 10 6 1206, xe_0 47 1 (.aload_n 0), xe_0 48 2 (.bipush 80), xe_4 50 2 (.newarray .int) 0 0 0 1159, xe_4 52 3 (.putfield 35) 5 14 6 1208, xe_0 55 1 (.aload_n 0), xe_0 56 2 (.bipush 16), xe_4 58 2 (.newarray .int) 0 0 0 1159, xe_4 60 3 (.putfield 38) 5 15 6 1210, xe_0 63 1 (.aload_n 0), xe_0 64 2 (.bipush 6), xe_4 66 2 (.newarray .int) 0 0 0 1159, xe_4 68 3 (.putfield 41) 5 2 6 1212, xe_0 71 1 (.aload_n 0), xe_0 72 3 (.sipush 140), xe_4 75 2 (.newarray .int) 0 0 0 1159, xe_4 77 3 (.putfield 44) 5 3 6 1214, xe_0 80 1 (.aload_n 0), xe_0 81 2 (.bipush 48), xe_4 83 2 (.newarray .int) 0 0 0 1159, xe_4 85 3 (.putfield 47) 5 11 6 1216, xe_0 88 1 (.aload_n 0), xe_0 89 1 (.iconst 0), xe_4 90 3 (.putfield 50) 5 16 0 1218, xe_0 93 1 (.aload_n 0), xe_0 94 1 (.iconst 0), xe_4 95 3 (.putfield 53) 5 8 0 1220, xe_0 98 1 (.aload_n 0), xe_4 99 3 (.new 56) 7 0 0 1132, xe_0 102 1 .dup, xe_4 103 3 (.invokespecial 58) 43 1 7 1, xe_4 106 3 (.putfield 59) 5 4 6 1223, xe_0 109 1 (.aload_n 0), xe_4 110 3 (.new 56) 7 0 0 1132, xe_0 113 1 .dup, xe_4 114 3 (.invokespecial 58) 43 1 7 1, xe_4 117 3 (.putfield 63) 5 7 6 1227, xe_0 120 1 (.aload_n 0), xe_4 121 3 (.new 66) 3 0 0 1160, xe_0 124 1 .dup, xe_4 125 3 (.invokespecial 68) 29 1 3 2, xe_4 128 3 (.putfield 69) 5 9 6 1230, xe_0 131 1 .return_]
def xm_36 : xM := (⟨"GridLaws$Law", "<init>", "()V"⟩, prog_7_method_1_code, 1, none, 20, 693, 0, xt_36)
/-- GridLaws$Law.clear()V -/
def xt_37 : List xE := [xe_0 0 1 (.aload_n 0), xe_0 1 1 (.iconst 3), xe_4 2 3 (.putfield 9) 5 1 0 1188, xe_0 5 1 (.aload_n 0), xe_0 6 1 (.iconst 3), xe_4 7 3 (.putfield 15) 5 0 0 1192, xe_0 10 1 (.aload_n 0), xe_0 11 1 (.iconst 0), xe_4 12 3 (.putfield 18) 5 5 0 1196, xe_0 15 1 (.aload_n 0), xe_0 16 1 (.iconst 0), xe_4 17 3 (.putfield 25) 5 6 0 1201, xe_0 20 1 (.aload_n 0), xe_0 21 1 (.iconst 0), xe_4 22 3 (.putfield 50) 5 16 0 1218, xe_0 25 1 (.aload_n 0), xe_0 26 1 (.iconst 0), xe_4 27 3 (.putfield 53) 5 8 0 1220, xe_0 30 1 (.aload_n 0), xe_4 31 3 (.getfield 59) 5 4 6 1223, xe_0 34 1 (.iconst 0), xe_4 35 3 (.putfield 73) 7 0 0 1139, xe_0 38 1 (.aload_n 0), xe_4 39 3 (.getfield 63) 5 7 6 1227, xe_0 42 1 (.iconst 0), xe_4 43 3 (.putfield 73) 7 0 0 1139, xe_0 46 1 (.aload_n 0), xe_4 47 3 (.getfield 69) 5 9 6 1230, xe_4 50 3 (.invokevirtual 76) 30 0 3 3161, xe_0 53 1 (.aload_n 0), xe_4 54 3 (.getfield 47) 5 11 6 1216, xe_0 57 1 (.iconst 0), xe_4 58 3 (.invokestatic 79) 175 0 2000 3165, xe_0 61 1 (.aload_n 0), xe_4 62 3 (.getfield 41) 5 2 6 1212, xe_0 65 1 (.iconst 0), xe_4 66 3 (.invokestatic 79) 175 0 2000 3165, xe_0 69 1 (.aload_n 0), xe_4 70 3 (.getfield 44) 5 3 6 1214, xe_0 73 1 (.iconst 0), xe_4 74 3 (.invokestatic 79) 175 0 2000 3165, xe_0 77 1 .return_]
def xm_37 : xM := (⟨"GridLaws$Law", "clear", "()V"⟩, prog_7_method_2_code, 1, none, 0, 0, 0, xt_37)
/-- GridLaws$Law.hasParty(I)Z -/
def xt_38 : List xE := [xe_0 0 1 (.iload_n 1), xe_1 1 3 (.ifCond .lt 15) 8, xe_0 4 1 (.iload_n 1), xe_0 5 1 (.aload_n 0), xe_4 6 3 (.getfield 18) 5 5 0 1196, xe_1 9 3 (.if_icmp .ge 7) 8, xe_d 12 1, xe_d 13 3, xe_0 16 1 (.iconst 0), xe_0 17 1 .ireturn]
def xm_38 : xM := (⟨"GridLaws$Law", "hasParty", "(I)Z"⟩, prog_7_method_3_code, 2, (some .boolean), 0, 0, 1, xt_38)
/-- GridLaws$Law.hasAct(I)Z -/
def xt_39 : List xE := [xe_0 0 1 (.iload_n 1), xe_1 1 3 (.ifCond .lt 15) 8, xe_0 4 1 (.iload_n 1), xe_0 5 1 (.aload_n 0), xe_4 6 3 (.getfield 25) 5 6 0 1201, xe_1 9 3 (.if_icmp .ge 7) 8, xe_d 12 1, xe_d 13 3, xe_0 16 1 (.iconst 0), xe_0 17 1 .ireturn]
def xm_39 : xM := (⟨"GridLaws$Law", "hasAct", "(I)Z"⟩, prog_7_method_4_code, 2, (some .boolean), 0, 0, 1, xt_39)
/-- GridLaws$Reader.<init>(LGridLaws$Tape;LGridLaws$Law;)V -/
def xt_40 : List xE := [xe_0 0 1 (.aload_n 0), xe_4 1 3 (.invokespecial 3) 0 2 0 2034, xe_0 4 1 (.aload_n 0), xe_0 5 1 (.iconst 0), xe_4 6 3 (.putfield 9) 6 1 0 2037, xe_0 9 1 (.aload_n 0), xe_0 10 1 (.iconst (-1)), xe_4 11 3 (.putfield 15) 6 2 0 2039, xe_0 14 1 (.aload_n 0), xe_0 15 1 (.iconst 0), xe_4 16 3 (.putfield 18) 6 4 0 2041, xe_0 19 1 (.aload_n 0), xe_0 20 1 (.aload_n 1), xe_4 21 3 (.putfield 21) 6 0 6 2035, xe_0 24 1 (.aload_n 0), xe_0 25 1 (.aload_n 2), xe_4 26 3 (.putfield 25) 6 3 6 2036, xe_0 29 1 .return_]
def xm_40 : xM := (⟨"GridLaws$Reader", "<init>", "(LGridLaws$Tape;LGridLaws$Law;)V"⟩, prog_8_method_1_code, 3, none, 0, 0, 2, xt_40)
/-- GridLaws$Reader.begin(LGridLaws$Law;)V -/
def xt_41 : List xE := [xe_0 0 1 (.aload_n 0), xe_0 1 1 (.aload_n 1), xe_4 2 3 (.putfield 25) 6 3 6 2036, xe_0 5 1 (.aload_n 0), xe_0 6 1 (.iconst 0), xe_4 7 3 (.putfield 9) 6 1 0 2037, xe_0 10 1 (.aload_n 0), xe_0 11 1 (.iconst (-1)), xe_4 12 3 (.putfield 15) 6 2 0 2039, xe_0 15 1 (.aload_n 0), xe_4 16 3 (.getfield 21) 6 0 6 2035, xe_4 19 3 (.invokevirtual 29) 55 0 10 3170, xe_0 22 1 .return_]
def xm_41 : xM := (⟨"GridLaws$Reader", "begin", "(LGridLaws$Law;)V"⟩, prog_8_method_2_code, 2, none, 0, 0, 1, xt_41)
/-- GridLaws$Reader.hasLine()Z -/
def xt_42 : List xE := [xe_0 0 1 (.aload_n 0), xe_4 1 3 (.getfield 21) 6 0 6 2035, xe_4 4 3 (.getfield 34) 10 4 0 1093, xe_1 7 3 (.ifCond .eq 7) 6, xe_d 10 1, xe_d 11 3, xe_0 14 1 (.iconst 0), xe_0 15 1 .ireturn]
def xm_42 : xM := (⟨"GridLaws$Reader", "hasLine", "()Z"⟩, prog_8_method_3_code, 1, (some .boolean), 0, 0, 0, xt_42)
/-- GridLaws$Rules.<init>()V -/
def xt_43 : List xE := [xe_0 0 1 (.aload_n 0), xe_4 1 3 (.invokespecial 3) 0 2 0 1137, xe_0 4 1 (.aload_n 0), xe_0 5 1 (.iconst 0), xe_4 6 3 (.putfield 9) 7 0 0 1138, xe_0 9 1 (.aload_n 0), xe_0 10 2 (.bipush 8), xe_4 12 2 (.newarray .int) 0 0 0 1159, xe_4 14 3 (.putfield 15) 7 1 6 1142, xe_0 17 1 (.aload_n 0), xe_0 18 2 (.bipush 8), xe_4 20 2 (.newarray .int) 0 0 0 1159, xe_4 22 3 (.putfield 19) 7 2 6 1145, xe_0 25 1 (.aload_n 0), xe_0 26 2 (.bipush 8), xe_4 28 2 (.newarray .int) 0 0 0 1159, xe_4 30 3 (.putfield 22) 7 3 6 1148, xe_0 33 1 .return_]
def xm_43 : xM := (⟨"GridLaws$Rules", "<init>", "()V"⟩, prog_9_method_1_code, 1, none, 3, 24, 0, xt_43)
/-- GridLaws$Shelf.<init>(I)V -/
def xt_44 : List xE := [xe_0 0 1 (.aload_n 0), xe_4 1 3 (.invokespecial 3) 0 2 0 2139, xe_0 4 1 (.aload_n 0), xe_0 5 1 (.iconst 0), xe_0 6 1 (.iload_n 1), xe_4 7 3 (.invokestatic 9) 0 4 0 2140, xe_4 10 3 (.putfield 15) 8 1 0 2143, xe_0 13 1 (.aload_n 0), xe_0 14 1 (.aload_n 0), xe_4 15 3 (.getfield 15) 8 1 0 2143, xe_0 18 2 (.bipush 21), xe_0 20 1 .imul, xe_4 21 2 (.newarray .int) 0 0 0 1159, xe_4 23 3 (.putfield 21) 8 0 6 2144, xe_0 26 1 (.aload_n 0), xe_0 27 1 (.aload_n 0), xe_4 28 3 (.getfield 15) 8 1 0 2143, xe_4 31 2 (.newarray .boolean) 0 0 0 2153, xe_4 33 3 (.putfield 25) 8 2 6 2145, xe_0 36 1 .return_]
def xm_44 : xM := (⟨"GridLaws$Shelf", "<init>", "(I)V"⟩, prog_10_method_1_code, 2, none, 2, 902, 1, xt_44)
/-- GridLaws$Shelf.clear()V -/
def xt_45 : List xE := [xe_0 0 1 (.iconst 0), xe_0 1 1 (.istore_n 1), xe_0 2 1 (.iload_n 1), xe_0 3 1 (.aload_n 0), xe_4 4 3 (.getfield 15) 8 1 0 2143, xe_1 7 3 (.if_icmp .ge 16) 13, xe_0 10 1 (.aload_n 0), xe_4 11 3 (.getfield 25) 8 2 6 2145, xe_0 14 1 (.iload_n 1), xe_0 15 1 (.iconst 0), xe_0 16 1 .bastore, xe_0 17 3 (.iinc 1 1), xe_1 20 3 (.goto (-18)) 2, xe_0 23 1 .return_]
def xm_45 : xM := (⟨"GridLaws$Shelf", "clear", "()V"⟩, prog_10_method_2_code, 2, none, 0, 0, 0, xt_45)
/-- GridLaws$Shelf.holds(I)Z -/
def xt_46 : List xE := [xe_0 0 1 (.iload_n 1), xe_1 1 3 (.ifCond .lt 24) 13, xe_0 4 1 (.iload_n 1), xe_0 5 1 (.aload_n 0), xe_4 6 3 (.getfield 15) 8 1 0 2143, xe_1 9 3 (.if_icmp .ge 16) 13, xe_0 12 1 (.aload_n 0), xe_4 13 3 (.getfield 25) 8 2 6 2145, xe_0 16 1 (.iload_n 1), xe_0 17 1 .baload, xe_1 18 3 (.ifCond .eq 7) 13, xe_d 21 1, xe_d 22 3, xe_0 25 1 (.iconst 0), xe_0 26 1 .ireturn]
def xm_46 : xM := (⟨"GridLaws$Shelf", "holds", "(I)Z"⟩, prog_10_method_3_code, 2, (some .boolean), 0, 0, 1, xt_46)
/-- GridLaws$Shelf.put(ILGridLaws$Board;)V -/
def xt_47 : List xE := [xe_0 0 1 (.iload_n 1), xe_1 1 3 (.ifCond .lt 52) 31, xe_0 4 1 (.iload_n 1), xe_0 5 1 (.aload_n 0), xe_4 6 3 (.getfield 15) 8 1 0 2143, xe_1 9 3 (.if_icmp .ge 44) 31, xe_0 12 1 (.aload_n 2), xe_4 13 3 (.getfield 29) 0 2 6 2068, xe_0 16 1 (.iconst 0), xe_0 17 1 (.aload_n 0), xe_4 18 3 (.getfield 21) 8 0 6 2144, xe_0 21 1 (.iload_n 1), xe_0 22 2 (.bipush 21), xe_0 24 1 .imul, xe_0 25 2 (.bipush 20), xe_4 27 3 (.invokestatic 34) 0 3 0 3098, xe_0 30 1 (.aload_n 0), xe_4 31 3 (.getfield 21) 8 0 6 2144, xe_0 34 1 (.iload_n 1), xe_0 35 2 (.bipush 21), xe_0 37 1 .imul, xe_0 38 2 (.bipush 20), xe_0 40 1 .iadd, xe_0 41 1 (.aload_n 2), xe_4 42 3 (.getfield 40) 0 14 0 2062, xe_0 45 1 .iastore, xe_0 46 1 (.aload_n 0), xe_4 47 3 (.getfield 25) 8 2 6 2145, xe_0 50 1 (.iload_n 1), xe_0 51 1 (.iconst 1), xe_0 52 1 .bastore, xe_0 53 1 .return_]
def xm_47 : xM := (⟨"GridLaws$Shelf", "put", "(ILGridLaws$Board;)V"⟩, prog_10_method_4_code, 3, none, 0, 0, 2, xt_47)
/-- GridLaws$Sights.<init>()V -/
def xt_48 : List xE := [xe_0 0 1 (.aload_n 0), xe_4 1 3 (.invokespecial 3) 0 2 0 2176, xe_0 4 1 (.aload_n 0), xe_0 5 1 (.iconst 0), xe_4 6 3 (.putfield 9) 9 3 0 2177, xe_0 9 1 (.aload_n 0), xe_0 10 1 (.iconst 0), xe_4 11 3 (.putfield 15) 9 0 0 2179, xe_0 14 1 (.aload_n 0), xe_0 15 2 (.bipush 30), xe_4 17 2 (.newarray .int) 0 0 0 1159, xe_4 19 3 (.putfield 18) 9 4 6 2181, xe_0 22 1 (.aload_n 0), xe_0 23 2 (.bipush 30), xe_4 25 2 (.newarray .int) 0 0 0 1159, xe_4 27 3 (.putfield 22) 9 5 6 2182, xe_0 30 1 (.aload_n 0), xe_0 31 2 (.bipush 30), xe_4 33 2 (.newarray .boolean) 0 0 0 2153, xe_4 35 3 (.putfield 25) 9 6 6 2183, xe_0 38 1 (.aload_n 0), xe_0 39 2 (.bipush 30), xe_4 41 2 (.newarray .int) 0 0 0 1159, xe_4 43 3 (.putfield 29) 9 2 6 2184, xe_0 46 1 (.aload_n 0), xe_0 47 2 (.bipush 30), xe_4 49 2 (.newarray .int) 0 0 0 1159, xe_4 51 3 (.putfield 32) 9 1 6 2185, xe_0 54 1 .return_]
def xm_48 : xM := (⟨"GridLaws$Sights", "<init>", "()V"⟩, prog_11_method_1_code, 1, none, 5, 150, 0, xt_48)
/-- GridLaws$Sights.clear()V -/
def xt_49 : List xE := [xe_0 0 1 (.aload_n 0), xe_0 1 1 (.iconst 0), xe_4 2 3 (.putfield 15) 9 0 0 2179, xe_0 5 1 .return_]
def xm_49 : xM := (⟨"GridLaws$Sights", "clear", "()V"⟩, prog_11_method_2_code, 1, none, 0, 0, 0, xt_49)
/-- GridLaws$Sights.tell(IIZ)I -/
def xt_50 : List xE := [xe_0 0 1 (.aload_n 0), xe_4 1 3 (.getfield 15) 9 0 0 2179, xe_0 4 2 (.bipush 30), xe_1 6 3 (.if_icmp .lt 5) 6, xe_d 9 1, xe_d 10 1, xe_0 11 1 (.aload_n 0), xe_4 12 3 (.getfield 18) 9 4 6 2181, xe_0 15 1 (.aload_n 0), xe_4 16 3 (.getfield 15) 9 0 0 2179, xe_0 19 1 (.iload_n 1), xe_0 20 1 .iastore, xe_0 21 1 (.aload_n 0), xe_4 22 3 (.getfield 22) 9 5 6 2182, xe_0 25 1 (.aload_n 0), xe_4 26 3 (.getfield 15) 9 0 0 2179, xe_0 29 1 (.iload_n 2), xe_0 30 1 .iastore, xe_0 31 1 (.aload_n 0), xe_4 32 3 (.getfield 25) 9 6 6 2183, xe_0 35 1 (.aload_n 0), xe_4 36 3 (.getfield 15) 9 0 0 2179, xe_0 39 1 (.iload_n 3), xe_0 40 1 .bastore, xe_0 41 1 (.aload_n 0), xe_4 42 3 (.getfield 29) 9 2 6 2184, xe_0 45 1 (.aload_n 0), xe_4 46 3 (.getfield 15) 9 0 0 2179, xe_0 49 1 (.aload_n 0), xe_4 50 3 (.getfield 9) 9 3 0 2177, xe_0 53 1 .iastore, xe_0 54 1 (.aload_n 0), xe_4 55 3 (.getfield 32) 9 1 6 2185, xe_0 58 1 (.aload_n 0), xe_4 59 3 (.getfield 15) 9 0 0 2179, xe_0 62 1 (.iconst (-1)), xe_0 63 1 .iastore, xe_0 64 1 (.aload_n 0), xe_0 65 1 .dup, xe_4 66 3 (.getfield 15) 9 0 0 2179, xe_0 69 1 (.iconst 1), xe_0 70 1 .iadd, xe_4 71 3 (.putfield 15) 9 0 0 2179, xe_0 74 1 (.aload_n 0), xe_4 75 3 (.getfield 15) 9 0 0 2179, xe_0 78 1 (.iconst 1), xe_0 79 1 .isub, xe_0 80 1 .ireturn]
def xm_50 : xM := (⟨"GridLaws$Sights", "tell", "(IIZ)I"⟩, prog_11_method_3_code, 4, (some .int), 0, 0, 3, xt_50)
/-- GridLaws$Sights.takeBack(I)Z -/
def xt_51 : List xE := [xe_0 0 1 (.iload_n 1), xe_1 1 3 (.ifCond .lt 21) 12, xe_0 4 1 (.iload_n 1), xe_0 5 1 (.aload_n 0), xe_4 6 3 (.getfield 15) 9 0 0 2179, xe_1 9 3 (.if_icmp .ge 13) 12, xe_d 12 1, xe_d 13 3, xe_d 16 1, xe_d 17 1, xe_d 18 1, xe_d 19 3, xe_0 22 1 (.iconst 0), xe_0 23 1 .ireturn, xe_d 24 1, xe_d 25 3, xe_d 28 1, xe_d 29 1, xe_d 30 3, xe_d 33 1, xe_d 34 1, xe_d 35 1]
def xm_51 : xM := (⟨"GridLaws$Sights", "takeBack", "(I)Z"⟩, prog_11_method_4_code, 2, (some .boolean), 0, 0, 1, xt_51)
/-- GridLaws$Sights.countingAt(I)I -/
def xt_52 : List xE := [xe_0 0 1 (.iconst 0), xe_0 1 1 (.istore_n 2), xe_0 2 1 (.iconst 0), xe_0 3 1 (.istore_n 3), xe_0 4 1 (.iload_n 3), xe_0 5 1 (.aload_n 0), xe_4 6 3 (.getfield 15) 9 0 0 2179, xe_1 9 3 (.if_icmp .ge 61) 42, xe_d 12 1, xe_d 13 3, xe_d 16 1, xe_d 17 1, xe_d 18 1, xe_d 19 3, xe_d 22 1, xe_d 23 3, xe_d 26 1, xe_d 27 1, xe_d 28 1, xe_d 29 3, xe_d 32 1, xe_d 33 3, xe_d 36 1, xe_d 37 2, xe_d 39 1, xe_d 40 1, xe_d 41 3, xe_d 44 1, xe_d 45 1, xe_d 46 1, xe_d 47 3, xe_d 50 2, xe_d 52 3, xe_d 55 1, xe_d 56 1, xe_d 57 1, xe_d 58 3, xe_d 61 1, xe_d 62 1, xe_d 63 1, xe_d 64 3, xe_d 67 3, xe_0 70 1 (.iload_n 2), xe_0 71 1 .ireturn]
def xm_52 : xM := (⟨"GridLaws$Sights", "countingAt", "(I)I"⟩, prog_11_method_5_code, 5, (some .int), 0, 0, 1, xt_52)
/-- GridLaws$Tape.<init>()V -/
def xt_53 : List xE := [xe_0 0 1 (.aload_n 0), xe_4 1 3 (.invokespecial 3) 0 2 0 1036, xe_0 4 1 (.aload_n 0), xe_0 5 1 (.iconst 0), xe_4 6 3 (.putfield 9) 10 0 0 1087, xe_0 9 1 (.aload_n 0), xe_0 10 3 (.sipush 1600), xe_4 13 2 (.newarray .byte) 0 0 0 1124, xe_4 15 3 (.putfield 15) 10 2 6 1089, xe_0 18 1 (.aload_n 0), xe_0 19 2 (.bipush 18), xe_4 21 2 (.newarray .long) 0 0 0 1125, xe_4 23 3 (.putfield 19) 10 3 6 1090, xe_0 26 1 (.aload_n 0), xe_0 27 1 (.iconst 0), xe_4 28 3 (.putfield 23) 10 1 0 1091, xe_0 31 1 (.aload_n 0), xe_0 32 1 (.iconst 0), xe_4 33 3 (.putfield 26) 10 4 0 1092, xe_0 36 1 (.aload_n 0), xe_0 37 1 (.iconst 0), xe_4 38 3 (.putfield 29) 10 5 0 1094, xe_0 41 1 (.aload_n 0), xe_0 42 1 (.iconst 0), xe_4 43 3 (.putfield 32) 10 6 0 1096, xe_0 46 1 (.aload_n 0), xe_0 47 1 (.lconst 0), xe_4 48 3 (.putfield 35) 10 7 5 1098, xe_0 51 1 (.aload_n 0), xe_0 52 1 (.iconst 0), xe_4 53 3 (.putfield 39) 10 8 0 1100, xe_0 56 1 (.aload_n 0), xe_0 57 2 (.bipush 32), xe_4 59 3 (.putfield 42) 10 9 3 1102, xe_0 62 1 (.iconst 0), xe_0 63 1 (.istore_n 1), xe_0 64 1 (.iconst 0), xe_0 65 1 (.istore_n 2), xe_0 66 1 (.iload_n 2), xe_4 67 2 (.ldc 46) 1 1 0 0, xe_4 69 3 (.invokevirtual 48) 169 0 1000 1038, xe_1 72 3 (.if_icmp .ge 58) 73, xe_0 75 1 (.iload_n 1), xe_0 76 2 (.bipush 18), xe_1 78 3 (.if_icmp .ge 52) 73, xe_4 81 2 (.ldc 46) 1 1 0 0, xe_0 83 1 (.iload_n 2), xe_4 84 3 (.invokevirtual 53) 170 0 1000 1048, xe_0 87 1 (.istore_n 3), xe_0 88 1 (.iload_n 3), xe_0 89 2 (.bipush 32), xe_1 91 3 (.if_icmp .ne 9) 54, xe_0 94 3 (.iinc 1 1), xe_1 97 3 (.goto 27) 71, xe_0 100 1 (.aload_n 0), xe_4 101 3 (.getfield 19) 10 3 6 1090, xe_0 104 1 (.iload_n 1), xe_0 105 1 (.aload_n 0), xe_4 106 3 (.getfield 19) 10 3 6 1090, xe_0 109 1 (.iload_n 1), xe_0 110 1 .laload, xe_4 111 3 (.ldc2_w 57) 0 32 0 1086, xe_0 114 1 .lmul, xe_0 115 1 (.iload_n 3), xe_0 116 2 (.bipush 97), xe_0 118 1 .isub, xe_0 119 1 (.iconst 1), xe_0 120 1 .iadd, xe_0 121 1 .i2l, xe_0 122 1 .ladd, xe_0 123 1 .lastore, xe_0 124 3 (.iinc 2 1), xe_1 127 3 (.goto (-61)) 38, xe_0 130 1 .return_]
def xm_53 : xM := (⟨"GridLaws$Tape", "<init>", "()V"⟩, prog_12_method_1_code, 4, none, 2, 1618, 0, xt_53)
/-- GridLaws$Tape.put(I)V -/
def xt_54 : List xE := [xe_0 0 2 (.bipush 24), xe_0 2 1 (.istore_n 2), xe_0 3 1 (.iload_n 2), xe_1 4 3 (.ifCond .lt 42) 25, xe_0 7 1 (.aload_n 0), xe_4 8 3 (.getfield 9) 10 0 0 1087, xe_0 11 3 (.sipush 1600), xe_1 14 3 (.if_icmp .ge 32) 25, xe_0 17 1 (.aload_n 0), xe_4 18 3 (.getfield 15) 10 2 6 1089, xe_0 21 1 (.aload_n 0), xe_4 22 3 (.getfield 9) 10 0 0 1087, xe_0 25 1 (.iload_n 1), xe_0 26 1 (.iload_n 2), xe_0 27 1 .iushr, xe_0 28 1 .i2b, xe_0 29 1 .bastore, xe_0 30 1 (.aload_n 0), xe_0 31 1 .dup, xe_4 32 3 (.getfield 9) 10 0 0 1087, xe_0 35 1 (.iconst 1), xe_0 36 1 .iadd, xe_4 37 3 (.putfield 9) 10 0 0 1087, xe_0 40 3 (.iinc 2 (-8)), xe_1 43 3 (.goto (-40)) 2, xe_0 46 1 .return_]
def xm_54 : xM := (⟨"GridLaws$Tape", "put", "(I)V"⟩, prog_12_method_2_code, 3, none, 0, 0, 1, xt_54)
/-- GridLaws$Tape.rewind()V -/
def xt_55 : List xE := [xe_0 0 1 (.aload_n 0), xe_0 1 1 (.iconst 0), xe_4 2 3 (.putfield 23) 10 1 0 1091, xe_0 5 1 (.aload_n 0), xe_4 6 3 (.invokevirtual 59) 56 0 10 3174, xe_0 9 1 .return_]
def xm_55 : xM := (⟨"GridLaws$Tape", "rewind", "()V"⟩, prog_12_method_3_code, 1, none, 0, 0, 0, xt_55)
/-- GridLaws$Tape.advance()V -/
def xt_56 : List xE := [xe_0 0 1 (.aload_n 0), xe_4 1 3 (.getfield 23) 10 1 0 1091, xe_0 4 1 (.aload_n 0), xe_4 5 3 (.getfield 9) 10 0 0 1087, xe_1 8 3 (.if_icmp .ge 44) 26, xe_d 11 1, xe_d 12 3, xe_d 15 1, xe_d 16 3, xe_d 19 1, xe_d 20 2, xe_d 22 3, xe_d 25 1, xe_d 26 3, xe_d 29 1, xe_d 30 3, xe_d 33 1, xe_d 34 2, xe_d 36 3, xe_d 39 1, xe_d 40 1, xe_d 41 3, xe_d 44 1, xe_d 45 1, xe_d 46 3, xe_d 49 3, xe_0 52 1 (.aload_n 0), xe_0 53 1 (.aload_n 0), xe_4 54 3 (.getfield 23) 10 1 0 1091, xe_4 57 3 (.putfield 29) 10 5 0 1094, xe_0 60 1 (.aload_n 0), xe_4 61 3 (.getfield 23) 10 1 0 1091, xe_0 64 1 (.aload_n 0), xe_4 65 3 (.getfield 9) 10 0 0 1087, xe_1 68 3 (.if_icmp .lt 11) 39, xe_0 71 1 (.aload_n 0), xe_0 72 1 (.iconst 0), xe_4 73 3 (.putfield 26) 10 4 0 1092, xe_1 76 3 (.goto 43) 57, xe_d 79 1, xe_d 80 1, xe_d 81 3, xe_d 84 3, xe_d 87 3, xe_d 90 1, xe_d 91 3, xe_d 94 3, xe_d 97 1, xe_d 98 1, xe_d 99 3, xe_d 102 3, xe_d 105 3, xe_d 108 1, xe_d 109 3, xe_d 112 3, xe_d 115 1, xe_d 116 3, xe_0 119 1 .return_]
def xm_56 : xM := (⟨"GridLaws$Tape", "advance", "()V"⟩, prog_12_method_4_code, 1, none, 0, 0, 0, xt_56)
/-- GridLaws.<init>()V -/
def xt_57 : List xE := [xe_0 0 1 (.aload_n 0), xe_4 1 3 (.invokespecial 1) 0 2 0 1028, xe_0 4 1 (.aload_n 0), xe_4 5 3 (.new 7) 10 0 0 1031, xe_0 8 1 .dup, xe_4 9 3 (.invokespecial 9) 53 0 10 1033, xe_4 12 3 (.putfield 10) 11 4 6 3101, xe_0 15 1 (.aload_n 0), xe_4 16 3 (.new 16) 5 0 0 1126, xe_0 19 1 .dup, xe_4 20 3 (.invokespecial 18) 36 1 5 0, xe_4 23 3 (.putfield 19) 11 3 6 3102, xe_0 26 1 (.aload_n 0), xe_4 27 3 (.new 16) 5 0 0 1126, xe_0 30 1 .dup, xe_4 31 3 (.invokespecial 18) 36 1 5 0, xe_4 34 3 (.putfield 23) 11 9 6 3103, xe_0 37 1 (.aload_n 0), xe_4 38 3 (.new 26) 6 0 0 2029, xe_0 41 1 .dup, xe_0 42 1 (.aload_n 0), xe_4 43 3 (.getfield 10) 11 4 6 3101, xe_0 46 1 (.aload_n 0), xe_4 47 3 (.getfield 23) 11 9 6 3103, xe_4 50 3 (.invokespecial 28) 40 0 6 2031, xe_4 53 3 (.putfield 31) 11 7 6 3104, xe_0 56 1 (.aload_n 0), xe_4 57 3 (.new 35) 0 0 0 2053, xe_0 60 1 .dup, xe_0 61 1 (.aload_n 0), xe_4 62 3 (.getfield 19) 11 3 6 3102, xe_4 65 3 (.invokespecial 37) 0 0 0 2055, xe_4 68 3 (.putfield 40) 11 0 6 3105, xe_0 71 1 (.aload_n 0), xe_4 72 3 (.new 35) 0 0 0 2053, xe_0 75 1 .dup, xe_0 76 1 (.aload_n 0), xe_4 77 3 (.getfield 19) 11 3 6 3102, xe_4 80 3 (.invokespecial 37) 0 0 0 2055, xe_4 83 3 (.putfield 44) 11 2 6 3106, xe_0 86 1 (.aload_n 0), xe_4 87 3 (.new 47) 4 0 0 2128, xe_0 90 1 .dup, xe_4 91 3 (.invokespecial 49) 31 1 4 4, xe_4 94 3 (.putfield 50) 11 5 6 3107, xe_0 97 1 (.aload_n 0), xe_4 98 3 (.new 54) 8 0 0 2169, xe_0 101 1 .dup, xe_0 102 1 (.iconst 3), xe_4 103 3 (.invokespecial 56) 44 0 8 2170, xe_4 106 3 (.putfield 59) 11 10 6 3108, xe_0 109 1 (.aload_n 0), xe_4 110 3 (.new 63) 9 0 0 2171, xe_0 113 1 .dup, xe_4 114 3 (.invokespecial 65) 48 1 9 5, xe_4 117 3 (.putfield 66) 11 6 6 3109, xe_0 120 1 (.aload_n 0), xe_4 121 3 (.new 70) 2 0 0 2201, xe_0 124 1 .dup, xe_0 125 1 (.aload_n 0), xe_4 126 3 (.getfield 44) 11 2 6 3106, xe_0 129 1 (.aload_n 0), xe_4 130 3 (.getfield 66) 11 6 6 3109, xe_4 133 3 (.invokespecial 72) 24 0 2 2203, xe_4 136 3 (.putfield 75) 11 1 6 3110, xe_0 139 1 (.aload_n 0), xe_4 140 3 (.new 79) 1 0 0 3012, xe_0 143 1 .dup, xe_0 144 1 (.aload_n 0), xe_4 145 3 (.getfield 44) 11 2 6 3106, xe_4 148 3 (.invokespecial 81) 23 0 1 3014, xe_4 151 3 (.putfield 84) 11 8 6 3111, xe_0 154 1 (.aload_n 0), xe_0 155 2 (.bipush 16), xe_4 157 2 (.newarray .int) 0 0 0 1159, xe_4 159 3 (.putfield 88) 11 12 6 3112, xe_0 162 1 (.aload_n 0), xe_0 163 1 (.iconst 0), xe_4 164 3 (.putfield 92) 11 11 0 3113, xe_0 167 1 (.aload_n 0), xe_4 168 3 (.getfield 40) 11 0 6 3105, xe_0 171 1 (.aload_n 0), xe_4 172 3 (.getfield 19) 11 3 6 3102, xe_4 175 3 (.invokevirtual 96) 1 0 0 3040, xe_0 178 1 (.aload_n 0), xe_4 179 3 (.getfield 50) 11 5 6 3107, xe_0 182 1 (.aload_n 0), xe_4 183 3 (.getfield 40) 11 0 6 3105, xe_4 186 3 (.invokevirtual 99) 32 0 4 3090, xe_0 189 1 .return_]
def xm_57 : xM := (⟨"GridLaws", "<init>", "()V"⟩, prog_1_method_1_code, 1, none, 87, 6633, 0, xt_57)
/-- GridLaws.feed(IIIII)I -/
def xt_58 : List xE := [xe_0 0 1 (.aload_n 0), xe_4 1 3 (.getfield 10) 11 4 6 3101, xe_4 4 3 (.getfield 101) 10 0 0 1088, xe_0 7 2 (.bipush 20), xe_0 9 1 .iadd, xe_0 10 3 (.sipush 1600), xe_1 13 3 (.if_icmp .le 5) 9, xe_d 16 1, xe_d 17 1, xe_0 18 1 (.aload_n 0), xe_4 19 3 (.getfield 10) 11 4 6 3101, xe_0 22 1 (.iload_n 1), xe_4 23 3 (.invokevirtual 104) 54 0 10 3145, xe_0 26 1 (.aload_n 0), xe_4 27 3 (.getfield 10) 11 4 6 3101, xe_0 30 1 (.iload_n 2), xe_4 31 3 (.invokevirtual 104) 54 0 10 3145, xe_0 34 1 (.aload_n 0), xe_4 35 3 (.getfield 10) 11 4 6 3101, xe_0 38 1 (.iload_n 3), xe_4 39 3 (.invokevirtual 104) 54 0 10 3145, xe_0 42 1 (.aload_n 0), xe_4 43 3 (.getfield 10) 11 4 6 3101, xe_0 46 2 (.iload 4), xe_4 48 3 (.invokevirtual 104) 54 0 10 3145, xe_0 51 1 (.aload_n 0), xe_4 52 3 (.getfield 10) 11 4 6 3101, xe_0 55 2 (.iload 5), xe_4 57 3 (.invokevirtual 104) 54 0 10 3145, xe_0 60 1 (.aload_n 0), xe_4 61 3 (.getfield 10) 11 4 6 3101, xe_4 64 3 (.getfield 101) 10 0 0 1088, xe_0 67 1 .ireturn]
def xm_58 : xM := (⟨"GridLaws", "feed", "(IIIII)I"⟩, prog_1_method_2_code, 6, (some .int), 0, 0, 5, xt_58)
/-- GridLaws.end(I)I -/
def xt_59 : List xE := [xe_0 0 1 (.iload_n 1), xe_1 1 3 (.ifCond .lt 14) 7, xe_0 4 1 (.iload_n 1), xe_0 5 1 (.aload_n 0), xe_4 6 3 (.getfield 10) 11 4 6 3101, xe_4 9 3 (.getfield 101) 10 0 0 1088, xe_1 12 3 (.if_icmp .le 5) 9, xe_0 15 1 (.iconst (-1)), xe_0 16 1 .ireturn, xe_0 17 1 (.aload_n 0), xe_4 18 3 (.getfield 10) 11 4 6 3101, xe_0 21 1 (.iload_n 1), xe_4 22 3 (.putfield 101) 10 0 0 1088, xe_0 25 1 (.iload_n 1), xe_0 26 1 .ireturn]
def xm_59 : xM := (⟨"GridLaws", "end", "(I)I"⟩, prog_1_method_3_code, 2, (some .int), 0, 0, 1, xt_59)
/-- GridLaws.grid()I -/
def xt_60 : List xE := [xe_0 0 1 (.aload_n 0), xe_4 1 3 (.getfield 23) 11 9 6 3103, xe_4 4 3 (.invokevirtual 107) 37 0 5 3157, xe_0 7 1 (.aload_n 0), xe_4 8 3 (.getfield 31) 11 7 6 3104, xe_0 11 1 (.aload_n 0), xe_4 12 3 (.getfield 23) 11 9 6 3103, xe_4 15 3 (.invokevirtual 110) 41 0 6 3166, xe_0 18 1 (.iconst 0), xe_0 19 1 (.istore_n 1), xe_0 20 1 (.iload_n 1), xe_0 21 3 (.sipush 1600), xe_1 24 3 (.if_icmp .ge 40) 30, xe_0 27 1 (.aload_n 0), xe_4 28 3 (.getfield 31) 11 7 6 3104, xe_4 31 3 (.invokevirtual 111) 42 0 6 4016, xe_1 34 3 (.ifCond .eq 30) 30, xe_d 37 1, xe_d 38 3, xe_d 41 1, xe_d 42 3, xe_d 45 1, xe_d 46 3, xe_d 49 1, xe_d 50 3, xe_d 53 3, xe_d 56 1, xe_d 57 1, xe_d 58 3, xe_d 61 3, xe_0 64 1 (.aload_n 0), xe_4 65 3 (.invokevirtual 119) 61 0 11 4189, xe_0 68 1 (.aload_n 0), xe_4 69 3 (.getfield 19) 11 3 6 3102, xe_4 72 3 (.getfield 122) 5 6 0 1202, xe_0 75 1 .ireturn]
def xm_60 : xM := (⟨"GridLaws", "grid", "()I"⟩, prog_1_method_4_code, 2, (some .int), 0, 0, 0, xt_60)
/-- GridLaws.takeDraft()V -/
def xt_61 : List xE := [xe_0 0 1 (.aload_n 0), xe_4 1 3 (.getfield 19) 11 3 6 3102, xe_0 4 1 (.astore_n 1), xe_0 5 1 (.aload_n 0), xe_0 6 1 (.aload_n 0), xe_4 7 3 (.getfield 23) 11 9 6 3103, xe_4 10 3 (.putfield 19) 11 3 6 3102, xe_0 13 1 (.aload_n 0), xe_0 14 1 (.aload_n 1), xe_4 15 3 (.putfield 23) 11 9 6 3103, xe_0 18 1 (.aload_n 0), xe_4 19 3 (.getfield 10) 11 4 6 3101, xe_0 22 1 (.iconst 0), xe_4 23 3 (.putfield 101) 10 0 0 1088, xe_0 26 1 (.aload_n 0), xe_0 27 1 (.iconst 0), xe_4 28 3 (.putfield 92) 11 11 0 3113, xe_0 31 1 (.aload_n 0), xe_4 32 3 (.getfield 40) 11 0 6 3105, xe_0 35 1 (.aload_n 0), xe_4 36 3 (.getfield 19) 11 3 6 3102, xe_4 39 3 (.invokevirtual 96) 1 0 0 3040, xe_0 42 1 (.aload_n 0), xe_4 43 3 (.getfield 50) 11 5 6 3107, xe_0 46 1 (.aload_n 0), xe_4 47 3 (.getfield 40) 11 0 6 3105, xe_4 50 3 (.invokevirtual 99) 32 0 4 3090, xe_0 53 1 (.aload_n 0), xe_4 54 3 (.getfield 66) 11 6 6 3109, xe_4 57 3 (.invokevirtual 125) 49 0 9 4193, xe_0 60 1 (.aload_n 0), xe_4 61 3 (.getfield 59) 11 10 6 3108, xe_4 64 3 (.invokevirtual 126) 45 0 8 4197, xe_0 67 1 .return_]
def xm_61 : xM := (⟨"GridLaws", "takeDraft", "()V"⟩, prog_1_method_5_code, 2, none, 0, 0, 0, xt_61)
/-- GridLaws.fault(I)I -/
def xt_62 : List xE := [xe_0 0 1 (.iload_n 1), xe_4 1 27 (.lookupswitch 43 #[(0, 27), (1, 35)]) 10 393218 0 0, xe_0 28 1 (.aload_n 0), xe_4 29 3 (.getfield 31) 11 7 6 3104, xe_4 32 3 (.getfield 127) 6 1 0 2038, xe_0 35 1 .ireturn, xe_0 36 1 (.aload_n 0), xe_4 37 3 (.getfield 31) 11 7 6 3104, xe_4 40 3 (.getfield 130) 6 2 0 2040, xe_0 43 1 .ireturn, xe_0 44 1 (.iconst (-1)), xe_0 45 1 .ireturn]
def xm_62 : xM := (⟨"GridLaws", "fault", "(I)I"⟩, prog_1_method_6_code, 2, (some .int), 0, 0, 1, xt_62)
/-- GridLaws.square(I)I -/
def xt_63 : List xE := [xe_0 0 1 (.aload_n 0), xe_4 1 3 (.getfield 40) 11 0 6 3105, xe_0 4 1 (.iload_n 1), xe_4 5 3 (.invokevirtual 133) 4 0 0 4209, xe_1 8 3 (.ifCond .eq 15) 11, xe_0 11 1 (.aload_n 0), xe_4 12 3 (.getfield 40) 11 0 6 3105, xe_4 15 3 (.getfield 137) 0 2 6 2070, xe_0 18 1 (.iload_n 1), xe_0 19 1 .iaload, xe_1 20 3 (.goto 4) 12, xe_0 23 1 (.iconst (-1)), xe_0 24 1 .ireturn]
def xm_63 : xM := (⟨"GridLaws", "square", "(I)I"⟩, prog_1_method_7_code, 2, (some .int), 0, 0, 1, xt_63)
/-- GridLaws.slots()I -/
def xt_64 : List xE := [xe_0 0 1 (.aload_n 0), xe_4 1 3 (.getfield 40) 11 0 6 3105, xe_4 4 3 (.getfield 140) 0 0 0 2075, xe_0 7 1 .ireturn]
def xm_64 : xM := (⟨"GridLaws", "slots", "()I"⟩, prog_1_method_8_code, 1, (some .int), 0, 0, 0, xt_64)
/-- GridLaws.slot(II)I -/
def xt_65 : List xE := [xe_0 0 1 (.aload_n 0), xe_4 1 3 (.getfield 40) 11 0 6 3105, xe_0 4 1 (.iload_n 1), xe_4 5 3 (.invokevirtual 143) 6 0 0 4221, xe_1 8 3 (.ifCond .ne 5) 7, xe_0 11 1 (.iconst (-1)), xe_0 12 1 .ireturn, xe_0 13 1 (.aload_n 0), xe_4 14 3 (.getfield 40) 11 0 6 3105, xe_4 17 3 (.getfield 146) 0 9 6 2091, xe_0 20 1 (.iload_n 1), xe_0 21 1 .iaload, xe_0 22 1 (.istore_n 3), xe_0 23 1 (.iload_n 2), xe_4 24 44 (.tableswitch 122 0 6 #[44, 54, 64, 81, 83, 102, 112]) 61 4357608176350686092490567909391 0 0, xe_0 68 1 (.aload_n 0), xe_4 69 3 (.getfield 40) 11 0 6 3105, xe_0 72 1 (.iload_n 1), xe_0 73 1 (.iconst 0), xe_4 74 3 (.invokevirtual 149) 9 0 0 4225, xe_0 77 1 .ireturn, xe_0 78 1 (.aload_n 0), xe_4 79 3 (.getfield 40) 11 0 6 3105, xe_4 82 3 (.getfield 153) 0 5 6 2080, xe_0 85 1 (.iload_n 1), xe_0 86 1 .iaload, xe_0 87 1 .ireturn, xe_0 88 1 (.aload_n 0), xe_4 89 3 (.getfield 40) 11 0 6 3105, xe_0 92 1 (.iload_n 1), xe_4 93 3 (.invokevirtual 156) 7 0 0 4226, xe_1 96 3 (.ifCond .eq 7) 34, xe_0 99 1 (.iconst 1), xe_1 100 3 (.goto 4) 35, xe_0 103 1 (.iconst 0), xe_0 104 1 .ireturn, xe_0 105 1 (.iload_n 3), xe_0 106 1 .ireturn, xe_0 107 1 (.iload_n 3), xe_0 108 1 (.iconst (-1)), xe_1 109 3 (.if_icmp .ne 7) 43, xe_0 112 1 (.iconst 0), xe_1 113 3 (.goto 12) 48, xe_d 116 1, xe_d 117 3, xe_d 120 1, xe_d 121 1, xe_d 122 3, xe_0 125 1 .ireturn, xe_0 126 1 (.aload_n 0), xe_4 127 3 (.getfield 40) 11 0 6 3105, xe_4 130 3 (.getfield 162) 0 13 6 2083, xe_0 133 1 (.iload_n 1), xe_0 134 1 .iaload, xe_0 135 1 .ireturn, xe_0 136 1 (.aload_n 0), xe_4 137 3 (.getfield 40) 11 0 6 3105, xe_4 140 3 (.getfield 165) 0 10 6 2094, xe_0 143 1 (.iload_n 1), xe_0 144 1 .iaload, xe_0 145 1 .ireturn, xe_0 146 1 (.iconst (-1)), xe_0 147 1 .ireturn]
def xm_65 : xM := (⟨"GridLaws", "slot", "(II)I"⟩, prog_1_method_9_code, 4, (some .int), 0, 0, 2, xt_65)
/-- GridLaws.fits(I)I -/
def xt_66 : List xE := [xe_0 0 1 (.aload_n 0), xe_4 1 3 (.getfield 40) 11 0 6 3105, xe_0 4 1 (.iload_n 1), xe_4 5 3 (.invokevirtual 143) 6 0 0 4221, xe_1 8 3 (.ifCond .eq 14) 10, xe_0 11 1 (.aload_n 0), xe_4 12 3 (.getfield 40) 11 0 6 3105, xe_0 15 1 (.iload_n 1), xe_4 16 3 (.invokevirtual 168) 16 0 0 5012, xe_1 19 3 (.goto 4) 11, xe_0 22 1 (.iconst (-1)), xe_0 23 1 .ireturn]
def xm_66 : xM := (⟨"GridLaws", "fits", "(I)I"⟩, prog_1_method_10_code, 2, (some .int), 0, 0, 1, xt_66)
/-- GridLaws.places(I)I -/
def xt_67 : List xE := [xe_0 0 1 (.aload_n 0), xe_4 1 3 (.getfield 19) 11 3 6 3102, xe_0 4 1 (.iload_n 1), xe_4 5 3 (.invokevirtual 172) 39 0 5 5017, xe_1 8 3 (.ifCond .ne 5) 7, xe_0 11 1 (.iconst (-1)), xe_0 12 1 .ireturn, xe_d 13 1, xe_d 14 1, xe_d 15 1, xe_d 16 1, xe_d 17 1, xe_d 18 1, xe_d 19 3, xe_d 22 3, xe_d 25 3, xe_d 28 1, xe_d 29 1, xe_d 30 3, xe_d 33 1, xe_d 34 3, xe_d 37 1, xe_d 38 3, xe_d 41 3, xe_d 44 1, xe_d 45 1, xe_d 46 1, xe_d 47 3, xe_d 50 1, xe_d 51 1, xe_d 52 1, xe_d 53 3, xe_d 56 3, xe_d 59 1, xe_d 60 1]
def xm_67 : xM := (⟨"GridLaws", "places", "(I)I"⟩, prog_1_method_11_code, 4, (some .int), 0, 0, 1, xt_67)
/-- GridLaws.wants(II)I -/
def xt_68 : List xE := [xe_0 0 1 (.aload_n 0), xe_4 1 3 (.getfield 19) 11 3 6 3102, xe_0 4 1 (.iload_n 1), xe_4 5 3 (.invokevirtual 179) 38 0 5 5026, xe_1 8 3 (.ifCond .eq 26) 16, xe_d 11 1, xe_d 12 3, xe_d 15 1, xe_d 16 3, xe_d 19 3, xe_d 22 1, xe_d 23 3, xe_d 26 1, xe_d 27 1, xe_d 28 3, xe_d 31 3, xe_4 34 2 (.ldc 185) 0 4293967296 0 5034, xe_0 36 1 .ireturn]
def xm_68 : xM := (⟨"GridLaws", "wants", "(II)I"⟩, prog_1_method_12_code, 3, (some .int), 0, 0, 2, xt_68)
/-- GridLaws.write(II)I -/
def xt_69 : List xE := [xe_0 0 1 (.aload_n 0), xe_4 1 3 (.getfield 19) 11 3 6 3102, xe_0 4 1 (.iload_n 1), xe_4 5 3 (.invokevirtual 172) 39 0 5 5017, xe_1 8 3 (.ifCond .eq 29) 17, xe_d 11 1, xe_d 12 3, xe_d 15 1, xe_d 16 3, xe_d 19 3, xe_d 22 1, xe_d 23 3, xe_d 26 1, xe_d 27 3, xe_d 30 1, xe_d 31 3, xe_d 34 3, xe_0 37 1 (.iconst (-1)), xe_0 38 1 .ireturn, xe_d 39 1, xe_d 40 3, xe_d 43 3, xe_d 46 1, xe_d 47 1, xe_d 48 1, xe_d 49 1, xe_d 50 3, xe_d 53 1, xe_d 54 1, xe_d 55 3, xe_d 58 1, xe_d 59 3, xe_d 62 3, xe_d 65 1, xe_d 66 3, xe_d 69 1, xe_d 70 3, xe_d 73 3, xe_d 76 1, xe_d 77 1]
def xm_69 : xM := (⟨"GridLaws", "write", "(II)I"⟩, prog_1_method_13_code, 4, (some .int), 0, 0, 2, xt_69)
/-- GridLaws.strike(I)I -/
def xt_70 : List xE := [xe_0 0 1 (.aload_n 0), xe_4 1 3 (.getfield 40) 11 0 6 3105, xe_0 4 1 (.iload_n 1), xe_4 5 3 (.invokevirtual 199) 5 0 0 5057, xe_1 8 3 (.ifCond .ne 5) 7, xe_0 11 1 (.iconst (-1)), xe_0 12 1 .ireturn, xe_d 13 1, xe_d 14 3, xe_d 17 3, xe_d 20 1, xe_d 21 1, xe_d 22 1, xe_d 23 1, xe_d 24 3, xe_d 27 3, xe_d 30 1, xe_d 31 1, xe_d 32 1, xe_d 33 1, xe_d 34 3, xe_d 37 3, xe_d 40 1, xe_d 41 3, xe_d 44 1, xe_d 45 3, xe_d 48 3, xe_d 51 1, xe_d 52 1]
def xm_70 : xM := (⟨"GridLaws", "strike", "(I)I"⟩, prog_1_method_14_code, 3, (some .int), 0, 0, 1, xt_70)
/-- GridLaws.blacken(I)I -/
def xt_71 : List xE := [xe_0 0 1 (.aload_n 0), xe_4 1 3 (.getfield 40) 11 0 6 3105, xe_0 4 1 (.iload_n 1), xe_4 5 3 (.invokevirtual 133) 4 0 0 4209, xe_1 8 3 (.ifCond .eq 29) 17, xe_0 11 1 (.aload_n 0), xe_4 12 3 (.getfield 40) 11 0 6 3105, xe_4 15 3 (.getfield 137) 0 2 6 2070, xe_0 18 1 (.iload_n 1), xe_0 19 1 .iaload, xe_0 20 2 (.bipush 27), xe_1 22 3 (.if_icmp .eq 15) 17, xe_0 25 1 (.aload_n 0), xe_4 26 3 (.getfield 40) 11 0 6 3105, xe_4 29 3 (.invokevirtual 202) 11 0 0 5066, xe_0 32 2 (.bipush 8), xe_1 34 3 (.if_icmp .lt 5) 19, xe_0 37 1 (.iconst (-1)), xe_0 38 1 .ireturn, xe_0 39 1 (.aload_n 0), xe_4 40 3 (.getfield 40) 11 0 6 3105, xe_4 43 3 (.getfield 137) 0 2 6 2070, xe_0 46 1 (.iload_n 1), xe_0 47 2 (.bipush 27), xe_0 49 1 .iastore, xe_0 50 1 (.aload_n 0), xe_4 51 3 (.getfield 40) 11 0 6 3105, xe_4 54 3 (.invokevirtual 206) 12 0 0 5070, xe_0 57 1 (.aload_n 0), xe_4 58 3 (.getfield 50) 11 5 6 3107, xe_0 61 1 (.aload_n 0), xe_4 62 3 (.getfield 40) 11 0 6 3105, xe_4 65 3 (.invokevirtual 196) 33 0 4 5048, xe_0 68 1 (.aload_n 0), xe_4 69 3 (.getfield 40) 11 0 6 3105, xe_4 72 3 (.invokevirtual 202) 11 0 0 5066, xe_0 75 1 .ireturn]
def xm_71 : xM := (⟨"GridLaws", "blacken", "(I)I"⟩, prog_1_method_15_code, 2, (some .int), 0, 0, 1, xt_71)
/-- GridLaws.sitting()I -/
def xt_72 : List xE := [xe_0 0 1 (.aload_n 0), xe_4 1 3 (.getfield 40) 11 0 6 3105, xe_4 4 3 (.getfield 209) 0 14 0 2063, xe_0 7 3 (.sipush 999), xe_1 10 3 (.if_icmp .lt 6) 7, xe_d 13 2, xe_d 15 1, xe_0 16 1 (.aload_n 0), xe_4 17 3 (.getfield 40) 11 0 6 3105, xe_4 20 3 (.invokevirtual 212) 18 0 0 5075, xe_0 23 1 (.istore_n 1), xe_0 24 1 (.aload_n 0), xe_4 25 3 (.getfield 50) 11 5 6 3107, xe_0 28 1 (.aload_n 0), xe_4 29 3 (.getfield 40) 11 0 6 3105, xe_4 32 3 (.invokevirtual 196) 33 0 4 5048, xe_0 35 1 (.iload_n 1), xe_0 36 1 .ireturn]
def xm_72 : xM := (⟨"GridLaws", "sitting", "()I"⟩, prog_1_method_16_code, 2, (some .int), 0, 0, 0, xt_72)
/-- GridLaws.undo()Z -/
def xt_73 : List xE := [xe_0 0 1 (.aload_n 0), xe_4 1 3 (.getfield 50) 11 5 6 3107, xe_0 4 1 (.aload_n 0), xe_4 5 3 (.getfield 40) 11 0 6 3105, xe_4 8 3 (.invokevirtual 215) 34 0 4 5094, xe_0 11 1 .ireturn]
def xm_73 : xM := (⟨"GridLaws", "undo", "()Z"⟩, prog_1_method_17_code, 1, (some .boolean), 0, 0, 0, xt_73)
/-- GridLaws.redo()Z -/
def xt_74 : List xE := [xe_0 0 1 (.aload_n 0), xe_4 1 3 (.getfield 50) 11 5 6 3107, xe_0 4 1 (.aload_n 0), xe_4 5 3 (.getfield 40) 11 0 6 3105, xe_4 8 3 (.invokevirtual 219) 35 0 4 5107, xe_0 11 1 .ireturn]
def xm_74 : xM := (⟨"GridLaws", "redo", "()Z"⟩, prog_1_method_18_code, 1, (some .boolean), 0, 0, 0, xt_74)
/-- GridLaws.force()I -/
def xt_75 : List xE := [xe_0 0 1 (.aload_n 0), xe_4 1 3 (.getfield 40) 11 0 6 3105, xe_4 4 3 (.getfield 222) 0 12 0 2096, xe_0 7 1 .ireturn]
def xm_75 : xM := (⟨"GridLaws", "force", "()I"⟩, prog_1_method_19_code, 1, (some .int), 0, 0, 0, xt_75)
/-- GridLaws.follows()I -/
def xt_76 : List xE := [xe_0 0 1 (.aload_n 0), xe_4 1 3 (.getfield 40) 11 0 6 3105, xe_4 4 3 (.invokevirtual 225) 20 0 0 5119, xe_0 7 1 .ireturn]
def xm_76 : xM := (⟨"GridLaws", "follows", "()I"⟩, prog_1_method_20_code, 1, (some .int), 0, 0, 0, xt_76)
/-- GridLaws.against()I -/
def xt_77 : List xE := [xe_0 0 1 (.aload_n 0), xe_4 1 3 (.getfield 40) 11 0 6 3105, xe_4 4 3 (.invokevirtual 225) 20 0 0 5119, xe_0 7 1 (.istore_n 1), xe_0 8 1 (.iconst 0), xe_0 9 1 (.istore_n 2), xe_0 10 1 (.iconst 0), xe_0 11 1 (.istore_n 3), xe_0 12 1 (.iload_n 3), xe_0 13 1 (.aload_n 0), xe_4 14 3 (.getfield 19) 11 3 6 3102, xe_4 17 3 (.getfield 228) 5 7 6 1229, xe_4 20 3 (.getfield 232) 7 0 0 1140, xe_1 23 3 (.if_icmp .ge 67) 46, xe_d 26 1, xe_d 27 1, xe_d 28 3, xe_d 31 3, xe_d 34 3, xe_d 37 1, xe_d 38 1, xe_d 39 3, xe_d 42 3, xe_d 45 1, xe_d 46 1, xe_d 47 3, xe_d 50 3, xe_d 53 3, xe_d 56 1, xe_d 57 1, xe_d 58 3, xe_d 61 3, xe_d 64 1, xe_d 65 3, xe_d 68 1, xe_d 69 2, xe_d 71 1, xe_d 72 2, xe_d 74 3, xe_d 77 1, xe_d 78 3, xe_d 81 1, xe_d 82 1, xe_d 83 1, xe_d 84 3, xe_d 87 3, xe_0 90 1 (.iload_n 2), xe_0 91 1 .ireturn]
def xm_77 : xM := (⟨"GridLaws", "against", "()I"⟩, prog_1_method_21_code, 5, (some .int), 0, 0, 0, xt_77)
/-- GridLaws.worth(I)I -/
def xt_78 : List xE := [xe_0 0 1 (.aload_n 0), xe_4 1 3 (.getfield 19) 11 3 6 3102, xe_0 4 1 (.iload_n 1), xe_4 5 3 (.invokevirtual 179) 38 0 5 5026, xe_1 8 3 (.ifCond .eq 14) 10, xe_d 11 1, xe_d 12 3, xe_d 15 1, xe_d 16 3, xe_d 19 3, xe_4 22 2 (.ldc 185) 0 4293967296 0 5034, xe_0 24 1 .ireturn]
def xm_78 : xM := (⟨"GridLaws", "worth", "(I)I"⟩, prog_1_method_22_code, 2, (some .int), 0, 0, 1, xt_78)
/-- GridLaws.blanks()I -/
def xt_79 : List xE := [xe_0 0 1 (.iconst 0), xe_0 1 1 (.istore_n 1), xe_0 2 1 (.iconst 0), xe_0 3 1 (.istore_n 2), xe_0 4 1 (.iload_n 2), xe_0 5 1 (.aload_n 0), xe_4 6 3 (.getfield 40) 11 0 6 3105, xe_4 9 3 (.getfield 246) 0 11 0 2066, xe_1 12 3 (.if_icmp .ge 40) 28, xe_0 15 1 (.iload_n 1), xe_0 16 1 (.aload_n 0), xe_4 17 3 (.getfield 40) 11 0 6 3105, xe_0 20 1 (.iload_n 2), xe_4 21 3 (.invokevirtual 249) 8 0 0 5152, xe_1 24 3 (.ifCond .eq 19) 23, xe_0 27 1 (.aload_n 0), xe_4 28 3 (.getfield 40) 11 0 6 3105, xe_4 31 3 (.getfield 137) 0 2 6 2070, xe_0 34 1 (.iload_n 2), xe_0 35 1 .iaload, xe_1 36 3 (.ifCond .ne 7) 23, xe_0 39 1 (.iconst 1), xe_1 40 3 (.goto 4) 24, xe_d 43 1, xe_0 44 1 .iadd, xe_0 45 1 (.istore_n 1), xe_0 46 3 (.iinc 2 1), xe_1 49 3 (.goto (-45)) 4, xe_0 52 1 (.iload_n 1), xe_0 53 1 .ireturn]
def xm_79 : xM := (⟨"GridLaws", "blanks", "()I"⟩, prog_1_method_23_code, 3, (some .int), 0, 0, 0, xt_79)
/-- GridLaws.capital()I -/
def xt_80 : List xE := [xe_0 0 1 (.aload_n 0), xe_4 1 3 (.getfield 40) 11 0 6 3105, xe_4 4 3 (.invokevirtual 252) 22 0 0 5160, xe_0 7 1 (.istore_n 1), xe_0 8 1 (.iconst 0), xe_0 9 1 (.istore_n 2), xe_0 10 1 (.iconst (-1)), xe_0 11 1 (.istore_n 3), xe_0 12 1 (.iconst 0), xe_0 13 2 (.istore 4), xe_0 15 2 (.iload 4), xe_0 17 1 (.aload_n 0), xe_4 18 3 (.getfield 40) 11 0 6 3105, xe_4 21 3 (.getfield 246) 0 11 0 2066, xe_1 24 3 (.if_icmp .ge 76) 50, xe_0 27 1 (.iload_n 1), xe_1 28 3 (.ifCond .le 72) 50, xe_d 31 1, xe_d 32 3, xe_d 35 1, xe_d 36 3, xe_d 39 3, xe_d 42 2, xe_d 44 1, xe_d 45 3, xe_d 48 1, xe_d 49 3, xe_d 52 1, xe_d 53 3, xe_d 56 1, xe_d 57 3, xe_d 60 3, xe_d 63 2, xe_d 65 1, xe_d 66 3, xe_d 69 1, xe_d 70 3, xe_d 73 1, xe_d 74 3, xe_d 77 1, xe_d 78 3, xe_d 81 3, xe_d 84 2, xe_d 86 1, xe_d 87 3, xe_d 90 1, xe_d 91 2, xe_d 93 1, xe_d 94 3, xe_d 97 3, xe_0 100 1 (.iload_n 3), xe_0 101 1 .ireturn]
def xm_80 : xM := (⟨"GridLaws", "capital", "()I"⟩, prog_1_method_24_code, 5, (some .int), 0, 0, 0, xt_80)
/-- GridLaws.nonsense()I -/
def xt_81 : List xE := [xe_0 0 1 (.iconst 0), xe_0 1 1 (.istore_n 1), xe_0 2 1 (.iconst 0), xe_0 3 1 (.istore_n 2), xe_0 4 1 (.iload_n 2), xe_0 5 1 (.aload_n 0), xe_4 6 3 (.getfield 40) 11 0 6 3105, xe_4 9 3 (.getfield 140) 0 0 0 2075, xe_1 12 3 (.if_icmp .ge 44) 32, xe_0 15 1 (.iload_n 1), xe_0 16 1 (.aload_n 0), xe_4 17 3 (.getfield 40) 11 0 6 3105, xe_4 20 3 (.getfield 165) 0 10 6 2094, xe_0 23 1 (.iload_n 2), xe_0 24 1 .iaload, xe_1 25 3 (.ifCond .ne 22) 27, xe_d 28 1, xe_d 29 3, xe_d 32 3, xe_d 35 1, xe_d 36 1, xe_d 37 1, xe_d 38 3, xe_d 41 1, xe_d 42 1, xe_d 43 1, xe_d 44 3, xe_0 47 1 (.iconst 0), xe_0 48 1 .ior, xe_0 49 1 (.istore_n 1), xe_0 50 3 (.iinc 2 1), xe_1 53 3 (.goto (-49)) 4, xe_0 56 1 (.iload_n 1), xe_0 57 1 .ireturn]
def xm_81 : xM := (⟨"GridLaws", "nonsense", "()I"⟩, prog_1_method_25_code, 3, (some .int), 0, 0, 0, xt_81)
/-- GridLaws.fillings()I -/
def xt_82 : List xE := [xe_0 0 1 (.aload_n 0), xe_4 1 3 (.getfield 44) 11 2 6 3106, xe_0 4 1 (.aload_n 0), xe_4 5 3 (.getfield 40) 11 0 6 3105, xe_4 8 3 (.invokevirtual 264) 2 0 0 5178, xe_0 11 1 (.aload_n 0), xe_4 12 3 (.getfield 75) 11 1 6 3110, xe_0 15 1 (.iconst (-1)), xe_4 16 3 (.invokevirtual 267) 25 0 2 5183, xe_0 19 1 (.aload_n 0), xe_4 20 3 (.getfield 75) 11 1 6 3110, xe_4 23 3 (.getfield 270) 2 2 1 2213, xe_1 26 3 (.ifCond .eq 8) 15, xe_d 29 2, xe_d 31 3, xe_0 34 1 (.aload_n 0), xe_4 35 3 (.getfield 75) 11 1 6 3110, xe_4 38 3 (.getfield 274) 2 1 0 2215, xe_0 41 1 .ireturn]
def xm_82 : xM := (⟨"GridLaws", "fillings", "()I"⟩, prog_1_method_26_code, 1, (some .int), 0, 0, 0, xt_82)
/-- GridLaws.best(I)I -/
def xt_83 : List xE := [xe_0 0 1 (.aload_n 0), xe_0 1 1 (.iconst 0), xe_4 2 3 (.putfield 92) 11 11 0 3113, xe_0 5 1 (.aload_n 0), xe_0 6 1 (.iload_n 1), xe_4 7 3 (.invokevirtual 277) 85 0 11 5238, xe_1 10 3 (.ifCond .ne 6) 9, xe_4 13 2 (.ldc 185) 0 4293967296 0 5034, xe_0 15 1 .ireturn, xe_d 16 1, xe_d 17 1, xe_d 18 3, xe_d 21 3, xe_d 24 3, xe_d 27 1, xe_d 28 1, xe_d 29 1, xe_d 30 1, xe_d 31 3, xe_d 34 3, xe_d 37 1, xe_d 38 3, xe_d 41 1, xe_d 42 1, xe_d 43 3, xe_d 46 3, xe_d 49 1, xe_d 50 1, xe_d 51 1, xe_d 52 3, xe_d 55 3, xe_d 58 1, xe_d 59 3, xe_d 62 3, xe_d 65 1]
def xm_83 : xM := (⟨"GridLaws", "best", "(I)I"⟩, prog_1_method_27_code, 3, (some .int), 0, 0, 1, xt_83)
/-- GridLaws.span(II)I -/
def xt_84 : List xE := [xe_0 0 1 (.iload_n 2), xe_1 1 3 (.ifCond .lt 16) 9, xe_0 4 1 (.iload_n 2), xe_0 5 1 (.iconst 1), xe_1 6 3 (.if_icmp .gt 11) 9, xe_0 9 1 (.aload_n 0), xe_0 10 1 (.iload_n 1), xe_4 11 3 (.invokevirtual 277) 85 0 11 5238, xe_1 14 3 (.ifCond .ne 6) 11, xe_4 17 2 (.ldc 185) 0 4293967296 0 5034, xe_0 19 1 .ireturn, xe_d 20 1, xe_d 21 3, xe_d 24 1, xe_d 25 3, xe_d 28 3, xe_d 31 3, xe_d 34 1, xe_d 35 3, xe_d 38 3, xe_d 41 1]
def xm_84 : xM := (⟨"GridLaws", "span", "(II)I"⟩, prog_1_method_28_code, 3, (some .int), 0, 0, 2, xt_84)
/-- GridLaws.findFillings(I)Z -/
def xt_85 : List xE := [xe_0 0 1 (.aload_n 0), xe_4 1 3 (.getfield 19) 11 3 6 3102, xe_0 4 1 (.iload_n 1), xe_4 5 3 (.invokevirtual 179) 38 0 5 5026, xe_1 8 3 (.ifCond .ne 5) 7, xe_0 11 1 (.iconst 0), xe_0 12 1 .ireturn, xe_d 13 1, xe_d 14 3, xe_d 17 1, xe_d 18 3, xe_d 21 3, xe_d 24 1, xe_d 25 3, xe_d 28 1, xe_d 29 3, xe_d 32 1, xe_d 33 3, xe_d 36 3, xe_d 39 3, xe_d 42 1, xe_d 43 3, xe_d 46 3, xe_d 49 3, xe_d 52 1, xe_d 53 3, xe_d 56 1, xe_d 57 1]
def xm_85 : xM := (⟨"GridLaws", "findFillings", "(I)Z"⟩, prog_1_method_29_code, 2, (some .boolean), 0, 0, 1, xt_85)
/-- GridLaws.reform(II)I -/
def xt_86 : List xE := [xe_0 0 1 (.aload_n 0), xe_4 1 3 (.getfield 19) 11 3 6 3102, xe_0 4 1 (.iload_n 1), xe_4 5 3 (.invokevirtual 172) 39 0 5 5017, xe_1 8 3 (.ifCond .eq 12) 10, xe_d 11 1, xe_d 12 3, xe_d 15 1, xe_d 16 1, xe_d 17 3, xe_0 20 1 (.iconst (-1)), xe_0 21 1 .ireturn, xe_d 22 1, xe_d 23 3, xe_d 26 1, xe_d 27 3, xe_d 30 1, xe_d 31 1, xe_d 32 1, xe_d 33 3, xe_d 36 1, xe_d 37 1, xe_d 38 1, xe_d 39 3, xe_d 42 1, xe_d 43 3, xe_d 46 1, xe_d 47 1, xe_d 48 3, xe_d 51 3, xe_d 54 1, xe_d 55 1]
def xm_86 : xM := (⟨"GridLaws", "reform", "(II)I"⟩, prog_1_method_30_code, 4, (some .int), 0, 0, 2, xt_86)
/-- GridLaws.play(III)I -/
def xt_87 : List xE := [xe_0 0 1 (.aload_n 0), xe_4 1 3 (.getfield 19) 11 3 6 3102, xe_0 4 1 (.iload_n 1), xe_4 5 3 (.invokevirtual 179) 38 0 5 5026, xe_1 8 3 (.ifCond .eq 19) 13, xe_d 11 1, xe_d 12 3, xe_d 15 1, xe_d 16 3, xe_d 19 3, xe_d 22 1, xe_d 23 1, xe_d 24 3, xe_4 27 2 (.ldc 185) 0 4293967296 0 5034, xe_0 29 1 .ireturn, xe_d 30 1, xe_d 31 3, xe_d 34 1, xe_d 35 1, xe_d 36 3, xe_d 39 2, xe_d 41 1, xe_d 42 1, xe_d 43 3, xe_d 46 1, xe_d 47 3, xe_d 50 3, xe_d 53 1, xe_d 54 3, xe_d 57 1, xe_d 58 1, xe_d 59 3, xe_d 62 1, xe_d 63 3, xe_d 66 3, xe_d 69 1, xe_d 70 3, xe_d 73 2, xe_d 75 1, xe_d 76 1, xe_d 77 3, xe_d 80 1, xe_d 81 3, xe_d 84 3, xe_d 87 1, xe_d 88 1, xe_d 89 1, xe_d 90 3, xe_d 93 1, xe_d 94 3, xe_d 97 3, xe_d 100 3, xe_d 103 1, xe_d 104 3, xe_d 107 3, xe_d 110 1]
def xm_87 : xM := (⟨"GridLaws", "play", "(III)I"⟩, prog_1_method_31_code, 4, (some .int), 0, 0, 3, xt_87)
/-- GridLaws.will(II)I -/
def xt_88 : List xE := [xe_0 0 1 (.aload_n 0), xe_4 1 3 (.getfield 19) 11 3 6 3102, xe_0 4 1 (.iload_n 1), xe_4 5 3 (.invokevirtual 179) 38 0 5 5026, xe_1 8 3 (.ifCond .eq 28) 17, xe_d 11 1, xe_d 12 3, xe_d 15 1, xe_d 16 2, xe_d 18 3, xe_d 21 1, xe_d 22 3, xe_d 25 3, xe_d 28 1, xe_d 29 1, xe_d 30 3, xe_d 33 3, xe_4 36 2 (.ldc 185) 0 4293967296 0 5034, xe_0 38 1 .ireturn, xe_d 39 1, xe_d 40 3, xe_d 43 1, xe_d 44 3, xe_d 47 3, xe_d 50 1, xe_d 51 1, xe_d 52 1, xe_d 53 1, xe_d 54 3, xe_d 57 1, xe_d 58 3, xe_d 61 3, xe_d 64 1, xe_d 65 3, xe_d 68 3, xe_d 71 1, xe_d 72 3, xe_d 75 1, xe_d 76 3, xe_d 79 1]
def xm_88 : xM := (⟨"GridLaws", "will", "(II)I"⟩, prog_1_method_32_code, 4, (some .int), 0, 0, 2, xt_88)
/-- GridLaws.lies(I)I -/
def xt_89 : List xE := [xe_0 0 1 (.iload_n 1), xe_1 1 3 (.ifCond .lt 20) 11, xe_0 4 1 (.iload_n 1), xe_0 5 1 (.aload_n 0), xe_4 6 3 (.getfield 92) 11 11 0 3113, xe_1 9 3 (.if_icmp .ge 12) 11, xe_d 12 1, xe_d 13 3, xe_d 16 1, xe_d 17 1, xe_d 18 3, xe_0 21 1 (.iconst (-1)), xe_0 22 1 .ireturn]
def xm_89 : xM := (⟨"GridLaws", "lies", "(I)I"⟩, prog_1_method_33_code, 2, (some .int), 0, 0, 1, xt_89)
/-- GridLaws.sight(IIZ)I -/
def xt_90 : List xE := [xe_0 0 1 (.aload_n 0), xe_4 1 3 (.getfield 40) 11 0 6 3105, xe_0 4 1 (.iload_n 1), xe_4 5 3 (.invokevirtual 133) 4 0 0 4209, xe_1 8 3 (.ifCond .eq 14) 11, xe_0 11 1 (.iload_n 2), xe_0 12 1 (.iconst 1), xe_1 13 3 (.if_icmp .lt 9) 11, xe_0 16 1 (.iload_n 2), xe_0 17 2 (.bipush 26), xe_1 19 3 (.if_icmp .le 5) 13, xe_0 22 1 (.iconst (-1)), xe_0 23 1 .ireturn, xe_0 24 1 (.aload_n 0), xe_4 25 3 (.getfield 66) 11 6 6 3109, xe_0 28 1 (.iload_n 1), xe_0 29 1 (.iload_n 2), xe_0 30 1 (.iload_n 3), xe_4 31 3 (.invokevirtual 307) 50 0 9 6070, xe_0 34 1 .ireturn]
def xm_90 : xM := (⟨"GridLaws", "sight", "(IIZ)I"⟩, prog_1_method_34_code, 4, (some .int), 0, 0, 3, xt_90)
/-- GridLaws.untell(I)Z -/
def xt_91 : List xE := [xe_0 0 1 (.aload_n 0), xe_4 1 3 (.getfield 66) 11 6 6 3109, xe_0 4 1 (.iload_n 1), xe_4 5 3 (.invokevirtual 311) 51 0 9 6078, xe_0 8 1 .ireturn]
def xm_91 : xM := (⟨"GridLaws", "untell", "(I)Z"⟩, prog_1_method_35_code, 2, (some .boolean), 0, 0, 1, xt_91)
/-- GridLaws.later(I)I -/
def xt_92 : List xE := [xe_0 0 1 (.iload_n 1), xe_1 1 3 (.ifCond .lt 25) 12, xe_0 4 1 (.iload_n 1), xe_0 5 3 (.sipush 1000), xe_1 8 3 (.if_icmp .gt 18) 12, xe_0 11 1 (.aload_n 0), xe_4 12 3 (.getfield 66) 11 6 6 3109, xe_4 15 3 (.getfield 314) 9 3 0 2178, xe_0 18 1 (.iload_n 1), xe_0 19 1 .iadd, xe_4 20 3 (.ldc_w 317) 0 100000 0 6086, xe_1 23 3 (.if_icmp .le 5) 14, xe_0 26 1 (.iconst (-1)), xe_0 27 1 .ireturn, xe_0 28 1 (.aload_n 0), xe_4 29 3 (.getfield 66) 11 6 6 3109, xe_0 32 1 .dup, xe_4 33 3 (.getfield 314) 9 3 0 2178, xe_0 36 1 (.iload_n 1), xe_0 37 1 .iadd, xe_4 38 3 (.putfield 314) 9 3 0 2178, xe_0 41 1 (.aload_n 0), xe_4 42 3 (.getfield 66) 11 6 6 3109, xe_4 45 3 (.getfield 314) 9 3 0 2178, xe_0 48 1 .ireturn]
def xm_92 : xM := (⟨"GridLaws", "later", "(I)I"⟩, prog_1_method_36_code, 2, (some .int), 0, 0, 1, xt_92)
/-- GridLaws.prints(I)I -/
def xt_93 : List xE := [xe_0 0 1 (.aload_n 0), xe_0 1 1 (.iload_n 1), xe_4 2 3 (.invokevirtual 318) 96 0 11 6091, xe_0 5 1 .pop, xe_0 6 1 (.aload_n 0), xe_4 7 3 (.getfield 75) 11 1 6 3110, xe_4 10 3 (.getfield 270) 2 2 1 2213, xe_1 13 3 (.ifCond .eq 8) 10, xe_d 16 2, xe_d 18 3, xe_0 21 1 (.aload_n 0), xe_4 22 3 (.getfield 75) 11 1 6 3110, xe_4 25 3 (.getfield 274) 2 1 0 2215, xe_0 28 1 .ireturn]
def xm_93 : xM := (⟨"GridLaws", "prints", "(I)I"⟩, prog_1_method_37_code, 2, (some .int), 0, 0, 1, xt_93)
/-- GridLaws.sure(II)I -/
def xt_94 : List xE := [xe_0 0 1 (.aload_n 0), xe_4 1 3 (.getfield 40) 11 0 6 3105, xe_0 4 1 (.iload_n 1), xe_4 5 3 (.invokevirtual 133) 4 0 0 4209, xe_1 8 3 (.ifCond .eq 22) 14, xe_0 11 1 (.aload_n 0), xe_4 12 3 (.getfield 40) 11 0 6 3105, xe_0 15 1 (.iload_n 1), xe_4 16 3 (.invokevirtual 249) 8 0 0 5152, xe_1 19 3 (.ifCond .eq 11) 14, xe_0 22 1 (.aload_n 0), xe_0 23 1 (.iload_n 2), xe_4 24 3 (.invokevirtual 318) 96 0 11 6091, xe_1 27 3 (.ifCond .ne 5) 16, xe_0 30 1 (.iconst (-1)), xe_0 31 1 .ireturn, xe_d 32 1, xe_d 33 1, xe_d 34 1, xe_d 35 2, xe_d 37 3, xe_d 40 1, xe_d 41 3, xe_d 44 1, xe_d 45 1, xe_d 46 3, xe_d 49 1, xe_d 50 3, xe_d 53 3, xe_d 56 3, xe_d 59 1, xe_d 60 1, xe_d 61 3, xe_d 64 3, xe_d 67 1, xe_d 68 1]
def xm_94 : xM := (⟨"GridLaws", "sure", "(II)I"⟩, prog_1_method_38_code, 4, (some .int), 0, 0, 2, xt_94)
/-- GridLaws.ask(II)I -/
def xt_95 : List xE := [xe_0 0 1 (.iload_n 1), xe_1 1 3 (.ifCond .lt 16) 9, xe_0 4 1 (.iload_n 1), xe_0 5 1 (.iconst 1), xe_1 6 3 (.if_icmp .gt 11) 9, xe_0 9 1 (.aload_n 0), xe_0 10 1 (.iload_n 2), xe_4 11 3 (.invokevirtual 318) 96 0 11 6091, xe_1 14 3 (.ifCond .ne 5) 11, xe_0 17 1 (.iconst (-1)), xe_0 18 1 .ireturn, xe_d 19 1, xe_d 20 1, xe_d 21 1, xe_d 22 2, xe_d 24 1, xe_d 25 2, xe_d 27 2, xe_d 29 1, xe_d 30 3, xe_d 33 3, xe_d 36 3, xe_d 39 1, xe_d 40 3, xe_d 43 2, xe_d 45 3, xe_d 48 3, xe_d 51 1, xe_d 52 3, xe_d 55 2, xe_d 57 3, xe_d 60 2, xe_d 62 1, xe_d 63 1, xe_d 64 3, xe_d 67 2, xe_d 69 2, xe_d 71 3, xe_d 74 2, xe_d 76 1, xe_d 77 2, xe_d 79 2, xe_d 81 3, xe_d 84 3, xe_d 87 1, xe_d 88 3, xe_d 91 1, xe_d 92 3, xe_d 95 2, xe_d 97 1]
def xm_95 : xM := (⟨"GridLaws", "ask", "(II)I"⟩, prog_1_method_39_code, 7, (some .int), 0, 0, 2, xt_95)
/-- GridLaws.findPrints(I)Z -/
def xt_96 : List xE := [xe_0 0 1 (.aload_n 0), xe_4 1 3 (.getfield 44) 11 2 6 3106, xe_0 4 1 (.aload_n 0), xe_4 5 3 (.getfield 40) 11 0 6 3105, xe_4 8 3 (.invokevirtual 264) 2 0 0 5178, xe_0 11 1 (.aload_n 0), xe_4 12 3 (.getfield 44) 11 2 6 3106, xe_4 15 3 (.invokevirtual 327) 3 0 0 6095, xe_0 18 1 (.aload_n 0), xe_4 19 3 (.getfield 75) 11 1 6 3110, xe_0 22 1 (.iload_n 1), xe_4 23 3 (.invokevirtual 330) 26 0 2 6099, xe_0 26 1 (.aload_n 0), xe_4 27 3 (.getfield 75) 11 1 6 3110, xe_4 30 3 (.getfield 270) 2 2 1 2213, xe_1 33 3 (.ifCond .ne 17) 22, xe_0 36 1 (.aload_n 0), xe_4 37 3 (.getfield 75) 11 1 6 3110, xe_4 40 3 (.getfield 274) 2 1 0 2215, xe_1 43 3 (.ifCond .le 7) 22, xe_d 46 1, xe_d 47 3, xe_0 50 1 (.iconst 0), xe_0 51 1 .ireturn]
def xm_96 : xM := (⟨"GridLaws", "findPrints", "(I)Z"⟩, prog_1_method_40_code, 2, (some .boolean), 0, 0, 1, xt_96)
/-- GridLaws.image(I)I -/
def xt_97 : List xE := [xe_0 0 1 (.iload_n 1), xe_1 1 3 (.ifCond .lt 8) 5, xe_0 4 1 (.iload_n 1), xe_0 5 1 (.iconst 3), xe_1 6 3 (.if_icmp .lt 5) 7, xe_0 9 1 (.iconst (-1)), xe_0 10 1 .ireturn, xe_0 11 1 (.aload_n 0), xe_4 12 3 (.getfield 59) 11 10 6 3108, xe_0 15 1 (.iload_n 1), xe_0 16 1 (.aload_n 0), xe_4 17 3 (.getfield 40) 11 0 6 3105, xe_4 20 3 (.invokevirtual 333) 47 0 8 6130, xe_0 23 1 (.aload_n 0), xe_4 24 3 (.getfield 40) 11 0 6 3105, xe_4 27 3 (.getfield 209) 0 14 0 2063, xe_0 30 1 .ireturn]
def xm_97 : xM := (⟨"GridLaws", "image", "(I)I"⟩, prog_1_method_41_code, 2, (some .int), 0, 0, 1, xt_97)
/-- GridLaws.back(I)I -/
def xt_98 : List xE := [xe_0 0 1 (.aload_n 0), xe_4 1 3 (.getfield 59) 11 10 6 3108, xe_0 4 1 (.iload_n 1), xe_4 5 3 (.invokevirtual 336) 46 0 8 6135, xe_1 8 3 (.ifCond .ne 5) 7, xe_0 11 1 (.iconst (-1)), xe_0 12 1 .ireturn, xe_d 13 1, xe_d 14 3, xe_d 17 1, xe_d 18 1, xe_d 19 3, xe_d 22 3, xe_d 25 1, xe_d 26 3, xe_d 29 1, xe_d 30 3, xe_d 33 3, xe_d 36 1, xe_d 37 3, xe_d 40 3, xe_d 43 1]
def xm_98 : xM := (⟨"GridLaws", "back", "(I)I"⟩, prog_1_method_42_code, 2, (some .int), 0, 0, 1, xt_98)
/-- GridLaws.about(I)I -/
def xt_99 : List xE := [xe_0 0 1 (.iload_n 1), xe_4 1 75 (.tableswitch 201 0 14 #[75, 83, 91, 99, 107, 115, 123, 134, 145, 153, 161, 169, 177, 185, 196]) 64 1644579784086405412150315051347407394845119824796623409540447965937666 0 0, xe_0 76 1 (.aload_n 0), xe_4 77 3 (.getfield 19) 11 3 6 3102, xe_4 80 3 (.getfield 122) 5 6 0 1202, xe_0 83 1 .ireturn, xe_0 84 1 (.aload_n 0), xe_4 85 3 (.getfield 19) 11 3 6 3102, xe_4 88 3 (.getfield 342) 5 5 0 1199, xe_0 91 1 .ireturn, xe_0 92 1 (.aload_n 0), xe_4 93 3 (.getfield 19) 11 3 6 3102, xe_4 96 3 (.getfield 345) 5 1 0 1191, xe_0 99 1 .ireturn, xe_0 100 1 (.aload_n 0), xe_4 101 3 (.getfield 19) 11 3 6 3102, xe_4 104 3 (.getfield 348) 5 0 0 1195, xe_0 107 1 .ireturn, xe_0 108 1 (.aload_n 0), xe_4 109 3 (.getfield 40) 11 0 6 3105, xe_4 112 3 (.getfield 209) 0 14 0 2063, xe_0 115 1 .ireturn, xe_0 116 1 (.aload_n 0), xe_4 117 3 (.getfield 40) 11 0 6 3105, xe_4 120 3 (.invokevirtual 202) 11 0 0 5066, xe_0 123 1 .ireturn, xe_0 124 1 (.aload_n 0), xe_4 125 3 (.getfield 19) 11 3 6 3102, xe_4 128 3 (.getfield 351) 5 4 6 1226, xe_4 131 3 (.getfield 232) 7 0 0 1140, xe_0 134 1 .ireturn, xe_0 135 1 (.aload_n 0), xe_4 136 3 (.getfield 19) 11 3 6 3102, xe_4 139 3 (.getfield 228) 5 7 6 1229, xe_4 142 3 (.getfield 232) 7 0 0 1140, xe_0 145 1 .ireturn, xe_0 146 1 (.aload_n 0), xe_4 147 3 (.getfield 50) 11 5 6 3107, xe_4 150 3 (.getfield 354) 4 2 0 2157, xe_0 153 1 .ireturn, xe_0 154 1 (.aload_n 0), xe_4 155 3 (.getfield 50) 11 5 6 3107, xe_4 158 3 (.getfield 357) 4 3 0 2159, xe_0 161 1 .ireturn, xe_0 162 1 (.aload_n 0), xe_4 163 3 (.getfield 66) 11 6 6 3109, xe_4 166 3 (.getfield 360) 9 0 0 2180, xe_0 169 1 .ireturn, xe_0 170 1 (.aload_n 0), xe_4 171 3 (.getfield 66) 11 6 6 3109, xe_4 174 3 (.getfield 314) 9 3 0 2178, xe_0 177 1 .ireturn, xe_0 178 1 (.aload_n 0), xe_4 179 3 (.getfield 10) 11 4 6 3101, xe_4 182 3 (.getfield 101) 10 0 0 1088, xe_0 185 1 .ireturn, xe_0 186 1 (.aload_n 0), xe_4 187 3 (.getfield 19) 11 3 6 3102, xe_4 190 3 (.getfield 361) 5 9 6 1233, xe_4 193 3 (.getfield 365) 3 0 0 1170, xe_0 196 1 .ireturn, xe_0 197 1 (.aload_n 0), xe_4 198 3 (.getfield 92) 11 11 0 3113, xe_0 201 1 .ireturn, xe_0 202 1 (.iconst (-1)), xe_0 203 1 .ireturn]
def xm_99 : xM := (⟨"GridLaws", "about", "(I)I"⟩, prog_1_method_43_code, 2, (some .int), 0, 0, 1, xt_99)
/-- GridLaws.isIn(II)Z -/
def xt_100 : List xE := [xe_0 0 1 (.iload_n 0), xe_0 1 1 (.iload_n 1), xe_0 2 1 .iushr, xe_0 3 1 (.iconst 1), xe_0 4 1 .iand, xe_1 5 3 (.ifCond .eq 7) 8, xe_d 8 1, xe_d 9 3, xe_0 12 1 (.iconst 0), xe_0 13 1 .ireturn]
def xm_100 : xM := (⟨"GridLaws", "isIn", "(II)Z"⟩, prog_1_method_44_code, 2, (some .boolean), 0, 0, 2, xt_100)
/-- GridLawsModel.<init>()V -/
def xt_101 : List xE := [xe_0 0 1 (.aload_n 0), xe_4 1 3 (.invokespecial 1) 0 2 0 6149, xe_0 4 1 (.aload_n 0), xe_0 5 3 (.sipush 1620), xe_4 8 2 (.newarray .byte) 0 0 0 1124, xe_4 10 3 (.putfield 7) 12 46 6 6161, xe_0 13 1 (.aload_n 0), xe_0 14 3 (.sipush 1600), xe_4 17 2 (.newarray .byte) 0 0 0 1124, xe_4 19 3 (.putfield 13) 12 47 6 6162, xe_0 22 1 (.aload_n 0), xe_0 23 1 (.iconst (-1)), xe_4 24 3 (.putfield 16) 12 42 0 6166, xe_0 27 1 (.aload_n 0), xe_0 28 1 (.iconst 2), xe_4 29 2 (.newarray .int) 0 0 0 1159, xe_4 31 3 (.putfield 20) 12 4 6 6172, xe_0 34 1 (.aload_n 0), xe_0 35 1 (.iconst 2), xe_4 36 2 (.newarray .int) 0 0 0 1159, xe_4 38 3 (.putfield 24) 12 1 6 6173, xe_0 41 1 (.aload_n 0), xe_0 42 1 (.iconst 2), xe_4 43 2 (.newarray .int) 0 0 0 1159, xe_4 45 3 (.putfield 27) 12 15 6 6174, xe_0 48 1 (.aload_n 0), xe_0 49 1 (.iconst 2), xe_4 50 2 (.newarray .int) 0 0 0 1159, xe_4 52 3 (.putfield 30) 12 18 6 6175, xe_0 55 1 (.aload_n 0), xe_0 56 1 (.iconst 2), xe_4 57 2 (.newarray .int) 0 0 0 1159, xe_4 59 3 (.putfield 33) 12 49 6 6176, xe_0 62 1 (.aload_n 0), xe_0 63 1 (.iconst 2), xe_4 64 2 (.newarray .int) 0 0 0 1159, xe_4 66 3 (.putfield 36) 12 25 6 6177, xe_0 69 1 (.aload_n 0), xe_0 70 1 (.iconst 2), xe_4 71 2 (.newarray .int) 0 0 0 1159, xe_4 73 3 (.putfield 39) 12 26 6 6178, xe_0 76 1 (.aload_n 0), xe_0 77 1 (.iconst 2), xe_4 78 2 (.newarray .int) 0 0 0 1159, xe_4 80 3 (.putfield 42) 12 28 6 6179, xe_0 83 1 (.aload_n 0), xe_0 84 1 (.iconst 2), xe_4 85 2 (.newarray .int) 0 0 0 1159, xe_4 87 3 (.putfield 45) 12 50 6 6180, xe_0 90 1 (.aload_n 0), xe_0 91 1 (.iconst 2), xe_4 92 2 (.newarray .int) 0 0 0 1159, xe_4 94 3 (.putfield 48) 12 43 6 6181, xe_0 97 1 (.aload_n 0), xe_0 98 2 (.bipush 32), xe_4 100 2 (.newarray .int) 0 0 0 1159, xe_4 102 3 (.putfield 51) 12 61 6 6182, xe_0 105 1 (.aload_n 0), xe_0 106 3 (.sipush 160), xe_4 109 2 (.newarray .int) 0 0 0 1159, xe_4 111 3 (.putfield 54) 12 62 6 6183, xe_0 114 1 (.aload_n 0), xe_0 115 2 (.bipush 96), xe_4 117 2 (.newarray .int) 0 0 0 1159, xe_4 119 3 (.putfield 57) 12 63 6 6184, xe_0 122 1 (.aload_n 0), xe_0 123 2 (.bipush 16), xe_4 125 2 (.newarray .int) 0 0 0 1159, xe_4 127 3 (.putfield 60) 12 51 6 6185, xe_0 130 1 (.aload_n 0), xe_0 131 2 (.bipush 16), xe_4 133 2 (.newarray .int) 0 0 0 1159, xe_4 135 3 (.putfield 63) 12 52 6 6186, xe_0 138 1 (.aload_n 0), xe_0 139 2 (.bipush 16), xe_4 141 2 (.newarray .int) 0 0 0 1159, xe_4 143 3 (.putfield 66) 12 53 6 6187, xe_0 146 1 (.aload_n 0), xe_0 147 2 (.bipush 16), xe_4 149 2 (.newarray .int) 0 0 0 1159, xe_4 151 3 (.putfield 69) 12 59 6 6188, xe_0 154 1 (.aload_n 0), xe_0 155 2 (.bipush 16), xe_4 157 2 (.newarray .int) 0 0 0 1159, xe_4 159 3 (.putfield 72) 12 60 6 6189, xe_0 162 1 (.aload_n 0), xe_0 163 1 (.iconst 2), xe_4 164 2 (.newarray .int) 0 0 0 1159, xe_4 166 3 (.putfield 75) 12 64 6 6190, xe_0 169 1 (.aload_n 0), xe_0 170 1 (.iconst 2), xe_4 171 2 (.newarray .int) 0 0 0 1159, xe_4 173 3 (.putfield 78) 12 65 6 6191, xe_0 176 1 (.aload_n 0), xe_0 177 1 (.iconst 2), xe_4 178 2 (.newarray .boolean) 0 0 0 2153, xe_4 180 3 (.putfield 81) 12 54 6 6192, xe_0 183 1 (.aload_n 0), xe_0 184 2 (.bipush 6), xe_4 186 2 (.newarray .long) 0 0 0 1125, xe_4 188 3 (.putfield 85) 12 66 6 6193, xe_0 191 1 (.aload_n 0), xe_0 192 2 (.bipush 32), xe_4 194 2 (.newarray .long) 0 0 0 1125, xe_4 196 3 (.putfield 89) 12 67 6 6194, xe_0 199 1 (.aload_n 0), xe_0 200 3 (.sipush 1120), xe_4 203 2 (.newarray .int) 0 0 0 1159, xe_4 205 3 (.putfield 92) 12 68 6 6195, xe_0 208 1 (.aload_n 0), xe_0 209 3 (.sipush 1120), xe_4 212 2 (.newarray .int) 0 0 0 1159, xe_4 214 3 (.putfield 95) 12 69 6 6196, xe_0 217 1 (.aload_n 0), xe_0 218 2 (.bipush 90), xe_4 220 2 (.newarray .int) 0 0 0 1159, xe_4 222 3 (.putfield 98) 12 70 6 6197, xe_0 225 1 (.aload_n 0), xe_0 226 2 (.bipush 90), xe_4 228 2 (.newarray .int) 0 0 0 1159, xe_4 230 3 (.putfield 101) 12 71 6 6198, xe_0 233 1 (.aload_n 0), xe_0 234 2 (.bipush 60), xe_4 236 2 (.newarray .int) 0 0 0 1159, xe_4 238 3 (.putfield 104) 12 72 6 6199, xe_0 241 1 (.aload_n 0), xe_0 242 2 (.bipush 21), xe_4 244 2 (.newarray .int) 0 0 0 1159, xe_4 246 3 (.putfield 107) 12 8 6 6211, xe_0 249 1 (.aload_n 0), xe_0 250 2 (.bipush 16), xe_4 252 2 (.newarray .int) 0 0 0 1159, xe_4 254 3 (.putfield 110) 12 7 6 6212, xe_0 257 1 (.aload_n 0), xe_0 258 2 (.bipush 16), xe_4 260 2 (.newarray .int) 0 0 0 1159, xe_4 262 3 (.putfield 113) 12 6 6 6213, xe_0 265 1 (.aload_n 0), xe_0 266 2 (.bipush 16), xe_4 268 2 (.newarray .int) 0 0 0 1159, xe_4 270 3 (.putfield 116) 12 9 6 6214, xe_0 273 1 (.aload_n 0), xe_0 274 2 (.bipush 16), xe_4 276 2 (.newarray .int) 0 0 0 1159, xe_4 278 3 (.putfield 119) 12 5 6 6215, xe_0 281 1 (.aload_n 0), xe_0 282 2 (.bipush 16), xe_4 284 2 (.newarray .boolean) 0 0 0 2153, xe_4 286 3 (.putfield 122) 12 3 6 6216, xe_0 289 1 (.aload_n 0), xe_0 290 3 (.sipush 861), xe_4 293 2 (.newarray .int) 0 0 0 1159, xe_4 295 3 (.putfield 125) 12 17 6 6218, xe_0 298 1 (.aload_n 0), xe_0 299 2 (.bipush 17), xe_4 301 2 (.newarray .int) 0 0 0 1159, xe_4 303 3 (.putfield 128) 12 11 6 6221, xe_0 306 1 (.aload_n 0), xe_0 307 2 (.bipush 17), xe_4 309 2 (.newarray .int) 0 0 0 1159, xe_4 311 3 (.putfield 131) 12 23 6 6222, xe_0 314 1 (.aload_n 0), xe_0 315 2 (.bipush 17), xe_4 317 2 (.newarray .int) 0 0 0 1159, xe_4 319 3 (.putfield 134) 12 14 6 6223, xe_0 322 1 (.aload_n 0), xe_0 323 2 (.bipush 16), xe_4 325 2 (.newarray .int) 0 0 0 1159, xe_4 327 3 (.putfield 137) 12 55 6 6224, xe_0 330 1 (.aload_n 0), xe_0 331 2 (.bipush 16), xe_4 333 2 (.newarray .int) 0 0 0 1159, xe_4 335 3 (.putfield 140) 12 44 6 6225, xe_0 338 1 (.aload_n 0), xe_0 339 3 (.sipush 540), xe_4 342 2 (.newarray .int) 0 0 0 1159, xe_4 344 3 (.putfield 143) 12 19 6 6226, xe_0 347 1 (.aload_n 0), xe_0 348 2 (.bipush 21), xe_4 350 2 (.newarray .int) 0 0 0 1159, xe_4 352 3 (.putfield 146) 12 20 6 6235, xe_0 355 1 (.aload_n 0), xe_0 356 2 (.bipush 30), xe_4 358 2 (.newarray .int) 0 0 0 1159, xe_4 360 3 (.putfield 149) 12 31 6 6236, xe_0 363 1 (.aload_n 0), xe_0 364 2 (.bipush 30), xe_4 366 2 (.newarray .int) 0 0 0 1159, xe_4 368 3 (.putfield 152) 12 32 6 6237, xe_0 371 1 (.aload_n 0), xe_0 372 2 (.bipush 30), xe_4 374 2 (.newarray .int) 0 0 0 1159, xe_4 376 3 (.putfield 155) 12 33 6 6238, xe_0 379 1 (.aload_n 0), xe_0 380 2 (.bipush 30), xe_4 382 2 (.newarray .int) 0 0 0 1159, xe_4 384 3 (.putfield 158) 12 34 6 6239, xe_0 387 1 (.aload_n 0), xe_0 388 2 (.bipush 30), xe_4 390 2 (.newarray .int) 0 0 0 1159, xe_4 392 3 (.putfield 161) 12 30 6 7000, xe_0 395 1 (.aload_n 0), xe_0 396 2 (.bipush 63), xe_4 398 2 (.newarray .int) 0 0 0 1159, xe_4 400 3 (.putfield 164) 12 38 6 7003, xe_0 403 1 (.aload_n 0), xe_0 404 1 (.iconst 3), xe_4 405 2 (.newarray .boolean) 0 0 0 2153, xe_4 407 3 (.putfield 167) 12 36 6 7004, xe_0 410 1 (.aload_n 0), xe_4 411 3 (.invokevirtual 170) 105 0 12 6150, xe_0 414 1 (.aload_n 0), xe_4 415 3 (.invokevirtual 173) 123 0 12 6154, xe_0 418 1 .return_]
def xm_101 : xM := (⟨"GridLawsModel", "<init>", "()V"⟩, prog_14_method_1_code, 1, none, 51, 7954, 0, xt_101)
/-- GridLawsModel.sign(I)I -/
def xt_102 : List xE := [xe_0 0 1 (.iload_n 1), xe_0 1 1 (.aload_n 0), xe_4 2 3 (.getfield 176) 12 39 0 6164, xe_1 5 3 (.if_icmp .ge 16) 11, xe_d 8 1, xe_d 9 3, xe_d 12 1, xe_d 13 1, xe_d 14 3, xe_d 17 1, xe_d 18 3, xe_0 21 1 (.iconst 0), xe_0 22 1 .ireturn]
def xm_102 : xM := (⟨"GridLawsModel", "sign", "(I)I"⟩, prog_14_method_2_code, 2, (some .int), 0, 0, 1, xt_102)
/-- GridLawsModel.isGood()Z -/
def xt_103 : List xE := [xe_0 0 1 (.aload_n 0), xe_4 1 3 (.getfield 179) 12 40 0 6165, xe_1 4 3 (.ifCond .ne 7) 5, xe_0 7 1 (.iconst 1), xe_1 8 3 (.goto 4) 6, xe_d 11 1, xe_0 12 1 .ireturn]
def xm_103 : xM := (⟨"GridLawsModel", "isGood", "()Z"⟩, prog_14_method_6_code, 1, (some .boolean), 0, 0, 0, xt_103)
/-- GridLawsModel.goOn()V -/
def xt_104 : List xE := [xe_0 0 1 (.aload_n 0), xe_0 1 1 (.aload_n 0), xe_4 2 3 (.getfield 218) 12 37 0 6168, xe_4 5 3 (.putfield 221) 12 35 0 6167, xe_0 8 1 (.aload_n 0), xe_4 9 3 (.getfield 221) 12 35 0 6167, xe_0 12 1 (.aload_n 0), xe_4 13 3 (.getfield 176) 12 39 0 6164, xe_1 16 3 (.if_icmp .ge 42) 28, xe_d 19 1, xe_d 20 1, xe_d 21 3, xe_d 24 3, xe_d 27 2, xe_d 29 3, xe_d 32 1, xe_d 33 1, xe_d 34 3, xe_d 37 3, xe_d 40 2, xe_d 42 3, xe_d 45 1, xe_d 46 1, xe_d 47 3, xe_d 50 1, xe_d 51 1, xe_d 52 3, xe_d 55 3, xe_0 58 1 (.aload_n 0), xe_0 59 1 (.aload_n 0), xe_4 60 3 (.getfield 221) 12 35 0 6167, xe_4 63 3 (.invokevirtual 224) 102 0 12 7182, xe_0 66 1 (.istore_n 1), xe_0 67 1 (.aload_n 0), xe_0 68 1 (.aload_n 0), xe_4 69 3 (.getfield 221) 12 35 0 6167, xe_0 72 1 (.iconst 1), xe_0 73 1 .iadd, xe_4 74 3 (.putfield 218) 12 37 0 6168, xe_0 77 1 (.aload_n 0), xe_4 78 3 (.getfield 221) 12 35 0 6167, xe_0 81 1 (.aload_n 0), xe_4 82 3 (.getfield 176) 12 39 0 6164, xe_1 85 3 (.if_icmp .lt 27) 56, xe_0 88 1 (.aload_n 0), xe_0 89 1 (.iconst 0), xe_4 90 3 (.putfield 228) 12 57 0 6169, xe_0 93 1 (.aload_n 0), xe_0 94 1 (.aload_n 0), xe_4 95 3 (.getfield 176) 12 39 0 6164, xe_4 98 3 (.putfield 221) 12 35 0 6167, xe_0 101 1 (.aload_n 0), xe_0 102 1 (.aload_n 0), xe_4 103 3 (.getfield 176) 12 39 0 6164, xe_4 106 3 (.putfield 218) 12 37 0 6168, xe_1 109 3 (.goto 268) 190, xe_d 112 1, xe_d 113 3, xe_d 116 3, xe_d 119 1, xe_d 120 1, xe_d 121 3, xe_d 124 3, xe_d 127 3, xe_d 130 3, xe_d 133 1, xe_d 134 1, xe_d 135 3, xe_d 138 1, xe_d 139 1, xe_d 140 3, xe_d 143 3, xe_d 146 1, xe_d 147 1, xe_d 148 3, xe_d 151 1, xe_d 152 3, xe_d 155 1, xe_d 156 1, xe_d 157 1, xe_d 158 3, xe_d 161 3, xe_d 164 1, xe_d 165 1, xe_d 166 3, xe_d 169 2, xe_d 171 1, xe_d 172 3, xe_d 175 1, xe_d 176 1, xe_d 177 3, xe_d 180 2, xe_d 182 1, xe_d 183 1, xe_d 184 1, xe_d 185 3, xe_d 188 1, xe_d 189 1, xe_d 190 3, xe_d 193 3, xe_d 196 3, xe_d 199 1, xe_d 200 1, xe_d 201 3, xe_d 204 1, xe_d 205 3, xe_d 208 1, xe_d 209 2, xe_d 211 3, xe_d 214 1, xe_d 215 3, xe_d 218 1, xe_d 219 3, xe_d 222 3, xe_d 225 3, xe_d 228 1, xe_d 229 3, xe_d 232 1, xe_d 233 3, xe_d 236 3, xe_d 239 1, xe_d 240 3, xe_d 243 3, xe_d 246 1, xe_d 247 1, xe_d 248 3, xe_d 251 1, xe_d 252 1, xe_d 253 3, xe_d 256 3, xe_d 259 1, xe_d 260 1, xe_d 261 3, xe_d 264 3, xe_d 267 3, xe_d 270 3, xe_d 273 1, xe_d 274 3, xe_d 277 1, xe_d 278 3, xe_d 281 1, xe_d 282 1, xe_d 283 3, xe_d 286 1, xe_d 287 2, xe_d 289 1, xe_d 290 3, xe_d 293 1, xe_d 294 1, xe_d 295 1, xe_d 296 3, xe_d 299 3, xe_d 302 1, xe_d 303 2, xe_d 305 1, xe_d 306 3, xe_d 309 1, xe_d 310 1, xe_d 311 3, xe_d 314 1, xe_d 315 1, xe_d 316 3, xe_d 319 3, xe_d 322 1, xe_d 323 1, xe_d 324 3, xe_d 327 1, xe_d 328 3, xe_d 331 1, xe_d 332 1, xe_d 333 3, xe_d 336 1, xe_d 337 1, xe_d 338 3, xe_d 341 3, xe_d 344 3, xe_d 347 3, xe_d 350 1, xe_d 351 3, xe_d 354 1, xe_d 355 3, xe_d 358 3, xe_d 361 1, xe_d 362 1, xe_d 363 3, xe_d 366 3, xe_d 369 1, xe_d 370 3, xe_d 373 1, xe_d 374 3, xe_0 377 1 .return_]
def xm_104 : xM := (⟨"GridLawsModel", "goOn", "()V"⟩, prog_14_method_9_code, 3, none, 0, 0, 0, xt_104)
/-- GridLawsModel.clearBank()V -/
def xt_105 : List xE := [xe_0 0 1 (.aload_n 0), xe_4 1 3 (.getfield 20) 12 4 6 6172, xe_0 4 1 (.aload_n 0), xe_4 5 3 (.getfield 269) 12 22 0 6201, xe_0 8 1 (.iconst 3), xe_0 9 1 .iastore, xe_0 10 1 (.aload_n 0), xe_4 11 3 (.getfield 24) 12 1 6 6173, xe_0 14 1 (.aload_n 0), xe_4 15 3 (.getfield 269) 12 22 0 6201, xe_0 18 1 (.iconst 3), xe_0 19 1 .iastore, xe_0 20 1 (.aload_n 0), xe_4 21 3 (.getfield 27) 12 15 6 6174, xe_0 24 1 (.aload_n 0), xe_4 25 3 (.getfield 269) 12 22 0 6201, xe_0 28 1 (.iconst 0), xe_0 29 1 .iastore, xe_0 30 1 (.aload_n 0), xe_4 31 3 (.getfield 30) 12 18 6 6175, xe_0 34 1 (.aload_n 0), xe_4 35 3 (.getfield 269) 12 22 0 6201, xe_0 38 1 (.iconst 0), xe_0 39 1 .iastore, xe_0 40 1 (.aload_n 0), xe_4 41 3 (.getfield 33) 12 49 6 6176, xe_0 44 1 (.aload_n 0), xe_4 45 3 (.getfield 269) 12 22 0 6201, xe_0 48 1 (.iconst 0), xe_0 49 1 .iastore, xe_0 50 1 (.aload_n 0), xe_4 51 3 (.getfield 48) 12 43 6 6181, xe_0 54 1 (.aload_n 0), xe_4 55 3 (.getfield 269) 12 22 0 6201, xe_0 58 1 (.iconst 0), xe_0 59 1 .iastore, xe_0 60 1 (.aload_n 0), xe_4 61 3 (.getfield 36) 12 25 6 6177, xe_0 64 1 (.aload_n 0), xe_4 65 3 (.getfield 269) 12 22 0 6201, xe_0 68 1 (.iconst 0), xe_0 69 1 .iastore, xe_0 70 1 (.aload_n 0), xe_4 71 3 (.getfield 39) 12 26 6 6178, xe_0 74 1 (.aload_n 0), xe_4 75 3 (.getfield 269) 12 22 0 6201, xe_0 78 1 (.iconst 0), xe_0 79 1 .iastore, xe_0 80 1 (.aload_n 0), xe_4 81 3 (.getfield 42) 12 28 6 6179, xe_0 84 1 (.aload_n 0), xe_4 85 3 (.getfield 269) 12 22 0 6201, xe_0 88 1 (.iconst 0), xe_0 89 1 .iastore, xe_0 90 1 (.aload_n 0), xe_4 91 3 (.getfield 45) 12 50 6 6180, xe_0 94 1 (.aload_n 0), xe_4 95 3 (.getfield 269) 12 22 0 6201, xe_0 98 1 (.iconst 0), xe_0 99 1 .iastore, xe_0 100 1 (.aload_n 0), xe_4 101 3 (.getfield 81) 12 54 6 6192, xe_0 104 1 (.aload_n 0), xe_4 105 3 (.getfield 269) 12 22 0 6201, xe_0 108 1 (.iconst 0), xe_0 109 1 .bastore, xe_0 110 1 (.aload_n 0), xe_0 111 3 (.sipush 560), xe_0 114 1 (.aload_n 0), xe_4 115 3 (.getfield 269) 12 22 0 6201, xe_0 118 1 .imul, xe_4 119 3 (.putfield 272) 12 73 0 6202, xe_0 122 1 .return_]
def xm_105 : xM := (⟨"GridLawsModel", "clearBank", "()V"⟩, prog_14_method_16_code, 1, none, 0, 0, 0, xt_105)
/-- GridLawsModel.grid()I -/
def xt_106 : List xE := [xe_0 0 1 (.aload_n 0), xe_0 1 1 (.iconst 0), xe_4 2 3 (.putfield 179) 12 40 0 6165, xe_0 5 1 (.aload_n 0), xe_0 6 1 (.iconst (-1)), xe_4 7 3 (.putfield 16) 12 42 0 6166, xe_0 10 1 (.aload_n 0), xe_0 11 1 (.aload_n 0), xe_4 12 3 (.getfield 275) 12 21 0 6163, xe_4 15 3 (.putfield 176) 12 39 0 6164, xe_0 18 1 (.iconst 0), xe_0 19 1 (.istore_n 1), xe_0 20 1 (.iload_n 1), xe_0 21 1 (.aload_n 0), xe_4 22 3 (.getfield 176) 12 39 0 6164, xe_1 25 3 (.if_icmp .ge 21) 26, xe_d 28 1, xe_d 29 3, xe_d 32 1, xe_d 33 1, xe_d 34 3, xe_d 37 1, xe_d 38 1, xe_d 39 1, xe_d 40 3, xe_d 43 3, xe_0 46 1 (.aload_n 0), xe_0 47 1 (.iconst 0), xe_4 48 3 (.putfield 275) 12 21 0 6163, xe_0 51 1 (.aload_n 0), xe_0 52 1 (.iconst 0), xe_4 53 3 (.putfield 218) 12 37 0 6168, xe_0 56 1 (.aload_n 0), xe_0 57 1 (.iconst 1), xe_0 58 1 (.aload_n 0), xe_4 59 3 (.getfield 278) 12 0 0 6200, xe_0 62 1 .isub, xe_4 63 3 (.putfield 269) 12 22 0 6201, xe_0 66 1 (.aload_n 0), xe_4 67 3 (.invokevirtual 170) 105 0 12 6150, xe_0 70 1 (.aload_n 0), xe_4 71 3 (.invokevirtual 260) 104 0 12 7178, xe_0 74 1 (.aload_n 0), xe_4 75 3 (.invokevirtual 256) 103 0 12 7216, xe_1 78 3 (.ifCond .eq 17) 51, xe_0 81 1 (.aload_n 0), xe_4 82 3 (.getfield 228) 12 57 0 6169, xe_1 85 3 (.ifCond .eq 10) 51, xe_d 88 1, xe_d 89 3, xe_d 92 3, xe_0 95 1 (.aload_n 0), xe_4 96 3 (.invokevirtual 256) 103 0 12 7216, xe_1 99 3 (.ifCond .ne 5) 56, xe_d 102 1, xe_d 103 1, xe_0 104 1 (.aload_n 0), xe_0 105 1 (.aload_n 0), xe_4 106 3 (.getfield 269) 12 22 0 6201, xe_4 109 3 (.putfield 278) 12 0 0 6200, xe_0 112 1 (.aload_n 0), xe_4 113 3 (.invokevirtual 173) 123 0 12 6154, xe_0 116 1 (.aload_n 0), xe_4 117 3 (.getfield 30) 12 18 6 6175, xe_0 120 1 (.aload_n 0), xe_4 121 3 (.getfield 278) 12 0 0 6200, xe_0 124 1 .iaload, xe_0 125 1 .ireturn]
def xm_106 : xM := (⟨"GridLawsModel", "grid", "()I"⟩, prog_14_method_17_code, 2, (some .int), 0, 0, 0, xt_106)
/-- GridLawsModel.fault(I)I -/
def xt_107 : List xE := [xe_0 0 1 (.iload_n 1), xe_1 1 3 (.ifCond .ne 10) 5, xe_0 4 1 (.aload_n 0), xe_4 5 3 (.getfield 179) 12 40 0 6165, xe_1 8 3 (.goto 16) 12, xe_0 11 1 (.iload_n 1), xe_0 12 1 (.iconst 1), xe_1 13 3 (.if_icmp .ne 10) 11, xe_0 16 1 (.aload_n 0), xe_4 17 3 (.getfield 16) 12 42 0 6166, xe_1 20 3 (.goto 4) 12, xe_0 23 1 (.iconst (-1)), xe_0 24 1 .ireturn]
def xm_107 : xM := (⟨"GridLawsModel", "fault", "(I)I"⟩, prog_14_method_42_code, 2, (some .int), 0, 0, 1, xt_107)
/-- GridLawsModel.isIn(III)Z -/
def xt_108 : List xE := [xe_0 0 1 (.iload_n 0), xe_0 1 1 (.iload_n 1), xe_1 2 3 (.if_icmp .lt 12) 8, xe_0 5 1 (.iload_n 0), xe_0 6 1 (.iload_n 2), xe_1 7 3 (.if_icmp .gt 7) 8, xe_0 10 1 (.iconst 1), xe_1 11 3 (.goto 4) 9, xe_0 14 1 (.iconst 0), xe_0 15 1 .ireturn]
def xm_108 : xM := (⟨"GridLawsModel", "isIn", "(III)Z"⟩, prog_14_method_43_code, 3, (some .boolean), 0, 0, 3, xt_108)
/-- GridLawsModel.has(II)Z -/
def xt_109 : List xE := [xe_0 0 1 (.iload_n 0), xe_0 1 1 (.iload_n 1), xe_0 2 1 .ishr, xe_0 3 1 (.iconst 1), xe_0 4 1 .iand, xe_0 5 1 (.iconst 1), xe_1 6 3 (.if_icmp .ne 7) 9, xe_0 9 1 (.iconst 1), xe_1 10 3 (.goto 4) 10, xe_0 13 1 (.iconst 0), xe_0 14 1 .ireturn]
def xm_109 : xM := (⟨"GridLawsModel", "has", "(II)Z"⟩, prog_14_method_44_code, 2, (some .boolean), 0, 0, 2, xt_109)
/-- GridLawsModel.bitsOf(I)I -/
def xt_110 : List xE := [xe_0 0 1 (.iconst 0), xe_0 1 1 (.istore_n 1), xe_0 2 1 (.iload_n 0), xe_0 3 1 (.istore_n 2), xe_0 4 1 (.iload_n 2), xe_1 5 3 (.ifCond .eq 15) 14, xe_0 8 3 (.iinc 1 1), xe_0 11 1 (.iload_n 2), xe_0 12 1 (.iload_n 2), xe_0 13 1 (.iconst 1), xe_0 14 1 .isub, xe_0 15 1 .iand, xe_0 16 1 (.istore_n 2), xe_1 17 3 (.goto (-13)) 4, xe_0 20 1 (.iload_n 1), xe_0 21 1 .ireturn]
def xm_110 : xM := (⟨"GridLawsModel", "bitsOf", "(I)I"⟩, prog_14_method_45_code, 3, (some .int), 0, 0, 1, xt_110)
/-- GridLawsModel.width()I -/
def xt_111 : List xE := [xe_0 0 1 (.aload_n 0), xe_4 1 3 (.getfield 24) 12 1 6 6173, xe_0 4 1 (.aload_n 0), xe_4 5 3 (.getfield 278) 12 0 0 6200, xe_0 8 1 .iaload, xe_0 9 1 .ireturn]
def xm_111 : xM := (⟨"GridLawsModel", "width", "()I"⟩, prog_14_method_46_code, 1, (some .int), 0, 0, 0, xt_111)
/-- GridLawsModel.cells()I -/
def xt_112 : List xE := [xe_0 0 1 (.aload_n 0), xe_4 1 3 (.getfield 20) 12 4 6 6172, xe_0 4 1 (.aload_n 0), xe_4 5 3 (.getfield 278) 12 0 0 6200, xe_0 8 1 .iaload, xe_0 9 1 (.aload_n 0), xe_4 10 3 (.getfield 24) 12 1 6 6173, xe_0 13 1 (.aload_n 0), xe_4 14 3 (.getfield 278) 12 0 0 6200, xe_0 17 1 .iaload, xe_0 18 1 .imul, xe_0 19 1 .ireturn]
def xm_112 : xM := (⟨"GridLawsModel", "cells", "()I"⟩, prog_14_method_47_code, 1, (some .int), 0, 0, 0, xt_112)
/-- GridLawsModel.many()I -/
def xt_113 : List xE := [xe_0 0 1 (.aload_n 0), xe_4 1 3 (.getfield 30) 12 18 6 6175, xe_0 4 1 (.aload_n 0), xe_4 5 3 (.getfield 278) 12 0 0 6200, xe_0 8 1 .iaload, xe_0 9 1 .ireturn]
def xm_113 : xM := (⟨"GridLawsModel", "many", "()I"⟩, prog_14_method_48_code, 1, (some .int), 0, 0, 0, xt_113)
/-- GridLawsModel.isAct(I)Z -/
def xt_114 : List xE := [xe_0 0 1 (.iload_n 1), xe_0 1 1 (.iconst 0), xe_0 2 1 (.aload_n 0), xe_4 3 3 (.invokevirtual 394) 113 0 12 8135, xe_0 6 1 (.iconst 1), xe_0 7 1 .isub, xe_4 8 3 (.invokestatic 397) 108 0 12 8104, xe_0 11 1 .ireturn]
def xm_114 : xM := (⟨"GridLawsModel", "isAct", "(I)Z"⟩, prog_14_method_49_code, 2, (some .boolean), 0, 0, 1, xt_114)
/-- GridLawsModel.isParty(I)Z -/
def xt_115 : List xE := [xe_0 0 1 (.iload_n 1), xe_0 1 1 (.iconst 0), xe_0 2 1 (.aload_n 0), xe_4 3 3 (.getfield 27) 12 15 6 6174, xe_0 6 1 (.aload_n 0), xe_4 7 3 (.getfield 278) 12 0 0 6200, xe_0 10 1 .iaload, xe_0 11 1 (.iconst 1), xe_0 12 1 .isub, xe_4 13 3 (.invokestatic 397) 108 0 12 8104, xe_0 16 1 .ireturn]
def xm_115 : xM := (⟨"GridLawsModel", "isParty", "(I)Z"⟩, prog_14_method_50_code, 2, (some .boolean), 0, 0, 1, xt_115)
/-- GridLawsModel.stepOf(I)I -/
def xt_116 : List xE := [xe_0 0 1 (.aload_n 0), xe_4 1 3 (.getfield 122) 12 3 6 6216, xe_0 4 1 (.iload_n 1), xe_0 5 1 .baload, xe_1 6 3 (.ifCond .eq 7) 7, xe_0 9 1 (.iconst 1), xe_1 10 3 (.goto 7) 9, xe_0 13 1 (.aload_n 0), xe_4 14 3 (.invokevirtual 401) 111 0 12 8115, xe_0 17 1 .ireturn]
def xm_116 : xM := (⟨"GridLawsModel", "stepOf", "(I)I"⟩, prog_14_method_51_code, 2, (some .int), 0, 0, 1, xt_116)
/-- GridLawsModel.addSlot(IIZ)V -/
def xt_117 : List xE := [xe_0 0 1 (.iload_n 2), xe_0 1 1 (.iconst 2), xe_1 2 3 (.if_icmp .ge 4) 4, xe_0 5 1 .return_, xe_0 6 1 (.aload_n 0), xe_4 7 3 (.getfield 110) 12 7 6 6212, xe_0 10 1 (.aload_n 0), xe_4 11 3 (.getfield 404) 12 2 0 6217, xe_0 14 1 (.iload_n 1), xe_0 15 1 .iastore, xe_0 16 1 (.aload_n 0), xe_4 17 3 (.getfield 113) 12 6 6 6213, xe_0 20 1 (.aload_n 0), xe_4 21 3 (.getfield 404) 12 2 0 6217, xe_0 24 1 (.iload_n 2), xe_0 25 1 .iastore, xe_0 26 1 (.aload_n 0), xe_4 27 3 (.getfield 122) 12 3 6 6216, xe_0 30 1 (.aload_n 0), xe_4 31 3 (.getfield 404) 12 2 0 6217, xe_0 34 1 (.iload_n 3), xe_0 35 1 .bastore, xe_0 36 1 (.aload_n 0), xe_4 37 3 (.getfield 119) 12 5 6 6215, xe_0 40 1 (.aload_n 0), xe_4 41 3 (.getfield 404) 12 2 0 6217, xe_0 44 1 (.iconst 0), xe_0 45 1 .iastore, xe_0 46 1 (.iconst 0), xe_0 47 2 (.istore 4), xe_0 49 2 (.iload 4), xe_0 51 1 (.iload_n 2), xe_1 52 3 (.if_icmp .ge 40) 55, xe_0 55 1 (.aload_n 0), xe_4 56 3 (.getfield 119) 12 5 6 6215, xe_0 59 1 (.aload_n 0), xe_4 60 3 (.getfield 404) 12 2 0 6217, xe_0 63 1 .dup2, xe_0 64 1 .iaload, xe_0 65 1 (.iconst 1), xe_0 66 1 (.iload_n 1), xe_0 67 2 (.iload 4), xe_0 69 1 (.iload_n 3), xe_1 70 3 (.ifCond .eq 7) 46, xe_0 73 1 (.iconst 1), xe_1 74 3 (.goto 7) 48, xe_0 77 1 (.aload_n 0), xe_4 78 3 (.invokevirtual 401) 111 0 12 8115, xe_0 81 1 .imul, xe_0 82 1 .iadd, xe_0 83 1 .ishl, xe_0 84 1 .ior, xe_0 85 1 .iastore, xe_0 86 3 (.iinc 4 1), xe_1 89 3 (.goto (-40)) 30, xe_0 92 1 (.aload_n 0), xe_0 93 1 .dup, xe_4 94 3 (.getfield 404) 12 2 0 6217, xe_0 97 1 (.iconst 1), xe_0 98 1 .iadd, xe_4 99 3 (.putfield 404) 12 2 0 6217, xe_0 102 1 .return_]
def xm_117 : xM := (⟨"GridLawsModel", "addSlot", "(IIZ)V"⟩, prog_14_method_52_code, 5, none, 0, 0, 3, xt_117)
/-- GridLawsModel.laySlots()V -/
def xt_118 : List xE := [xe_0 0 1 (.aload_n 0), xe_0 1 1 (.iconst 0), xe_4 2 3 (.putfield 404) 12 2 0 6217, xe_0 5 1 (.iconst 0), xe_0 6 1 (.istore_n 1), xe_0 7 1 (.iload_n 1), xe_0 8 1 (.aload_n 0), xe_4 9 3 (.invokevirtual 407) 112 0 12 8100, xe_1 12 3 (.if_icmp .ge 95) 62, xe_0 15 1 (.aload_n 0), xe_4 16 3 (.getfield 107) 12 8 6 6211, xe_0 19 1 (.iload_n 1), xe_0 20 1 .iaload, xe_0 21 2 (.bipush 27), xe_1 23 3 (.if_icmp .eq 29) 30, xe_0 26 1 (.iload_n 1), xe_0 27 1 (.aload_n 0), xe_4 28 3 (.invokevirtual 401) 111 0 12 8115, xe_0 31 1 .irem, xe_1 32 3 (.ifCond .eq 16) 28, xe_0 35 1 (.aload_n 0), xe_4 36 3 (.getfield 107) 12 8 6 6211, xe_0 39 1 (.iload_n 1), xe_0 40 1 (.iconst 1), xe_0 41 1 .isub, xe_0 42 1 .iaload, xe_0 43 2 (.bipush 27), xe_1 45 3 (.if_icmp .ne 7) 30, xe_0 48 1 (.iconst 1), xe_1 49 3 (.goto 4) 31, xe_0 52 1 (.iconst 0), xe_0 53 1 (.istore_n 2), xe_0 54 1 (.iconst 0), xe_0 55 1 (.istore_n 3), xe_0 56 1 (.iload_n 2), xe_1 57 3 (.ifCond .eq 37) 55, xe_0 60 1 (.iload_n 1), xe_0 61 1 (.aload_n 0), xe_4 62 3 (.invokevirtual 401) 111 0 12 8115, xe_0 65 1 .irem, xe_0 66 1 (.iload_n 3), xe_0 67 1 .iadd, xe_0 68 1 (.aload_n 0), xe_4 69 3 (.invokevirtual 401) 111 0 12 8115, xe_1 72 3 (.if_icmp .ge 22) 55, xe_0 75 1 (.aload_n 0), xe_4 76 3 (.getfield 107) 12 8 6 6211, xe_0 79 1 (.iload_n 1), xe_0 80 1 (.iload_n 3), xe_0 81 1 .iadd, xe_0 82 1 .iaload, xe_0 83 2 (.bipush 27), xe_1 85 3 (.if_icmp .eq 9) 55, xe_0 88 3 (.iinc 3 1), xe_1 91 3 (.goto (-35)) 34, xe_0 94 1 (.aload_n 0), xe_0 95 1 (.iload_n 1), xe_0 96 1 (.iload_n 3), xe_0 97 1 (.iconst 1), xe_4 98 3 (.invokevirtual 410) 117 0 12 8119, xe_0 101 3 (.iinc 1 1), xe_1 104 3 (.goto (-97)) 5, xe_0 107 1 (.iconst 0), xe_0 108 1 (.istore_n 1), xe_0 109 1 (.iload_n 1), xe_0 110 1 (.aload_n 0), xe_4 111 3 (.invokevirtual 407) 112 0 12 8100, xe_1 114 3 (.if_icmp .ge 102) 124, xe_0 117 1 (.aload_n 0), xe_4 118 3 (.getfield 107) 12 8 6 6211, xe_0 121 1 (.iload_n 1), xe_0 122 1 .iaload, xe_0 123 2 (.bipush 27), xe_1 125 3 (.if_icmp .eq 31) 89, xe_0 128 1 (.iload_n 1), xe_0 129 1 (.aload_n 0), xe_4 130 3 (.invokevirtual 401) 111 0 12 8115, xe_1 133 3 (.if_icmp .lt 19) 87, xe_0 136 1 (.aload_n 0), xe_4 137 3 (.getfield 107) 12 8 6 6211, xe_0 140 1 (.iload_n 1), xe_0 141 1 (.aload_n 0), xe_4 142 3 (.invokevirtual 401) 111 0 12 8115, xe_0 145 1 .isub, xe_0 146 1 .iaload, xe_0 147 2 (.bipush 27), xe_1 149 3 (.if_icmp .ne 7) 89, xe_0 152 1 (.iconst 1), xe_1 153 3 (.goto 4) 90, xe_0 156 1 (.iconst 0), xe_0 157 1 (.istore_n 2), xe_0 158 1 (.iconst 0), xe_0 159 1 (.istore_n 3), xe_0 160 1 (.iload_n 2), xe_1 161 3 (.ifCond .eq 42) 117, xe_0 164 1 (.iload_n 1), xe_0 165 1 (.iload_n 3), xe_0 166 1 (.aload_n 0), xe_4 167 3 (.invokevirtual 401) 111 0 12 8115, xe_0 170 1 .imul, xe_0 171 1 .iadd, xe_0 172 1 (.aload_n 0), xe_4 173 3 (.invokevirtual 407) 112 0 12 8100, xe_1 176 3 (.if_icmp .ge 27) 117, xe_0 179 1 (.aload_n 0), xe_4 180 3 (.getfield 107) 12 8 6 6211, xe_0 183 1 (.iload_n 1), xe_0 184 1 (.iload_n 3), xe_0 185 1 (.aload_n 0), xe_4 186 3 (.invokevirtual 401) 111 0 12 8115, xe_0 189 1 .imul, xe_0 190 1 .iadd, xe_0 191 1 .iaload, xe_0 192 2 (.bipush 27), xe_1 194 3 (.if_icmp .eq 9) 117, xe_0 197 3 (.iinc 3 1), xe_1 200 3 (.goto (-40)) 93, xe_0 203 1 (.aload_n 0), xe_0 204 1 (.iload_n 1), xe_0 205 1 (.iload_n 3), xe_0 206 1 (.iconst 0), xe_4 207 3 (.invokevirtual 410) 117 0 12 8119, xe_0 210 3 (.iinc 1 1), xe_1 213 3 (.goto (-104)) 64, xe_0 216 1 (.aload_n 0), xe_4 217 3 (.invokevirtual 414) 120 0 12 8123, xe_0 220 1 .return_]
def xm_118 : xM := (⟨"GridLawsModel", "laySlots", "()V"⟩, prog_14_method_53_code, 4, none, 0, 0, 0, xt_118)
/-- GridLawsModel.blankIn(I)I -/
def xt_119 : List xE := [xe_0 0 1 (.iconst 0), xe_0 1 1 (.istore_n 2), xe_0 2 1 (.iconst 0), xe_0 3 1 (.istore_n 3), xe_0 4 1 (.iload_n 3), xe_0 5 1 (.aload_n 0), xe_4 6 3 (.getfield 113) 12 6 6 6213, xe_0 9 1 (.iload_n 1), xe_0 10 1 .iaload, xe_1 11 3 (.if_icmp .ge 39) 32, xe_0 14 1 (.iload_n 2), xe_0 15 1 (.aload_n 0), xe_4 16 3 (.getfield 107) 12 8 6 6211, xe_0 19 1 (.aload_n 0), xe_4 20 3 (.getfield 110) 12 7 6 6212, xe_0 23 1 (.iload_n 1), xe_0 24 1 .iaload, xe_0 25 1 (.iload_n 3), xe_0 26 1 (.aload_n 0), xe_0 27 1 (.iload_n 1), xe_4 28 3 (.invokevirtual 420) 116 0 12 8131, xe_0 31 1 .imul, xe_0 32 1 .iadd, xe_0 33 1 .iaload, xe_1 34 3 (.ifCond .ne 7) 27, xe_0 37 1 (.iconst 1), xe_1 38 3 (.goto 4) 28, xe_d 41 1, xe_0 42 1 .iadd, xe_0 43 1 (.istore_n 2), xe_0 44 3 (.iinc 3 1), xe_1 47 3 (.goto (-43)) 4, xe_0 50 1 (.iload_n 2), xe_0 51 1 .ireturn]
def xm_119 : xM := (⟨"GridLawsModel", "blankIn", "(I)I"⟩, prog_14_method_57_code, 4, (some .int), 0, 0, 1, xt_119)
/-- GridLawsModel.layActs()V -/
def xt_120 : List xE := [xe_0 0 1 (.iconst 0), xe_0 1 1 (.istore_n 1), xe_0 2 1 (.iload_n 1), xe_0 3 1 (.aload_n 0), xe_4 4 3 (.getfield 404) 12 2 0 6217, xe_1 7 3 (.if_icmp .ge 59) 36, xe_0 10 1 (.aload_n 0), xe_4 11 3 (.getfield 116) 12 9 6 6214, xe_0 14 1 (.iload_n 1), xe_0 15 1 (.iconst (-1)), xe_0 16 1 .iastore, xe_0 17 1 (.aload_n 0), xe_0 18 1 (.iload_n 1), xe_4 19 3 (.invokevirtual 426) 119 0 12 8127, xe_1 22 3 (.ifCond .le 6) 16, xe_1 25 3 (.goto 35) 34, xe_d 28 1, xe_d 29 1, xe_d 30 1, xe_d 31 1, xe_d 32 3, xe_d 35 3, xe_d 38 1, xe_d 39 1, xe_d 40 1, xe_d 41 3, xe_d 44 3, xe_d 47 1, xe_d 48 3, xe_d 51 1, xe_d 52 1, xe_d 53 1, xe_d 54 3, xe_d 57 3, xe_0 60 3 (.iinc 1 1), xe_1 63 3 (.goto (-61)) 2, xe_0 66 1 .return_]
def xm_120 : xM := (⟨"GridLawsModel", "layActs", "()V"⟩, prog_14_method_58_code, 3, none, 0, 0, 0, xt_120)
/-- GridLawsModel.inForce()I -/
def xt_121 : List xE := [xe_0 0 1 (.iconst 0), xe_0 1 1 (.istore_n 1), xe_0 2 1 (.iconst 0), xe_0 3 1 (.istore_n 2), xe_0 4 1 (.iload_n 2), xe_0 5 1 (.aload_n 0), xe_4 6 3 (.getfield 404) 12 2 0 6217, xe_1 9 3 (.if_icmp .ge 29) 24, xe_0 12 1 (.aload_n 0), xe_4 13 3 (.getfield 116) 12 9 6 6214, xe_0 16 1 (.iload_n 2), xe_0 17 1 .iaload, xe_1 18 3 (.ifCond .lt 14) 22, xe_d 21 1, xe_d 22 1, xe_d 23 1, xe_d 24 3, xe_d 27 1, xe_d 28 1, xe_d 29 1, xe_d 30 1, xe_d 31 1, xe_0 32 3 (.iinc 2 1), xe_1 35 3 (.goto (-31)) 4, xe_0 38 1 (.iload_n 1), xe_0 39 1 .ireturn]
def xm_121 : xM := (⟨"GridLawsModel", "inForce", "()I"⟩, prog_14_method_59_code, 3, (some .int), 0, 0, 0, xt_121)
/-- GridLawsModel.meetsOf(I)I -/
def xt_122 : List xE := [xe_0 0 1 (.iconst 0), xe_0 1 1 (.istore_n 2), xe_0 2 1 (.iconst 0), xe_0 3 1 (.istore_n 3), xe_0 4 1 (.iload_n 3), xe_0 5 1 (.aload_n 0), xe_4 6 3 (.getfield 404) 12 2 0 6217, xe_1 9 3 (.if_icmp .ge 33) 26, xe_0 12 1 (.aload_n 0), xe_4 13 3 (.getfield 122) 12 3 6 6216, xe_0 16 1 (.iload_n 3), xe_0 17 1 .baload, xe_0 18 1 (.aload_n 0), xe_4 19 3 (.getfield 122) 12 3 6 6216, xe_0 22 1 (.iload_n 1), xe_0 23 1 .baload, xe_1 24 3 (.if_icmp .eq 12) 24, xe_0 27 1 (.iload_n 2), xe_0 28 1 (.aload_n 0), xe_4 29 3 (.getfield 119) 12 5 6 6215, xe_0 32 1 (.iload_n 3), xe_0 33 1 .iaload, xe_0 34 1 .ior, xe_0 35 1 (.istore_n 2), xe_0 36 3 (.iinc 3 1), xe_1 39 3 (.goto (-35)) 4, xe_0 42 1 (.iload_n 2), xe_0 43 1 (.aload_n 0), xe_4 44 3 (.getfield 119) 12 5 6 6215, xe_0 47 1 (.iload_n 1), xe_0 48 1 .iaload, xe_0 49 1 .iand, xe_4 50 3 (.invokestatic 433) 110 0 12 8166, xe_0 53 1 .ireturn]
def xm_122 : xM := (⟨"GridLawsModel", "meetsOf", "(I)I"⟩, prog_14_method_60_code, 4, (some .int), 0, 0, 1, xt_122)
/-- GridLawsModel.startAnew()V -/
def xt_123 : List xE := [xe_0 0 1 (.iconst 0), xe_0 1 1 (.istore_n 1), xe_0 2 1 (.iload_n 1), xe_0 3 2 (.bipush 21), xe_1 5 3 (.if_icmp .ge 16) 12, xe_0 8 1 (.aload_n 0), xe_4 9 3 (.getfield 107) 12 8 6 6211, xe_0 12 1 (.iload_n 1), xe_0 13 1 (.iconst 0), xe_0 14 1 .iastore, xe_0 15 3 (.iinc 1 1), xe_1 18 3 (.goto (-16)) 2, xe_0 21 1 (.iconst 0), xe_0 22 1 (.istore_n 1), xe_0 23 1 (.iload_n 1), xe_0 24 2 (.bipush 20), xe_1 26 3 (.if_icmp .ge 33) 32, xe_0 29 1 (.aload_n 0), xe_4 30 3 (.getfield 48) 12 43 6 6181, xe_0 33 1 (.aload_n 0), xe_4 34 3 (.getfield 278) 12 0 0 6200, xe_0 37 1 .iaload, xe_0 38 1 (.iload_n 1), xe_4 39 3 (.invokestatic 451) 109 0 12 6158, xe_1 42 3 (.ifCond .eq 11) 30, xe_d 45 1, xe_d 46 3, xe_d 49 1, xe_d 50 2, xe_d 52 1, xe_0 53 3 (.iinc 1 1), xe_1 56 3 (.goto (-33)) 14, xe_0 59 1 (.aload_n 0), xe_0 60 1 (.iconst 0), xe_4 61 3 (.putfield 454) 12 12 0 6219, xe_0 64 1 (.aload_n 0), xe_0 65 1 (.iconst 0), xe_4 66 3 (.putfield 457) 12 27 0 6220, xe_0 69 1 (.aload_n 0), xe_0 70 1 (.iconst 0), xe_4 71 3 (.putfield 460) 12 10 0 7001, xe_0 74 1 (.aload_n 0), xe_0 75 1 (.iconst 0), xe_4 76 3 (.putfield 463) 12 29 0 6227, xe_0 79 1 (.iconst 0), xe_0 80 1 (.istore_n 1), xe_0 81 1 (.iload_n 1), xe_0 82 1 (.iconst 3), xe_1 83 3 (.if_icmp .ge 16) 56, xe_0 86 1 (.aload_n 0), xe_4 87 3 (.getfield 167) 12 36 6 7004, xe_0 90 1 (.iload_n 1), xe_0 91 1 (.iconst 0), xe_0 92 1 .bastore, xe_0 93 3 (.iinc 1 1), xe_1 96 3 (.goto (-15)) 46, xe_0 99 1 .return_]
def xm_123 : xM := (⟨"GridLawsModel", "startAnew", "()V"⟩, prog_14_method_65_code, 2, none, 0, 0, 0, xt_123)
/-- GridLawsModel.square(I)I -/
def xt_124 : List xE := [xe_0 0 1 (.iload_n 1), xe_0 1 1 (.iconst 0), xe_0 2 1 (.aload_n 0), xe_4 3 3 (.invokevirtual 407) 112 0 12 8100, xe_0 6 1 (.iconst 1), xe_0 7 1 .isub, xe_4 8 3 (.invokestatic 397) 108 0 12 8104, xe_1 11 3 (.ifCond .eq 12) 13, xe_0 14 1 (.aload_n 0), xe_4 15 3 (.getfield 107) 12 8 6 6211, xe_0 18 1 (.iload_n 1), xe_0 19 1 .iaload, xe_1 20 3 (.goto 4) 14, xe_0 23 1 (.iconst (-1)), xe_0 24 1 .ireturn]
def xm_124 : xM := (⟨"GridLawsModel", "square", "(I)I"⟩, prog_14_method_66_code, 2, (some .int), 0, 0, 1, xt_124)
/-- GridLawsModel.slots()I -/
def xt_125 : List xE := [xe_0 0 1 (.aload_n 0), xe_4 1 3 (.invokevirtual 466) 118 0 12 8111, xe_0 4 1 (.aload_n 0), xe_4 5 3 (.getfield 404) 12 2 0 6217, xe_0 8 1 .ireturn]
def xm_125 : xM := (⟨"GridLawsModel", "slots", "()I"⟩, prog_14_method_67_code, 1, (some .int), 0, 0, 0, xt_125)
/-- GridLawsModel.slot(II)I -/
def xt_126 : List xE := [xe_0 0 1 (.aload_n 0), xe_4 1 3 (.invokevirtual 466) 118 0 12 8111, xe_0 4 1 (.iload_n 1), xe_0 5 1 (.iconst 0), xe_0 6 1 (.aload_n 0), xe_4 7 3 (.getfield 404) 12 2 0 6217, xe_0 10 1 (.iconst 1), xe_0 11 1 .isub, xe_4 12 3 (.invokestatic 397) 108 0 12 8104, xe_1 15 3 (.ifCond .ne 5) 12, xe_0 18 1 (.iconst (-1)), xe_0 19 1 .ireturn, xe_0 20 1 (.iload_n 2), xe_4 21 43 (.tableswitch 116 0 6 #[43, 50, 57, 72, 79, 104, 110]) 61 4516069337082492381756539469838 0 0, xe_0 64 1 (.aload_n 0), xe_4 65 3 (.getfield 110) 12 7 6 6212, xe_0 68 1 (.iload_n 1), xe_0 69 1 .iaload, xe_0 70 1 .ireturn, xe_0 71 1 (.aload_n 0), xe_4 72 3 (.getfield 113) 12 6 6 6213, xe_0 75 1 (.iload_n 1), xe_0 76 1 .iaload, xe_0 77 1 .ireturn, xe_0 78 1 (.aload_n 0), xe_4 79 3 (.getfield 122) 12 3 6 6216, xe_0 82 1 (.iload_n 1), xe_0 83 1 .baload, xe_1 84 3 (.ifCond .eq 7) 31, xe_0 87 1 (.iconst 1), xe_1 88 3 (.goto 4) 32, xe_0 91 1 (.iconst 0), xe_0 92 1 .ireturn, xe_0 93 1 (.aload_n 0), xe_4 94 3 (.getfield 116) 12 9 6 6214, xe_0 97 1 (.iload_n 1), xe_0 98 1 .iaload, xe_0 99 1 .ireturn, xe_0 100 1 (.aload_n 0), xe_4 101 3 (.getfield 116) 12 9 6 6214, xe_0 104 1 (.iload_n 1), xe_0 105 1 .iaload, xe_1 106 3 (.ifCond .ge 7) 45, xe_0 109 1 (.iconst 0), xe_1 110 3 (.goto 14) 52, xe_d 113 1, xe_d 114 1, xe_d 115 1, xe_d 116 3, xe_d 119 1, xe_d 120 1, xe_d 121 3, xe_0 124 1 .ireturn, xe_0 125 1 (.aload_n 0), xe_0 126 1 (.iload_n 1), xe_4 127 3 (.invokevirtual 439) 122 0 12 8162, xe_0 130 1 .ireturn, xe_0 131 1 (.aload_n 0), xe_0 132 1 (.iload_n 1), xe_4 133 3 (.invokevirtual 426) 119 0 12 8127, xe_0 136 1 .ireturn, xe_0 137 1 (.iconst (-1)), xe_0 138 1 .ireturn]
def xm_126 : xM := (⟨"GridLawsModel", "slot", "(II)I"⟩, prog_14_method_68_code, 3, (some .int), 0, 0, 2, xt_126)
/-- GridLawsModel.fits(I)I -/
def xt_127 : List xE := [xe_0 0 1 (.aload_n 0), xe_4 1 3 (.invokevirtual 466) 118 0 12 8111, xe_0 4 1 (.iload_n 1), xe_0 5 1 (.iconst 0), xe_0 6 1 (.aload_n 0), xe_4 7 3 (.getfield 404) 12 2 0 6217, xe_0 10 1 (.iconst 1), xe_0 11 1 .isub, xe_4 12 3 (.invokestatic 397) 108 0 12 8104, xe_1 15 3 (.ifCond .ne 5) 12, xe_0 18 1 (.iconst (-1)), xe_0 19 1 .ireturn, xe_0 20 1 (.iconst 0), xe_0 21 1 (.istore_n 2), xe_0 22 1 (.iconst 0), xe_0 23 1 (.istore_n 3), xe_0 24 1 (.iload_n 3), xe_0 25 1 (.aload_n 0), xe_4 26 3 (.invokevirtual 394) 113 0 12 8135, xe_1 29 3 (.if_icmp .ge 24) 33, xe_d 32 1, xe_d 33 1, xe_d 34 1, xe_d 35 3, xe_d 38 3, xe_d 41 1, xe_d 42 1, xe_d 43 1, xe_d 44 1, xe_d 45 1, xe_d 46 1, xe_d 47 3, xe_d 50 3, xe_0 53 1 (.iload_n 2), xe_0 54 1 .ireturn]
def xm_127 : xM := (⟨"GridLawsModel", "fits", "(I)I"⟩, prog_14_method_69_code, 4, (some .int), 0, 0, 1, xt_127)
/-- GridLawsModel.places(I)I -/
def xt_128 : List xE := [xe_0 0 1 (.aload_n 0), xe_0 1 1 (.iload_n 1), xe_4 2 3 (.invokevirtual 469) 114 0 12 8188, xe_1 5 3 (.ifCond .ne 5) 6, xe_0 8 1 (.iconst (-1)), xe_0 9 1 .ireturn, xe_d 10 1, xe_d 11 3, xe_d 14 1, xe_d 15 1, xe_d 16 1, xe_d 17 1, xe_d 18 1, xe_d 19 1, xe_d 20 3, xe_d 23 3, xe_d 26 1, xe_d 27 1, xe_d 28 1, xe_d 29 3, xe_d 32 3, xe_d 35 1, xe_d 36 1, xe_d 37 1, xe_d 38 1, xe_d 39 1, xe_d 40 1, xe_d 41 3, xe_d 44 3, xe_d 47 1, xe_d 48 1]
def xm_128 : xM := (⟨"GridLawsModel", "places", "(I)I"⟩, prog_14_method_70_code, 4, (some .int), 0, 0, 1, xt_128)
/-- GridLawsModel.wants(II)I -/
def xt_129 : List xE := [xe_0 0 1 (.aload_n 0), xe_0 1 1 (.iload_n 1), xe_4 2 3 (.invokevirtual 472) 115 0 12 8196, xe_1 5 3 (.ifCond .eq 20) 13, xe_d 8 1, xe_d 9 1, xe_d 10 3, xe_d 13 3, xe_d 16 1, xe_d 17 1, xe_d 18 1, xe_d 19 3, xe_d 22 3, xe_4 25 3 (.ldc_w 475) 0 4293967296 0 8204, xe_0 28 1 .ireturn]
def xm_129 : xM := (⟨"GridLawsModel", "wants", "(II)I"⟩, prog_14_method_71_code, 3, (some .int), 0, 0, 2, xt_129)
/-- GridLawsModel.keepAct()V -/
def xt_130 : List xE := [xe_0 0 1 (.aload_n 0), xe_4 1 3 (.getfield 454) 12 12 0 6219, xe_0 4 2 (.bipush 40), xe_1 6 3 (.if_icmp .ne 43) 27, xe_d 9 1, xe_d 10 1, xe_d 11 1, xe_d 12 3, xe_d 15 3, xe_d 18 1, xe_d 19 3, xe_d 22 1, xe_d 23 1, xe_d 24 3, xe_d 27 1, xe_d 28 2, xe_d 30 1, xe_d 31 1, xe_d 32 1, xe_d 33 3, xe_d 36 3, xe_d 39 1, xe_d 40 1, xe_d 41 3, xe_d 44 1, xe_d 45 1, xe_d 46 3, xe_0 49 1 (.iconst 0), xe_0 50 1 (.istore_n 1), xe_0 51 1 (.iload_n 1), xe_0 52 2 (.bipush 21), xe_1 54 3 (.if_icmp .ge 29) 47, xe_0 57 1 (.aload_n 0), xe_4 58 3 (.getfield 125) 12 17 6 6218, xe_0 61 2 (.bipush 21), xe_0 63 1 (.aload_n 0), xe_4 64 3 (.getfield 454) 12 12 0 6219, xe_0 67 1 .imul, xe_0 68 1 (.iload_n 1), xe_0 69 1 .iadd, xe_0 70 1 (.aload_n 0), xe_4 71 3 (.getfield 107) 12 8 6 6211, xe_0 74 1 (.iload_n 1), xe_0 75 1 .iaload, xe_0 76 1 .iastore, xe_0 77 3 (.iinc 1 1), xe_1 80 3 (.goto (-29)) 29, xe_0 83 1 (.aload_n 0), xe_0 84 1 .dup, xe_4 85 3 (.getfield 454) 12 12 0 6219, xe_0 88 1 (.iconst 1), xe_0 89 1 .iadd, xe_4 90 3 (.putfield 454) 12 12 0 6219, xe_0 93 1 (.aload_n 0), xe_0 94 1 (.iconst 0), xe_4 95 3 (.putfield 457) 12 27 0 6220, xe_0 98 1 .return_]
def xm_130 : xM := (⟨"GridLawsModel", "keepAct", "()V"⟩, prog_14_method_72_code, 2, none, 0, 0, 0, xt_130)
/-- GridLawsModel.write(II)I -/
def xt_131 : List xE := [xe_0 0 1 (.aload_n 0), xe_4 1 3 (.invokevirtual 466) 118 0 12 8111, xe_0 4 1 (.aload_n 0), xe_0 5 1 (.iload_n 1), xe_4 6 3 (.invokevirtual 469) 114 0 12 8188, xe_1 9 3 (.ifCond .eq 37) 24, xe_d 12 1, xe_d 13 1, xe_d 14 1, xe_d 15 3, xe_d 18 1, xe_d 19 1, xe_d 20 3, xe_d 23 3, xe_d 26 1, xe_d 27 3, xe_d 30 1, xe_d 31 3, xe_d 34 3, xe_d 37 1, xe_d 38 1, xe_d 39 1, xe_d 40 3, xe_d 43 3, xe_0 46 1 (.iconst (-1)), xe_0 47 1 .ireturn, xe_d 48 1, xe_d 49 3, xe_d 52 1, xe_d 53 1, xe_d 54 1, xe_d 55 3, xe_d 58 3, xe_d 61 1]
def xm_131 : xM := (⟨"GridLawsModel", "write", "(II)I"⟩, prog_14_method_76_code, 3, (some .int), 0, 0, 2, xt_131)
/-- GridLawsModel.strike(I)I -/
def xt_132 : List xE := [xe_0 0 1 (.iload_n 1), xe_0 1 1 (.iconst 0), xe_0 2 1 (.aload_n 0), xe_4 3 3 (.invokevirtual 407) 112 0 12 8100, xe_0 6 1 (.iconst 1), xe_0 7 1 .isub, xe_4 8 3 (.invokestatic 397) 108 0 12 8104, xe_1 11 3 (.ifCond .eq 18) 16, xe_0 14 1 (.aload_n 0), xe_4 15 3 (.getfield 107) 12 8 6 6211, xe_0 18 1 (.iload_n 1), xe_0 19 1 .iaload, xe_0 20 1 (.iconst 1), xe_0 21 2 (.bipush 26), xe_4 23 3 (.invokestatic 397) 108 0 12 8104, xe_1 26 3 (.ifCond .ne 5) 18, xe_0 29 1 (.iconst (-1)), xe_0 30 1 .ireturn, xe_d 31 1, xe_d 32 3, xe_d 35 1, xe_d 36 3, xe_d 39 1, xe_d 40 1, xe_d 41 1, xe_d 42 1, xe_d 43 3, xe_d 46 1, xe_d 47 1, xe_d 48 1, xe_d 49 1, xe_d 50 1]
def xm_132 : xM := (⟨"GridLawsModel", "strike", "(I)I"⟩, prog_14_method_77_code, 3, (some .int), 0, 0, 1, xt_132)
/-- GridLawsModel.blackOnes()I -/
def xt_133 : List xE := [xe_0 0 1 (.iconst 0), xe_0 1 1 (.istore_n 1), xe_0 2 1 (.iconst 0), xe_0 3 1 (.istore_n 2), xe_0 4 1 (.iload_n 2), xe_0 5 1 (.aload_n 0), xe_4 6 3 (.invokevirtual 407) 112 0 12 8100, xe_1 9 3 (.if_icmp .ge 28) 22, xe_0 12 1 (.iload_n 1), xe_0 13 1 (.aload_n 0), xe_4 14 3 (.getfield 107) 12 8 6 6211, xe_0 17 1 (.iload_n 2), xe_0 18 1 .iaload, xe_0 19 2 (.bipush 27), xe_1 21 3 (.if_icmp .ne 7) 17, xe_0 24 1 (.iconst 1), xe_1 25 3 (.goto 4) 18, xe_0 28 1 (.iconst 0), xe_0 29 1 .iadd, xe_0 30 1 (.istore_n 1), xe_0 31 3 (.iinc 2 1), xe_1 34 3 (.goto (-30)) 4, xe_0 37 1 (.iload_n 1), xe_0 38 1 .ireturn]
def xm_133 : xM := (⟨"GridLawsModel", "blackOnes", "()I"⟩, prog_14_method_78_code, 3, (some .int), 0, 0, 0, xt_133)
/-- GridLawsModel.blacken(I)I -/
def xt_134 : List xE := [xe_0 0 1 (.iload_n 1), xe_0 1 1 (.iconst 0), xe_0 2 1 (.aload_n 0), xe_4 3 3 (.invokevirtual 407) 112 0 12 8100, xe_0 6 1 (.iconst 1), xe_0 7 1 .isub, xe_4 8 3 (.invokestatic 397) 108 0 12 8104, xe_1 11 3 (.ifCond .eq 23) 18, xe_0 14 1 (.aload_n 0), xe_4 15 3 (.getfield 107) 12 8 6 6211, xe_0 18 1 (.iload_n 1), xe_0 19 1 .iaload, xe_0 20 2 (.bipush 27), xe_1 22 3 (.if_icmp .eq 12) 18, xe_0 25 1 (.aload_n 0), xe_4 26 3 (.invokevirtual 485) 133 0 12 8229, xe_0 29 2 (.bipush 8), xe_1 31 3 (.if_icmp .ne 5) 20, xe_0 34 1 (.iconst (-1)), xe_0 35 1 .ireturn, xe_0 36 1 (.aload_n 0), xe_4 37 3 (.invokevirtual 479) 130 0 12 8213, xe_0 40 1 (.aload_n 0), xe_4 41 3 (.getfield 107) 12 8 6 6211, xe_0 44 1 (.iload_n 1), xe_0 45 2 (.bipush 27), xe_0 47 1 .iastore, xe_0 48 1 (.aload_n 0), xe_4 49 3 (.invokevirtual 485) 133 0 12 8229, xe_0 52 1 .ireturn]
def xm_134 : xM := (⟨"GridLawsModel", "blacken", "(I)I"⟩, prog_14_method_79_code, 2, (some .int), 0, 0, 1, xt_134)
/-- GridLawsModel.goSitting()I -/
def xt_135 : List xE := [xe_0 0 1 (.iconst (-1)), xe_0 1 1 (.istore_n 1), xe_0 2 1 (.aload_n 0), xe_4 3 3 (.invokevirtual 466) 118 0 12 8111, xe_0 6 1 (.iconst (-1)), xe_0 7 1 (.istore_n 2), xe_0 8 1 (.iconst 0), xe_0 9 1 (.istore_n 3), xe_0 10 1 (.iload_n 3), xe_0 11 1 (.aload_n 0), xe_4 12 3 (.invokevirtual 394) 113 0 12 8135, xe_1 15 3 (.if_icmp .ge 96) 60, xe_d 18 1, xe_d 19 3, xe_d 22 1, xe_d 23 3, xe_d 26 1, xe_d 27 3, xe_d 30 1, xe_d 31 3, xe_d 34 2, xe_d 36 1, xe_d 37 1, xe_d 38 3, xe_d 41 1, xe_d 42 3, xe_d 45 1, xe_d 46 1, xe_d 47 2, xe_d 49 1, xe_d 50 2, xe_d 52 1, xe_d 53 3, xe_d 56 1, xe_d 57 3, xe_d 60 1, xe_d 61 3, xe_d 64 1, xe_d 65 2, xe_d 67 1, xe_d 68 3, xe_d 71 1, xe_d 72 2, xe_d 74 1, xe_d 75 3, xe_d 78 3, xe_d 81 1, xe_d 82 3, xe_d 85 1, xe_d 86 3, xe_d 89 3, xe_d 92 1, xe_d 93 1, xe_d 94 3, xe_d 97 3, xe_d 100 3, xe_d 103 1, xe_d 104 1, xe_d 105 3, xe_d 108 3, xe_0 111 1 (.iload_n 2), xe_1 112 3 (.ifCond .lt 23) 77, xe_d 115 1, xe_d 116 1, xe_d 117 3, xe_d 120 1, xe_d 121 2, xe_d 123 1, xe_d 124 1, xe_d 125 1, xe_d 126 1, xe_d 127 1, xe_d 128 1, xe_d 129 1, xe_d 130 1, xe_d 131 3, xe_d 134 1, xe_0 135 1 (.aload_n 0), xe_4 136 3 (.getfield 107) 12 8 6 6211, xe_0 139 2 (.bipush 20), xe_0 141 1 .dup2, xe_0 142 1 .iaload, xe_0 143 1 (.iconst 1), xe_0 144 1 .iadd, xe_0 145 1 .iastore, xe_0 146 1 (.iload_n 1), xe_0 147 1 .ireturn]
def xm_135 : xM := (⟨"GridLawsModel", "goSitting", "()I"⟩, prog_14_method_81_code, 5, (some .int), 0, 0, 0, xt_135)
/-- GridLawsModel.sitting()I -/
def xt_136 : List xE := [xe_0 0 1 (.aload_n 0), xe_4 1 3 (.getfield 107) 12 8 6 6211, xe_0 4 2 (.bipush 20), xe_0 6 1 .iaload, xe_0 7 3 (.sipush 999), xe_1 10 3 (.if_icmp .ne 6) 8, xe_d 13 2, xe_d 15 1, xe_0 16 1 (.aload_n 0), xe_4 17 3 (.invokevirtual 479) 130 0 12 8213, xe_0 20 1 (.aload_n 0), xe_4 21 3 (.invokevirtual 491) 135 0 12 8237, xe_0 24 1 .ireturn]
def xm_136 : xM := (⟨"GridLawsModel", "sitting", "()I"⟩, prog_14_method_82_code, 1, (some .int), 0, 0, 0, xt_136)
/-- GridLawsModel.undo()Z -/
def xt_137 : List xE := [xe_0 0 1 (.aload_n 0), xe_4 1 3 (.getfield 454) 12 12 0 6219, xe_1 4 3 (.ifCond .ne 5) 5, xe_0 7 1 (.iconst 0), xe_0 8 1 .ireturn, xe_d 9 1, xe_d 10 1, xe_d 11 3, xe_d 14 1, xe_d 15 1, xe_d 16 3, xe_d 19 1, xe_d 20 1, xe_d 21 3, xe_d 24 1, xe_d 25 1, xe_d 26 3, xe_d 29 1, xe_d 30 3, xe_d 33 1, xe_d 34 1]
def xm_137 : xM := (⟨"GridLawsModel", "undo", "()Z"⟩, prog_14_method_83_code, 1, (some .boolean), 0, 0, 0, xt_137)
/-- GridLawsModel.redo()Z -/
def xt_138 : List xE := [xe_0 0 1 (.aload_n 0), xe_4 1 3 (.getfield 457) 12 27 0 6220, xe_1 4 3 (.ifCond .ne 5) 5, xe_0 7 1 (.iconst 0), xe_0 8 1 .ireturn, xe_d 9 1, xe_d 10 3, xe_d 13 1, xe_d 14 1, xe_d 15 3, xe_d 18 1, xe_d 19 1, xe_d 20 3, xe_d 23 1, xe_d 24 1, xe_d 25 3, xe_d 28 1, xe_d 29 1, xe_d 30 3, xe_d 33 1, xe_d 34 1]
def xm_138 : xM := (⟨"GridLawsModel", "redo", "()Z"⟩, prog_14_method_84_code, 1, (some .boolean), 0, 0, 0, xt_138)
/-- GridLawsModel.force()I -/
def xt_139 : List xE := [xe_0 0 1 (.aload_n 0), xe_4 1 3 (.invokevirtual 466) 118 0 12 8111, xe_0 4 1 (.aload_n 0), xe_4 5 3 (.invokevirtual 476) 121 0 12 8209, xe_0 8 1 .ireturn]
def xm_139 : xM := (⟨"GridLawsModel", "force", "()I"⟩, prog_14_method_85_code, 1, (some .int), 0, 0, 0, xt_139)
/-- GridLawsModel.follows()I -/
def xt_140 : List xE := [xe_0 0 1 (.aload_n 0), xe_4 1 3 (.invokevirtual 466) 118 0 12 8111, xe_0 4 1 (.aload_n 0), xe_4 5 3 (.invokevirtual 476) 121 0 12 8209, xe_0 8 1 (.istore_n 1), xe_0 9 1 (.iload_n 1), xe_0 10 1 (.istore_n 2), xe_0 11 1 (.iconst 0), xe_0 12 1 (.istore_n 3), xe_0 13 1 (.iload_n 3), xe_0 14 2 (.bipush 8), xe_1 16 3 (.if_icmp .gt 135) 79, xe_0 19 2 (.bipush 8), xe_0 21 1 (.aload_n 0), xe_4 22 3 (.getfield 278) 12 0 0 6200, xe_0 25 1 .imul, xe_0 26 2 (.istore 4), xe_0 28 2 (.iload 4), xe_0 30 2 (.bipush 8), xe_0 32 1 (.aload_n 0), xe_4 33 3 (.getfield 278) 12 0 0 6200, xe_0 36 1 .imul, xe_0 37 1 (.aload_n 0), xe_4 38 3 (.getfield 36) 12 25 6 6177, xe_0 41 1 (.aload_n 0), xe_4 42 3 (.getfield 278) 12 0 0 6200, xe_0 45 1 .iaload, xe_0 46 1 .iadd, xe_1 47 3 (.if_icmp .ge 98) 77, xe_d 50 1, xe_d 51 3, xe_d 54 2, xe_d 56 1, xe_d 57 2, xe_d 59 1, xe_d 60 3, xe_d 63 2, xe_d 65 1, xe_d 66 2, xe_d 68 1, xe_d 69 2, xe_d 71 3, xe_d 74 3, xe_d 77 1, xe_d 78 2, xe_d 80 3, xe_d 83 3, xe_d 86 1, xe_d 87 3, xe_d 90 1, xe_d 91 2, xe_d 93 2, xe_d 95 3, xe_d 98 1, xe_d 99 2, xe_d 101 3, xe_d 104 3, xe_d 107 1, xe_d 108 2, xe_d 110 3, xe_d 113 3, xe_d 116 1, xe_d 117 2, xe_d 119 2, xe_d 121 3, xe_d 124 3, xe_d 127 1, xe_d 128 1, xe_d 129 1, xe_d 130 3, xe_d 133 2, xe_d 135 1, xe_d 136 1, xe_d 137 1, xe_d 138 1, xe_d 139 3, xe_d 142 3, xe_0 145 3 (.iinc 3 1), xe_1 148 3 (.goto (-135)) 9, xe_0 151 1 (.iload_n 2), xe_0 152 1 .ireturn]
def xm_140 : xM := (⟨"GridLawsModel", "follows", "()I"⟩, prog_14_method_87_code, 8, (some .int), 0, 0, 0, xt_140)
/-- GridLawsModel.against()I -/
def xt_141 : List xE := [xe_0 0 1 (.aload_n 0), xe_4 1 3 (.invokevirtual 500) 140 0 12 9033, xe_0 4 1 (.istore_n 1), xe_0 5 1 (.iconst 0), xe_0 6 1 (.istore_n 2), xe_0 7 2 (.bipush 8), xe_0 9 1 (.aload_n 0), xe_4 10 3 (.getfield 278) 12 0 0 6200, xe_0 13 1 .imul, xe_0 14 1 (.istore_n 3), xe_0 15 1 (.iload_n 3), xe_0 16 2 (.bipush 8), xe_0 18 1 (.aload_n 0), xe_4 19 3 (.getfield 278) 12 0 0 6200, xe_0 22 1 .imul, xe_0 23 1 (.aload_n 0), xe_4 24 3 (.getfield 39) 12 26 6 6178, xe_0 27 1 (.aload_n 0), xe_4 28 3 (.getfield 278) 12 0 0 6200, xe_0 31 1 .iaload, xe_0 32 1 .iadd, xe_1 33 3 (.if_icmp .ge 43) 44, xe_d 36 1, xe_d 37 1, xe_d 38 1, xe_d 39 3, xe_d 42 1, xe_d 43 1, xe_d 44 3, xe_d 47 3, xe_d 50 1, xe_d 51 1, xe_d 52 3, xe_d 55 1, xe_d 56 1, xe_d 57 3, xe_d 60 3, xe_d 63 1, xe_d 64 3, xe_d 67 1, xe_d 68 1, xe_d 69 1, xe_d 70 3, xe_d 73 3, xe_0 76 1 (.iload_n 2), xe_0 77 1 .ireturn]
def xm_141 : xM := (⟨"GridLawsModel", "against", "()I"⟩, prog_14_method_88_code, 4, (some .int), 0, 0, 0, xt_141)
/-- GridLawsModel.worth(I)I -/
def xt_142 : List xE := [xe_0 0 1 (.aload_n 0), xe_0 1 1 (.iload_n 1), xe_4 2 3 (.invokevirtual 472) 115 0 12 8196, xe_1 5 3 (.ifCond .ne 7) 6, xe_4 8 3 (.ldc_w 475) 0 4293967296 0 8204, xe_0 11 1 .ireturn, xe_d 12 1, xe_d 13 3, xe_d 16 1, xe_d 17 1, xe_d 18 3, xe_d 21 1]
def xm_142 : xM := (⟨"GridLawsModel", "worth", "(I)I"⟩, prog_14_method_89_code, 2, (some .int), 0, 0, 1, xt_142)
/-- GridLawsModel.inSlots()I -/
def xt_143 : List xE := [xe_0 0 1 (.iconst 0), xe_0 1 1 (.istore_n 1), xe_0 2 1 (.iconst 0), xe_0 3 1 (.istore_n 2), xe_0 4 1 (.iload_n 2), xe_0 5 1 (.aload_n 0), xe_4 6 3 (.getfield 404) 12 2 0 6217, xe_1 9 3 (.if_icmp .ge 18) 17, xe_0 12 1 (.iload_n 1), xe_0 13 1 (.aload_n 0), xe_4 14 3 (.getfield 119) 12 5 6 6215, xe_0 17 1 (.iload_n 2), xe_0 18 1 .iaload, xe_0 19 1 .ior, xe_0 20 1 (.istore_n 1), xe_0 21 3 (.iinc 2 1), xe_1 24 3 (.goto (-20)) 4, xe_0 27 1 (.iload_n 1), xe_0 28 1 .ireturn]
def xm_143 : xM := (⟨"GridLawsModel", "inSlots", "()I"⟩, prog_14_method_90_code, 3, (some .int), 0, 0, 0, xt_143)
/-- GridLawsModel.blanks()I -/
def xt_144 : List xE := [xe_0 0 1 (.aload_n 0), xe_4 1 3 (.invokevirtual 466) 118 0 12 8111, xe_0 4 1 (.iconst 0), xe_0 5 1 (.istore_n 1), xe_0 6 1 (.iconst 0), xe_0 7 1 (.istore_n 2), xe_0 8 1 (.iload_n 2), xe_0 9 1 (.aload_n 0), xe_4 10 3 (.invokevirtual 407) 112 0 12 8100, xe_1 13 3 (.if_icmp .ge 37) 28, xe_0 16 1 (.iload_n 1), xe_0 17 1 (.aload_n 0), xe_4 18 3 (.invokevirtual 506) 143 0 12 9046, xe_0 21 1 (.iload_n 2), xe_4 22 3 (.invokestatic 451) 109 0 12 6158, xe_1 25 3 (.ifCond .eq 16) 23, xe_0 28 1 (.aload_n 0), xe_4 29 3 (.getfield 107) 12 8 6 6211, xe_0 32 1 (.iload_n 2), xe_0 33 1 .iaload, xe_1 34 3 (.ifCond .ne 7) 23, xe_0 37 1 (.iconst 1), xe_1 38 3 (.goto 4) 24, xe_d 41 1, xe_0 42 1 .iadd, xe_0 43 1 (.istore_n 1), xe_0 44 3 (.iinc 2 1), xe_1 47 3 (.goto (-39)) 6, xe_0 50 1 (.iload_n 1), xe_0 51 1 .ireturn]
def xm_144 : xM := (⟨"GridLawsModel", "blanks", "()I"⟩, prog_14_method_91_code, 3, (some .int), 0, 0, 0, xt_144)
/-- GridLawsModel.capital()I -/
def xt_145 : List xE := [xe_0 0 1 (.aload_n 0), xe_4 1 3 (.invokevirtual 466) 118 0 12 8111, xe_0 4 1 (.iconst (-1)), xe_0 5 1 (.istore_n 1), xe_0 6 1 (.iconst 0), xe_0 7 1 (.istore_n 2), xe_0 8 1 (.iconst 0), xe_0 9 1 (.istore_n 3), xe_0 10 1 (.iload_n 3), xe_0 11 1 (.aload_n 0), xe_4 12 3 (.invokevirtual 407) 112 0 12 8100, xe_1 15 3 (.if_icmp .ge 127) 75, xe_0 18 1 (.iconst 0), xe_0 19 2 (.istore 4), xe_0 21 1 (.iconst 0), xe_0 22 2 (.istore 5), xe_0 24 1 (.iconst 0), xe_0 25 2 (.istore 6), xe_0 27 2 (.iload 6), xe_0 29 1 (.aload_n 0), xe_4 30 3 (.getfield 404) 12 2 0 6217, xe_1 33 3 (.if_icmp .ge 67) 53, xe_0 36 1 (.aload_n 0), xe_4 37 3 (.getfield 116) 12 9 6 6214, xe_0 40 2 (.iload 6), xe_0 42 1 .iaload, xe_1 43 3 (.ifCond .lt 51) 51, xe_d 46 1, xe_d 47 3, xe_d 50 2, xe_d 52 1, xe_d 53 1, xe_d 54 3, xe_d 57 3, xe_d 60 3, xe_d 63 1, xe_d 64 3, xe_d 67 2, xe_d 69 1, xe_d 70 3, xe_d 73 1, xe_d 74 3, xe_d 77 2, xe_d 79 1, xe_d 80 2, xe_d 82 3, xe_d 85 1, xe_d 86 3, xe_d 89 2, xe_d 91 1, xe_d 92 2, xe_0 94 3 (.iinc 6 1), xe_1 97 3 (.goto (-70)) 18, xe_0 100 2 (.iload 4), xe_1 102 3 (.ifCond .eq 34) 73, xe_d 105 2, xe_d 107 3, xe_d 110 2, xe_d 112 2, xe_d 114 1, xe_d 115 2, xe_d 117 1, xe_d 118 1, xe_d 119 3, xe_d 122 3, xe_d 125 1, xe_d 126 1, xe_d 127 2, xe_d 129 2, xe_d 131 1, xe_d 132 2, xe_d 134 1, xe_d 135 1, xe_0 136 3 (.iinc 3 1), xe_1 139 3 (.goto (-129)) 8, xe_0 142 1 (.iload_n 1), xe_0 143 1 .ireturn]
def xm_145 : xM := (⟨"GridLawsModel", "capital", "()I"⟩, prog_14_method_92_code, 7, (some .int), 0, 0, 0, xt_145)
/-- GridLawsModel.nonsense()I -/
def xt_146 : List xE := [xe_0 0 1 (.aload_n 0), xe_4 1 3 (.invokevirtual 466) 118 0 12 8111, xe_0 4 1 (.iconst 0), xe_0 5 1 (.istore_n 1), xe_0 6 1 (.iconst 0), xe_0 7 1 (.istore_n 2), xe_0 8 1 (.iload_n 2), xe_0 9 1 (.aload_n 0), xe_4 10 3 (.getfield 404) 12 2 0 6217, xe_1 13 3 (.if_icmp .ge 32) 27, xe_0 16 1 (.aload_n 0), xe_0 17 1 (.iload_n 2), xe_4 18 3 (.invokevirtual 426) 119 0 12 8127, xe_1 21 3 (.ifCond .ne 18) 25, xe_d 24 1, xe_d 25 3, xe_d 28 1, xe_d 29 1, xe_d 30 3, xe_d 33 1, xe_d 34 1, xe_d 35 1, xe_d 36 1, xe_d 37 1, xe_d 38 1, xe_0 39 3 (.iinc 2 1), xe_1 42 3 (.goto (-34)) 6, xe_0 45 1 (.iload_n 1), xe_0 46 1 .ireturn]
def xm_146 : xM := (⟨"GridLawsModel", "nonsense", "()I"⟩, prog_14_method_93_code, 3, (some .int), 0, 0, 0, xt_146)
/-- GridLawsModel.lies(I)I -/
def xt_147 : List xE := [xe_0 0 1 (.iload_n 1), xe_0 1 1 (.iconst 0), xe_0 2 1 (.aload_n 0), xe_4 3 3 (.getfield 463) 12 29 0 6227, xe_0 6 1 (.iconst 1), xe_0 7 1 .isub, xe_4 8 3 (.invokestatic 397) 108 0 12 8104, xe_1 11 3 (.ifCond .eq 12) 13, xe_d 14 1, xe_d 15 3, xe_d 18 1, xe_d 19 1, xe_d 20 3, xe_0 23 1 (.iconst (-1)), xe_0 24 1 .ireturn]
def xm_147 : xM := (⟨"GridLawsModel", "lies", "(I)I"⟩, prog_14_method_94_code, 2, (some .int), 0, 0, 1, xt_147)
/-- GridLawsModel.nextFor(III)I -/
def xt_148 : List xE := [xe_0 0 1 (.iload_n 2), xe_0 1 2 (.istore 4), xe_0 3 2 (.iload 4), xe_0 5 1 (.aload_n 0), xe_4 6 3 (.invokevirtual 394) 113 0 12 8135, xe_1 9 3 (.if_icmp .ge 31) 19, xe_d 12 1, xe_d 13 2, xe_d 15 3, xe_d 18 3, xe_d 21 1, xe_d 22 2, xe_d 24 1, xe_d 25 3, xe_d 28 3, xe_d 31 2, xe_d 33 1, xe_d 34 3, xe_d 37 3, xe_0 40 1 (.iconst (-1)), xe_0 41 1 .ireturn]
def xm_148 : xM := (⟨"GridLawsModel", "nextFor", "(III)I"⟩, prog_14_method_95_code, 5, (some .int), 0, 0, 3, xt_148)
/-- GridLawsModel.goThrough(I)Z -/
def xt_149 : List xE := [xe_0 0 1 (.aload_n 0), xe_0 1 1 (.iconst 0), xe_4 2 3 (.putfield 509) 12 16 0 6228, xe_0 5 1 (.aload_n 0), xe_0 6 1 (.iconst 0), xe_4 7 3 (.putfield 512) 12 24 0 6229, xe_0 10 1 (.iconst 0), xe_0 11 1 (.istore_n 2), xe_0 12 1 (.iload_n 2), xe_0 13 3 (.sipush 540), xe_1 16 3 (.if_icmp .ge 16) 18, xe_0 19 1 (.aload_n 0), xe_4 20 3 (.getfield 143) 12 19 6 6226, xe_0 23 1 (.iload_n 2), xe_0 24 1 (.iconst 0), xe_0 25 1 .iastore, xe_0 26 3 (.iinc 2 1), xe_1 29 3 (.goto (-17)) 8, xe_0 32 1 (.iconst 0), xe_0 33 1 (.istore_n 2), xe_0 34 1 (.iconst 0), xe_0 35 1 (.istore_n 3), xe_0 36 1 (.iload_n 3), xe_0 37 1 (.aload_n 0), xe_4 38 3 (.getfield 404) 12 2 0 6217, xe_1 41 3 (.if_icmp .ge 53) 56, xe_0 44 1 (.aload_n 0), xe_4 45 3 (.getfield 116) 12 9 6 6214, xe_0 48 1 (.iload_n 3), xe_0 49 1 .iaload, xe_1 50 3 (.ifCond .lt 18) 40, xe_d 53 1, xe_d 54 1, xe_d 55 3, xe_d 58 1, xe_d 59 1, xe_d 60 3, xe_d 63 3, xe_d 66 1, xe_d 67 1, xe_0 68 1 (.aload_n 0), xe_4 69 3 (.getfield 116) 12 9 6 6214, xe_0 72 1 (.iload_n 3), xe_0 73 1 .iaload, xe_1 74 3 (.ifCond .lt 14) 54, xe_d 77 1, xe_d 78 1, xe_d 79 1, xe_d 80 3, xe_d 83 1, xe_d 84 1, xe_d 85 1, xe_d 86 1, xe_d 87 1, xe_0 88 3 (.iinc 3 1), xe_1 91 3 (.goto (-55)) 22, xe_0 94 1 (.iconst 0), xe_0 95 1 (.istore_n 3), xe_0 96 1 (.aload_n 0), xe_4 97 3 (.getfield 128) 12 11 6 6221, xe_0 100 1 (.iconst 0), xe_0 101 1 (.iconst 0), xe_0 102 1 .iastore, xe_0 103 1 (.aload_n 0), xe_4 104 3 (.getfield 134) 12 14 6 6223, xe_0 107 1 (.iconst 0), xe_0 108 1 (.iconst 0), xe_0 109 1 .iastore, xe_0 110 1 (.iconst 1), xe_0 111 2 (.istore 4), xe_0 113 2 (.iload 4), xe_1 115 3 (.ifCond .eq 238) 206, xe_0 118 1 (.iload_n 3), xe_0 119 1 (.aload_n 0), xe_4 120 3 (.getfield 404) 12 2 0 6217, xe_1 123 3 (.if_icmp .ne 25) 87, xe_d 126 1, xe_d 127 1, xe_d 128 3, xe_d 131 3, xe_d 134 1, xe_d 135 3, xe_d 138 1, xe_d 139 3, xe_d 142 1, xe_d 143 2, xe_d 145 3, xe_0 148 1 (.aload_n 0), xe_4 149 3 (.getfield 116) 12 9 6 6214, xe_0 152 1 (.iload_n 3), xe_0 153 1 .iaload, xe_1 154 3 (.ifCond .lt 7) 94, xe_d 157 1, xe_d 158 3, xe_0 161 1 (.iconst 0), xe_0 162 2 (.istore 5), xe_0 164 2 (.iload 5), xe_1 166 3 (.ifCond .ne 35) 120, xe_0 169 1 (.aload_n 0), xe_4 170 3 (.getfield 128) 12 11 6 6221, xe_0 173 1 (.iload_n 3), xe_0 174 1 .iaload, xe_1 175 3 (.ifCond .le 26) 120, xe_d 178 1, xe_d 179 1, xe_d 180 3, xe_d 183 1, xe_d 184 1, xe_d 185 3, xe_d 188 1, xe_d 189 1, xe_d 190 1, xe_d 191 3, xe_d 194 1, xe_d 195 1, xe_d 196 1, xe_d 197 1, xe_d 198 1, xe_d 199 1, xe_d 200 1, xe_0 201 2 (.iload 5), xe_1 203 3 (.ifCond .eq 25) 134, xe_d 206 1, xe_d 207 3, xe_d 210 1, xe_d 211 1, xe_d 212 3, xe_d 215 1, xe_d 216 3, xe_d 219 1, xe_d 220 1, xe_d 221 3, xe_d 224 1, xe_d 225 3, xe_0 228 1 (.aload_n 0), xe_0 229 1 (.iload_n 3), xe_0 230 1 (.aload_n 0), xe_4 231 3 (.getfield 128) 12 11 6 6221, xe_0 234 1 (.iload_n 3), xe_0 235 1 .iaload, xe_0 236 1 (.iload_n 2), xe_4 237 3 (.invokevirtual 521) 148 0 12 9082, xe_0 240 2 (.istore 6), xe_0 242 2 (.iload 6), xe_1 244 3 (.ifCond .ge 20) 153, xe_0 247 3 (.iinc 3 (-1)), xe_0 250 1 (.iload_n 3), xe_1 251 3 (.ifCond .lt 7) 150, xe_d 254 1, xe_d 255 3, xe_0 258 1 (.iconst 0), xe_0 259 2 (.istore 4), xe_1 261 3 (.goto (-148)) 70, xe_d 264 1, xe_d 265 3, xe_d 268 1, xe_d 269 2, xe_d 271 1, xe_d 272 1, xe_d 273 3, xe_d 276 1, xe_d 277 2, xe_d 279 1, xe_d 280 1, xe_d 281 1, xe_d 282 2, xe_d 284 3, xe_d 287 1, xe_d 288 3, xe_d 291 1, xe_d 292 1, xe_d 293 2, xe_d 295 1, xe_d 296 3, xe_d 299 1, xe_d 300 1, xe_d 301 1, xe_d 302 2, xe_d 304 1, xe_d 305 1, xe_d 306 1, xe_d 307 1, xe_d 308 1, xe_d 309 3, xe_d 312 1, xe_d 313 1, xe_d 314 3, xe_d 317 3, xe_d 320 1, xe_d 321 2, xe_d 323 3, xe_d 326 1, xe_d 327 3, xe_d 330 1, xe_d 331 1, xe_d 332 1, xe_d 333 1, xe_d 334 3, xe_d 337 3, xe_d 340 3, xe_d 343 1, xe_d 344 1, xe_d 345 3, xe_d 348 1, xe_d 349 1, xe_d 350 3, xe_0 353 1 (.iconst 1), xe_0 354 1 .ireturn]
def xm_149 : xM := (⟨"GridLawsModel", "goThrough", "(I)Z"⟩, prog_14_method_96_code, 7, (some .boolean), 0, 0, 1, xt_149)
/-- GridLawsModel.fillings()I -/
def xt_150 : List xE := [xe_0 0 1 (.aload_n 0), xe_4 1 3 (.invokevirtual 466) 118 0 12 8111, xe_0 4 1 (.aload_n 0), xe_0 5 1 (.iconst (-1)), xe_4 6 3 (.putfield 530) 12 82 0 6230, xe_0 9 1 (.aload_n 0), xe_0 10 1 (.iconst 0), xe_4 11 3 (.invokevirtual 539) 149 0 12 9066, xe_1 14 3 (.ifCond .eq 10) 12, xe_0 17 1 (.aload_n 0), xe_4 18 3 (.getfield 509) 12 16 0 6228, xe_1 21 3 (.goto 5) 13, xe_d 24 2, xe_0 26 1 .ireturn]
def xm_150 : xM := (⟨"GridLawsModel", "fillings", "()I"⟩, prog_14_method_99_code, 1, (some .int), 0, 0, 0, xt_150)
/-- GridLawsModel.fillFor(I)Z -/
def xt_151 : List xE := [xe_0 0 1 (.aload_n 0), xe_0 1 1 (.iload_n 1), xe_4 2 3 (.invokevirtual 472) 115 0 12 8196, xe_1 5 3 (.ifCond .ne 5) 6, xe_0 8 1 (.iconst 0), xe_0 9 1 .ireturn, xe_d 10 1, xe_d 11 3, xe_d 14 1, xe_d 15 1, xe_d 16 3, xe_d 19 1, xe_d 20 1, xe_d 21 3, xe_d 24 3, xe_d 27 1, xe_d 28 3, xe_d 31 3, xe_d 34 1, xe_d 35 3, xe_d 38 1, xe_d 39 1]
def xm_151 : xM := (⟨"GridLawsModel", "fillFor", "(I)Z"⟩, prog_14_method_100_code, 2, (some .boolean), 0, 0, 1, xt_151)
/-- GridLawsModel.best(I)I -/
def xt_152 : List xE := [xe_0 0 1 (.aload_n 0), xe_0 1 1 (.iconst 0), xe_4 2 3 (.putfield 463) 12 29 0 6227, xe_0 5 1 (.aload_n 0), xe_0 6 1 (.iload_n 1), xe_4 7 3 (.invokevirtual 542) 151 0 12 9094, xe_1 10 3 (.ifCond .ne 7) 9, xe_4 13 3 (.ldc_w 475) 0 4293967296 0 8204, xe_0 16 1 .ireturn, xe_d 17 1, xe_d 18 1, xe_d 19 1, xe_d 20 1, xe_d 21 3, xe_d 24 3, xe_d 27 1, xe_d 28 3, xe_d 31 1, xe_d 32 1, xe_d 33 3, xe_d 36 1, xe_d 37 1, xe_d 38 1, xe_d 39 3, xe_d 42 3, xe_d 45 1, xe_d 46 1, xe_d 47 3, xe_d 50 3, xe_d 53 1, xe_d 54 3, xe_d 57 1]
def xm_152 : xM := (⟨"GridLawsModel", "best", "(I)I"⟩, prog_14_method_101_code, 3, (some .int), 0, 0, 1, xt_152)
/-- GridLawsModel.span(II)I -/
def xt_153 : List xE := [xe_0 0 1 (.iload_n 2), xe_0 1 1 (.iconst 0), xe_0 2 1 (.iconst 1), xe_4 3 3 (.invokestatic 397) 108 0 12 8104, xe_1 6 3 (.ifCond .eq 11) 9, xe_0 9 1 (.aload_n 0), xe_0 10 1 (.iload_n 1), xe_4 11 3 (.invokevirtual 542) 151 0 12 9094, xe_1 14 3 (.ifCond .ne 7) 11, xe_4 17 3 (.ldc_w 475) 0 4293967296 0 8204, xe_0 20 1 .ireturn, xe_d 21 1, xe_d 22 3, xe_d 25 1, xe_d 26 3, xe_d 29 3, xe_d 32 1, xe_d 33 3, xe_d 36 1]
def xm_153 : xM := (⟨"GridLawsModel", "span", "(II)I"⟩, prog_14_method_102_code, 3, (some .int), 0, 0, 2, xt_153)
/-- GridLawsModel.reform(II)I -/
def xt_154 : List xE := [xe_0 0 1 (.aload_n 0), xe_0 1 1 (.iload_n 1), xe_4 2 3 (.invokevirtual 469) 114 0 12 8188, xe_1 5 3 (.ifCond .eq 12) 9, xe_d 8 1, xe_d 9 1, xe_d 10 1, xe_d 11 3, xe_d 14 3, xe_0 17 1 (.iconst (-1)), xe_0 18 1 .ireturn, xe_d 19 1, xe_d 20 3, xe_d 23 1, xe_d 24 1, xe_d 25 1, xe_d 26 2, xe_d 28 1, xe_d 29 2, xe_d 31 2, xe_d 33 1, xe_d 34 3, xe_d 37 3, xe_d 40 1, xe_d 41 3, xe_d 44 2, xe_d 46 1, xe_d 47 1, xe_d 48 1, xe_d 49 3, xe_d 52 3, xe_d 55 3, xe_d 58 1, xe_d 59 3, xe_d 62 2, xe_d 64 1, xe_d 65 1, xe_d 66 3, xe_d 69 1, xe_d 70 3, xe_d 73 1, xe_d 74 3, xe_d 77 2, xe_d 79 1, xe_d 80 3, xe_d 83 3, xe_d 86 1, xe_d 87 2, xe_d 89 2, xe_d 91 1, xe_d 92 3, xe_d 95 3, xe_d 98 1, xe_d 99 3, xe_d 102 2, xe_d 104 1, xe_d 105 1, xe_d 106 1, xe_d 107 3, xe_d 110 3, xe_d 113 3, xe_d 116 1, xe_d 117 2, xe_d 119 1, xe_d 120 2, xe_d 122 2, xe_d 124 1, xe_d 125 3, xe_d 128 2, xe_d 130 1, xe_d 131 3, xe_d 134 1, xe_d 135 3, xe_d 138 1, xe_d 139 3, xe_d 142 2, xe_d 144 1, xe_d 145 2, xe_d 147 1, xe_d 148 2, xe_d 150 3, xe_d 153 1, xe_d 154 1, xe_d 155 1, xe_d 156 2, xe_d 158 2, xe_d 160 2, xe_d 162 3, xe_d 165 2, xe_d 167 1, xe_d 168 1, xe_d 169 2, xe_d 171 3, xe_d 174 3, xe_d 177 1, xe_d 178 3, xe_d 181 1, xe_d 182 1, xe_d 183 2, xe_d 185 3, xe_d 188 3, xe_d 191 1, xe_d 192 3, xe_d 195 2, xe_d 197 2, xe_d 199 3, xe_d 202 3, xe_d 205 2, xe_d 207 1, xe_d 208 2, xe_d 210 2, xe_d 212 3, xe_d 215 3, xe_d 218 1, xe_d 219 3, xe_d 222 1, xe_d 223 3, xe_d 226 1, xe_d 227 3, xe_d 230 2, xe_d 232 3, xe_d 235 1, xe_d 236 1]
def xm_154 : xM := (⟨"GridLawsModel", "reform", "(II)I"⟩, prog_14_method_103_code, 9, (some .int), 0, 0, 2, xt_154)
/-- GridLawsModel.play(III)I -/
def xt_155 : List xE := [xe_0 0 1 (.aload_n 0), xe_0 1 1 (.iload_n 1), xe_4 2 3 (.invokevirtual 472) 115 0 12 8196, xe_1 5 3 (.ifCond .eq 25) 16, xe_d 8 1, xe_d 9 1, xe_d 10 3, xe_d 13 3, xe_d 16 1, xe_d 17 1, xe_d 18 3, xe_d 21 1, xe_d 22 1, xe_d 23 1, xe_d 24 3, xe_d 27 3, xe_4 30 3 (.ldc_w 475) 0 4293967296 0 8204, xe_0 33 1 .ireturn, xe_d 34 1, xe_d 35 3, xe_d 38 1, xe_d 39 3, xe_d 42 2, xe_d 44 1, xe_d 45 2, xe_d 47 1, xe_d 48 2, xe_d 50 1, xe_d 51 2, xe_d 53 1, xe_d 54 2, xe_d 56 2, xe_d 58 1, xe_d 59 3, xe_d 62 3, xe_d 65 1, xe_d 66 2, xe_d 68 2, xe_d 70 1, xe_d 71 3, xe_d 74 3, xe_d 77 2, xe_d 79 2, xe_d 81 3, xe_d 84 3, xe_d 87 1, xe_d 88 2, xe_d 90 2, xe_d 92 3, xe_d 95 3, xe_d 98 3, xe_d 101 1, xe_d 102 2, xe_d 104 2, xe_d 106 3, xe_d 109 2, xe_d 111 1, xe_d 112 3, xe_d 115 1, xe_d 116 1, xe_d 117 1, xe_d 118 3, xe_d 121 2, xe_d 123 1, xe_d 124 2, xe_d 126 3, xe_d 129 2, xe_d 131 3, xe_d 134 2, xe_d 136 2, xe_d 138 3, xe_d 141 3, xe_d 144 2, xe_d 146 2, xe_d 148 1, xe_d 149 2, xe_d 151 1, xe_d 152 2, xe_d 154 1, xe_d 155 3, xe_d 158 2, xe_d 160 2, xe_d 162 2, xe_d 164 3, xe_d 167 3, xe_d 170 3, xe_d 173 3, xe_d 176 2, xe_d 178 3, xe_d 181 3, xe_d 184 3, xe_d 187 1, xe_d 188 3, xe_d 191 2, xe_d 193 3, xe_d 196 1, xe_d 197 1, xe_d 198 3, xe_d 201 2, xe_d 203 3, xe_d 206 2, xe_d 208 1]
def xm_155 : xM := (⟨"GridLawsModel", "play", "(III)I"⟩, prog_14_method_105_code, 12, (some .int), 0, 0, 3, xt_155)
/-- GridLawsModel.will(II)I -/
def xt_156 : List xE := [xe_0 0 1 (.aload_n 0), xe_0 1 1 (.iload_n 1), xe_4 2 3 (.invokevirtual 472) 115 0 12 8196, xe_1 5 3 (.ifCond .eq 13) 9, xe_d 8 1, xe_d 9 1, xe_d 10 2, xe_d 12 3, xe_d 15 3, xe_4 18 3 (.ldc_w 475) 0 4293967296 0 8204, xe_0 21 1 .ireturn, xe_d 22 1, xe_d 23 1, xe_d 24 1, xe_d 25 2, xe_d 27 3, xe_d 30 1, xe_d 31 3, xe_d 34 1, xe_d 35 1, xe_d 36 3, xe_d 39 1, xe_d 40 1, xe_d 41 1, xe_d 42 3, xe_d 45 3, xe_d 48 1, xe_d 49 1, xe_d 50 1, xe_d 51 1, xe_d 52 3, xe_d 55 1, xe_d 56 3, xe_d 59 1, xe_d 60 3, xe_d 63 3, xe_d 66 1, xe_d 67 3, xe_d 70 1, xe_d 71 1, xe_d 72 3, xe_d 75 1, xe_d 76 1, xe_d 77 2, xe_d 79 2, xe_d 81 2, xe_d 83 3, xe_d 86 1, xe_d 87 3, xe_d 90 2, xe_d 92 1, xe_d 93 3, xe_d 96 2, xe_d 98 1, xe_d 99 1, xe_d 100 3, xe_d 103 3, xe_d 106 1, xe_d 107 1]
def xm_156 : xM := (⟨"GridLawsModel", "will", "(II)I"⟩, prog_14_method_106_code, 5, (some .int), 0, 0, 2, xt_156)
/-- GridLawsModel.sight(IIZ)I -/
def xt_157 : List xE := [xe_0 0 1 (.iload_n 1), xe_0 1 1 (.iconst 0), xe_0 2 1 (.aload_n 0), xe_4 3 3 (.invokevirtual 407) 112 0 12 8100, xe_0 6 1 (.iconst 1), xe_0 7 1 .isub, xe_4 8 3 (.invokestatic 397) 108 0 12 8104, xe_1 11 3 (.ifCond .eq 22) 17, xe_0 14 1 (.iload_n 2), xe_0 15 1 (.iconst 1), xe_0 16 2 (.bipush 26), xe_4 18 3 (.invokestatic 397) 108 0 12 8104, xe_1 21 3 (.ifCond .eq 12) 17, xe_0 24 1 (.aload_n 0), xe_4 25 3 (.getfield 460) 12 10 0 7001, xe_0 28 2 (.bipush 30), xe_1 30 3 (.if_icmp .ne 5) 19, xe_0 33 1 (.iconst (-1)), xe_0 34 1 .ireturn, xe_0 35 1 (.aload_n 0), xe_4 36 3 (.getfield 149) 12 31 6 6236, xe_0 39 1 (.aload_n 0), xe_4 40 3 (.getfield 460) 12 10 0 7001, xe_0 43 1 (.iload_n 1), xe_0 44 1 .iastore, xe_0 45 1 (.aload_n 0), xe_4 46 3 (.getfield 152) 12 32 6 6237, xe_0 49 1 (.aload_n 0), xe_4 50 3 (.getfield 460) 12 10 0 7001, xe_0 53 1 (.iload_n 2), xe_0 54 1 .iastore, xe_0 55 1 (.aload_n 0), xe_4 56 3 (.getfield 155) 12 33 6 6238, xe_0 59 1 (.aload_n 0), xe_4 60 3 (.getfield 460) 12 10 0 7001, xe_0 63 1 (.iload_n 3), xe_1 64 3 (.ifCond .eq 7) 39, xe_0 67 1 (.iconst 1), xe_1 68 3 (.goto 4) 40, xe_0 71 1 (.iconst 0), xe_0 72 1 .iastore, xe_0 73 1 (.aload_n 0), xe_4 74 3 (.getfield 158) 12 34 6 6239, xe_0 77 1 (.aload_n 0), xe_4 78 3 (.getfield 460) 12 10 0 7001, xe_0 81 1 (.aload_n 0), xe_4 82 3 (.getfield 551) 12 13 0 7002, xe_0 85 1 .iastore, xe_0 86 1 (.aload_n 0), xe_4 87 3 (.getfield 161) 12 30 6 7000, xe_0 90 1 (.aload_n 0), xe_4 91 3 (.getfield 460) 12 10 0 7001, xe_0 94 1 (.iconst (-1)), xe_0 95 1 .iastore, xe_0 96 1 (.aload_n 0), xe_0 97 1 .dup, xe_4 98 3 (.getfield 460) 12 10 0 7001, xe_0 101 1 (.iconst 1), xe_0 102 1 .iadd, xe_4 103 3 (.putfield 460) 12 10 0 7001, xe_0 106 1 (.aload_n 0), xe_4 107 3 (.getfield 460) 12 10 0 7001, xe_0 110 1 (.iconst 1), xe_0 111 1 .isub, xe_0 112 1 .ireturn]
def xm_157 : xM := (⟨"GridLawsModel", "sight", "(IIZ)I"⟩, prog_14_method_107_code, 4, (some .int), 0, 0, 3, xt_157)
/-- GridLawsModel.untell(I)Z -/
def xt_158 : List xE := [xe_0 0 1 (.iload_n 1), xe_0 1 1 (.iconst 0), xe_0 2 1 (.aload_n 0), xe_4 3 3 (.getfield 460) 12 10 0 7001, xe_0 6 1 (.iconst 1), xe_0 7 1 .isub, xe_4 8 3 (.invokestatic 397) 108 0 12 8104, xe_1 11 3 (.ifCond .eq 12) 13, xe_d 14 1, xe_d 15 3, xe_d 18 1, xe_d 19 1, xe_d 20 3, xe_0 23 1 (.iconst 0), xe_0 24 1 .ireturn, xe_d 25 1, xe_d 26 3, xe_d 29 1, xe_d 30 1, xe_d 31 3, xe_d 34 1, xe_d 35 1, xe_d 36 1]
def xm_158 : xM := (⟨"GridLawsModel", "untell", "(I)Z"⟩, prog_14_method_108_code, 2, (some .boolean), 0, 0, 1, xt_158)
/-- GridLawsModel.later(I)I -/
def xt_159 : List xE := [xe_0 0 1 (.iload_n 1), xe_0 1 1 (.iconst 0), xe_0 2 3 (.sipush 1000), xe_4 5 3 (.invokestatic 397) 108 0 12 8104, xe_1 8 3 (.ifCond .eq 15) 11, xe_0 11 1 (.aload_n 0), xe_4 12 3 (.getfield 551) 12 13 0 7002, xe_0 15 1 (.iload_n 1), xe_0 16 1 .iadd, xe_4 17 3 (.ldc_w 554) 0 100000 0 9130, xe_1 20 3 (.if_icmp .le 5) 13, xe_0 23 1 (.iconst (-1)), xe_0 24 1 .ireturn, xe_0 25 1 (.aload_n 0), xe_0 26 1 .dup, xe_4 27 3 (.getfield 551) 12 13 0 7002, xe_0 30 1 (.iload_n 1), xe_0 31 1 .iadd, xe_4 32 3 (.putfield 551) 12 13 0 7002, xe_0 35 1 (.aload_n 0), xe_4 36 3 (.getfield 551) 12 13 0 7002, xe_0 39 1 .ireturn]
def xm_159 : xM := (⟨"GridLawsModel", "later", "(I)I"⟩, prog_14_method_109_code, 2, (some .int), 0, 0, 1, xt_159)
/-- GridLawsModel.layPrints(I)Z -/
def xt_160 : List xE := [xe_0 0 1 (.aload_n 0), xe_0 1 1 (.iload_n 1), xe_4 2 3 (.putfield 555) 12 83 0 6233, xe_0 5 1 (.iconst 0), xe_0 6 1 (.istore_n 2), xe_0 7 1 (.iload_n 2), xe_0 8 2 (.bipush 21), xe_1 10 3 (.if_icmp .ge 21) 18, xe_0 13 1 (.aload_n 0), xe_4 14 3 (.getfield 146) 12 20 6 6235, xe_0 17 1 (.iload_n 2), xe_0 18 1 (.aload_n 0), xe_4 19 3 (.getfield 107) 12 8 6 6211, xe_0 22 1 (.iload_n 2), xe_0 23 1 .iaload, xe_0 24 1 .iastore, xe_0 25 3 (.iinc 2 1), xe_1 28 3 (.goto (-21)) 5, xe_0 31 1 (.iconst 0), xe_0 32 1 (.istore_n 2), xe_0 33 1 (.iload_n 2), xe_0 34 1 (.aload_n 0), xe_4 35 3 (.invokevirtual 407) 112 0 12 8100, xe_1 38 3 (.if_icmp .ge 27) 37, xe_0 41 1 (.aload_n 0), xe_4 42 3 (.getfield 107) 12 8 6 6211, xe_0 45 1 (.iload_n 2), xe_0 46 1 .iaload, xe_0 47 2 (.bipush 27), xe_1 49 3 (.if_icmp .eq 10) 35, xe_0 52 1 (.aload_n 0), xe_4 53 3 (.getfield 107) 12 8 6 6211, xe_0 56 1 (.iload_n 2), xe_0 57 1 (.iconst 0), xe_0 58 1 .iastore, xe_0 59 3 (.iinc 2 1), xe_1 62 3 (.goto (-29)) 20, xe_0 65 1 (.aload_n 0), xe_4 66 3 (.invokevirtual 466) 118 0 12 8111, xe_0 69 1 (.aload_n 0), xe_0 70 1 (.iconst 1), xe_4 71 3 (.invokevirtual 539) 149 0 12 9066, xe_0 74 1 (.istore_n 2), xe_0 75 1 (.iconst 0), xe_0 76 1 (.istore_n 3), xe_0 77 1 (.iload_n 3), xe_0 78 2 (.bipush 21), xe_1 80 3 (.if_icmp .ge 21) 58, xe_0 83 1 (.aload_n 0), xe_4 84 3 (.getfield 107) 12 8 6 6211, xe_0 87 1 (.iload_n 3), xe_0 88 1 (.aload_n 0), xe_4 89 3 (.getfield 146) 12 20 6 6235, xe_0 92 1 (.iload_n 3), xe_0 93 1 .iaload, xe_0 94 1 .iastore, xe_0 95 3 (.iinc 3 1), xe_1 98 3 (.goto (-21)) 45, xe_0 101 1 (.iload_n 2), xe_0 102 1 .ireturn]
def xm_160 : xM := (⟨"GridLawsModel", "layPrints", "(I)Z"⟩, prog_14_method_111_code, 4, (some .boolean), 0, 0, 1, xt_160)
/-- GridLawsModel.prints(I)I -/
def xt_161 : List xE := [xe_0 0 1 (.aload_n 0), xe_0 1 1 (.iload_n 1), xe_4 2 3 (.invokevirtual 558) 160 0 12 9135, xe_1 5 3 (.ifCond .eq 10) 7, xe_0 8 1 (.aload_n 0), xe_4 9 3 (.getfield 509) 12 16 0 6228, xe_1 12 3 (.goto 5) 8, xe_d 15 2, xe_0 17 1 .ireturn]
def xm_161 : xM := (⟨"GridLawsModel", "prints", "(I)I"⟩, prog_14_method_112_code, 2, (some .int), 0, 0, 1, xt_161)
/-- GridLawsModel.sure(II)I -/
def xt_162 : List xE := [xe_0 0 1 (.iload_n 1), xe_0 1 1 (.iconst 0), xe_0 2 1 (.aload_n 0), xe_4 3 3 (.invokevirtual 407) 112 0 12 8100, xe_0 6 1 (.iconst 1), xe_0 7 1 .isub, xe_4 8 3 (.invokestatic 397) 108 0 12 8104, xe_1 11 3 (.ifCond .eq 29) 20, xe_0 14 1 (.aload_n 0), xe_0 15 1 (.iload_n 2), xe_4 16 3 (.invokevirtual 558) 160 0 12 9135, xe_1 19 3 (.ifCond .eq 21) 20, xe_0 22 1 (.aload_n 0), xe_4 23 3 (.getfield 509) 12 16 0 6228, xe_1 26 3 (.ifCond .eq 14) 20, xe_d 29 1, xe_d 30 3, xe_d 33 1, xe_d 34 3, xe_d 37 3, xe_0 40 1 (.iconst (-1)), xe_0 41 1 .ireturn, xe_d 42 1, xe_d 43 1, xe_d 44 1, xe_d 45 2, xe_d 47 3, xe_d 50 1, xe_d 51 3, xe_d 54 2, xe_d 56 1, xe_d 57 1, xe_d 58 1, xe_d 59 1, xe_d 60 1, xe_d 61 1, xe_d 62 3, xe_d 65 3, xe_d 68 1, xe_d 69 1, xe_d 70 3, xe_d 73 3, xe_d 76 1, xe_d 77 1]
def xm_162 : xM := (⟨"GridLawsModel", "sure", "(II)I"⟩, prog_14_method_113_code, 4, (some .int), 0, 0, 2, xt_162)
/-- GridLawsModel.ask(II)I -/
def xt_163 : List xE := [xe_0 0 1 (.iload_n 1), xe_0 1 1 (.iconst 0), xe_0 2 1 (.iconst 1), xe_4 3 3 (.invokestatic 397) 108 0 12 8104, xe_1 6 3 (.ifCond .eq 18) 12, xe_0 9 1 (.aload_n 0), xe_0 10 1 (.iload_n 2), xe_4 11 3 (.invokevirtual 558) 160 0 12 9135, xe_1 14 3 (.ifCond .eq 10) 12, xe_0 17 1 (.aload_n 0), xe_4 18 3 (.getfield 509) 12 16 0 6228, xe_1 21 3 (.ifCond .ne 5) 14, xe_0 24 1 (.iconst (-1)), xe_0 25 1 .ireturn, xe_d 26 1, xe_d 27 1, xe_d 28 1, xe_d 29 2, xe_d 31 1, xe_d 32 2, xe_d 34 2, xe_d 36 1, xe_d 37 3, xe_d 40 3, xe_d 43 1, xe_d 44 3, xe_d 47 2, xe_d 49 3, xe_d 52 3, xe_d 55 3, xe_d 58 1, xe_d 59 2, xe_d 61 1, xe_d 62 2, xe_d 64 2, xe_d 66 2, xe_d 68 3, xe_d 71 1, xe_d 72 3, xe_d 75 2, xe_d 77 2, xe_d 79 1, xe_d 80 2, xe_d 82 1, xe_d 83 1, xe_d 84 2, xe_d 86 3, xe_d 89 1, xe_d 90 3, xe_d 93 2, xe_d 95 2, xe_d 97 1, xe_d 98 2, xe_d 100 1, xe_d 101 1, xe_d 102 2, xe_d 104 3, xe_d 107 3, xe_d 110 1, xe_d 111 3, xe_d 114 2, xe_d 116 2, xe_d 118 3, xe_d 121 3, xe_d 124 2, xe_d 126 1, xe_d 127 2, xe_d 129 2, xe_d 131 3, xe_d 134 3, xe_d 137 1, xe_d 138 3, xe_d 141 1, xe_d 142 3, xe_d 145 1, xe_d 146 3, xe_d 149 1, xe_d 150 3, xe_d 153 2, xe_d 155 1]
def xm_163 : xM := (⟨"GridLawsModel", "ask", "(II)I"⟩, prog_14_method_114_code, 8, (some .int), 0, 0, 2, xt_163)
/-- GridLawsModel.image(I)I -/
def xt_164 : List xE := [xe_0 0 1 (.iload_n 1), xe_0 1 1 (.iconst 0), xe_0 2 1 (.iconst 2), xe_4 3 3 (.invokestatic 397) 108 0 12 8104, xe_1 6 3 (.ifCond .ne 5) 7, xe_0 9 1 (.iconst (-1)), xe_0 10 1 .ireturn, xe_0 11 1 (.iconst 0), xe_0 12 1 (.istore_n 2), xe_0 13 1 (.iload_n 2), xe_0 14 2 (.bipush 21), xe_1 16 3 (.if_icmp .ge 26) 26, xe_0 19 1 (.aload_n 0), xe_4 20 3 (.getfield 164) 12 38 6 7003, xe_0 23 2 (.bipush 21), xe_0 25 1 (.iload_n 1), xe_0 26 1 .imul, xe_0 27 1 (.iload_n 2), xe_0 28 1 .iadd, xe_0 29 1 (.aload_n 0), xe_4 30 3 (.getfield 107) 12 8 6 6211, xe_0 33 1 (.iload_n 2), xe_0 34 1 .iaload, xe_0 35 1 .iastore, xe_0 36 3 (.iinc 2 1), xe_1 39 3 (.goto (-26)) 9, xe_0 42 1 (.aload_n 0), xe_4 43 3 (.getfield 167) 12 36 6 7004, xe_0 46 1 (.iload_n 1), xe_0 47 1 (.iconst 1), xe_0 48 1 .bastore, xe_0 49 1 (.aload_n 0), xe_4 50 3 (.getfield 107) 12 8 6 6211, xe_0 53 2 (.bipush 20), xe_0 55 1 .iaload, xe_0 56 1 .ireturn]
def xm_164 : xM := (⟨"GridLawsModel", "image", "(I)I"⟩, prog_14_method_115_code, 3, (some .int), 0, 0, 1, xt_164)
/-- GridLawsModel.back(I)I -/
def xt_165 : List xE := [xe_0 0 1 (.iload_n 1), xe_0 1 1 (.iconst 0), xe_0 2 1 (.iconst 2), xe_4 3 3 (.invokestatic 397) 108 0 12 8104, xe_1 6 3 (.ifCond .eq 12) 10, xe_0 9 1 (.aload_n 0), xe_4 10 3 (.getfield 167) 12 36 6 7004, xe_0 13 1 (.iload_n 1), xe_0 14 1 .baload, xe_1 15 3 (.ifCond .ne 5) 12, xe_0 18 1 (.iconst (-1)), xe_0 19 1 .ireturn, xe_d 20 1, xe_d 21 1, xe_d 22 1, xe_d 23 2, xe_d 25 3, xe_d 28 1, xe_d 29 3, xe_d 32 1, xe_d 33 1, xe_d 34 3, xe_d 37 2, xe_d 39 1, xe_d 40 1, xe_d 41 1, xe_d 42 1, xe_d 43 1, xe_d 44 1, xe_d 45 3, xe_d 48 3, xe_d 51 1, xe_d 52 1, xe_d 53 3, xe_d 56 1, xe_d 57 1, xe_d 58 3, xe_d 61 1, xe_d 62 3, xe_d 65 2, xe_d 67 1, xe_d 68 1]
def xm_165 : xM := (⟨"GridLawsModel", "back", "(I)I"⟩, prog_14_method_116_code, 3, (some .int), 0, 0, 1, xt_165)
/-- GridLawsModel.about(I)I -/
def xt_166 : List xE := [xe_0 0 1 (.iload_n 1), xe_4 1 75 (.tableswitch 183 0 14 #[75, 80, 90, 100, 110, 118, 123, 133, 143, 148, 153, 158, 163, 168, 178]) 67 1725460446858967680474690074850287236895044678155099833155852712607746 0 0, xe_0 76 1 (.aload_n 0), xe_4 77 3 (.invokevirtual 394) 113 0 12 8135, xe_0 80 1 .ireturn, xe_0 81 1 (.aload_n 0), xe_4 82 3 (.getfield 27) 12 15 6 6174, xe_0 85 1 (.aload_n 0), xe_4 86 3 (.getfield 278) 12 0 0 6200, xe_0 89 1 .iaload, xe_0 90 1 .ireturn, xe_0 91 1 (.aload_n 0), xe_4 92 3 (.getfield 20) 12 4 6 6172, xe_0 95 1 (.aload_n 0), xe_4 96 3 (.getfield 278) 12 0 0 6200, xe_0 99 1 .iaload, xe_0 100 1 .ireturn, xe_0 101 1 (.aload_n 0), xe_4 102 3 (.getfield 24) 12 1 6 6173, xe_0 105 1 (.aload_n 0), xe_4 106 3 (.getfield 278) 12 0 0 6200, xe_0 109 1 .iaload, xe_0 110 1 .ireturn, xe_0 111 1 (.aload_n 0), xe_4 112 3 (.getfield 107) 12 8 6 6211, xe_0 115 2 (.bipush 20), xe_0 117 1 .iaload, xe_0 118 1 .ireturn, xe_0 119 1 (.aload_n 0), xe_4 120 3 (.invokevirtual 485) 133 0 12 8229, xe_0 123 1 .ireturn, xe_0 124 1 (.aload_n 0), xe_4 125 3 (.getfield 36) 12 25 6 6177, xe_0 128 1 (.aload_n 0), xe_4 129 3 (.getfield 278) 12 0 0 6200, xe_0 132 1 .iaload, xe_0 133 1 .ireturn, xe_0 134 1 (.aload_n 0), xe_4 135 3 (.getfield 39) 12 26 6 6178, xe_0 138 1 (.aload_n 0), xe_4 139 3 (.getfield 278) 12 0 0 6200, xe_0 142 1 .iaload, xe_0 143 1 .ireturn, xe_0 144 1 (.aload_n 0), xe_4 145 3 (.getfield 454) 12 12 0 6219, xe_0 148 1 .ireturn, xe_0 149 1 (.aload_n 0), xe_4 150 3 (.getfield 457) 12 27 0 6220, xe_0 153 1 .ireturn, xe_0 154 1 (.aload_n 0), xe_4 155 3 (.getfield 460) 12 10 0 7001, xe_0 158 1 .ireturn, xe_0 159 1 (.aload_n 0), xe_4 160 3 (.getfield 551) 12 13 0 7002, xe_0 163 1 .ireturn, xe_0 164 1 (.aload_n 0), xe_4 165 3 (.getfield 275) 12 21 0 6163, xe_0 168 1 .ireturn, xe_0 169 1 (.aload_n 0), xe_4 170 3 (.getfield 42) 12 28 6 6179, xe_0 173 1 (.aload_n 0), xe_4 174 3 (.getfield 278) 12 0 0 6200, xe_0 177 1 .iaload, xe_0 178 1 .ireturn, xe_0 179 1 (.aload_n 0), xe_4 180 3 (.getfield 463) 12 29 0 6227, xe_0 183 1 .ireturn, xe_0 184 1 (.iconst (-1)), xe_0 185 1 .ireturn]
def xm_166 : xM := (⟨"GridLawsModel", "about", "(I)I"⟩, prog_14_method_117_code, 2, (some .int), 0, 0, 1, xt_166)
/-- GridLawsModel.feed(IIIII)I -/
def xt_167 : List xE := [xe_0 0 1 (.aload_n 0), xe_4 1 3 (.getfield 275) 12 21 0 6163, xe_0 4 2 (.bipush 20), xe_0 6 1 .iadd, xe_0 7 3 (.sipush 1600), xe_1 10 3 (.if_icmp .le 5) 8, xe_d 13 1, xe_d 14 1, xe_0 15 1 (.iconst 0), xe_0 16 2 (.istore 6), xe_0 18 2 (.iload 6), xe_0 20 2 (.bipush 20), xe_1 22 3 (.if_icmp .ge 83) 54, xe_0 25 2 (.iload 6), xe_0 27 1 (.iconst 4), xe_1 28 3 (.if_icmp .ge 7) 18, xe_0 31 1 (.iload_n 1), xe_1 32 3 (.goto 39) 34, xe_0 35 2 (.iload 6), xe_0 37 2 (.bipush 8), xe_1 39 3 (.if_icmp .ge 7) 23, xe_0 42 1 (.iload_n 2), xe_1 43 3 (.goto 28) 34, xe_0 46 2 (.iload 6), xe_0 48 2 (.bipush 12), xe_1 50 3 (.if_icmp .ge 7) 28, xe_0 53 1 (.iload_n 3), xe_1 54 3 (.goto 17) 34, xe_0 57 2 (.iload 6), xe_0 59 2 (.bipush 16), xe_1 61 3 (.if_icmp .ge 8) 33, xe_0 64 2 (.iload 4), xe_1 66 3 (.goto 5) 34, xe_0 69 2 (.iload 5), xe_0 71 2 (.istore 7), xe_0 73 1 (.aload_n 0), xe_4 74 3 (.getfield 7) 12 46 6 6161, xe_0 77 1 (.aload_n 0), xe_4 78 3 (.getfield 275) 12 21 0 6163, xe_0 81 2 (.iload 6), xe_0 83 1 .iadd, xe_0 84 2 (.iload 7), xe_0 86 2 (.bipush 24), xe_0 88 2 (.bipush 8), xe_0 90 2 (.iload 6), xe_0 92 1 (.iconst 3), xe_0 93 1 .iand, xe_0 94 1 .imul, xe_0 95 1 .isub, xe_0 96 1 .ishr, xe_0 97 1 .i2b, xe_0 98 1 .bastore, xe_0 99 3 (.iinc 6 1), xe_1 102 3 (.goto (-84)) 10, xe_0 105 1 (.aload_n 0), xe_0 106 1 .dup, xe_4 107 3 (.getfield 275) 12 21 0 6163, xe_0 110 2 (.bipush 20), xe_0 112 1 .iadd, xe_4 113 3 (.putfield 275) 12 21 0 6163, xe_0 116 1 (.aload_n 0), xe_4 117 3 (.getfield 275) 12 21 0 6163, xe_0 120 1 .ireturn]
def xm_167 : xM := (⟨"GridLawsModel", "feed", "(IIIII)I"⟩, prog_14_method_118_code, 8, (some .int), 0, 0, 5, xt_167)
/-- GridLawsModel.end(I)I -/
def xt_168 : List xE := [xe_0 0 1 (.iload_n 1), xe_1 1 3 (.ifCond .lt 11) 6, xe_0 4 1 (.iload_n 1), xe_0 5 1 (.aload_n 0), xe_4 6 3 (.getfield 275) 12 21 0 6163, xe_1 9 3 (.if_icmp .le 5) 8, xe_0 12 1 (.iconst (-1)), xe_0 13 1 .ireturn, xe_0 14 1 (.aload_n 0), xe_0 15 1 (.iload_n 1), xe_4 16 3 (.putfield 275) 12 21 0 6163, xe_0 19 1 (.iload_n 1), xe_0 20 1 .ireturn]
def xm_168 : xM := (⟨"GridLawsModel", "end", "(I)I"⟩, prog_14_method_119_code, 2, (some .int), 0, 0, 1, xt_168)
/-- java/lang/String.length()I -/
def xt_169 : List xE := [xe_0 0 1 (.aload_n 0), xe_4 1 3 (.getfield 9) 1000 1 0 9167, xe_0 4 1 .arraylength, xe_0 5 1 (.aload_n 0), xe_4 6 3 (.invokevirtual 335) 171 0 1000 1042, xe_0 9 1 .ishr, xe_0 10 1 .ireturn]
def xm_169 : xM := (⟨"java/lang/String", "length", "()I"⟩, prog_18_method_54_code, 1, (some .int), 0, 0, 0, xt_169)
/-- java/lang/String.charAt(I)C -/
def xt_170 : List xE := [xe_0 0 1 (.aload_n 0), xe_4 1 3 (.invokevirtual 492) 172 0 1000 1052, xe_1 4 3 (.ifCond .eq 12) 8, xe_0 7 1 (.aload_n 0), xe_4 8 3 (.getfield 9) 1000 1 0 9167, xe_0 11 1 (.iload_n 1), xe_4 12 3 (.invokestatic 495) 174 0 2000 1056, xe_0 15 1 .ireturn, xe_d 16 1, xe_d 17 3, xe_d 20 1, xe_d 21 3, xe_d 24 1]
def xm_170 : xM := (⟨"java/lang/String", "charAt", "(I)C"⟩, prog_18_method_56_code, 2, (some .char), 0, 0, 1, xt_170)
/-- java/lang/String.coder()B -/
def xt_171 : List xE := [xe_4 0 3 (.getstatic 38) 0 1 0 1046, xe_1 3 3 (.ifCond .eq 10) 5, xe_0 6 1 (.aload_n 0), xe_4 7 3 (.getfield 15) 1000 0 0 9168, xe_1 10 3 (.goto 4) 6, xe_d 13 1, xe_0 14 1 .ireturn]
def xm_171 : xM := (⟨"java/lang/String", "coder", "()B"⟩, prog_18_method_152_code, 1, (some .byte), 0, 0, 0, xt_171)
/-- java/lang/String.isLatin1()Z -/
def xt_172 : List xE := [xe_4 0 3 (.getstatic 38) 0 1 0 1046, xe_1 3 3 (.ifCond .eq 14) 7, xe_0 6 1 (.aload_n 0), xe_4 7 3 (.getfield 15) 1000 0 0 9168, xe_1 10 3 (.ifCond .ne 7) 7, xe_0 13 1 (.iconst 1), xe_1 14 3 (.goto 4) 8, xe_d 17 1, xe_0 18 1 .ireturn]
def xm_172 : xM := (⟨"java/lang/String", "isLatin1", "()Z"⟩, prog_18_method_154_code, 1, (some .boolean), 0, 0, 0, xt_172)
/-- java/lang/String.checkIndex(II)V -/
def xt_173 : List xE := [xe_0 0 1 (.iload_n 0), xe_0 1 1 (.iload_n 1), xe_4 2 3 (.getstatic 1053) 1 0 0 1062, xe_4 5 3 (.invokestatic 1059) 176 0 2000 1064, xe_0 8 1 .pop, xe_0 9 1 .return_]
def xm_173 : xM := (⟨"java/lang/String", "checkIndex", "(II)V"⟩, prog_18_method_155_code, 2, none, 0, 0, 2, xt_173)
/-- java/lang/StringLatin1.charAt([BI)C -/
def xt_174 : List xE := [xe_0 0 1 (.iload_n 1), xe_0 1 1 (.aload_n 0), xe_0 2 1 .arraylength, xe_4 3 3 (.invokestatic 9) 173 0 1000 1059, xe_0 6 1 (.aload_n 0), xe_0 7 1 (.iload_n 1), xe_0 8 1 .baload, xe_0 9 3 (.sipush 255), xe_0 12 1 .iand, xe_0 13 1 .i2c, xe_0 14 1 .ireturn]
def xm_174 : xM := (⟨"java/lang/StringLatin1", "charAt", "([BI)C"⟩, prog_19_method_2_code, 2, (some .char), 0, 0, 2, xt_174)
/-- java/util/Arrays.fill([II)V -/
def xt_175 : List xE := [xe_0 0 1 (.iconst 0), xe_0 1 1 (.istore_n 2), xe_0 2 1 (.aload_n 0), xe_0 3 1 .arraylength, xe_0 4 1 (.istore_n 3), xe_0 5 1 (.iload_n 2), xe_0 6 1 (.iload_n 3), xe_1 7 3 (.if_icmp .ge 13) 14, xe_0 10 1 (.aload_n 0), xe_0 11 1 (.iload_n 2), xe_0 12 1 (.iload_n 1), xe_0 13 1 .iastore, xe_0 14 3 (.iinc 2 1), xe_1 17 3 (.goto (-12)) 5, xe_0 20 1 .return_]
def xm_175 : xM := (⟨"java/util/Arrays", "fill", "([II)V"⟩, prog_22_method_103_code, 4, none, 0, 0, 2, xt_175)
/-- jdk/internal/util/Preconditions.checkIndex(IILjava/util/function/BiFunction;)I -/
def xt_176 : List xE := [xe_0 0 1 (.iload_n 0), xe_1 1 3 (.ifCond .lt 8) 5, xe_0 4 1 (.iload_n 0), xe_0 5 1 (.iload_n 1), xe_1 6 3 (.if_icmp .lt 10) 10, xe_d 9 1, xe_d 10 1, xe_d 11 1, xe_d 12 3, xe_d 15 1, xe_0 16 1 (.iload_n 0), xe_0 17 1 .ireturn]
def xm_176 : xM := (⟨"jdk/internal/util/Preconditions", "checkIndex", "(IILjava/util/function/BiFunction;)I"⟩, prog_23_method_11_code, 3, (some .int), 0, 0, 3, xt_176)
/-- GridLawsLaw.law([I)Z -/
def xt_177 : List xE := [xe_4 0 3 (.new 7) 11 0 0 1023, xe_0 3 1 .dup, xe_4 4 3 (.invokespecial 9) 57 0 11 1025, xe_0 7 1 (.astore_n 1), xe_4 8 3 (.new 10) 12 0 0 6144, xe_0 11 1 .dup, xe_4 12 3 (.invokespecial 12) 101 0 12 6146, xe_0 15 1 (.astore_n 2), xe_0 16 1 (.iconst 0), xe_0 17 1 (.istore_n 3), xe_0 18 1 (.iload_n 3), xe_0 19 1 (.aload_n 0), xe_0 20 1 .arraylength, xe_0 21 2 (.bipush 6), xe_0 23 1 .isub, xe_1 24 3 (.if_icmp .gt 1139) 735, xe_0 27 1 (.aload_n 0), xe_0 28 1 (.iload_n 3), xe_0 29 1 .iaload, xe_0 30 2 (.bipush 63), xe_0 32 1 .iand, xe_4 33 171 (.tableswitch 1124 0 38 #[171, 234, 257, 270, 293, 316, 329, 362, 385, 408, 441, 474, 497, 520, 533, 546, 559, 572, 585, 598, 621, 634, 647, 660, 673, 696, 729, 762, 805, 838, 861, 920, 943, 966, 989, 1022, 1055, 1078, 1101]) 733 760600936004880759133442655834258364121805645757620554656454898451977565030890197546216506295023947440579242165500611113496827007904889083388842410980093756402289581801757090313218752534 0 0, xe_0 204 1 (.aload_n 1), xe_0 205 1 (.aload_n 0), xe_0 206 1 (.iload_n 3), xe_0 207 1 (.iconst 1), xe_0 208 1 .iadd, xe_0 209 1 .iaload, xe_0 210 1 (.aload_n 0), xe_0 211 1 (.iload_n 3), xe_0 212 1 (.iconst 2), xe_0 213 1 .iadd, xe_0 214 1 .iaload, xe_0 215 1 (.aload_n 0), xe_0 216 1 (.iload_n 3), xe_0 217 1 (.iconst 3), xe_0 218 1 .iadd, xe_0 219 1 .iaload, xe_0 220 1 (.aload_n 0), xe_0 221 1 (.iload_n 3), xe_0 222 1 (.iconst 4), xe_0 223 1 .iadd, xe_0 224 1 .iaload, xe_0 225 1 (.aload_n 0), xe_0 226 1 (.iload_n 3), xe_0 227 1 (.iconst 5), xe_0 228 1 .iadd, xe_0 229 1 .iaload, xe_4 230 3 (.invokevirtual 13) 58 0 11 3141, xe_0 233 1 (.aload_n 2), xe_0 234 1 (.aload_n 0), xe_0 235 1 (.iload_n 3), xe_0 236 1 (.iconst 1), xe_0 237 1 .iadd, xe_0 238 1 .iaload, xe_0 239 1 (.aload_n 0), xe_0 240 1 (.iload_n 3), xe_0 241 1 (.iconst 2), xe_0 242 1 .iadd, xe_0 243 1 .iaload, xe_0 244 1 (.aload_n 0), xe_0 245 1 (.iload_n 3), xe_0 246 1 (.iconst 3), xe_0 247 1 .iadd, xe_0 248 1 .iaload, xe_0 249 1 (.aload_n 0), xe_0 250 1 (.iload_n 3), xe_0 251 1 (.iconst 4), xe_0 252 1 .iadd, xe_0 253 1 .iaload, xe_0 254 1 (.aload_n 0), xe_0 255 1 (.iload_n 3), xe_0 256 1 (.iconst 5), xe_0 257 1 .iadd, xe_0 258 1 .iaload, xe_4 259 3 (.invokevirtual 17) 167 0 12 9159, xe_1 262 3 (.if_icmp .eq 895) 733, xe_d 265 1, xe_d 266 1, xe_0 267 1 (.aload_n 1), xe_0 268 1 (.aload_n 0), xe_0 269 1 (.iload_n 3), xe_0 270 1 (.iconst 1), xe_0 271 1 .iadd, xe_0 272 1 .iaload, xe_4 273 3 (.invokevirtual 18) 59 0 11 3149, xe_0 276 1 (.aload_n 2), xe_0 277 1 (.aload_n 0), xe_0 278 1 (.iload_n 3), xe_0 279 1 (.iconst 1), xe_0 280 1 .iadd, xe_0 281 1 .iaload, xe_4 282 3 (.invokevirtual 22) 168 0 12 9163, xe_1 285 3 (.if_icmp .eq 872) 733, xe_d 288 1, xe_d 289 1, xe_0 290 1 (.aload_n 1), xe_4 291 3 (.invokevirtual 23) 60 0 11 3153, xe_0 294 1 (.aload_n 2), xe_4 295 3 (.invokevirtual 27) 106 0 12 7174, xe_1 298 3 (.if_icmp .eq 859) 733, xe_d 301 1, xe_d 302 1, xe_0 303 1 (.aload_n 1), xe_0 304 1 (.aload_n 0), xe_0 305 1 (.iload_n 3), xe_0 306 1 (.iconst 1), xe_0 307 1 .iadd, xe_0 308 1 .iaload, xe_4 309 3 (.invokevirtual 28) 62 0 11 4201, xe_0 312 1 (.aload_n 2), xe_0 313 1 (.aload_n 0), xe_0 314 1 (.iload_n 3), xe_0 315 1 (.iconst 1), xe_0 316 1 .iadd, xe_0 317 1 .iaload, xe_4 318 3 (.invokevirtual 31) 107 0 12 8092, xe_1 321 3 (.if_icmp .eq 836) 733, xe_d 324 1, xe_d 325 1, xe_0 326 1 (.aload_n 1), xe_0 327 1 (.aload_n 0), xe_0 328 1 (.iload_n 3), xe_0 329 1 (.iconst 1), xe_0 330 1 .iadd, xe_0 331 1 .iaload, xe_4 332 3 (.invokevirtual 32) 63 0 11 4205, xe_0 335 1 (.aload_n 2), xe_0 336 1 (.aload_n 0), xe_0 337 1 (.iload_n 3), xe_0 338 1 (.iconst 1), xe_0 339 1 .iadd, xe_0 340 1 .iaload, xe_4 341 3 (.invokevirtual 35) 124 0 12 8096, xe_1 344 3 (.if_icmp .eq 813) 733, xe_d 347 1, xe_d 348 1, xe_0 349 1 (.aload_n 1), xe_4 350 3 (.invokevirtual 36) 64 0 11 4213, xe_0 353 1 (.aload_n 2), xe_4 354 3 (.invokevirtual 39) 125 0 12 8107, xe_1 357 3 (.if_icmp .eq 800) 733, xe_d 360 1, xe_d 361 1, xe_0 362 1 (.aload_n 1), xe_0 363 1 (.aload_n 0), xe_0 364 1 (.iload_n 3), xe_0 365 1 (.iconst 1), xe_0 366 1 .iadd, xe_0 367 1 .iaload, xe_0 368 1 (.aload_n 0), xe_0 369 1 (.iload_n 3), xe_0 370 1 (.iconst 2), xe_0 371 1 .iadd, xe_0 372 1 .iaload, xe_4 373 3 (.invokevirtual 40) 65 0 11 4217, xe_0 376 1 (.aload_n 2), xe_0 377 1 (.aload_n 0), xe_0 378 1 (.iload_n 3), xe_0 379 1 (.iconst 1), xe_0 380 1 .iadd, xe_0 381 1 .iaload, xe_0 382 1 (.aload_n 0), xe_0 383 1 (.iload_n 3), xe_0 384 1 (.iconst 2), xe_0 385 1 .iadd, xe_0 386 1 .iaload, xe_4 387 3 (.invokevirtual 44) 126 0 12 8151, xe_1 390 3 (.if_icmp .eq 767) 733, xe_d 393 1, xe_d 394 1, xe_0 395 1 (.aload_n 1), xe_0 396 1 (.aload_n 0), xe_0 397 1 (.iload_n 3), xe_0 398 1 (.iconst 1), xe_0 399 1 .iadd, xe_0 400 1 .iaload, xe_4 401 3 (.invokevirtual 45) 66 0 11 5008, xe_0 404 1 (.aload_n 2), xe_0 405 1 (.aload_n 0), xe_0 406 1 (.iload_n 3), xe_0 407 1 (.iconst 1), xe_0 408 1 .iadd, xe_0 409 1 .iaload, xe_4 410 3 (.invokevirtual 48) 127 0 12 8180, xe_1 413 3 (.if_icmp .eq 744) 733, xe_d 416 1, xe_d 417 1, xe_0 418 1 (.aload_n 1), xe_0 419 1 (.aload_n 0), xe_0 420 1 (.iload_n 3), xe_0 421 1 (.iconst 1), xe_0 422 1 .iadd, xe_0 423 1 .iaload, xe_4 424 3 (.invokevirtual 49) 67 0 11 5013, xe_0 427 1 (.aload_n 2), xe_0 428 1 (.aload_n 0), xe_0 429 1 (.iload_n 3), xe_0 430 1 (.iconst 1), xe_0 431 1 .iadd, xe_0 432 1 .iaload, xe_4 433 3 (.invokevirtual 52) 128 0 12 8184, xe_1 436 3 (.if_icmp .eq 721) 733, xe_d 439 1, xe_d 440 1, xe_0 441 1 (.aload_n 1), xe_0 442 1 (.aload_n 0), xe_0 443 1 (.iload_n 3), xe_0 444 1 (.iconst 1), xe_0 445 1 .iadd, xe_0 446 1 .iaload, xe_0 447 1 (.aload_n 0), xe_0 448 1 (.iload_n 3), xe_0 449 1 (.iconst 2), xe_0 450 1 .iadd, xe_0 451 1 .iaload, xe_4 452 3 (.invokevirtual 53) 68 0 11 5022, xe_0 455 1 (.aload_n 2), xe_0 456 1 (.aload_n 0), xe_0 457 1 (.iload_n 3), xe_0 458 1 (.iconst 1), xe_0 459 1 .iadd, xe_0 460 1 .iaload, xe_0 461 1 (.aload_n 0), xe_0 462 1 (.iload_n 3), xe_0 463 1 (.iconst 2), xe_0 464 1 .iadd, xe_0 465 1 .iaload, xe_4 466 3 (.invokevirtual 56) 129 0 12 8192, xe_1 469 3 (.if_icmp .eq 688) 733, xe_d 472 1, xe_d 473 1, xe_0 474 1 (.aload_n 1), xe_0 475 1 (.aload_n 0), xe_0 476 1 (.iload_n 3), xe_0 477 1 (.iconst 1), xe_0 478 1 .iadd, xe_0 479 1 .iaload, xe_0 480 1 (.aload_n 0), xe_0 481 1 (.iload_n 3), xe_0 482 1 (.iconst 2), xe_0 483 1 .iadd, xe_0 484 1 .iaload, xe_4 485 3 (.invokevirtual 57) 69 0 11 5035, xe_0 488 1 (.aload_n 2), xe_0 489 1 (.aload_n 0), xe_0 490 1 (.iload_n 3), xe_0 491 1 (.iconst 1), xe_0 492 1 .iadd, xe_0 493 1 .iaload, xe_0 494 1 (.aload_n 0), xe_0 495 1 (.iload_n 3), xe_0 496 1 (.iconst 2), xe_0 497 1 .iadd, xe_0 498 1 .iaload, xe_4 499 3 (.invokevirtual 60) 131 0 12 8205, xe_1 502 3 (.if_icmp .eq 655) 733, xe_d 505 1, xe_d 506 1, xe_0 507 1 (.aload_n 1), xe_0 508 1 (.aload_n 0), xe_0 509 1 (.iload_n 3), xe_0 510 1 (.iconst 1), xe_0 511 1 .iadd, xe_0 512 1 .iaload, xe_4 513 3 (.invokevirtual 61) 70 0 11 5053, xe_0 516 1 (.aload_n 2), xe_0 517 1 (.aload_n 0), xe_0 518 1 (.iload_n 3), xe_0 519 1 (.iconst 1), xe_0 520 1 .iadd, xe_0 521 1 .iaload, xe_4 522 3 (.invokevirtual 64) 132 0 12 8221, xe_1 525 3 (.if_icmp .eq 632) 733, xe_d 528 1, xe_d 529 1, xe_0 530 1 (.aload_n 1), xe_0 531 1 (.aload_n 0), xe_0 532 1 (.iload_n 3), xe_0 533 1 (.iconst 1), xe_0 534 1 .iadd, xe_0 535 1 .iaload, xe_4 536 3 (.invokevirtual 65) 71 0 11 5062, xe_0 539 1 (.aload_n 2), xe_0 540 1 (.aload_n 0), xe_0 541 1 (.iload_n 3), xe_0 542 1 (.iconst 1), xe_0 543 1 .iadd, xe_0 544 1 .iaload, xe_4 545 3 (.invokevirtual 68) 134 0 12 8225, xe_1 548 3 (.if_icmp .eq 609) 733, xe_d 551 1, xe_d 552 1, xe_0 553 1 (.aload_n 1), xe_4 554 3 (.invokevirtual 69) 72 0 11 5071, xe_0 557 1 (.aload_n 2), xe_4 558 3 (.invokevirtual 72) 136 0 12 8233, xe_1 561 3 (.if_icmp .eq 596) 733, xe_d 564 1, xe_d 565 1, xe_0 566 1 (.aload_n 1), xe_4 567 3 (.invokevirtual 73) 73 0 11 5090, xe_0 570 1 (.aload_n 2), xe_4 571 3 (.invokevirtual 77) 137 0 12 9005, xe_1 574 3 (.if_icmp .eq 583) 733, xe_d 577 1, xe_d 578 1, xe_0 579 1 (.aload_n 1), xe_4 580 3 (.invokevirtual 78) 74 0 11 5103, xe_0 583 1 (.aload_n 2), xe_4 584 3 (.invokevirtual 81) 138 0 12 9013, xe_1 587 3 (.if_icmp .eq 570) 733, xe_d 590 1, xe_d 591 1, xe_0 592 1 (.aload_n 1), xe_4 593 3 (.invokevirtual 82) 75 0 11 5111, xe_0 596 1 (.aload_n 2), xe_4 597 3 (.invokevirtual 85) 139 0 12 9017, xe_1 600 3 (.if_icmp .eq 557) 733, xe_d 603 1, xe_d 604 1, xe_0 605 1 (.aload_n 1), xe_4 606 3 (.invokevirtual 86) 76 0 11 5115, xe_0 609 1 (.aload_n 2), xe_4 610 3 (.invokevirtual 89) 140 0 12 9021, xe_1 613 3 (.if_icmp .eq 544) 733, xe_d 616 1, xe_d 617 1, xe_0 618 1 (.aload_n 1), xe_4 619 3 (.invokevirtual 90) 77 0 11 5135, xe_0 622 1 (.aload_n 2), xe_4 623 3 (.invokevirtual 93) 141 0 12 9029, xe_1 626 3 (.if_icmp .eq 531) 733, xe_d 629 1, xe_d 630 1, xe_0 631 1 (.aload_n 1), xe_0 632 1 (.aload_n 0), xe_0 633 1 (.iload_n 3), xe_0 634 1 (.iconst 1), xe_0 635 1 .iadd, xe_0 636 1 .iaload, xe_4 637 3 (.invokevirtual 94) 78 0 11 5139, xe_0 640 1 (.aload_n 2), xe_0 641 1 (.aload_n 0), xe_0 642 1 (.iload_n 3), xe_0 643 1 (.iconst 1), xe_0 644 1 .iadd, xe_0 645 1 .iaload, xe_4 646 3 (.invokevirtual 97) 142 0 12 9034, xe_1 649 3 (.if_icmp .eq 508) 733, xe_d 652 1, xe_d 653 1, xe_0 654 1 (.aload_n 1), xe_4 655 3 (.invokevirtual 98) 79 0 11 5148, xe_0 658 1 (.aload_n 2), xe_4 659 3 (.invokevirtual 101) 144 0 12 9042, xe_1 662 3 (.if_icmp .eq 495) 733, xe_d 665 1, xe_d 666 1, xe_0 667 1 (.aload_n 1), xe_4 668 3 (.invokevirtual 102) 80 0 11 5156, xe_0 671 1 (.aload_n 2), xe_4 672 3 (.invokevirtual 105) 145 0 12 9050, xe_1 675 3 (.if_icmp .eq 482) 733, xe_d 678 1, xe_d 679 1, xe_0 680 1 (.aload_n 1), xe_4 681 3 (.invokevirtual 106) 81 0 11 5170, xe_0 684 1 (.aload_n 2), xe_4 685 3 (.invokevirtual 109) 146 0 12 9054, xe_1 688 3 (.if_icmp .eq 469) 733, xe_d 691 1, xe_d 692 1, xe_0 693 1 (.aload_n 1), xe_4 694 3 (.invokevirtual 110) 82 0 11 5174, xe_0 697 1 (.aload_n 2), xe_4 698 3 (.invokevirtual 113) 150 0 12 9062, xe_1 701 3 (.if_icmp .eq 456) 733, xe_d 704 1, xe_d 705 1, xe_0 706 1 (.aload_n 1), xe_0 707 1 (.aload_n 0), xe_0 708 1 (.iload_n 3), xe_0 709 1 (.iconst 1), xe_0 710 1 .iadd, xe_0 711 1 .iaload, xe_4 712 3 (.invokevirtual 114) 83 0 11 5234, xe_0 715 1 (.aload_n 2), xe_0 716 1 (.aload_n 0), xe_0 717 1 (.iload_n 3), xe_0 718 1 (.iconst 1), xe_0 719 1 .iadd, xe_0 720 1 .iaload, xe_4 721 3 (.invokevirtual 117) 152 0 12 9090, xe_1 724 3 (.if_icmp .eq 433) 733, xe_d 727 1, xe_d 728 1, xe_0 729 1 (.aload_n 1), xe_0 730 1 (.aload_n 0), xe_0 731 1 (.iload_n 3), xe_0 732 1 (.iconst 1), xe_0 733 1 .iadd, xe_0 734 1 .iaload, xe_0 735 1 (.aload_n 0), xe_0 736 1 (.iload_n 3), xe_0 737 1 (.iconst 2), xe_0 738 1 .iadd, xe_0 739 1 .iaload, xe_4 740 3 (.invokevirtual 118) 84 0 11 6002, xe_0 743 1 (.aload_n 2), xe_0 744 1 (.aload_n 0), xe_0 745 1 (.iload_n 3), xe_0 746 1 (.iconst 1), xe_0 747 1 .iadd, xe_0 748 1 .iaload, xe_0 749 1 (.aload_n 0), xe_0 750 1 (.iload_n 3), xe_0 751 1 (.iconst 2), xe_0 752 1 .iadd, xe_0 753 1 .iaload, xe_4 754 3 (.invokevirtual 121) 153 0 12 9098, xe_1 757 3 (.if_icmp .eq 400) 733, xe_d 760 1, xe_d 761 1, xe_0 762 1 (.aload_n 1), xe_0 763 1 (.aload_n 0), xe_0 764 1 (.iload_n 3), xe_0 765 1 (.iconst 1), xe_0 766 1 .iadd, xe_0 767 1 .iaload, xe_0 768 1 (.aload_n 0), xe_0 769 1 (.iload_n 3), xe_0 770 1 (.iconst 2), xe_0 771 1 .iadd, xe_0 772 1 .iaload, xe_4 773 3 (.invokevirtual 122) 86 0 11 6006, xe_0 776 1 (.aload_n 2), xe_0 777 1 (.aload_n 0), xe_0 778 1 (.iload_n 3), xe_0 779 1 (.iconst 1), xe_0 780 1 .iadd, xe_0 781 1 .iaload, xe_0 782 1 (.aload_n 0), xe_0 783 1 (.iload_n 3), xe_0 784 1 (.iconst 2), xe_0 785 1 .iadd, xe_0 786 1 .iaload, xe_4 787 3 (.invokevirtual 125) 154 0 12 9102, xe_1 790 3 (.if_icmp .eq 367) 733, xe_d 793 1, xe_d 794 1, xe_0 795 1 (.aload_n 1), xe_0 796 1 (.aload_n 0), xe_0 797 1 (.iload_n 3), xe_0 798 1 (.iconst 1), xe_0 799 1 .iadd, xe_0 800 1 .iaload, xe_0 801 1 (.aload_n 0), xe_0 802 1 (.iload_n 3), xe_0 803 1 (.iconst 2), xe_0 804 1 .iadd, xe_0 805 1 .iaload, xe_0 806 1 (.aload_n 0), xe_0 807 1 (.iload_n 3), xe_0 808 1 (.iconst 3), xe_0 809 1 .iadd, xe_0 810 1 .iaload, xe_4 811 3 (.invokevirtual 126) 87 0 11 6023, xe_0 814 1 (.aload_n 2), xe_0 815 1 (.aload_n 0), xe_0 816 1 (.iload_n 3), xe_0 817 1 (.iconst 1), xe_0 818 1 .iadd, xe_0 819 1 .iaload, xe_0 820 1 (.aload_n 0), xe_0 821 1 (.iload_n 3), xe_0 822 1 (.iconst 2), xe_0 823 1 .iadd, xe_0 824 1 .iaload, xe_0 825 1 (.aload_n 0), xe_0 826 1 (.iload_n 3), xe_0 827 1 (.iconst 3), xe_0 828 1 .iadd, xe_0 829 1 .iaload, xe_4 830 3 (.invokevirtual 130) 155 0 12 9106, xe_1 833 3 (.if_icmp .eq 324) 733, xe_d 836 1, xe_d 837 1, xe_0 838 1 (.aload_n 1), xe_0 839 1 (.aload_n 0), xe_0 840 1 (.iload_n 3), xe_0 841 1 (.iconst 1), xe_0 842 1 .iadd, xe_0 843 1 .iaload, xe_0 844 1 (.aload_n 0), xe_0 845 1 (.iload_n 3), xe_0 846 1 (.iconst 2), xe_0 847 1 .iadd, xe_0 848 1 .iaload, xe_4 849 3 (.invokevirtual 131) 88 0 11 6058, xe_0 852 1 (.aload_n 2), xe_0 853 1 (.aload_n 0), xe_0 854 1 (.iload_n 3), xe_0 855 1 (.iconst 1), xe_0 856 1 .iadd, xe_0 857 1 .iaload, xe_0 858 1 (.aload_n 0), xe_0 859 1 (.iload_n 3), xe_0 860 1 (.iconst 2), xe_0 861 1 .iadd, xe_0 862 1 .iaload, xe_4 863 3 (.invokevirtual 134) 156 0 12 9114, xe_1 866 3 (.if_icmp .eq 291) 733, xe_d 869 1, xe_d 870 1, xe_0 871 1 (.aload_n 1), xe_0 872 1 (.aload_n 0), xe_0 873 1 (.iload_n 3), xe_0 874 1 (.iconst 1), xe_0 875 1 .iadd, xe_0 876 1 .iaload, xe_4 877 3 (.invokevirtual 135) 89 0 11 6062, xe_0 880 1 (.aload_n 2), xe_0 881 1 (.aload_n 0), xe_0 882 1 (.iload_n 3), xe_0 883 1 (.iconst 1), xe_0 884 1 .iadd, xe_0 885 1 .iaload, xe_4 886 3 (.invokevirtual 138) 147 0 12 9058, xe_1 889 3 (.if_icmp .eq 268) 733, xe_d 892 1, xe_d 893 1, xe_0 894 1 (.aload_n 1), xe_0 895 1 (.aload_n 0), xe_0 896 1 (.iload_n 3), xe_0 897 1 (.iconst 1), xe_0 898 1 .iadd, xe_0 899 1 .iaload, xe_0 900 1 (.aload_n 0), xe_0 901 1 (.iload_n 3), xe_0 902 1 (.iconst 2), xe_0 903 1 .iadd, xe_0 904 1 .iaload, xe_0 905 1 (.aload_n 0), xe_0 906 1 (.iload_n 3), xe_0 907 1 (.iconst 3), xe_0 908 1 .iadd, xe_0 909 1 .iaload, xe_1 910 3 (.ifCond .eq 7) 551, xe_0 913 1 (.iconst 1), xe_1 914 3 (.goto 4) 552, xe_0 917 1 (.iconst 0), xe_4 918 3 (.invokevirtual 139) 90 0 11 6066, xe_0 921 1 (.aload_n 2), xe_0 922 1 (.aload_n 0), xe_0 923 1 (.iload_n 3), xe_0 924 1 (.iconst 1), xe_0 925 1 .iadd, xe_0 926 1 .iaload, xe_0 927 1 (.aload_n 0), xe_0 928 1 (.iload_n 3), xe_0 929 1 (.iconst 2), xe_0 930 1 .iadd, xe_0 931 1 .iaload, xe_0 932 1 (.aload_n 0), xe_0 933 1 (.iload_n 3), xe_0 934 1 (.iconst 3), xe_0 935 1 .iadd, xe_0 936 1 .iaload, xe_1 937 3 (.ifCond .eq 7) 572, xe_0 940 1 (.iconst 1), xe_1 941 3 (.goto 4) 573, xe_0 944 1 (.iconst 0), xe_4 945 3 (.invokevirtual 143) 157 0 12 9118, xe_1 948 3 (.if_icmp .eq 209) 733, xe_d 951 1, xe_d 952 1, xe_0 953 1 (.aload_n 1), xe_0 954 1 (.aload_n 0), xe_0 955 1 (.iload_n 3), xe_0 956 1 (.iconst 1), xe_0 957 1 .iadd, xe_0 958 1 .iaload, xe_4 959 3 (.invokevirtual 144) 91 0 11 6074, xe_0 962 1 (.aload_n 2), xe_0 963 1 (.aload_n 0), xe_0 964 1 (.iload_n 3), xe_0 965 1 (.iconst 1), xe_0 966 1 .iadd, xe_0 967 1 .iaload, xe_4 968 3 (.invokevirtual 148) 158 0 12 9122, xe_1 971 3 (.if_icmp .eq 186) 733, xe_d 974 1, xe_d 975 1, xe_0 976 1 (.aload_n 1), xe_0 977 1 (.aload_n 0), xe_0 978 1 (.iload_n 3), xe_0 979 1 (.iconst 1), xe_0 980 1 .iadd, xe_0 981 1 .iaload, xe_4 982 3 (.invokevirtual 149) 92 0 11 6082, xe_0 985 1 (.aload_n 2), xe_0 986 1 (.aload_n 0), xe_0 987 1 (.iload_n 3), xe_0 988 1 (.iconst 1), xe_0 989 1 .iadd, xe_0 990 1 .iaload, xe_4 991 3 (.invokevirtual 152) 159 0 12 9126, xe_1 994 3 (.if_icmp .eq 163) 733, xe_d 997 1, xe_d 998 1, xe_0 999 1 (.aload_n 1), xe_0 1000 1 (.aload_n 0), xe_0 1001 1 (.iload_n 3), xe_0 1002 1 (.iconst 1), xe_0 1003 1 .iadd, xe_0 1004 1 .iaload, xe_4 1005 3 (.invokevirtual 153) 93 0 11 6087, xe_0 1008 1 (.aload_n 2), xe_0 1009 1 (.aload_n 0), xe_0 1010 1 (.iload_n 3), xe_0 1011 1 (.iconst 1), xe_0 1012 1 .iadd, xe_0 1013 1 .iaload, xe_4 1014 3 (.invokevirtual 156) 161 0 12 9131, xe_1 1017 3 (.if_icmp .eq 140) 733, xe_d 1020 1, xe_d 1021 1, xe_0 1022 1 (.aload_n 1), xe_0 1023 1 (.aload_n 0), xe_0 1024 1 (.iload_n 3), xe_0 1025 1 (.iconst 1), xe_0 1026 1 .iadd, xe_0 1027 1 .iaload, xe_0 1028 1 (.aload_n 0), xe_0 1029 1 (.iload_n 3), xe_0 1030 1 (.iconst 2), xe_0 1031 1 .iadd, xe_0 1032 1 .iaload, xe_4 1033 3 (.invokevirtual 157) 94 0 11 6108, xe_0 1036 1 (.aload_n 2), xe_0 1037 1 (.aload_n 0), xe_0 1038 1 (.iload_n 3), xe_0 1039 1 (.iconst 1), xe_0 1040 1 .iadd, xe_0 1041 1 .iaload, xe_0 1042 1 (.aload_n 0), xe_0 1043 1 (.iload_n 3), xe_0 1044 1 (.iconst 2), xe_0 1045 1 .iadd, xe_0 1046 1 .iaload, xe_4 1047 3 (.invokevirtual 160) 162 0 12 9139, xe_1 1050 3 (.if_icmp .eq 107) 733, xe_d 1053 1, xe_d 1054 1, xe_0 1055 1 (.aload_n 1), xe_0 1056 1 (.aload_n 0), xe_0 1057 1 (.iload_n 3), xe_0 1058 1 (.iconst 1), xe_0 1059 1 .iadd, xe_0 1060 1 .iaload, xe_0 1061 1 (.aload_n 0), xe_0 1062 1 (.iload_n 3), xe_0 1063 1 (.iconst 2), xe_0 1064 1 .iadd, xe_0 1065 1 .iaload, xe_4 1066 3 (.invokevirtual 161) 95 0 11 6116, xe_0 1069 1 (.aload_n 2), xe_0 1070 1 (.aload_n 0), xe_0 1071 1 (.iload_n 3), xe_0 1072 1 (.iconst 1), xe_0 1073 1 .iadd, xe_0 1074 1 .iaload, xe_0 1075 1 (.aload_n 0), xe_0 1076 1 (.iload_n 3), xe_0 1077 1 (.iconst 2), xe_0 1078 1 .iadd, xe_0 1079 1 .iaload, xe_4 1080 3 (.invokevirtual 164) 163 0 12 9143, xe_1 1083 3 (.if_icmp .eq 74) 733, xe_d 1086 1, xe_d 1087 1, xe_0 1088 1 (.aload_n 1), xe_0 1089 1 (.aload_n 0), xe_0 1090 1 (.iload_n 3), xe_0 1091 1 (.iconst 1), xe_0 1092 1 .iadd, xe_0 1093 1 .iaload, xe_4 1094 3 (.invokevirtual 165) 97 0 11 6126, xe_0 1097 1 (.aload_n 2), xe_0 1098 1 (.aload_n 0), xe_0 1099 1 (.iload_n 3), xe_0 1100 1 (.iconst 1), xe_0 1101 1 .iadd, xe_0 1102 1 .iaload, xe_4 1103 3 (.invokevirtual 168) 164 0 12 9147, xe_1 1106 3 (.if_icmp .eq 51) 733, xe_d 1109 1, xe_d 1110 1, xe_0 1111 1 (.aload_n 1), xe_0 1112 1 (.aload_n 0), xe_0 1113 1 (.iload_n 3), xe_0 1114 1 (.iconst 1), xe_0 1115 1 .iadd, xe_0 1116 1 .iaload, xe_4 1117 3 (.invokevirtual 169) 98 0 11 6131, xe_0 1120 1 (.aload_n 2), xe_0 1121 1 (.aload_n 0), xe_0 1122 1 (.iload_n 3), xe_0 1123 1 (.iconst 1), xe_0 1124 1 .iadd, xe_0 1125 1 .iaload, xe_4 1126 3 (.invokevirtual 172) 165 0 12 9151, xe_1 1129 3 (.if_icmp .eq 28) 733, xe_d 1132 1, xe_d 1133 1, xe_0 1134 1 (.aload_n 1), xe_0 1135 1 (.aload_n 0), xe_0 1136 1 (.iload_n 3), xe_0 1137 1 (.iconst 1), xe_0 1138 1 .iadd, xe_0 1139 1 .iaload, xe_4 1140 3 (.invokevirtual 173) 99 0 11 6140, xe_0 1143 1 (.aload_n 2), xe_0 1144 1 (.aload_n 0), xe_0 1145 1 (.iload_n 3), xe_0 1146 1 (.iconst 1), xe_0 1147 1 .iadd, xe_0 1148 1 .iaload, xe_4 1149 3 (.invokevirtual 176) 166 0 12 9155, xe_1 1152 3 (.if_icmp .eq 5) 733, xe_d 1155 1, xe_d 1156 1, xe_0 1157 3 (.iinc 3 6), xe_1 1160 3 (.goto (-1142)) 10, xe_0 1163 1 (.iconst 1), xe_0 1164 1 .ireturn]
def xm_177 : xM := (⟨"GridLawsLaw", "law", "([I)Z"⟩, code, 4, (some .boolean), 600000, 7302250, 1, xt_177)
def xMT : List xM := [xm_0, xm_1, xm_2, xm_3, xm_4, xm_5, xm_6, xm_7, xm_8, xm_9, xm_10, xm_11, xm_12, xm_13, xm_14, xm_15, xm_16, xm_17, xm_18, xm_19, xm_20, xm_21, xm_22, xm_23, xm_24, xm_25, xm_26, xm_27, xm_28, xm_29, xm_30, xm_31, xm_32, xm_33, xm_34, xm_35, xm_36, xm_37, xm_38, xm_39, xm_40, xm_41, xm_42, xm_43, xm_44, xm_45, xm_46, xm_47, xm_48, xm_49, xm_50, xm_51, xm_52, xm_53, xm_54, xm_55, xm_56, xm_57, xm_58, xm_59, xm_60, xm_61, xm_62, xm_63, xm_64, xm_65, xm_66, xm_67, xm_68, xm_69, xm_70, xm_71, xm_72, xm_73, xm_74, xm_75, xm_76, xm_77, xm_78, xm_79, xm_80, xm_81, xm_82, xm_83, xm_84, xm_85, xm_86, xm_87, xm_88, xm_89, xm_90, xm_91, xm_92, xm_93, xm_94, xm_95, xm_96, xm_97, xm_98, xm_99, xm_100, xm_101, xm_102, xm_103, xm_104, xm_105, xm_106, xm_107, xm_108, xm_109, xm_110, xm_111, xm_112, xm_113, xm_114, xm_115, xm_116, xm_117, xm_118, xm_119, xm_120, xm_121, xm_122, xm_123, xm_124, xm_125, xm_126, xm_127, xm_128, xm_129, xm_130, xm_131, xm_132, xm_133, xm_134, xm_135, xm_136, xm_137, xm_138, xm_139, xm_140, xm_141, xm_142, xm_143, xm_144, xm_145, xm_146, xm_147, xm_148, xm_149, xm_150, xm_151, xm_152, xm_153, xm_154, xm_155, xm_156, xm_157, xm_158, xm_159, xm_160, xm_161, xm_162, xm_163, xm_164, xm_165, xm_166, xm_167, xm_168, xm_169, xm_170, xm_171, xm_172, xm_173, xm_174, xm_175, xm_176, xm_177]
def xNA : List Nat := [1, 1, 1, 0, 1, 1, 1, 1, 1, 2, 2, 0, 0, 5, 0, 0, 1, 1, 0, 3, 0, 1, 0, 1, 2, 1, 1, 1, 3, 0, 0, 0, 1, 1, 1, 1, 0, 0, 1, 1, 2, 1, 0, 0, 1, 0, 1, 2, 0, 0, 3, 1, 1, 0, 1, 0, 0, 0, 5, 1, 0, 0, 1, 1, 0, 2, 1, 1, 2, 2, 1, 1, 0, 0, 0, 0, 0, 0, 1, 0, 0, 0, 0, 1, 2, 1, 2, 3, 2, 1, 3, 1, 1, 1, 2, 2, 1, 1, 1, 1, 2, 0, 1, 0, 0, 0, 0, 1, 3, 2, 1, 0, 0, 0, 1, 1, 1, 3, 0, 1, 0, 0, 1, 0, 1, 0, 2, 1, 1, 2, 0, 2, 1, 0, 1, 0, 0, 0, 0, 0, 0, 0, 1, 0, 0, 0, 0, 1, 3, 1, 0, 1, 1, 2, 2, 3, 2, 3, 1, 1, 1, 1, 2, 2, 1, 1, 1, 5, 1, 0, 1, 0, 0, 2, 2, 2, 3, 1]
/-- of each method the places of its words: code, sort, selects, initialized -/
def xMW : List (Nat × Nat × Nat × Nat) := [(2057, 2056, 99999, 1011), (3043, 3041, 3042, 1011), (5181, 5179, 5180, 1011), (6098, 6096, 6097, 1011), (4212, 4210, 4211, 1011), (5060, 5058, 5059, 1011), (4224, 4222, 4223, 1011), (3073, 3071, 3072, 1011), (5155, 5153, 5154, 1011), (3065, 3063, 3064, 1011), (3069, 3067, 3068, 1011), (5069, 5067, 5068, 1011), (3050, 3048, 3049, 1011), (3057, 3056, 0, 1011), (3061, 3060, 1, 1011), (3077, 3075, 3076, 1011), (3085, 3083, 3084, 1011), (5042, 5040, 5041, 1011), (5078, 5076, 5077, 1011), (5194, 5192, 5193, 1011), (5122, 5120, 5121, 1011), (5167, 5165, 5166, 1011), (5163, 5161, 5162, 1011), (3016, 3015, 99999, 1017), (2205, 2204, 99999, 1016), (5186, 5184, 5185, 1016), (6102, 6100, 6101, 1016), (5190, 5189, 39, 1016), (5198, 5197, 40, 1016), (1164, 1163, 99999, 1009), (3164, 3162, 3163, 1009), (2132, 2131, 99999, 1012), (3093, 3091, 3092, 1012), (5051, 5049, 5050, 1012), (5097, 5095, 5096, 1012), (5110, 5108, 5109, 1012), (1130, 1129, 99999, 1007), (3160, 3158, 3159, 1007), (5029, 5027, 5028, 1007), (5020, 5018, 5019, 1007), (2033, 2032, 99999, 1010), (3169, 3167, 3168, 1010), (4019, 4017, 4018, 1010), (1136, 1135, 99999, 1008), (2138, 2137, 99999, 1013), (4200, 4198, 4199, 1013), (6138, 6136, 6137, 1013), (3097, 3095, 3096, 1013), (2175, 2174, 99999, 1015), (4196, 4194, 4195, 1015), (6073, 6071, 6072, 1015), (6081, 6079, 6080, 1015), (6106, 6104, 6105, 1015), (1035, 1034, 99999, 1002), (3148, 3146, 3147, 1002), (3173, 3171, 3172, 1002), (3177, 3175, 3176, 1002), (1027, 1026, 99999, 1001), (3144, 3142, 3143, 1001), (3152, 3150, 3151, 1001), (3156, 3154, 3155, 1001), (4192, 4191, 33, 1001), (4204, 4202, 4203, 1001), (4208, 4206, 4207, 1001), (4216, 4214, 4215, 1001), (4220, 4218, 4219, 1001), (5011, 5009, 5010, 1001), (5016, 5014, 5015, 1001), (5025, 5023, 5024, 1001), (5038, 5036, 5037, 1001), (5056, 5054, 5055, 1001), (5065, 5063, 5064, 1001), (5074, 5072, 5073, 1001), (5093, 5091, 5092, 1001), (5106, 5104, 5105, 1001), (5114, 5112, 5113, 1001), (5118, 5116, 5117, 1001), (5138, 5136, 5137, 1001), (5142, 5140, 5141, 1001), (5151, 5149, 5150, 1001), (5159, 5157, 5158, 1001), (5173, 5171, 5172, 1001), (5177, 5175, 5176, 1001), (5237, 5235, 5236, 1001), (6005, 6003, 6004, 1001), (6001, 6000, 45, 1001), (6009, 6007, 6008, 1001), (6026, 6024, 6025, 1001), (6061, 6059, 6060, 1001), (6065, 6063, 6064, 1001), (6069, 6067, 6068, 1001), (6077, 6075, 6076, 1001), (6085, 6083, 6084, 1001), (6090, 6088, 6089, 1001), (6111, 6109, 6110, 1001), (6119, 6117, 6118, 1001), (6094, 6093, 50, 1001), (6129, 6127, 6128, 1001), (6134, 6132, 6133, 1001), (6143, 6141, 6142, 1001), (3046, 3045, 99999, 1001), (6148, 6147, 99999, 1021), (7185, 7184, 54, 1021), (7219, 7218, 55, 1021), (7181, 7180, 53, 1021), (6153, 6152, 51, 1021), (7177, 7175, 7176, 1021), (8095, 8093, 8094, 1021), (8106, 8105, 99999, 1021), (6160, 6159, 99999, 1021), (8168, 8167, 99999, 1021), (8118, 8117, 86, 1021), (8103, 8102, 84, 1021), (8138, 8137, 91, 1021), (8191, 8190, 99, 1021), (8199, 8198, 100, 1021), (8134, 8133, 90, 1021), (8122, 8121, 87, 1021), (8114, 8113, 85, 1021), (8130, 8129, 89, 1021), (8126, 8125, 88, 1021), (8212, 8211, 102, 1021), (8165, 8164, 96, 1021), (6157, 6156, 52, 1021), (8099, 8097, 8098, 1021), (8110, 8108, 8109, 1021), (8154, 8152, 8153, 1021), (8183, 8181, 8182, 1021), (8187, 8185, 8186, 1021), (8195, 8193, 8194, 1021), (8216, 8215, 103, 1021), (8208, 8206, 8207, 1021), (8224, 8222, 8223, 1021), (8232, 8231, 105, 1021), (8228, 8226, 8227, 1021), (9000, 8239, 106, 1021), (8236, 8234, 8235, 1021), (9008, 9006, 9007, 1021), (9016, 9014, 9015, 1021), (9020, 9018, 9019, 1021), (9024, 9022, 9023, 1021), (9032, 9030, 9031, 1021), (9037, 9035, 9036, 1021), (9049, 9048, 111, 1021), (9045, 9043, 9044, 1021), (9053, 9051, 9052, 1021), (9057, 9055, 9056, 1021), (9061, 9059, 9060, 1021), (9085, 9084, 116, 1021), (9069, 9068, 112, 1021), (9065, 9063, 9064, 1021), (9097, 9096, 118, 1021), (9093, 9091, 9092, 1021), (9101, 9099, 9100, 1021), (9105, 9103, 9104, 1021), (9109, 9107, 9108, 1021), (9117, 9115, 9116, 1021), (9121, 9119, 9120, 1021), (9125, 9123, 9124, 1021), (9129, 9127, 9128, 1021), (9138, 9137, 120, 1021), (9134, 9132, 9133, 1021), (9142, 9140, 9141, 1021), (9146, 9144, 9145, 1021), (9150, 9148, 9149, 1021), (9154, 9152, 9153, 1021), (9158, 9156, 9157, 1021), (9162, 9160, 9161, 1021), (9166, 9164, 9165, 1021), (1041, 1039, 1040, 1003), (1051, 1049, 1050, 1003), (1045, 1043, 1044, 1003), (1055, 1053, 1054, 1003), (1061, 1060, 99999, 1003), (1058, 1057, 99999, 1004), (3053, 3052, 99999, 1018), (1066, 1065, 99999, 1005), (99999, 99999, 99999, 1000)]
def xLW : xM := xm_177
end
section
/-! what is decided of the rows -/
noncomputable def xlayb (C : String) (T : u_T) : Nat → List Nat → Bool
  | _, [] => true
  | k, i :: l => and (xwd i (u_lay C T k)) (xlayb C T (k + 1) l)
noncomputable def xnst (j : Nat) (w : Cond) : Bool := match xk_at xNW j with
  | some w' => decide (w' = w)
  | none => false
noncomputable def xjmp (ents : List xE) (pc : Nat) (off : Int) (j : Nat) : Bool := match xk_at ents j with
  | some e => decide ((pc : Int) + off = (e.1 : Int))
  | none => false
noncomputable def xtabs (ents : List xE) (pc N : Nat) : List Int → Nat → Bool
  | [], _ => true
  | o :: l, j => and (xjmp ents pc o (xx_g 16 N j)) (xtabs ents pc N l (j + 1))
noncomputable def xlooks (ents : List xE) (pc N : Nat) : List (Int × Int) → Nat → Bool
  | [], _ => true
  | o :: l, j => and (xjmp ents pc o.2 (xx_g 16 N j)) (xlooks ents pc N l (j + 1))
def xstr (cls : String) (i n : Nat) : Bool := xSR.any fun q => decide (q.1 = cls) && (decide (q.2.1 = i) && decide (q.2.2.2 = n))
/-- a called method -/
noncomputable def xmb (N : xM) (q : Nat × Nat × Nat × Nat) : Bool := and (plainName N.1.cls) (and (xwd q.1 (Cond.code N.1 N.2.1 N.2.2.1 N.2.2.2.1)) (and (xwd q.2.2.2 (Cond.initialized N.1.cls)) (and (decide (N.1.cls ≠ "java/lang/invoke/MethodHandle")) (and (decide (N.1.cls ≠ "java/lang/invoke/VarHandle")) (decide ((parseMethodDescriptor N.1.desc).map (fun d => d.parameters.length) = some N.2.2.2.2.2.2.1))))))
noncomputable def xlnk (own : String) (i a2 w : Nat) (y : MethodName) : Bool := cond (Nat.beq a2 1) (xnst w (Cond.methodLinkNest own i y "GridLaws")) (xwd w (Cond.methodLink own i y))
noncomputable def xinv (a1 : Nat) (k : xM → Nat × Nat × Nat × Nat → Bool) : Bool := match xk_at xMT a1 with
  | none => false
  | some N => match xk_at xMW a1 with
    | none => false
    | some q => and (xmb N q) (and (match xk_at xNA a1 with
      | some n => Nat.beq n N.2.2.2.2.2.2.1
      | none => false) (and (match N.2.2.2.2.2.2.2 with
      | [] => true
      | e :: _ => Nat.beq e.1 0) (k N q)))
/-- how long an instruction is (0: a switch) -/
def xilen (i : Instr) : Nat := match i with
  | .bipush _ => 2
  | .ldc _ => 2
  | .iload _ => 2
  | .lload _ => 2
  | .aload _ => 2
  | .istore _ => 2
  | .lstore _ => 2
  | .astore _ => 2
  | .newarray _ => 2
  | .sipush _ => 3
  | .ldc_w _ => 3
  | .ldc2_w _ => 3
  | .iinc _ _ => 3
  | .goto _ => 3
  | .ifCond _ _ => 3
  | .if_icmp _ _ => 3
  | .getfield _ => 3
  | .putfield _ => 3
  | .getstatic _ => 3
  | .new _ => 3
  | .invokevirtual _ => 3
  | .invokespecial _ => 3
  | .invokestatic _ => 3
  | .tableswitch _ _ _ _ => 0
  | .lookupswitch _ _ => 0
  | _ => 1
noncomputable def xvb (M : xM) (e : xE) : Bool := match e with
  | (pc, len, ins, a1, a2, a3, w) => cond (Nat.beq w 999999) true (and (and (decide (decode M.2.1 pc = .ok (ins, len))) (or (Nat.beq (xilen ins) 0) (Nat.beq len (xilen ins)))) (match ins with
    | .ldc i => cond (Nat.beq a1 0) (xwd w (Cond.constant M.1.cls i (Int32.ofNat a2))) (xstr M.1.cls i a2)
    | .ldc_w i => xwd w (Cond.constant M.1.cls i (Int32.ofNat a2))
    | .ldc2_w i => xwd w (Cond.constantLong M.1.cls i (Int64.ofNat a2))
    | .goto off => xjmp M.2.2.2.2.2.2.2 pc off a1
    | .ifCond _ off => xjmp M.2.2.2.2.2.2.2 pc off a1
    | .if_icmp _ off => xjmp M.2.2.2.2.2.2.2 pc off a1
    | .tableswitch dflt lo hi offs => and (xjmp M.2.2.2.2.2.2.2 pc dflt a1) (and (decide (hi - lo + 1 = (offs.toList.length : Int))) (xtabs M.2.2.2.2.2.2.2 pc a2 offs.toList 0))
    | .lookupswitch dflt ps => and (xjmp M.2.2.2.2.2.2.2 pc dflt a1) (and ((ps.toList.zip (ps.toList.drop 1)).all (fun (a, next) => a.1 < next.1)) (xlooks M.2.2.2.2.2.2.2 pc a2 ps.toList 0))
    | .getfield i => (match xk_at xcl a1 with
      | some q => and (Nat.ble (Nat.succ a2) q.2.2) (cond (Nat.ble 100000 w) (xnst (Nat.sub w 100000) (Cond.fieldLinkNest M.1.cls i (q.2.1 a2).1 (q.2.1 a2).2.1 (q.2.1 a2).2.2.1 "GridLaws")) (xwd w (Cond.fieldLink M.1.cls i (q.2.1 a2).1 (q.2.1 a2).2.1 (q.2.1 a2).2.2.1)))
      | none => and (Nat.beq a1 1000) (cond (Nat.beq a2 0) (xwd w (Cond.fieldLink M.1.cls i "java/lang/String" "coder" "B")) (and (Nat.beq a2 1) (xwd w (Cond.fieldLink M.1.cls i "java/lang/String" "value" "[B")))))
    | .putfield i => (match xk_at xcl a1 with
      | some q => and (Nat.ble (Nat.succ a2) q.2.2) (and (xwd w (Cond.fieldLink M.1.cls i (q.2.1 a2).1 (q.2.1 a2).2.1 (q.2.1 a2).2.2.1)) (and (Nat.beq a3 (xh_tc (xTY a1 a2))) (cond (q.2.1 a2).2.2.2 (and (decide (M.1.name = "<init>")) (decide ((q.2.1 a2).1 = M.1.cls))) true)))
      | none => false)
    | .getstatic i => cond (Nat.beq a1 0) (and (Nat.beq a2 1) (xwd w (Cond.fieldLink M.1.cls i "java/lang/String" "COMPACT_STRINGS" "Z"))) (xwd w (Cond.fieldLink M.1.cls i "jdk/internal/util/Preconditions" "SIOOBE_FORMATTER" "Ljava/util/function/BiFunction;"))
    | .newarray t => xwd w (Cond.arrayClass (newarray.typeOf t))
    | .new i => (match xk_at xcl a1 with
      | some q => xwd w (Cond.classLink M.1.cls i q.1)
      | none => false)
    | .invokevirtual i => xinv a1 fun N q => and (xlnk M.1.cls i a2 w N.1) (and (xwd q.2.1 (Cond.instanceMethod N.1)) (and (xwd q.2.2.1 (Cond.selects N.1.cls N.1 N.1)) (match xk_at xcl a3 with
      | some q => decide (q.1 = N.1.cls)
      | none => and (Nat.beq a3 1000) (decide (N.1.cls = "java/lang/String")))))
    | .invokespecial i => cond (Nat.beq a2 2) (xwd w (Cond.methodLink M.1.cls i objectInit)) (xinv a1 fun N q => and (xlnk M.1.cls i a2 w N.1) (and (xwd q.2.1 (Cond.instanceMethod N.1)) (and (decide (N.1.name = "<init>")) (decide (N.2.2.2.1 = none)))))
    | .invokestatic i => cond (Nat.beq a2 3) (xwd w (Cond.methodLink M.1.cls i arraycopyName)) (cond (Nat.beq a2 4) (xwd w (Cond.methodLink M.1.cls i Lib.Math.max.name)) (cond (Nat.beq a2 5) (xwd w (Cond.methodLink M.1.cls i Lib.Math.min.name)) (xinv a1 fun N q => and (xlnk M.1.cls i a2 w N.1) (xwd q.2.1 (Cond.static N.1)))))
    | _ => true))
/-- each row goes on where the one ahead ends -/
def xchain : List xE → Bool
  | [] => true
  | e :: l => match l with
    | [] => true
    | f :: _ => and (Nat.beq f.1 (Nat.add e.1 e.2.1)) (xchain l)
noncomputable def xallb (M : xM) (l : List xE) : Bool := List.rec (motive := fun _ => Bool) true (fun e _ ih => cond (xvb M e) ih false) l
noncomputable def xmvb (M : xM) : Bool := and (xchain M.2.2.2.2.2.2.2) (xallb M M.2.2.2.2.2.2.2)
end
section
def xh_one (o : xR) : Bool := match o with
  | none => false
  | some l => l.all fun o => match o.1 with
    | some v => and (Nat.beq v.1 0) (Nat.beq v.2 1)
    | none => false
def xH0 : xH := (0, List.replicate 12 (List.replicate 12 (.inl (999, []))))
/-- the run of the law: the script has less than six ints; it has six -/
def xGA : xG := ([], xDF, xBY, (1, 0))
def xGB : xG := ([], xDF, xBY, (0, 6))
noncomputable def xMA : List xP := xd_meths xGA xNA xMT
noncomputable def xMB : List xP := xd_meths xGB xNA xMT
noncomputable def xLA : List xD := xd_rows xGA xNA 600000 7302250 (some .boolean) xt_177
noncomputable def xLB : List xD := xd_rows xGB xNA 600000 7302250 (some .boolean) xt_177
theorem xr_A : xh_one (xh_run xMA 30000 12 600000 7302250 xLA xLA [(6, 0), (9, 0), (9, 0), (9, 0)] [] xH0 [(0, 5)] 0 0) = true := by decide +kernel
end
section
theorem xr_0 : xh_one (xh_run xMB 30000 12 600000 7302250 xLB xLB [(6, 0), (9, 0), (9, 0), (9, 0)] [] xH0 [xs_full, xs_full, xs_full, xs_full, xs_full, xs_full, (0, 5)] 0 0) = true := by decide +kernel
theorem xr_6a : xh_one (xh_run xMB 30000 12 600000 7302250 xLB xLB [(6, 0), (9, 0), (9, 0), (9, 0)] [] xH0 [xs_full, (-2147483648, 0), xs_full, xs_full, xs_full, xs_full, (6, 6)] 0 0) = true := by decide +kernel
theorem xr_6b : xh_one (xh_run xMB 30000 12 600000 7302250 xLB xLB [(6, 0), (9, 0), (9, 0), (9, 0)] [] xH0 [xs_full, (1, 1), xs_full, xs_full, xs_full, xs_full, (6, 6)] 0 0) = true := by decide +kernel
theorem xr_6c : xh_one (xh_run xMB 30000 12 600000 7302250 xLB xLB [(6, 0), (9, 0), (9, 0), (9, 0)] [] xH0 [xs_full, (2, 2), xs_full, xs_full, xs_full, xs_full, (6, 6)] 0 0) = true := by decide +kernel
theorem xr_6d : xh_one (xh_run xMB 30000 12 600000 7302250 xLB xLB [(6, 0), (9, 0), (9, 0), (9, 0)] [] xH0 [xs_full, (3, 3), xs_full, xs_full, xs_full, xs_full, (6, 6)] 0 0) = true := by decide +kernel
end
section
theorem xr_6e : xh_one (xh_run xMB 30000 12 600000 7302250 xLB xLB [(6, 0), (9, 0), (9, 0), (9, 0)] [] xH0 [xs_full, (4, 4), xs_full, xs_full, xs_full, xs_full, (6, 6)] 0 0) = true := by decide +kernel
theorem xr_6f : xh_one (xh_run xMB 30000 12 600000 7302250 xLB xLB [(6, 0), (9, 0), (9, 0), (9, 0)] [] xH0 [xs_full, (5, 2147483647), xs_full, xs_full, xs_full, xs_full, (6, 6)] 0 0) = true := by decide +kernel
theorem xr_7 : xh_one (xh_run xMB 30000 12 600000 7302250 xLB xLB [(6, 0), (9, 0), (9, 0), (9, 0)] [] xH0 [xs_full, xs_full, xs_full, xs_full, xs_full, xs_full, (7, 11)] 0 0) = true := by decide +kernel
theorem xr_12a : xh_one (xh_run xMB 30000 12 600000 7302250 xLB xLB [(6, 0), (9, 0), (9, 0), (9, 0)] [] xH0 [xs_full, (-2147483648, 3), xs_full, xs_full, xs_full, xs_full, (12, 12)] 0 0) = true := by decide +kernel
theorem xr_12b : xh_one (xh_run xMB 30000 12 600000 7302250 xLB xLB [(6, 0), (9, 0), (9, 0), (9, 0)] [] xH0 [xs_full, (4, 2147483647), xs_full, xs_full, xs_full, xs_full, (12, 12)] 0 0) = true := by decide +kernel
end
section
theorem xr_13 : xh_one (xh_run xMB 30000 12 600000 7302250 xLB xLB [(6, 0), (9, 0), (9, 0), (9, 0)] [] xH0 [xs_full, xs_full, xs_full, xs_full, xs_full, xs_full, (13, 22)] 0 0) = true := by decide +kernel
theorem xr_23 : xh_one (xh_run xMB 30000 12 600000 7302250 xLB xLB [(6, 0), (9, 0), (9, 0), (9, 0)] [] xH0 [xs_full, xs_full, xs_full, xs_full, xs_full, xs_full, (23, 32)] 0 0) = true := by decide +kernel
theorem xr_33 : xh_one (xh_run xMB 30000 12 600000 7302250 xLB xLB [(6, 0), (9, 0), (9, 0), (9, 0)] [] xH0 [xs_full, xs_full, xs_full, xs_full, xs_full, xs_full, (33, 33)] 0 0) = true := by decide +kernel
end
section
theorem xr_34a : xh_one (xh_run xMB 30000 12 600000 7302250 xLB xLB [(6, 0), (9, 0), (9, 0), (9, 0)] [] xH0 [xs_full, (-2147483648, 0), xs_full, xs_full, xs_full, xs_full, (34, 34)] 0 0) = true := by decide +kernel
theorem xr_34b : xh_one (xh_run xMB 30000 12 600000 7302250 xLB xLB [(6, 0), (9, 0), (9, 0), (9, 0)] [] xH0 [xs_full, (1, 1), xs_full, xs_full, xs_full, xs_full, (34, 34)] 0 0) = true := by decide +kernel
theorem xr_34c : xh_one (xh_run xMB 30000 12 600000 7302250 xLB xLB [(6, 0), (9, 0), (9, 0), (9, 0)] [] xH0 [xs_full, (2, 2), xs_full, xs_full, xs_full, xs_full, (34, 34)] 0 0) = true := by decide +kernel
end
section
theorem xr_34d : xh_one (xh_run xMB 30000 12 600000 7302250 xLB xLB [(6, 0), (9, 0), (9, 0), (9, 0)] [] xH0 [xs_full, (3, 3), xs_full, xs_full, xs_full, xs_full, (34, 34)] 0 0) = true := by decide +kernel
theorem xr_34e : xh_one (xh_run xMB 30000 12 600000 7302250 xLB xLB [(6, 0), (9, 0), (9, 0), (9, 0)] [] xH0 [xs_full, (4, 4), xs_full, xs_full, xs_full, xs_full, (34, 34)] 0 0) = true := by decide +kernel
theorem xr_34f : xh_one (xh_run xMB 30000 12 600000 7302250 xLB xLB [(6, 0), (9, 0), (9, 0), (9, 0)] [] xH0 [xs_full, (5, 5), xs_full, xs_full, xs_full, xs_full, (34, 34)] 0 0) = true := by decide +kernel
end
section
theorem xr_34g : xh_one (xh_run xMB 30000 12 600000 7302250 xLB xLB [(6, 0), (9, 0), (9, 0), (9, 0)] [] xH0 [xs_full, (6, 6), xs_full, xs_full, xs_full, xs_full, (34, 34)] 0 0) = true := by decide +kernel
theorem xr_34h : xh_one (xh_run xMB 30000 12 600000 7302250 xLB xLB [(6, 0), (9, 0), (9, 0), (9, 0)] [] xH0 [xs_full, (7, 7), xs_full, xs_full, xs_full, xs_full, (34, 34)] 0 0) = true := by decide +kernel
theorem xr_34i : xh_one (xh_run xMB 30000 12 600000 7302250 xLB xLB [(6, 0), (9, 0), (9, 0), (9, 0)] [] xH0 [xs_full, (8, 2147483647), xs_full, xs_full, xs_full, xs_full, (34, 34)] 0 0) = true := by decide +kernel
end
section
theorem xr_35 : xh_one (xh_run xMB 30000 12 600000 7302250 xLB xLB [(6, 0), (9, 0), (9, 0), (9, 0)] [] xH0 [xs_full, xs_full, xs_full, xs_full, xs_full, xs_full, (35, 63)] 0 0) = true := by decide +kernel
end
section
theorem xvm_0 : xmvb xm_0 = true := by decide +kernel
theorem xvm_1 : xmvb xm_1 = true := by decide +kernel
theorem xvm_2 : xmvb xm_2 = true := by decide +kernel
theorem xvm_3 : xmvb xm_3 = true := by decide +kernel
theorem xvm_4 : xmvb xm_4 = true := by decide +kernel
theorem xvm_5 : xmvb xm_5 = true := by decide +kernel
theorem xvm_6 : xmvb xm_6 = true := by decide +kernel
theorem xvm_7 : xmvb xm_7 = true := by decide +kernel
theorem xvm_8 : xmvb xm_8 = true := by decide +kernel
theorem xvm_9 : xmvb xm_9 = true := by decide +kernel
theorem xvm_10 : xmvb xm_10 = true := by decide +kernel
theorem xvm_11 : xmvb xm_11 = true := by decide +kernel
theorem xvm_12 : xmvb xm_12 = true := by decide +kernel
theorem xvm_13 : xmvb xm_13 = true := by decide +kernel
theorem xvm_14 : xmvb xm_14 = true := by decide +kernel
theorem xvm_15 : xmvb xm_15 = true := by decide +kernel
theorem xvm_16 : xmvb xm_16 = true := by decide +kernel
theorem xvm_17 : xmvb xm_17 = true := by decide +kernel
theorem xvm_18 : xmvb xm_18 = true := by decide +kernel
theorem xvm_19 : xmvb xm_19 = true := by decide +kernel
theorem xvm_20 : xmvb xm_20 = true := by decide +kernel
theorem xvm_21 : xmvb xm_21 = true := by decide +kernel
theorem xvm_22 : xmvb xm_22 = true := by decide +kernel
theorem xvm_23 : xmvb xm_23 = true := by decide +kernel
theorem xvm_24 : xmvb xm_24 = true := by decide +kernel
theorem xvm_25 : xmvb xm_25 = true := by decide +kernel
theorem xvm_26 : xmvb xm_26 = true := by decide +kernel
theorem xvm_27 : xmvb xm_27 = true := by decide +kernel
theorem xvm_28 : xmvb xm_28 = true := by decide +kernel
theorem xvm_29 : xmvb xm_29 = true := by decide +kernel
theorem xvm_30 : xmvb xm_30 = true := by decide +kernel
theorem xvm_31 : xmvb xm_31 = true := by decide +kernel
theorem xvm_32 : xmvb xm_32 = true := by decide +kernel
theorem xvm_33 : xmvb xm_33 = true := by decide +kernel
theorem xvm_34 : xmvb xm_34 = true := by decide +kernel
theorem xvm_35 : xmvb xm_35 = true := by decide +kernel
theorem xvm_36 : xmvb xm_36 = true := by decide +kernel
theorem xvm_37 : xmvb xm_37 = true := by decide +kernel
theorem xvm_38 : xmvb xm_38 = true := by decide +kernel
theorem xvm_39 : xmvb xm_39 = true := by decide +kernel
theorem xvm_40 : xmvb xm_40 = true := by decide +kernel
theorem xvm_41 : xmvb xm_41 = true := by decide +kernel
theorem xvm_42 : xmvb xm_42 = true := by decide +kernel
theorem xvm_43 : xmvb xm_43 = true := by decide +kernel
theorem xvm_44 : xmvb xm_44 = true := by decide +kernel
end
section
theorem xvm_45 : xmvb xm_45 = true := by decide +kernel
theorem xvm_46 : xmvb xm_46 = true := by decide +kernel
theorem xvm_47 : xmvb xm_47 = true := by decide +kernel
theorem xvm_48 : xmvb xm_48 = true := by decide +kernel
theorem xvm_49 : xmvb xm_49 = true := by decide +kernel
theorem xvm_50 : xmvb xm_50 = true := by decide +kernel
theorem xvm_51 : xmvb xm_51 = true := by decide +kernel
theorem xvm_52 : xmvb xm_52 = true := by decide +kernel
theorem xvm_53 : xmvb xm_53 = true := by decide +kernel
theorem xvm_54 : xmvb xm_54 = true := by decide +kernel
theorem xvm_55 : xmvb xm_55 = true := by decide +kernel
theorem xvm_56 : xmvb xm_56 = true := by decide +kernel
theorem xvm_57 : xmvb xm_57 = true := by decide +kernel
theorem xvm_58 : xmvb xm_58 = true := by decide +kernel
theorem xvm_59 : xmvb xm_59 = true := by decide +kernel
theorem xvm_60 : xmvb xm_60 = true := by decide +kernel
theorem xvm_61 : xmvb xm_61 = true := by decide +kernel
theorem xvm_62 : xmvb xm_62 = true := by decide +kernel
theorem xvm_63 : xmvb xm_63 = true := by decide +kernel
theorem xvm_64 : xmvb xm_64 = true := by decide +kernel
theorem xvm_65 : xmvb xm_65 = true := by decide +kernel
theorem xvm_66 : xmvb xm_66 = true := by decide +kernel
theorem xvm_67 : xmvb xm_67 = true := by decide +kernel
theorem xvm_68 : xmvb xm_68 = true := by decide +kernel
theorem xvm_69 : xmvb xm_69 = true := by decide +kernel
theorem xvm_70 : xmvb xm_70 = true := by decide +kernel
theorem xvm_71 : xmvb xm_71 = true := by decide +kernel
theorem xvm_72 : xmvb xm_72 = true := by decide +kernel
theorem xvm_73 : xmvb xm_73 = true := by decide +kernel
theorem xvm_74 : xmvb xm_74 = true := by decide +kernel
theorem xvm_75 : xmvb xm_75 = true := by decide +kernel
theorem xvm_76 : xmvb xm_76 = true := by decide +kernel
theorem xvm_77 : xmvb xm_77 = true := by decide +kernel
theorem xvm_78 : xmvb xm_78 = true := by decide +kernel
theorem xvm_79 : xmvb xm_79 = true := by decide +kernel
theorem xvm_80 : xmvb xm_80 = true := by decide +kernel
theorem xvm_81 : xmvb xm_81 = true := by decide +kernel
theorem xvm_82 : xmvb xm_82 = true := by decide +kernel
theorem xvm_83 : xmvb xm_83 = true := by decide +kernel
theorem xvm_84 : xmvb xm_84 = true := by decide +kernel
theorem xvm_85 : xmvb xm_85 = true := by decide +kernel
theorem xvm_86 : xmvb xm_86 = true := by decide +kernel
theorem xvm_87 : xmvb xm_87 = true := by decide +kernel
theorem xvm_88 : xmvb xm_88 = true := by decide +kernel
theorem xvm_89 : xmvb xm_89 = true := by decide +kernel
end
section
theorem xvm_90 : xmvb xm_90 = true := by decide +kernel
theorem xvm_91 : xmvb xm_91 = true := by decide +kernel
theorem xvm_92 : xmvb xm_92 = true := by decide +kernel
theorem xvm_93 : xmvb xm_93 = true := by decide +kernel
theorem xvm_94 : xmvb xm_94 = true := by decide +kernel
theorem xvm_95 : xmvb xm_95 = true := by decide +kernel
theorem xvm_96 : xmvb xm_96 = true := by decide +kernel
theorem xvm_97 : xmvb xm_97 = true := by decide +kernel
theorem xvm_98 : xmvb xm_98 = true := by decide +kernel
theorem xvm_99 : xmvb xm_99 = true := by decide +kernel
theorem xvm_100 : xmvb xm_100 = true := by decide +kernel
theorem xvm_101 : xmvb xm_101 = true := by decide +kernel
theorem xvm_102 : xmvb xm_102 = true := by decide +kernel
theorem xvm_103 : xmvb xm_103 = true := by decide +kernel
theorem xvm_104 : xmvb xm_104 = true := by decide +kernel
theorem xvm_105 : xmvb xm_105 = true := by decide +kernel
theorem xvm_106 : xmvb xm_106 = true := by decide +kernel
theorem xvm_107 : xmvb xm_107 = true := by decide +kernel
theorem xvm_108 : xmvb xm_108 = true := by decide +kernel
theorem xvm_109 : xmvb xm_109 = true := by decide +kernel
theorem xvm_110 : xmvb xm_110 = true := by decide +kernel
theorem xvm_111 : xmvb xm_111 = true := by decide +kernel
theorem xvm_112 : xmvb xm_112 = true := by decide +kernel
theorem xvm_113 : xmvb xm_113 = true := by decide +kernel
theorem xvm_114 : xmvb xm_114 = true := by decide +kernel
theorem xvm_115 : xmvb xm_115 = true := by decide +kernel
theorem xvm_116 : xmvb xm_116 = true := by decide +kernel
theorem xvm_117 : xmvb xm_117 = true := by decide +kernel
theorem xvm_118 : xmvb xm_118 = true := by decide +kernel
theorem xvm_119 : xmvb xm_119 = true := by decide +kernel
theorem xvm_120 : xmvb xm_120 = true := by decide +kernel
theorem xvm_121 : xmvb xm_121 = true := by decide +kernel
theorem xvm_122 : xmvb xm_122 = true := by decide +kernel
theorem xvm_123 : xmvb xm_123 = true := by decide +kernel
theorem xvm_124 : xmvb xm_124 = true := by decide +kernel
theorem xvm_125 : xmvb xm_125 = true := by decide +kernel
theorem xvm_126 : xmvb xm_126 = true := by decide +kernel
theorem xvm_127 : xmvb xm_127 = true := by decide +kernel
theorem xvm_128 : xmvb xm_128 = true := by decide +kernel
theorem xvm_129 : xmvb xm_129 = true := by decide +kernel
theorem xvm_130 : xmvb xm_130 = true := by decide +kernel
theorem xvm_131 : xmvb xm_131 = true := by decide +kernel
theorem xvm_132 : xmvb xm_132 = true := by decide +kernel
theorem xvm_133 : xmvb xm_133 = true := by decide +kernel
theorem xvm_134 : xmvb xm_134 = true := by decide +kernel
end
section
theorem xvm_135 : xmvb xm_135 = true := by decide +kernel
theorem xvm_136 : xmvb xm_136 = true := by decide +kernel
theorem xvm_137 : xmvb xm_137 = true := by decide +kernel
theorem xvm_138 : xmvb xm_138 = true := by decide +kernel
theorem xvm_139 : xmvb xm_139 = true := by decide +kernel
theorem xvm_140 : xmvb xm_140 = true := by decide +kernel
theorem xvm_141 : xmvb xm_141 = true := by decide +kernel
theorem xvm_142 : xmvb xm_142 = true := by decide +kernel
theorem xvm_143 : xmvb xm_143 = true := by decide +kernel
theorem xvm_144 : xmvb xm_144 = true := by decide +kernel
theorem xvm_145 : xmvb xm_145 = true := by decide +kernel
theorem xvm_146 : xmvb xm_146 = true := by decide +kernel
theorem xvm_147 : xmvb xm_147 = true := by decide +kernel
theorem xvm_148 : xmvb xm_148 = true := by decide +kernel
theorem xvm_149 : xmvb xm_149 = true := by decide +kernel
theorem xvm_150 : xmvb xm_150 = true := by decide +kernel
theorem xvm_151 : xmvb xm_151 = true := by decide +kernel
theorem xvm_152 : xmvb xm_152 = true := by decide +kernel
theorem xvm_153 : xmvb xm_153 = true := by decide +kernel
theorem xvm_154 : xmvb xm_154 = true := by decide +kernel
theorem xvm_155 : xmvb xm_155 = true := by decide +kernel
theorem xvm_156 : xmvb xm_156 = true := by decide +kernel
theorem xvm_157 : xmvb xm_157 = true := by decide +kernel
theorem xvm_158 : xmvb xm_158 = true := by decide +kernel
theorem xvm_159 : xmvb xm_159 = true := by decide +kernel
theorem xvm_160 : xmvb xm_160 = true := by decide +kernel
theorem xvm_161 : xmvb xm_161 = true := by decide +kernel
theorem xvm_162 : xmvb xm_162 = true := by decide +kernel
theorem xvm_163 : xmvb xm_163 = true := by decide +kernel
theorem xvm_164 : xmvb xm_164 = true := by decide +kernel
theorem xvm_165 : xmvb xm_165 = true := by decide +kernel
theorem xvm_166 : xmvb xm_166 = true := by decide +kernel
theorem xvm_167 : xmvb xm_167 = true := by decide +kernel
theorem xvm_168 : xmvb xm_168 = true := by decide +kernel
theorem xvm_169 : xmvb xm_169 = true := by decide +kernel
theorem xvm_170 : xmvb xm_170 = true := by decide +kernel
theorem xvm_171 : xmvb xm_171 = true := by decide +kernel
theorem xvm_172 : xmvb xm_172 = true := by decide +kernel
theorem xvm_173 : xmvb xm_173 = true := by decide +kernel
theorem xvm_174 : xmvb xm_174 = true := by decide +kernel
theorem xvm_175 : xmvb xm_175 = true := by decide +kernel
theorem xvm_176 : xmvb xm_176 = true := by decide +kernel
end
section
theorem xva_c : xchain xt_177 = true := by decide +kernel
theorem xva_0 : xallb xm_177 ((xt_177).take 62) = true := by decide +kernel
theorem xva_1 : xallb xm_177 ((xt_177.drop 62).take 62) = true := by decide +kernel
theorem xva_2 : xallb xm_177 ((xt_177.drop 124).take 62) = true := by decide +kernel
theorem xva_3 : xallb xm_177 ((xt_177.drop 186).take 62) = true := by decide +kernel
theorem xva_4 : xallb xm_177 ((xt_177.drop 248).take 62) = true := by decide +kernel
theorem xva_5 : xallb xm_177 ((xt_177.drop 310).take 62) = true := by decide +kernel
end
section
theorem xva_6 : xallb xm_177 ((xt_177.drop 372).take 62) = true := by decide +kernel
theorem xva_7 : xallb xm_177 ((xt_177.drop 434).take 62) = true := by decide +kernel
theorem xva_8 : xallb xm_177 ((xt_177.drop 496).take 62) = true := by decide +kernel
theorem xva_9 : xallb xm_177 ((xt_177.drop 558).take 62) = true := by decide +kernel
theorem xva_10 : xallb xm_177 ((xt_177.drop 620).take 62) = true := by decide +kernel
theorem xva_11 : xallb xm_177 (xt_177.drop 682) = true := by decide +kernel
end
section
/-! laws of the lists' words -/
theorem xk_nth_ok {α β : Type} {k : α → Option β} {r : β} : ∀ {l : List α} {n : Nat}, xk_nth l n k = some r → ∃ a, l[n]? = some a ∧ k a = some r
  | [], _, h => nomatch (show (none : Option β) = some r from h)
  | a :: _, 0, h => ⟨a, rfl, h⟩
  | _ :: l, n + 1, h => by
    obtain ⟨b, h1, h2⟩ := xk_nth_ok (l := l) (n := n) h
    exact ⟨b, by simpa using h1, h2⟩
theorem xk_set_ok {α β : Type} {r : β} {v : α} : ∀ {l : List α} {n : Nat} {k : List α → Option β}, xk_set l n v k = some r → n < l.length ∧ k (l.set n v) = some r
  | [], _, _, h => nomatch (show (none : Option β) = some r from h)
  | a :: l, 0, _, h => ⟨by simp, h⟩
  | a :: l, n + 1, k, h => by
    obtain ⟨h1, h2⟩ := xk_set_ok (l := l) (n := n) (k := fun t' => k (a :: t')) h
    exact ⟨by simpa using h1, by simpa using h2⟩
theorem xk_push_ok {α β : Type} {r : β} {x : α} : ∀ {l : List α} {n : Nat} {k : List α → Nat → Option β}, xk_push l x n k = some r → k (l ++ [x]) (n + l.length) = some r
  | [], n, k, h => by simpa [xk_push] using h
  | a :: l, n, k, h => by
    have h1 := xk_push_ok (l := l) (n := Nat.succ n) (k := fun l' m => k (a :: l') m) (by simpa [xk_push] using h)
    have e : Nat.succ n + l.length = n + (a :: l).length := by simp; omega
    rw [e] at h1
    simpa using h1
theorem xk_take_ok {α β : Type} {r : β} : ∀ {n : Nat} {acc l : List α} {k : List α → List α → Option β}, xk_take n acc l k = some r → ∃ l1 l2, l = l1 ++ l2 ∧ l1.length = n ∧ k (l1.reverse ++ acc) l2 = some r
  | 0, acc, l, k, h => ⟨[], l, rfl, rfl, h⟩
  | n + 1, acc, [], k, h => nomatch (show (none : Option β) = some r from h)
  | n + 1, acc, a :: l, k, h => by
    obtain ⟨l1, l2, h1, h2, h3⟩ := xk_take_ok (n := n) (acc := a :: acc) (l := l) h
    exact ⟨a :: l1, l2, by rw [h1]; rfl, by simp [h2], by simpa using h3⟩
theorem xk_drop_eq {α : Type} : ∀ (n : Nat) (l : List α), xk_drop n l = l.drop n
  | 0, l => rfl
  | n + 1, [] => rfl
  | n + 1, a :: l => xk_drop_eq n l
theorem xk_at_eq {α : Type} : ∀ (l : List α) (n : Nat), xk_at l n = l[n]?
  | [], _ => rfl
  | _ :: _, 0 => rfl
  | _ :: l, n + 1 => by
    rw [List.getElem?_cons_succ]
    exact xk_at_eq l n
theorem xk_pad_ok {β : Type} {r : β} : ∀ {n : Nat} {l : List xV} {k : List xV → Option β}, xk_pad n l k = some r → l.length ≤ n ∧ k (l ++ List.replicate (n - l.length) (9, 0)) = some r
  | 0, [], k, h => ⟨Nat.le_refl 0, h⟩
  | 0, a :: l, k, h => nomatch (show (none : Option β) = some r from h)
  | n + 1, [], k, h => by
    obtain ⟨-, h2⟩ := xk_pad_ok (n := n) (l := []) (k := fun t => k ((9, 0) :: t)) h
    exact ⟨Nat.zero_le _, by simpa [List.replicate_succ] using h2⟩
  | n + 1, a :: l, k, h => by
    obtain ⟨h1, h2⟩ := xk_pad_ok (n := n) (l := l) (k := fun t => k (a :: t)) h
    exact ⟨by simpa using h1, by simpa using h2⟩
/-- the cell at a place -/
def xl (h : xH) (i : Nat) : Option xC := (h.2[i / 12]?).bind fun c => c[i % 12]?
theorem xk_hget_ok {β : Type} {r : β} {h : xH} {i : Nat} {k : xC → Option β} (hk : xk_hget h i k = some r) : ∃ c, xl h i = some c ∧ k c = some r := by
  obtain ⟨c, h1, h2⟩ := xk_nth_ok hk
  obtain ⟨x, h3, h4⟩ := xk_nth_ok h2
  refine ⟨x, ?_, h4⟩
  show (h.2[Nat.div i 12]?).bind _ = _
  rw [h1]
  exact h3
theorem xk_hset_ok {β : Type} {r : β} {h : xH} {i : Nat} {v : xC} {k : xH → Option β} (hk : xk_hset h i v k = some r) : ∃ h', h'.1 = h.1 ∧ (∀ j, xl h' j = if j = i then some v else xl h j) ∧ k h' = some r := by
  obtain ⟨c, h1, h2⟩ := xk_nth_ok hk
  obtain ⟨h3, h4⟩ := xk_set_ok h2
  obtain ⟨h5, h6⟩ := xk_set_ok h4
  refine ⟨(h.1, h.2.set (Nat.div i 12) (c.set (Nat.mod i 12) v)), rfl, fun j => ?_, h6⟩
  have h1' : h.2[i / 12]? = some c := h1
  have h3' : i % 12 < c.length := h3
  have h5' : i / 12 < h.2.length := h5
  show ((h.2.set (i / 12) (c.set (i % 12) v))[j / 12]?).bind (fun c => c[j % 12]?) = _
  by_cases hq : j / 12 = i / 12
  · rw [hq, List.getElem?_set_self h5']
    show (c.set (i % 12) v)[j % 12]? = _
    by_cases hr : j % 12 = i % 12
    · have : j = i := by omega
      rw [if_pos this, hr, List.getElem?_set_self h3']
    · have : ¬ j = i := fun e => hr (by rw [e])
      rw [if_neg this, List.getElem?_set_ne (fun e => hr e.symm)]
      show _ = (h.2[j / 12]?).bind _
      rw [hq, h1']
      rfl
  · have : ¬ j = i := fun e => hq (by rw [e])
    rw [if_neg this, List.getElem?_set_ne (fun e => hq e.symm)]
    rfl
/-! numbers -/
theorem xo_toInt (n : Nat) : (Int32.ofNat n).toInt = (xo n : Int) - 2147483648 := by
  have h : (Int32.ofNat n).toInt = (n : Int).bmod (2 ^ 32) := by
    first | exact Int32.toInt_ofNat' | exact Int32.toInt_ofNat | simp [Int32.toInt_ofNat']
  have e : (xo n : Int) = ((n : Int) + 2147483648) % 4294967296 := by
    show (((n + 2147483648) % 4294967296 : Nat) : Int) = _
    omega
  rw [h, e, Int.bmod_def]
  split <;> omega
theorem xh_in_ok {n len : Nat} (h : xh_in n len = true) (hl : len < 2 ^ 31) : vp_in (Int32.ofNat n) len ∧ (Int32.ofNat n).toNatClampNeg = xh_ix n ∧ xh_ix n < len := by
  unfold xh_in at h
  rw [Bool.and_eq_true] at h
  have h1 := Nat.le_of_ble_eq_true h.1
  have h2 : xo n + 1 ≤ len + 2147483648 := Nat.le_of_ble_eq_true h.2
  have hi := xo_toInt n
  have hx : xh_ix n = xo n - 2147483648 := rfl
  refine ⟨vp_in_iff.mpr ⟨by omega, by omega⟩, ?_, by omega⟩
  show (Int32.ofNat n).toInt.toNat = _
  omega
theorem xn_add_ok (a b : Nat) : Int32.ofNat (xn_add a b) = Int32.ofNat a + Int32.ofNat b := by
  show Int32.ofNat ((a + b) % 4294967296) = _
  rw [xx_n_mod, Int32.ofNat_add]
theorem xn_mul_ok (a b : Nat) : Int32.ofNat (xn_mul a b) = Int32.ofNat a * Int32.ofNat b := by
  show Int32.ofNat ((a * b) % 4294967296) = _
  rw [xx_n_mod, Int32.ofNat_mul]
theorem xn_sub_ok (a b : Nat) : Int32.ofNat (xn_sub a b) = Int32.ofNat a - Int32.ofNat b := by
  show Int32.ofNat ((a + (4294967296 - b % 4294967296)) % 4294967296) = _
  rw [xx_n_mod, Int32.ofNat_add]
  have h : Int32.ofNat (4294967296 - b % 4294967296) = - Int32.ofNat b := by
    have h0 : Int32.ofNat (4294967296 - b % 4294967296) + Int32.ofNat b = 0 := by
      rw [← xx_n_mod b, ← Int32.ofNat_add, show 4294967296 - b % 4294967296 + b % 4294967296 = 4294967296 by omega]
      decide
    have h1 : Int32.ofNat (4294967296 - b % 4294967296) = Int32.ofNat (4294967296 - b % 4294967296) + Int32.ofNat b - Int32.ofNat b := by rw [Int32.add_sub_cancel]
    rw [h1, h0, Int32.zero_sub]
  rw [h, Int32.sub_eq_add_neg]
theorem xn_of_ok (f : Int32 → Int32 → Int32) (a b : Nat) : Int32.ofNat (xn_of f a b) = f (Int32.ofNat a) (Int32.ofNat b) := xx_n_of _
end
section
/-! what a state of the run says of a state of the machine -/
abbrev xX : Type := Nat × (Nat → Nat) × (Nat → Nat)
def xv (X : xX) (ρ : List Int32) (aw : List Nat) (a : xV) (v : Value) : Prop := match a.1 with
  | 0 => v = .int (Int32.ofNat a.2)
  | 1 => ∃ x, ρ[a.2]? = some x ∧ v = .int x
  | 2 => v = .null
  | 3 => ∃ q, aw[a.2]? = some q ∧ v = .ref q
  | 4 => v = .long (Int64.ofNat a.2)
  | 5 => ∃ x, v = .long x
  | 6 => v = .ref X.1
  | 7 => v = .ref (X.2.1 a.2)
  | 8 => v = .ref (X.2.2 a.2)
  | 10 => v = .null ∨ ∃ q, v = .ref q
  | _ => False
theorem xv_mono {X : xX} {ρ ρ' : List Int32} {aw aw' : List Nat} (h1 : xx_e ρ ρ') (h2 : xx_e aw aw') {a : xV} {v : Value} (h : xv X ρ aw a v) : xv X ρ' aw' a v := by
  unfold xv at h ⊢
  split at h
  · exact h
  · obtain ⟨x, e1, e2⟩ := h
    exact ⟨x, xx_e_get h1 e1, e2⟩
  · exact h
  · obtain ⟨x, e1, e2⟩ := h
    exact ⟨x, xx_e_get h2 e1, e2⟩
  all_goals first | exact h | exact absurd h id
/-- an int: a number that is known, or a symbol -/
theorem xv_i {X : xX} {ρ : List Int32} {aw : List Nat} {a : xV} {v : Value} (hc : xc_i a = true) (h : xv X ρ aw a v) : ∃ x, v = .int x := by
  obtain ⟨t, n⟩ := a
  unfold xc_i at hc
  rcases Bool.or_eq_true_iff.mp hc with q | q
  · have : t = 0 := Nat.eq_of_beq_eq_true q
    subst this
    exact ⟨_, h⟩
  · have : t = 1 := Nat.eq_of_beq_eq_true q
    subst this
    obtain ⟨x, -, e⟩ := h
    exact ⟨x, e⟩
theorem xv_0 {X : xX} {ρ : List Int32} {aw : List Nat} {a : xV} {v : Value} (hc : Nat.beq a.1 0 = true) (h : xv X ρ aw a v) : v = .int (Int32.ofNat a.2) := by
  obtain ⟨t, n⟩ := a
  have : t = 0 := Nat.eq_of_beq_eq_true hc
  subst this
  exact h
theorem xv_1 {X : xX} {ρ : List Int32} {aw : List Nat} {a : xV} {v : Value} (hc : Nat.beq a.1 1 = true) (h : xv X ρ aw a v) : ∃ x, ρ[a.2]? = some x ∧ v = .int x := by
  obtain ⟨t, n⟩ := a
  have : t = 1 := Nat.eq_of_beq_eq_true hc
  subst this
  exact h
theorem xv_3 {X : xX} {ρ : List Int32} {aw : List Nat} {a : xV} {v : Value} (hc : Nat.beq a.1 3 = true) (h : xv X ρ aw a v) : ∃ q, aw[a.2]? = some q ∧ v = .ref q := by
  obtain ⟨t, n⟩ := a
  have : t = 3 := Nat.eq_of_beq_eq_true hc
  subst this
  exact h
theorem xv_4 {X : xX} {ρ : List Int32} {aw : List Nat} {a : xV} {v : Value} (hc : Nat.beq a.1 4 = true) (h : xv X ρ aw a v) : v = .long (Int64.ofNat a.2) := by
  obtain ⟨t, n⟩ := a
  have : t = 4 := Nat.eq_of_beq_eq_true hc
  subst this
  exact h
theorem xv_6 {X : xX} {ρ : List Int32} {aw : List Nat} {a : xV} {v : Value} (hc : Nat.beq a.1 6 = true) (h : xv X ρ aw a v) : v = .ref X.1 := by
  obtain ⟨t, n⟩ := a
  have : t = 6 := Nat.eq_of_beq_eq_true hc
  subst this
  exact h
theorem xv_7 {X : xX} {ρ : List Int32} {aw : List Nat} {a : xV} {v : Value} (hc : Nat.beq a.1 7 = true) (h : xv X ρ aw a v) : v = .ref (X.2.1 a.2) := by
  obtain ⟨t, n⟩ := a
  have : t = 7 := Nat.eq_of_beq_eq_true hc
  subst this
  exact h
theorem xv_8 {X : xX} {ρ : List Int32} {aw : List Nat} {a : xV} {v : Value} (hc : Nat.beq a.1 8 = true) (h : xv X ρ aw a v) : v = .ref (X.2.2 a.2) := by
  obtain ⟨t, n⟩ := a
  have : t = 8 := Nat.eq_of_beq_eq_true hc
  subst this
  exact h
theorem xv_l {X : xX} {ρ : List Int32} {aw : List Nat} {a : xV} {v : Value} (hc : xc_l a = true) (h : xv X ρ aw a v) : ∃ x, v = .long x := by
  obtain ⟨t, n⟩ := a
  unfold xc_l at hc
  rcases Bool.or_eq_true_iff.mp hc with q | q
  · have : t = 4 := Nat.eq_of_beq_eq_true q
    subst this
    exact ⟨_, h⟩
  · have : t = 5 := Nat.eq_of_beq_eq_true q
    subst this
    exact h
theorem xv_r {X : xX} {ρ : List Int32} {aw : List Nat} {a : xV} {v : Value} (hc : xc_r a = true) (h : xv X ρ aw a v) : ∃ q, v = .ref q := by
  obtain ⟨t, n⟩ := a
  unfold xc_r at hc
  rcases Bool.or_eq_true_iff.mp hc with q | q
  · have : t = 3 := Nat.eq_of_beq_eq_true q
    subst this
    obtain ⟨x, -, e⟩ := h
    exact ⟨x, e⟩
  rcases Bool.or_eq_true_iff.mp q with q | q
  · have : t = 6 := Nat.eq_of_beq_eq_true q
    subst this
    exact ⟨_, h⟩
  rcases Bool.or_eq_true_iff.mp q with q | q
  · have : t = 7 := Nat.eq_of_beq_eq_true q
    subst this
    exact ⟨_, h⟩
  · have : t = 8 := Nat.eq_of_beq_eq_true q
    subst this
    exact ⟨_, h⟩
theorem xv_not9 {X : xX} {ρ : List Int32} {aw : List Nat} {a : xV} {v : Value} (h : xv X ρ aw a v) : a.1 ≠ 9 := by
  intro e
  unfold xv at h
  rw [e] at h
  exact h
/-- a value of one word -/
theorem xv_cat {X : xX} {ρ : List Int32} {aw : List Nat} {a : xV} {v : Value} (h : xv X ρ aw a v) : v.category = if xc_l a = true then 2 else 1 := by
  obtain ⟨t, n⟩ := a
  unfold xv at h
  split at h
  all_goals first
    | exact absurd h id
    | (rename_i q; have q' : t = _ := q; subst q'; first
        | (rw [h]; rfl)
        | (obtain ⟨x, e1, e2⟩ := h; rw [e2]; rfl)
        | (obtain ⟨x, e2⟩ := h; rw [e2]; rfl)
        | (rcases h with e | ⟨x, e⟩ <;> rw [e] <;> rfl))
def xsat (sy : xS) (ρ : List Int32) : Prop := xx_2 (fun (iv : Int × Int) (x : Int32) => iv.1 ≤ x.toInt ∧ x.toInt ≤ iv.2) sy ρ
theorem xfull_ok (x : Int32) : xs_full.1 ≤ x.toInt ∧ x.toInt ≤ xs_full.2 := by
  have h1 := Int32.le_toInt x
  have h2 := Int32.toInt_lt x
  show (-2147483648 : Int) ≤ x.toInt ∧ x.toInt ≤ 2147483647
  omega
theorem xfresh_ok {sy : xS} {ρ : List Int32} {iv : Int × Int} {k : xV → xS → xR} {r : List xO} (h : xh_fresh sy iv k = some r) (hs : xsat sy ρ) (x : Int32) (hx : iv.1 ≤ x.toInt ∧ x.toInt ≤ iv.2) (X : xX) (aw : List Nat) :
    ∃ sy' a, k a sy' = some r ∧ xsat sy' (ρ ++ [x]) ∧ xv X (ρ ++ [x]) aw a (.int x) ∧ xc_i a = true := by
  have h1 := xk_push_ok h
  refine ⟨_, _, h1, xx_2_app hs ⟨hx, trivial⟩, ⟨x, ?_, rfl⟩, rfl⟩
  have e := xx_2_len hs
  show (ρ ++ [x])[0 + sy.length]? = some x
  rw [Nat.zero_add, e]
  simp
theorem xrng_ok {X : xX} {sy : xS} {ρ : List Int32} {aw : List Nat} {a : xV} {v : Value} {iv : Int × Int} (h : xh_rng sy a = some iv) (hs : xsat sy ρ) (hv : xv X ρ aw a v) : ∃ x, v = .int x ∧ iv.1 ≤ x.toInt ∧ x.toInt ≤ iv.2 := by
  obtain ⟨t, n⟩ := a
  unfold xh_rng at h
  split at h
  · rename_i q
    have q' : t = 0 := q
    subst q'
    cases h
    exact ⟨_, hv, Int.le_refl _, Int.le_refl _⟩
  · rename_i q
    have q' : t = 1 := q
    subst q'
    obtain ⟨x, e1, e2⟩ := hv
    obtain ⟨y, e3, e4⟩ := xx_2_get hs h
    cases e1.symm.trans e3
    exact ⟨x, e2, e4⟩
  · cases h
theorem xcap_ok {iv : Int × Int} {x : Int32} (h : -2147483648 ≤ iv.1 → iv.2 ≤ 2147483647 → iv.1 ≤ x.toInt ∧ x.toInt ≤ iv.2) : (xh_cap iv).1 ≤ x.toInt ∧ x.toInt ≤ (xh_cap iv).2 := by
  unfold xh_cap
  split
  · rename_i q
    rw [Bool.and_eq_true, decide_eq_true_eq, decide_eq_true_eq] at q
    exact h q.1 q.2
  · exact xfull_ok x
def xgood (f : Int32 → Int32 → Int32) (g : Int × Int → Int × Int → Int × Int) : Prop := ∀ (a b : Int × Int) (x y : Int32), a.1 ≤ x.toInt → x.toInt ≤ a.2 → b.1 ≤ y.toInt → y.toInt ≤ b.2 → (g a b).1 ≤ (f x y).toInt ∧ (f x y).toInt ≤ (g a b).2
theorem xgood_any (f : Int32 → Int32 → Int32) : xgood f xg_any := fun _ _ _ _ _ _ _ _ => xfull_ok _
theorem xbmod {z : Int} (h1 : -2147483648 ≤ z) (h2 : z ≤ 2147483647) : z.bmod (2 ^ 32) = z := by
  rw [Int.bmod_def]
  split <;> omega
theorem xgood_add : xgood (fun x y => x + y) xg_add := by
  intro a b x y h1 h2 h3 h4
  refine xcap_ok (fun q1 q2 => ?_)
  have q1' : -2147483648 ≤ a.1 + b.1 := q1
  have q2' : a.2 + b.2 ≤ 2147483647 := q2
  have e : (x + y).toInt = x.toInt + y.toInt := by rw [Int32.toInt_add, xbmod (by omega) (by omega)]
  show a.1 + b.1 ≤ (x + y).toInt ∧ (x + y).toInt ≤ a.2 + b.2
  omega
theorem xgood_sub : xgood (fun x y => x - y) xg_sub := by
  intro a b x y h1 h2 h3 h4
  refine xcap_ok (fun q1 q2 => ?_)
  have q1' : -2147483648 ≤ a.1 - b.2 := q1
  have q2' : a.2 - b.1 ≤ 2147483647 := q2
  have e : (x - y).toInt = x.toInt - y.toInt := by rw [Int32.toInt_sub, xbmod (by omega) (by omega)]
  show a.1 - b.2 ≤ (x - y).toInt ∧ (x - y).toInt ≤ a.2 - b.1
  omega
/-- the two-operand operations -/
theorem xbin_ok {X : xX} {sy : xS} {ρ : List Int32} {aw : List Nat} {f : Nat → Nat → Nat} {F : Int32 → Int32 → Int32} {g : Int × Int → Int × Int → Int × Int} {b a : xV} {vb va : Value} {k : xV → xS → xR} {r : List xO} (hF : ∀ m n, Int32.ofNat (f m n) = F (Int32.ofNat m) (Int32.ofNat n)) (hg : xgood F g)
    (h : xh_bin f g b a sy k = some r) (hs : xsat sy ρ) (ha : xv X ρ aw a va) (hb : xv X ρ aw b vb) : ∃ x y c sy' ρ', va = .int x ∧ vb = .int y ∧ k c sy' = some r ∧ xx_e ρ ρ' ∧ xsat sy' ρ' ∧ xv X ρ' aw c (.int (F x y)) ∧ xc_i c = true := by
  unfold xh_bin at h
  cases hc : and (Nat.beq a.1 0) (Nat.beq b.1 0) with
  | true =>
    rw [hc] at h
    have hc' := (Bool.and_eq_true_iff).mp hc
    have e1 := xv_0 hc'.1 ha
    have e2 := xv_0 hc'.2 hb
    have h' : xx_f (f a.2 b.2) (fun n => k (0, n) sy) = some r := h
    rw [xx_f_eq] at h'
    exact ⟨_, _, _, sy, ρ, e1, e2, h', xx_e_rf _, hs, congrArg Value.int (hF _ _).symm, rfl⟩
  | false =>
    rw [hc] at h
    have h' : xh_binS g b a sy k = some r := h
    unfold xh_binS at h'
    split at h'
    · cases h'
    · rename_i ia q1
      split at h'
      · cases h'
      · rename_i ib q2
        obtain ⟨x, e1, b1, b2⟩ := xrng_ok q1 hs ha
        obtain ⟨y, e2, b3, b4⟩ := xrng_ok q2 hs hb
        obtain ⟨sy', c, g1, g2, g3, g4⟩ := xfresh_ok h' hs (F x y) (hg ia ib x y b1 b2 b3 b4) X aw
        exact ⟨x, y, c, sy', _, e1, e2, g1, xx_e_one _ _, g2, g3, g4⟩
end
section
/-! forks -/
theorem xall_ok {α : Type} {k : α → xR} : ∀ {l : List α} {r : List xO}, xh_all l k = some r → ∀ o ∈ l, ∃ r', k o = some r' ∧ ∀ x ∈ r', x ∈ r
  | [], _, _, o, ho => absurd ho List.not_mem_nil
  | a :: l, r, h, o, ho => by
    unfold xh_all at h
    split at h
    · cases h
    · rename_i x hx
      split at h
      · cases h
      · rename_i y hy
        cases h
        rcases List.mem_cons.mp ho with rfl | ho
        · exact ⟨x, hx, fun z hz => List.mem_append_left _ hz⟩
        · obtain ⟨r', h1, h2⟩ := xall_ok hy o ho
          exact ⟨r', h1, fun z hz => List.mem_append_right _ (h2 z hz)⟩
theorem xput_ok {X : xX} {sy : xS} {ρ : List Int32} {aw : List Nat} {a : xV} {x : Int32} {iv : Int × Int} (hs : xsat sy ρ) (hv : xv X ρ aw a (.int x)) (hi : iv.1 ≤ x.toInt ∧ x.toInt ≤ iv.2) : xsat (xh_put sy a iv) ρ := by
  unfold xh_put
  split
  · rename_i q
    obtain ⟨t, n⟩ := a
    have q' : t = 1 := q
    subst q'
    obtain ⟨y, e1, e2⟩ := hv
    cases e2
    have h1 := xx_2_set hs n (a := iv) (b := x) hi
    have h2 : ρ.set n x = ρ := by
      apply List.ext_getElem?
      intro j
      by_cases hj : j = n
      · subst hj
        rw [List.getElem?_set_self (List.getElem?_eq_some_iff.mp e1).1, e1]
      · rw [List.getElem?_set_ne (fun e => hj e.symm)]
    rw [h2] at h1
    exact h1
  · exact hs
def xci (c : ClassFile.Cond) (x y : Int) : Prop := match c with
  | .eq => x = y
  | .ne => ¬ x = y
  | .lt => x < y
  | .ge => y ≤ x
  | .gt => y < x
  | .le => x ≤ y
theorem xcc_ok (c : ClassFile.Cond) (m n : Nat) : xh_cc c m n = true ↔ xci c (Int32.ofNat m).toInt (Int32.ofNat n).toInt := by
  have h1 := xo_toInt m
  have h2 := xo_toInt n
  cases c
  · show Nat.beq (xo m) (xo n) = true ↔ (_ : Int) = _
    rw [Nat.beq_eq]; omega
  · show (!(Nat.beq (xo m) (xo n))) = true ↔ ¬ (_ : Int) = _
    rw [Bool.not_eq_true', ← Bool.not_eq_true, Nat.beq_eq]; omega
  · show Nat.ble (xo m + 1) (xo n) = true ↔ (_ : Int) < _
    rw [Nat.ble_eq]; omega
  · show Nat.ble (xo n) (xo m) = true ↔ (_ : Int) ≤ _
    rw [Nat.ble_eq]; omega
  · show Nat.ble (xo n + 1) (xo m) = true ↔ (_ : Int) < _
    rw [Nat.ble_eq]; omega
  · show Nat.ble (xo m) (xo n) = true ↔ (_ : Int) ≤ _
    rw [Nat.ble_eq]; omega
/-- what the ranges say of a comparison -/
def xqok (P : Prop) (q : xQ) (x y : Int) : Prop := (P → q.1 = true ∧ (q.2.2.1.1 ≤ x ∧ x ≤ q.2.2.1.2) ∧ (q.2.2.2.1.1 ≤ y ∧ y ≤ q.2.2.2.1.2)) ∧ (¬ P → q.2.1 = true ∧ (q.2.2.2.2.1.1 ≤ x ∧ x ≤ q.2.2.2.2.1.2) ∧ (q.2.2.2.2.2.1 ≤ y ∧ y ≤ q.2.2.2.2.2.2))
theorem xflip_ok {P : Prop} {q : xQ} {x y : Int} (h : xqok P q x y) : xqok (¬ P) (xh_flip q) x y := ⟨fun hp => h.2 hp, fun hp => h.1 (Classical.byContradiction hp)⟩
theorem xlt_ok {a b : Int × Int} {x y : Int} (h1 : a.1 ≤ x) (h2 : x ≤ a.2) (h3 : b.1 ≤ y) (h4 : y ≤ b.2) : xqok (x < y) (xh_lt a b) x y := by
  refine ⟨fun hp => ⟨decide_eq_true (by omega), ⟨h1, ?_⟩, ⟨?_, h4⟩⟩, fun hp => ⟨decide_eq_true (by omega), ⟨?_, h2⟩, ⟨h3, ?_⟩⟩⟩
  · show x ≤ min a.2 (b.2 - 1); omega
  · show max b.1 (a.1 + 1) ≤ y; omega
  · show max a.1 b.1 ≤ x; omega
  · show y ≤ min b.2 a.2; omega
theorem xle_ok {a b : Int × Int} {x y : Int} (h1 : a.1 ≤ x) (h2 : x ≤ a.2) (h3 : b.1 ≤ y) (h4 : y ≤ b.2) : xqok (x ≤ y) (xh_le a b) x y := by
  refine ⟨fun hp => ⟨decide_eq_true (by omega), ⟨h1, ?_⟩, ⟨?_, h4⟩⟩, fun hp => ⟨decide_eq_true (by omega), ⟨?_, h2⟩, ⟨h3, ?_⟩⟩⟩
  · show x ≤ min a.2 b.2; omega
  · show max b.1 a.1 ≤ y; omega
  · show max a.1 (b.1 + 1) ≤ x; omega
  · show y ≤ min b.2 (a.2 - 1); omega
theorem xtrim_ok {a b : Int × Int} {x y : Int} (h1 : a.1 ≤ x) (h2 : x ≤ a.2) (h3 : b.1 ≤ y) (h4 : y ≤ b.2) (hn : ¬ x = y) : (xh_trim a b).1 ≤ x ∧ x ≤ (xh_trim a b).2 := by
  unfold xh_trim
  split
  · refine ⟨?_, ?_⟩
    · show (if a.1 = b.1 then a.1 + 1 else a.1) ≤ x
      split <;> omega
    · show x ≤ (if a.2 = b.1 then a.2 - 1 else a.2)
      split <;> omega
  · exact ⟨h1, h2⟩
theorem xeq_ok {a b : Int × Int} {x y : Int} (h1 : a.1 ≤ x) (h2 : x ≤ a.2) (h3 : b.1 ≤ y) (h4 : y ≤ b.2) : xqok (x = y) (xh_eq a b) x y := by
  refine ⟨fun hp => ⟨?_, ⟨?_, ?_⟩, ⟨?_, ?_⟩⟩, fun hp => ⟨?_, xtrim_ok h1 h2 h3 h4 hp, xtrim_ok h3 h4 h1 h2 (fun e => hp e.symm)⟩⟩
  · show (decide (a.1 ≤ b.2) && decide (b.1 ≤ a.2)) = true
    rw [Bool.and_eq_true, decide_eq_true_eq, decide_eq_true_eq]; omega
  · show max a.1 b.1 ≤ x; omega
  · show x ≤ min a.2 b.2; omega
  · show max a.1 b.1 ≤ y; omega
  · show y ≤ min a.2 b.2; omega
  · show (!(decide (a.1 = a.2) && decide (b.1 = b.2) && decide (a.1 = b.1))) = true
    rw [Bool.not_eq_true', ← Bool.not_eq_true, Bool.and_eq_true, Bool.and_eq_true, decide_eq_true_eq, decide_eq_true_eq, decide_eq_true_eq]; omega
theorem xcq_ok (c : ClassFile.Cond) {a b : Int × Int} {x y : Int} (h1 : a.1 ≤ x) (h2 : x ≤ a.2) (h3 : b.1 ≤ y) (h4 : y ≤ b.2) : xqok (xci c x y) (xh_cq c a b) x y := by
  cases c
  · exact xeq_ok h1 h2 h3 h4
  · exact xflip_ok (xeq_ok h1 h2 h3 h4)
  · exact xlt_ok h1 h2 h3 h4
  · have h := xflip_ok (xlt_ok h1 h2 h3 h4)
    exact ⟨fun hp => h.1 (by have hp' : y ≤ x := hp; omega), fun hp => h.2 (by have hp' : ¬ y ≤ x := hp; omega)⟩
  · have h := xflip_ok (xle_ok h1 h2 h3 h4)
    exact ⟨fun hp => h.1 (by have hp' : y < x := hp; omega), fun hp => h.2 (by have hp' : ¬ y < x := hp; omega)⟩
  · exact xle_ok h1 h2 h3 h4
theorem xboth_ok {a b : xR} {r : List xO} (h : xh_both a b = some r) : ∃ x y, a = some x ∧ b = some y ∧ (∀ z ∈ x, z ∈ r) ∧ ∀ z ∈ y, z ∈ r := by
  unfold xh_both at h
  split at h
  · cases h
  · split at h
    · cases h
    · cases h
      exact ⟨_, _, rfl, rfl, fun z hz => List.mem_append_left _ hz, fun z hz => List.mem_append_right _ hz⟩
theorem xbr_ok {X : xX} {c : ClassFile.Cond} {a b : xV} {sy : xS} {ρ : List Int32} {aw : List Nat} {va vb : Value} {kt kf : xS → xR} {r : List xO} (h : xh_br c a b sy kt kf = some r) (hs : xsat sy ρ) (ha : xv X ρ aw a va) (hb : xv X ρ aw b vb) :
    ∃ x y, va = .int x ∧ vb = .int y ∧ (xci c x.toInt y.toInt → ∃ sy' r', kt sy' = some r' ∧ xsat sy' ρ ∧ ∀ z ∈ r', z ∈ r) ∧ (¬ xci c x.toInt y.toInt → ∃ sy' r', kf sy' = some r' ∧ xsat sy' ρ ∧ ∀ z ∈ r', z ∈ r) := by
  unfold xh_br at h
  cases hc : and (Nat.beq a.1 0) (Nat.beq b.1 0) with
  | true =>
    rw [hc] at h
    have hc' := (Bool.and_eq_true_iff).mp hc
    have e1 := xv_0 hc'.1 ha
    have e2 := xv_0 hc'.2 hb
    have h' : cond (xh_cc c a.2 b.2) (kt sy) (kf sy) = some r := h
    refine ⟨_, _, e1, e2, fun hp => ?_, fun hp => ?_⟩
    · rw [(xcc_ok c a.2 b.2).mpr hp] at h'
      exact ⟨sy, r, h', hs, fun _ hz => hz⟩
    · cases hq : xh_cc c a.2 b.2 with
      | true => exact absurd ((xcc_ok c a.2 b.2).mp hq) hp
      | false =>
        rw [hq] at h'
        exact ⟨sy, r, h', hs, fun _ hz => hz⟩
  | false =>
    rw [hc] at h
    have h' : xh_brS c a b sy kt kf = some r := h
    unfold xh_brS at h'
    cases hd : and (Nat.beq a.1 1) (and (Nat.beq b.1 1) (Nat.beq a.2 b.2)) with
    | true =>
      rw [hd] at h'
      have hd1 := (Bool.and_eq_true_iff).mp hd
      have hd2 := (Bool.and_eq_true_iff).mp hd1.2
      obtain ⟨x, e1, e2⟩ := xv_1 hd1.1 ha
      obtain ⟨y, e3, e4⟩ := xv_1 hd2.1 hb
      rw [← Nat.eq_of_beq_eq_true hd2.2, e1] at e3
      cases e3
      have h2 : cond (xh_cc c 0 0) (kt sy) (kf sy) = some r := h'
      have hz : ∀ z : Int, xci c z z ↔ xci c 0 0 := fun z => by cases c <;> simp [xci]
      have h0 : (Int32.ofNat 0).toInt = 0 := by decide
      refine ⟨x, x, e2, e4, fun hp => ?_, fun hp => ?_⟩
      · rw [(xcc_ok c 0 0).mpr (by rw [h0]; exact (hz _).mp hp)] at h2
        exact ⟨sy, r, h2, hs, fun _ hz => hz⟩
      · cases hq : xh_cc c 0 0 with
        | true =>
          have := (xcc_ok c 0 0).mp hq
          rw [h0] at this
          exact absurd ((hz _).mpr this) hp
        | false =>
          rw [hq] at h2
          exact ⟨sy, r, h2, hs, fun _ hz => hz⟩
    | false =>
      rw [hd] at h'
      dsimp only [cond] at h'
      split at h'
      · cases h'
      · rename_i ia q1
        split at h'
        · cases h'
        · rename_i ib q2
          obtain ⟨x, e1, b1, b2⟩ := xrng_ok q1 hs ha
          obtain ⟨y, e2, b3, b4⟩ := xrng_ok q2 hs hb
          obtain ⟨r1, r2, g1, g2, g3, g4⟩ := xboth_ok h'
          subst e1
          subst e2
          obtain ⟨k1, k2⟩ := xcq_ok c b1 b2 b3 b4
          refine ⟨x, y, rfl, rfl, fun hp => ?_, fun hp => ?_⟩
          · obtain ⟨j1, j2, j3⟩ := k1 hp
            rw [j1] at g1
            exact ⟨_, r1, g1, xput_ok (xput_ok hs ha j2) hb j3, g3⟩
          · obtain ⟨j1, j2, j3⟩ := k2 hp
            rw [j1] at g2
            exact ⟨_, r2, g2, xput_ok (xput_ok hs ha j2) hb j3, g4⟩
theorem xnum_mem : ∀ (n : Nat) (lo z : Int), lo ≤ z → z < lo + n → z ∈ xh_num lo n
  | 0, lo, z, h1, h2 => by omega
  | n + 1, lo, z, h1, h2 => by
    unfold xh_num
    by_cases e : z = lo
    · rw [e]; exact List.mem_cons_self
    · exact List.mem_cons_of_mem _ (xnum_mem n (lo + 1) z (by omega) (by omega))
theorem xconc_ok {X : xX} {a : xV} {sy : xS} {ρ : List Int32} {aw : List Nat} {v : Value} {k : xV → xS → xR} {r : List xO} (h : xh_conc sy a k = some r) (hs : xsat sy ρ) (ha : xv X ρ aw a v) :
    ∃ a' sy' r', k a' sy' = some r' ∧ xsat sy' ρ ∧ xv X ρ aw a' v ∧ ∀ z ∈ r', z ∈ r := by
  unfold xh_conc at h
  split at h
  · cases h
  · rename_i iv q
    split at h
    · obtain ⟨x, e, b1, b2⟩ := xrng_ok q hs ha
      subst e
      obtain ⟨r', g1, g2⟩ := xall_ok h x.toInt (xnum_mem _ _ _ b1 (by omega))
      rw [xx_f_eq] at g1
      refine ⟨_, _, r', g1, xput_ok hs ha ⟨Int.le_refl _, Int.le_refl _⟩, ?_, g2⟩
      show Value.int x = .int (Int32.ofNat (xx_n (Int32.ofInt x.toInt)))
      rw [Int32.ofInt_toInt]
      exact congrArg Value.int (xx_n_of x).symm
    · cases h
theorem xcut_ok : ∀ (ks : List Int) (l u x : Int), l ≤ x → x ≤ u → ∃ q ∈ xh_cut ks l u, q.1 ≤ x ∧ x ≤ q.2
  | [], l, u, x, h1, h2 => ⟨(l, u), List.mem_cons_self, h1, h2⟩
  | m :: ms, l, u, x, h1, h2 => by
    unfold xh_cut
    split
    · exact xcut_ok ms l u x h1 h2
    · split
      · exact ⟨(l, u), List.mem_cons_self, h1, h2⟩
      · by_cases e1 : x < m
        · refine ⟨(l, m - 1), List.mem_append_left _ ?_, h1, by show x ≤ m - 1; omega⟩
          rw [if_pos (by omega)]
          exact List.mem_cons_self
        · by_cases e2 : x = m
          · exact ⟨(m, m), List.mem_append_right _ List.mem_cons_self, by show m ≤ x; omega, by show x ≤ m; omega⟩
          · obtain ⟨q, g1, g2⟩ := xcut_ok ms (m + 1) u x (by omega) h2
            refine ⟨q, List.mem_append_right _ (List.mem_cons_of_mem _ ?_), g2⟩
            rw [if_pos (by omega)]
            exact g1
/-- a switch: all numbers of a part go to one place -/
theorem xsw_ok {X : xX} {keys : List Int} {t : Int × Int → Option Nat} {a : xV} {sy : xS} {ρ : List Int32} {aw : List Nat} {v : Value} {k : Nat → xS → xR} {r : List xO} (h : xh_sw keys t a sy k = some r) (hs : xsat sy ρ) (ha : xv X ρ aw a v) :
    ∃ x iv j sy' r', v = .int x ∧ iv.1 ≤ x.toInt ∧ x.toInt ≤ iv.2 ∧ t iv = some j ∧ k j sy' = some r' ∧ xsat sy' ρ ∧ ∀ z ∈ r', z ∈ r := by
  unfold xh_sw at h
  cases hc : Nat.beq a.1 0 with
  | true =>
    rw [hc] at h
    dsimp only [cond] at h
    split at h
    · cases h
    · rename_i j q
      rw [xx_f_eq] at h
      exact ⟨_, _, j, sy, r, xv_0 hc ha, Int.le_refl _, Int.le_refl _, q, h, hs, fun _ hz => hz⟩
  | false =>
    rw [hc] at h
    dsimp only [cond] at h
    split at h
    · cases h
    · rename_i iv q
      obtain ⟨x, e, b1, b2⟩ := xrng_ok q hs ha
      subst e
      obtain ⟨p, g1, g2, g3⟩ := xcut_ok keys iv.1 iv.2 x.toInt b1 b2
      obtain ⟨r', g4, g5⟩ := xall_ok h p g1
      split at g4
      · cases g4
      · rename_i j q2
        rw [xx_f_eq] at g4
        exact ⟨x, p, j, _, r', rfl, g2, g3, q2, g4, xput_ok hs ha ⟨g2, g3⟩, g5⟩
end
section
/-! the world: cells side by side -/
def xrow (ct : Nat ⊕ (Int × Int)) (n : Nat) (f : Nat → Int32) : Prop := match ct with
  | .inl N => ∀ j, j < n → f j = Int32.ofNat (xx_g 32 N j)
  | .inr iv => ∀ j, j < n → iv.1 ≤ (f j).toInt ∧ (f j).toInt ≤ iv.2
def xrowl (ct : Nat ⊕ (Int × Int)) (n : Nat) (f : Nat → Int64) : Prop := match ct with
  | .inl N => ∀ j, j < n → f j = Int64.ofNat (xx_g 64 N j)
  | .inr _ => True
def xcell (X : xX) (ρ : List Int32) (aw : List Nat) (tys : List (ClassId × FieldType)) (c : xC) (e : va_E) : Prop := match c with
  | .inl o => ∃ vs, e = .inr (o.1, vs) ∧ xx_2 (xv X ρ aw) o.2 vs
  | .inr r => ∃ cA, (cA, r.1) ∈ tys ∧ r.2.1 < 2 ^ 31 ∧ ((∃ f : Nat → Int32, e = .inl (cA, r.2.1, .inl f) ∧ xh_kind r.1 < 2 ∧ xrow r.2.2 r.2.1 f) ∨ ∃ f : Nat → Int64, e = .inl (cA, r.2.1, .inr (.inl f)) ∧ xh_kind r.1 = 2 ∧ xrowl r.2.2 r.2.1 f)
theorem xcell_mono {X : xX} {ρ ρ' : List Int32} {aw aw' : List Nat} {tys tys' : List (ClassId × FieldType)} (h1 : xx_e ρ ρ') (h2 : xx_e aw aw') (h3 : ∀ t ∈ tys, t ∈ tys') {c : xC} {e : va_E} (h : xcell X ρ aw tys c e) : xcell X ρ' aw' tys' c e := by
  cases c with
  | inl o =>
    obtain ⟨vs, e1, e2⟩ := h
    exact ⟨vs, e1, xx_2_mono (fun _ _ q => xv_mono h1 h2 q) e2⟩
  | inr r =>
    obtain ⟨cA, e1, e2⟩ := h
    exact ⟨cA, h3 _ e1, e2⟩
abbrev xaw (ws : va_W) : List Nat := ws.map Prod.fst
theorem xaw_at {ws : va_W} {k q : Nat} (h : (xaw ws)[k]? = some q) : ∃ e, ws[k]? = some (q, e) := by
  rw [List.getElem?_map] at h
  cases hw : ws[k]? with
  | none => rw [hw] at h; cases h
  | some p =>
    rw [hw] at h
    have e : p.1 = q := Option.some.inj h
    exact ⟨p.2, by rw [← e]⟩
theorem xaw_set {ws : va_W} {k q : Nat} {e e' : va_E} (h : ws[k]? = some (q, e)) : xaw (ws.set k (q, e')) = xaw ws := by
  apply List.ext_getElem?
  intro j
  show (List.map Prod.fst (ws.set k (q, e')))[j]? = (List.map Prod.fst ws)[j]?
  rw [List.getElem?_map, List.getElem?_map]
  by_cases hj : j = k
  · subst hj
    rw [List.getElem?_set_self (List.getElem?_eq_some_iff.mp h).1, h]
    rfl
  · rw [List.getElem?_set_ne (fun e => hj e.symm)]
theorem xaw_app (ws : va_W) (p : Nat × va_E) : xx_e (xaw ws) (xaw (ws ++ [p])) := ⟨[p.1], by simp [xaw]⟩
/-- what may change: all that was made since the law began -/
abbrev xAA (bs : Nat) : Nat → Prop := fun q => bs ≤ q
def xWd (X : xX) (D : va_G) (bs : Nat) (ρ : List Int32) (ws : va_W) (tys : List (ClassId × FieldType)) (h : xH) (H : Heap) (s : State) (locs : List Loc) : Prop :=
  va_P D xcl ws H ∧ va_D (xAA bs) ws ∧ va_S (xAA bs) s.heap H locs ∧ va_K D xcl tys s ∧ h.1 = ws.length ∧ ∀ (k : Nat) (p : Nat × va_E) (c : xC), ws[k]? = some p → xl h k = some c → xcell X ρ (xaw ws) tys c p.2
theorem xWd_mono {X : xX} {D : va_G} {bs : Nat} {ρ ρ' : List Int32} {ws : va_W} {tys : List (ClassId × FieldType)} {h : xH} {H : Heap} {s : State} {locs : List Loc} (e : xx_e ρ ρ') (w : xWd X D bs ρ ws tys h H s locs) : xWd X D bs ρ' ws tys h H s locs := by
  obtain ⟨h1, h2, h3, h4, h5, h6⟩ := w
  exact ⟨h1, h2, h3, h4, h5, fun k p c q1 q2 => xcell_mono e (xx_e_rf _) (fun _ t => t) (h6 k p c q1 q2)⟩
/-- a cell is looked at -/
theorem xWd_get {X : xX} {D : va_G} {bs : Nat} {ρ : List Int32} {ws : va_W} {tys : List (ClassId × FieldType)} {h : xH} {H : Heap} {s : State} {locs : List Loc} (w : xWd X D bs ρ ws tys h H s locs) {a : xV} {v : Value} (ha : Nat.beq a.1 3 = true) (hv : xv X ρ (xaw ws) a v) {c : xC} (hc : xl h a.2 = some c) : ∃ q e, v = .ref q ∧ ws[a.2]? = some (q, e) ∧ xcell X ρ (xaw ws) tys c e := by
  obtain ⟨q, e1, e2⟩ := xv_3 ha hv
  obtain ⟨e, e3⟩ := xaw_at e1
  exact ⟨q, e, e2, e3, w.2.2.2.2.2 _ _ _ e3 hc⟩
/-- a cell is written -/
theorem xWd_set {X : xX} {D : va_G} {bs : Nat} {ρ : List Int32} {ws : va_W} {tys : List (ClassId × FieldType)} {h h' : xH} {H H1 : Heap} {s : State} {locs locs1 : List Loc} (w : xWd X D bs ρ ws tys h H s locs) {k q : Nat} {e e' : va_E} {c : xC} (hk : ws[k]? = some (q, e)) (hP : va_P D xcl (ws.set k (q, e')) H1) (hD : va_D (xAA bs) (ws.set k (q, e'))) (hS : va_S (xAA bs) s.heap H1 locs1) (h1 : h'.1 = h.1) (h2 : ∀ j, xl h' j = if j = k then some c else xl h j) (hc : xcell X ρ (xaw ws) tys c e') : xWd X D bs ρ (ws.set k (q, e')) tys h' H1 s locs1 := by
  obtain ⟨-, -, -, w4, w5, w6⟩ := w
  refine ⟨hP, hD, hS, w4, by rw [h1, w5, List.length_set], fun j p x q1 q2 => ?_⟩
  rw [xaw_set hk]
  rw [h2 j] at q2
  by_cases hj : j = k
  · subst hj
    rw [List.getElem?_set_self (List.getElem?_eq_some_iff.mp hk).1] at q1
    cases q1
    rw [if_pos rfl] at q2
    cases q2
    exact hc
  · rw [List.getElem?_set_ne (fun e => hj e.symm)] at q1
    rw [if_neg hj] at q2
    exact w6 j p x q1 q2
/-- a cell is made -/
theorem xWd_new {X : xX} {D : va_G} {bs : Nat} {ρ : List Int32} {ws : va_W} {tys tys' : List (ClassId × FieldType)} {h h' : xH} {H H1 : Heap} {s : State} {locs locs1 : List Loc} (w : xWd X D bs ρ ws tys h H s locs) {q : Nat} {e : va_E} {c : xC} (hP : va_P D xcl (ws ++ [(q, e)]) H1) (hD : va_D (xAA bs) (ws ++ [(q, e)])) (hS : va_S (xAA bs) s.heap H1 locs1) (hK : va_K D xcl tys' s) (ht : ∀ t ∈ tys, t ∈ tys') (h1 : h'.1 = h.1) (h2 : ∀ j, xl h' j = if j = h.1 then some c else xl h j) (hc : xcell X ρ (xaw (ws ++ [(q, e)])) tys' c e) : xWd X D bs ρ (ws ++ [(q, e)]) tys' (Nat.succ h'.1, h'.2) H1 s locs1 := by
  obtain ⟨-, -, -, w4, w5, w6⟩ := w
  refine ⟨hP, hD, hS, hK, ?_, fun j p x q1 q2 => ?_⟩
  · show h'.1 + 1 = _
    rw [h1, w5, List.length_append]
    rfl
  · have q2' : xl h' j = some x := q2
    rw [h2 j] at q2'
    by_cases hj : j = h.1
    · rw [if_pos hj] at q2'
      cases q2'
      rw [hj, w5, List.getElem?_append_right (Nat.le_refl _), Nat.sub_self] at q1
      cases q1
      exact hc
    · rw [if_neg hj] at q2'
      have hl : j < ws.length := by
        have := (List.getElem?_eq_some_iff.mp q1).1
        rw [List.length_append] at this
        have e1 : [(q, e)].length = 1 := rfl
        omega
      rw [List.getElem?_append_left hl] at q1
      exact xcell_mono (xx_e_rf _) (xaw_app ws (q, e)) ht (w6 j p x q1 q2')
/-! the locals -/
def xLv (X : xX) (ρ : List Int32) (aw : List Nat) (nL : Nat) (lv : List xV) (ls : Array Slot) : Prop := lv.length = nL ∧ ls.size = nL ∧ lv_wf ls ∧ ∀ (i : Nat) (a : xV), lv[i]? = some a → a.1 ≠ 9 → ∃ v, ls[i]? = some (.val v) ∧ xv X ρ aw a v
theorem xLv_mono {X : xX} {ρ ρ' : List Int32} {aw aw' : List Nat} {nL : Nat} {lv : List xV} {ls : Array Slot} (h1 : xx_e ρ ρ') (h2 : xx_e aw aw') (h : xLv X ρ aw nL lv ls) : xLv X ρ' aw' nL lv ls := by
  obtain ⟨a1, a2, a3, a4⟩ := h
  refine ⟨a1, a2, a3, fun i a q1 q2 => ?_⟩
  obtain ⟨v, e1, e2⟩ := a4 i a q1 q2
  exact ⟨v, e1, xv_mono h1 h2 e2⟩
def xvals (ls : Array Slot) (n : Nat) : List (Nat × Value) := (List.range n).filterMap fun (j : Nat) => match (ls[j]? : Option Slot) with
  | some (.val v) => some (j, v)
  | _ => none
theorem xvals_mem {ls : Array Slot} {n j : Nat} {v : Value} (h : ls[j]? = some (.val v)) (hj : j < n) : (j, v) ∈ xvals ls n := by
  refine List.mem_filterMap.mpr ⟨j, List.mem_range.mpr hj, ?_⟩
  rw [h]
theorem xvals_has {ls : Array Slot} {n : Nat} (h1 : ls.size = n) (h2 : lv_wf ls) : lv_has ls n (xvals ls n) := by
  refine ⟨h1, h2, fun q hq => ?_⟩
  obtain ⟨j, -, h⟩ := List.mem_filterMap.mp hq
  split at h
  · rename_i v e
    cases h
    exact e
  · cases h
theorem xnl_ok {X : xX} {ρ : List Int32} {aw : List Nat} {lv : List xV} {i : Nat} (h : xh_nl lv i = true) {j : Nat} {a : xV} {v : Value} (hj : j + 1 = i) (ha : lv[j]? = some a) (hv : xv X ρ aw a v) : v.category = 1 := by
  subst hj
  have h' : (match xk_at lv j with
    | some a => not (xc_l a)
    | none => false) = true := h
  rw [xk_at_eq, ha] at h'
  have h2 : xc_l a = false := by simpa using h'
  rw [xv_cat hv, h2]
  rfl
theorem xLv_st1 {X : xX} {ρ : List Int32} {aw : List Nat} {nL i : Nat} {lv : List xV} {ls ls' : Array Slot} {a : xV} {v : Value} (h : xLv X ρ aw nL lv ls) (hn : xh_nl lv i = true) (hi : i < lv.length) (hv : xv X ρ aw a v) (h' : lv_has ls' nL ((i, v) :: (xvals ls nL).filter (fun q => !(q.1 == i) && !(q.1 + 1 == i && q.2.category == 2)))) : xLv X ρ aw nL (lv.set i a) ls' := by
  obtain ⟨a1, a2, a3, a4⟩ := h
  refine ⟨by rw [List.length_set]; exact a1, h'.1, h'.2.1, fun j b q1 q2 => ?_⟩
  by_cases hj : j = i
  · subst hj
    rw [List.getElem?_set_self hi] at q1
    cases q1
    exact ⟨v, h'.2.2 (j, v) List.mem_cons_self, hv⟩
  · rw [List.getElem?_set_ne (fun e => hj e.symm)] at q1
    obtain ⟨w, e1, e2⟩ := a4 j b q1 q2
    have hjl : j < nL := by rw [← a1]; exact (List.getElem?_eq_some_iff.mp q1).1
    refine ⟨w, h'.2.2 (j, w) (List.mem_cons_of_mem _ (List.mem_filter.mpr ⟨xvals_mem e1 hjl, ?_⟩)), e2⟩
    simp only [Bool.and_eq_true, Bool.not_eq_true', beq_eq_false_iff_ne, ne_eq, Bool.and_eq_false_iff]
    refine ⟨hj, ?_⟩
    by_cases hq : j + 1 = i
    · right
      rw [xnl_ok hn hq q1 e2]
      decide
    · exact Or.inl hq
theorem xLv_st2 {X : xX} {ρ : List Int32} {aw : List Nat} {nL i : Nat} {lv : List xV} {ls ls' : Array Slot} {a : xV} {v : Value} (h : xLv X ρ aw nL lv ls) (hn : xh_nl lv i = true) (hi : i < lv.length) (hi2 : i + 1 < lv.length) (hv : xv X ρ aw a v) (h' : lv_has ls' nL ((i, v) :: (xvals ls nL).filter (fun q => !(q.1 == i) && (!(q.1 == i + 1) && !(q.1 + 1 == i && q.2.category == 2))))) : xLv X ρ aw nL ((lv.set i a).set (i + 1) (9, 0)) ls' := by
  obtain ⟨a1, a2, a3, a4⟩ := h
  refine ⟨by rw [List.length_set, List.length_set]; exact a1, h'.1, h'.2.1, fun j b q1 q2 => ?_⟩
  by_cases hj1 : j = i + 1
  · subst hj1
    rw [List.getElem?_set_self (by rw [List.length_set]; exact hi2)] at q1
    cases q1
    exact absurd rfl q2
  · rw [List.getElem?_set_ne (fun e => hj1 e.symm)] at q1
    by_cases hj : j = i
    · subst hj
      rw [List.getElem?_set_self hi] at q1
      cases q1
      exact ⟨v, h'.2.2 (j, v) List.mem_cons_self, hv⟩
    · rw [List.getElem?_set_ne (fun e => hj e.symm)] at q1
      obtain ⟨w, e1, e2⟩ := a4 j b q1 q2
      have hjl : j < nL := by rw [← a1]; exact (List.getElem?_eq_some_iff.mp q1).1
      refine ⟨w, h'.2.2 (j, w) (List.mem_cons_of_mem _ (List.mem_filter.mpr ⟨xvals_mem e1 hjl, ?_⟩)), e2⟩
      simp only [Bool.and_eq_true, Bool.not_eq_true', beq_eq_false_iff_ne, ne_eq, Bool.and_eq_false_iff]
      refine ⟨hj, hj1, ?_⟩
      by_cases hq : j + 1 = i
      · right
        rw [xnl_ok hn hq q1 e2]
        decide
      · exact Or.inl hq
end
section
/-! a method's frame: what is fixed in it; what its end must give -/
/-- what lies below: links of nest mates, texts, two statics, the script -/
def xEX (X : xX) (bs L : Nat) (xs : Nat → Int32) (U : State) (H : Heap) : Prop :=
  (∀ w ∈ xNW, va_Nw w U) ∧ (∀ q ∈ xSR, vk_R q.1 q.2.1 q.2.2.1 (X.2.1 q.2.2.2) U) ∧ vk_S xBY.length (xBY.map List.length) xBY X.2.1 X.2.2 (xAA bs) U H ∧ va_Z "java/lang/String" "COMPACT_STRINGS" "Z" (.int 1) (xAA bs) U H ∧ va_Zq "jdk/internal/util/Preconditions" "SIOOBE_FORMATTER" "Ljava/util/function/BiFunction;" (xAA bs) U H ∧ va_X X.1 L xs U H ∧ X.1 < bs
/-- the launch, what lies below, the classes' numbers, where the law began, the script -/
abbrev xGl : Type := Launch × xX × va_G × Nat × Nat × (Nat → Int32)
def xF (g : xGl) (M : xM) (d : Nat) (p : Program) (R : Room) (s : State) (m : MethodId) (args : Array Value) (meth : Method) (c : Code) : Prop :=
  p.tables.exec = Jvm.exec ∧ c.code = M.2.1 ∧ c.maxLocals = M.2.2.1 ∧ (∀ w ∈ xTb, w.before args s = true) ∧ s.vm.findClass M.1.cls = some m.cls ∧ (M.1.name = "<init>" → meth.name = "<init>") ∧ xEX g.2.1 g.2.2.2.1 g.2.2.2.2.1 g.2.2.2.2.2 s s.heap ∧ g.2.2.2.1 ≤ s.heap.size ∧ d + 1 ≤ R.frames ∧ 64 * (d + 1) ≤ R.locals ∧ M.2.2.2.2.1 ≤ R.cells ∧ M.2.2.2.2.2.1 ≤ R.slots
abbrev xWg (g : xGl) (ρ : List Int32) (ws : va_W) (tys : List (ClassId × FieldType)) (h : xH) (H : Heap) (s : State) (locs : List Loc) : Prop := xWd g.2.1 g.2.2.1 g.2.2.2.1 ρ ws tys h H s locs
def xRT (g : xGl) (M : xM) (p : Program) (e : Env) (R : Room) (s : State) (m : MethodId) (args : Array Value) (below : List Frame) (meth : Method) (c : Code) (Q : State → Prop) (outs : List xO) (ρ : List Int32) (ws : va_W) : Prop :=
  ∀ o ∈ outs, ∀ (ρ' : List Int32) (ws' : va_W) (tys' : List (ClassId × FieldType)) (H' : Heap) (locs' : List Loc) (ls' : Array Slot) (pc' ce' sl' : Nat), xx_e ρ ρ' → xx_e (xaw ws) (xaw ws') → xsat o.2.2 ρ' → xWg g ρ' ws' tys' o.2.1 H' s locs' → ce' ≤ M.2.2.2.2.1 → sl' ≤ M.2.2.2.2.2.1 →
    (o.1 = none → M.2.2.2.1 = none → decode M.2.1 pc' = .ok (.return_, 1) → W p g.1 e R s m args below meth c H' locs' ce' sl' Q (F0 m pc' ls' [])) ∧
    (∀ (a : xV) (x : Int32) (ty : FieldType), o.1 = some a → M.2.2.2.1 = some ty → xv g.2.1 ρ' (xaw ws') a (.int x) → narrow ty (.int x) = .int x → decode M.2.1 pc' = .ok (.ireturn, 1) → W p g.1 e R s m args below meth c H' locs' ce' sl' Q (F0 m pc' ls' [.int x])) ∧
    (∀ (a : xV) (x : Int64), o.1 = some a → M.2.2.2.1 = some .long → xv g.2.1 ρ' (xaw ws') a (.long x) → decode M.2.1 pc' = .ok (.lreturn, 1) → W p g.1 e R s m args below meth c H' locs' ce' sl' Q (F0 m pc' ls' [.long x]))
theorem xRT_mono {g : xGl} {M : xM} {p : Program} {e : Env} {R : Room} {s : State} {m : MethodId} {args : Array Value} {below : List Frame} {meth : Method} {c : Code} {Q : State → Prop} {outs outs' : List xO} {ρ ρ1 : List Int32} {ws ws1 : va_W} (h : xRT g M p e R s m args below meth c Q outs ρ ws) (h1 : ∀ o ∈ outs', o ∈ outs) (h2 : xx_e ρ ρ1) (h3 : xx_e (xaw ws) (xaw ws1)) : xRT g M p e R s m args below meth c Q outs' ρ1 ws1 :=
  fun o ho ρ' ws' tys' H' locs' ls' pc' ce' sl' e1 e2 => h o (h1 o ho) ρ' ws' tys' H' locs' ls' pc' ce' sl' (xx_e_tr h2 e1) (xx_e_tr h3 e2)
/-- the symbols of the script: its six ints and the first one's call; or its length -/
def xrho (g : xGl) : List Int32 := if g.2.2.2.2.1 = 6 then [g.2.2.2.2.2 0, g.2.2.2.2.2 1, g.2.2.2.2.2 2, g.2.2.2.2.2 3, g.2.2.2.2.2 4, g.2.2.2.2.2 5, g.2.2.2.2.2 0 &&& 63] else [Int32.ofNat g.2.2.2.2.1]
/-- at place pc, in a state as the run has it, the machine comes to the method's end -/
def xOk (g : xGl) (M : xM) (d pc : Nat) (lv st : List xV) (h : xH) (sy : xS) (ce sl : Nat) (outs : List xO) : Prop :=
  ∀ (p : Program) (e : Env) (R : Room) (s : State) (m : MethodId) (args : Array Value) (below : List Frame) (meth : Method) (c : Code) (Q : State → Prop) (H : Heap) (locs : List Loc) (ls : Array Slot) (vs : List Value) (ρ : List Int32) (ws : va_W) (tys : List (ClassId × FieldType)),
    xF g M d p R s m args meth c → xWg g ρ ws tys h H s locs → xsat sy ρ → xx_e (xrho g) ρ → xx_2 (xv g.2.1 ρ (xaw ws)) st vs → xLv g.2.1 ρ (xaw ws) M.2.2.1 lv ls → xRT g M p e R s m args below meth c Q outs ρ ws → W p g.1 e R s m args below meth c H locs ce sl Q (F0 m pc ls vs)
def xNok (g : xGl) (M : xM) (d pc : Nat) (k : xN) : Prop := ∀ (lv st : List xV) (h : xH) (sy : xS) (ce sl : Nat) (outs : List xO), k lv st h sy ce sl = some outs → xOk g M d pc lv st h sy ce sl outs
section XI
variable {g : xGl} {M : xM} {d pc : Nat} {nx ag : xN} {jp : Nat → xN} {ca : xK}
/-- a value is pushed -/
theorem xs_iconst {n : Int} (hd : decode M.2.1 pc = .ok (.iconst n, 1)) (hn : xNok g M d (pc + 1) nx) : xNok g M d pc (xd_push (0, xx_n (Int32.ofInt n)) nx jp ag ca) := by
  intro lv st h sy ce sl outs hk p e R s m args below meth c Q H locs ls vs ρ ws tys hF hW hs hr hst hlv hRT
  refine lv_iconst hF.1 hF.2.1 hd rfl ?_
  exact hn _ _ _ _ _ _ _ hk p e R s m args below meth c Q H locs ls _ ρ ws tys hF hW hs hr ⟨congrArg Value.int (xx_n_of _).symm, hst⟩ hlv hRT
theorem xs_bipush {n : Int} (hd : decode M.2.1 pc = .ok (.bipush n, 2)) (hn : xNok g M d (pc + 2) nx) : xNok g M d pc (xd_push (0, xx_n (Int8.ofInt n).toInt32) nx jp ag ca) := by
  intro lv st h sy ce sl outs hk p e R s m args below meth c Q H locs ls vs ρ ws tys hF hW hs hr hst hlv hRT
  refine lv_bipush hF.1 hF.2.1 hd rfl ?_
  exact hn _ _ _ _ _ _ _ hk p e R s m args below meth c Q H locs ls _ ρ ws tys hF hW hs hr ⟨congrArg Value.int (xx_n_of _).symm, hst⟩ hlv hRT
theorem xs_sipush {n : Int} (hd : decode M.2.1 pc = .ok (.sipush n, 3)) (hn : xNok g M d (pc + 3) nx) : xNok g M d pc (xd_push (0, xx_n (Int16.ofInt n).toInt32) nx jp ag ca) := by
  intro lv st h sy ce sl outs hk p e R s m args below meth c Q H locs ls vs ρ ws tys hF hW hs hr hst hlv hRT
  refine lv_sipush hF.1 hF.2.1 hd rfl ?_
  exact hn _ _ _ _ _ _ _ hk p e R s m args below meth c Q H locs ls _ ρ ws tys hF hW hs hr ⟨congrArg Value.int (xx_n_of _).symm, hst⟩ hlv hRT
theorem xs_lconst {n : Fin 2} (hd : decode M.2.1 pc = .ok (.lconst n, 1)) (hn : xNok g M d (pc + 1) nx) : xNok g M d pc (xd_push (4, n.val) nx jp ag ca) := by
  intro lv st h sy ce sl outs hk p e R s m args below meth c Q H locs ls vs ρ ws tys hF hW hs hr hst hlv hRT
  refine lv_lconst hF.1 hF.2.1 hd rfl ?_
  exact hn _ _ _ _ _ _ _ hk p e R s m args below meth c Q H locs ls _ ρ ws tys hF hW hs hr ⟨rfl, hst⟩ hlv hRT
theorem xs_ldc {i n : Nat} (hd : decode M.2.1 pc = .ok (.ldc i, 2)) (hw : Cond.constant M.1.cls i (Int32.ofNat n) ∈ xTb) (hn : xNok g M d (pc + 2) nx) : xNok g M d pc (xd_push (0, n) nx jp ag ca) := by
  intro lv st h sy ce sl outs hk p e R s m args below meth c Q H locs ls vs ρ ws tys hF hW hs hr hst hlv hRT
  refine lv_ldc hF.1 hF.2.1 hF.2.2.2.2.1 (hF.2.2.2.1 _ hw) hd ?_
  exact hn _ _ _ _ _ _ _ hk p e R s m args below meth c Q H locs ls _ ρ ws tys hF hW hs hr ⟨rfl, hst⟩ hlv hRT
theorem xs_ldcw {i n : Nat} (hd : decode M.2.1 pc = .ok (.ldc_w i, 3)) (hw : Cond.constant M.1.cls i (Int32.ofNat n) ∈ xTb) (hn : xNok g M d (pc + 3) nx) : xNok g M d pc (xd_push (0, n) nx jp ag ca) := by
  intro lv st h sy ce sl outs hk p e R s m args below meth c Q H locs ls vs ρ ws tys hF hW hs hr hst hlv hRT
  refine lv_ldcw hF.1 hF.2.1 hF.2.2.2.2.1 (hF.2.2.2.1 _ hw) hd ?_
  exact hn _ _ _ _ _ _ _ hk p e R s m args below meth c Q H locs ls _ ρ ws tys hF hW hs hr ⟨rfl, hst⟩ hlv hRT
theorem xs_ldc2 {i n : Nat} (hd : decode M.2.1 pc = .ok (.ldc2_w i, 3)) (hw : Cond.constantLong M.1.cls i (Int64.ofNat n) ∈ xTb) (hn : xNok g M d (pc + 3) nx) : xNok g M d pc (xd_push (4, n) nx jp ag ca) := by
  intro lv st h sy ce sl outs hk p e R s m args below meth c Q H locs ls vs ρ ws tys hF hW hs hr hst hlv hRT
  refine lv_ldc2 hF.1 hF.2.1 hF.2.2.2.2.1 (hF.2.2.2.1 _ hw) hd ?_
  exact hn _ _ _ _ _ _ _ hk p e R s m args below meth c Q H locs ls _ ρ ws tys hF hW hs hr ⟨rfl, hst⟩ hlv hRT
theorem xs_ldcS {i n : Nat} {tx : String} (hd : decode M.2.1 pc = .ok (.ldc i, 2)) (hw : (M.1.cls, i, tx, n) ∈ xSR) (hn : xNok g M d (pc + 2) nx) : xNok g M d pc (xd_push (7, n) nx jp ag ca) := by
  intro lv st h sy ce sl outs hk p e R s m args below meth c Q H locs ls vs ρ ws tys hF hW hs hr hst hlv hRT
  refine va_ldcS hF.1 hF.2.1 hF.2.2.2.2.1 (hF.2.2.2.2.2.2.1.2.1 _ hw) hd ?_
  exact hn _ _ _ _ _ _ _ hk p e R s m args below meth c Q H locs ls _ ρ ws tys hF hW hs hr ⟨rfl, hst⟩ hlv hRT
/-- loads -/
theorem xs_iload {i len : Nat} (hd : (decode M.2.1 pc = .ok (.iload i, 2) ∧ len = 2) ∨ ∃ k : Fin 4, decode M.2.1 pc = .ok (.iload_n k, 1) ∧ k.val = i ∧ len = 1) (hn : xNok g M d (pc + len) nx) : xNok g M d pc (xd_ld xc_i i nx jp ag ca) := by
  intro lv st h sy ce sl outs hk p e R s m args below meth c Q H locs ls vs ρ ws tys hF hW hs hr hst hlv hRT
  obtain ⟨a, h1, h2⟩ := xk_nth_ok hk
  cases hc : xc_i a with
  | false => rw [hc] at h2; cases h2
  | true =>
    rw [hc] at h2
    obtain ⟨v, e1, e2⟩ := hlv.2.2.2 i a h1 (fun q => by unfold xc_i at hc; rw [q] at hc; exact absurd hc (by decide))
    obtain ⟨x, rfl⟩ := xv_i hc e2
    rcases hd with ⟨hd, rfl⟩ | ⟨k, hd, rfl, rfl⟩
    · exact lv_iload hF.1 hF.2.1 hd e1 (hn _ _ _ _ _ _ _ h2 p e R s m args below meth c Q H locs ls _ ρ ws tys hF hW hs hr ⟨e2, hst⟩ hlv hRT)
    · exact lv_iload_n hF.1 hF.2.1 hd rfl e1 (hn _ _ _ _ _ _ _ h2 p e R s m args below meth c Q H locs ls _ ρ ws tys hF hW hs hr ⟨e2, hst⟩ hlv hRT)
theorem xs_lload {i len : Nat} (hd : (decode M.2.1 pc = .ok (.lload i, 2) ∧ len = 2) ∨ ∃ k : Fin 4, decode M.2.1 pc = .ok (.lload_n k, 1) ∧ k.val = i ∧ len = 1) (hn : xNok g M d (pc + len) nx) : xNok g M d pc (xd_ld xc_l i nx jp ag ca) := by
  intro lv st h sy ce sl outs hk p e R s m args below meth c Q H locs ls vs ρ ws tys hF hW hs hr hst hlv hRT
  obtain ⟨a, h1, h2⟩ := xk_nth_ok hk
  cases hc : xc_l a with
  | false => rw [hc] at h2; cases h2
  | true =>
    rw [hc] at h2
    obtain ⟨v, e1, e2⟩ := hlv.2.2.2 i a h1 (fun q => by unfold xc_l at hc; rw [q] at hc; exact absurd hc (by decide))
    obtain ⟨x, rfl⟩ := xv_l hc e2
    rcases hd with ⟨hd, rfl⟩ | ⟨k, hd, rfl, rfl⟩
    · exact lv_lload hF.1 hF.2.1 hd e1 (hn _ _ _ _ _ _ _ h2 p e R s m args below meth c Q H locs ls _ ρ ws tys hF hW hs hr ⟨e2, hst⟩ hlv hRT)
    · exact lv_lload_n hF.1 hF.2.1 hd rfl e1 (hn _ _ _ _ _ _ _ h2 p e R s m args below meth c Q H locs ls _ ρ ws tys hF hW hs hr ⟨e2, hst⟩ hlv hRT)
theorem xs_aload {i len : Nat} (hd : (decode M.2.1 pc = .ok (.aload i, 2) ∧ len = 2) ∨ ∃ k : Fin 4, decode M.2.1 pc = .ok (.aload_n k, 1) ∧ k.val = i ∧ len = 1) (hn : xNok g M d (pc + len) nx) : xNok g M d pc (xd_ld xc_r i nx jp ag ca) := by
  intro lv st h sy ce sl outs hk p e R s m args below meth c Q H locs ls vs ρ ws tys hF hW hs hr hst hlv hRT
  obtain ⟨a, h1, h2⟩ := xk_nth_ok hk
  cases hc : xc_r a with
  | false => rw [hc] at h2; cases h2
  | true =>
    rw [hc] at h2
    obtain ⟨v, e1, e2⟩ := hlv.2.2.2 i a h1 (fun q => by unfold xc_r at hc; rw [q] at hc; exact absurd hc (by decide))
    obtain ⟨x, rfl⟩ := xv_r hc e2
    rcases hd with ⟨hd, rfl⟩ | ⟨k, hd, rfl, rfl⟩
    · exact lv_aload hF.1 hF.2.1 hd e1 (hn _ _ _ _ _ _ _ h2 p e R s m args below meth c Q H locs ls _ ρ ws tys hF hW hs hr ⟨e2, hst⟩ hlv hRT)
    · exact lv_aload_n hF.1 hF.2.1 hd rfl e1 (hn _ _ _ _ _ _ _ h2 p e R s m args below meth c Q H locs ls _ ρ ws tys hF hW hs hr ⟨e2, hst⟩ hlv hRT)
/-- stores -/
theorem xs_istore {i len : Nat} (hd : (decode M.2.1 pc = .ok (.istore i, 2) ∧ len = 2) ∨ ∃ k : Fin 4, decode M.2.1 pc = .ok (.istore_n k, 1) ∧ k.val = i ∧ len = 1) (hn : xNok g M d (pc + len) nx) : xNok g M d pc (xd_st1 xc_i i nx jp ag ca) := by
  intro lv st h sy ce sl outs hk p e R s m args below meth c Q H locs ls vs ρ ws tys hF hW hs hr hst hlv hRT
  cases st with
  | nil => cases hk
  | cons a st =>
    obtain ⟨v, vs, rfl, hv, hs2⟩ := xx_2_cons hst
    have hk' : cond (and (xc_i a) (xh_nl lv i)) (xk_set lv i a fun lv' => nx lv' st h sy ce sl) none = some outs := hk
    cases hc : and (xc_i a) (xh_nl lv i) with
    | false => rw [hc] at hk'; cases hk'
    | true =>
      rw [hc] at hk'
      have hc' := Bool.and_eq_true_iff.mp hc
      obtain ⟨h1, h2⟩ := xk_set_ok hk'
      obtain ⟨x, rfl⟩ := xv_i hc'.1 hv
      have hi : i < M.2.2.1 := by rw [← hlv.1]; exact h1
      rcases hd with ⟨hd, rfl⟩ | ⟨k, hd, rfl, rfl⟩
      · exact lv_istore hF.1 hF.2.1 hd (xvals_has hlv.2.1 hlv.2.2.1) hi rfl (fun ls' hl => hn _ _ _ _ _ _ _ h2 p e R s m args below meth c Q H locs ls' _ ρ ws tys hF hW hs hr hs2 (xLv_st1 hlv hc'.2 h1 hv hl) hRT)
      · exact lv_istore_n hF.1 hF.2.1 hd rfl (xvals_has hlv.2.1 hlv.2.2.1) hi rfl (fun ls' hl => hn _ _ _ _ _ _ _ h2 p e R s m args below meth c Q H locs ls' _ ρ ws tys hF hW hs hr hs2 (xLv_st1 hlv hc'.2 h1 hv hl) hRT)
theorem xs_astore {i len : Nat} (hd : (decode M.2.1 pc = .ok (.astore i, 2) ∧ len = 2) ∨ ∃ k : Fin 4, decode M.2.1 pc = .ok (.astore_n k, 1) ∧ k.val = i ∧ len = 1) (hn : xNok g M d (pc + len) nx) : xNok g M d pc (xd_st1 xc_r i nx jp ag ca) := by
  intro lv st h sy ce sl outs hk p e R s m args below meth c Q H locs ls vs ρ ws tys hF hW hs hr hst hlv hRT
  cases st with
  | nil => cases hk
  | cons a st =>
    obtain ⟨v, vs, rfl, hv, hs2⟩ := xx_2_cons hst
    have hk' : cond (and (xc_r a) (xh_nl lv i)) (xk_set lv i a fun lv' => nx lv' st h sy ce sl) none = some outs := hk
    cases hc : and (xc_r a) (xh_nl lv i) with
    | false => rw [hc] at hk'; cases hk'
    | true =>
      rw [hc] at hk'
      have hc' := Bool.and_eq_true_iff.mp hc
      obtain ⟨h1, h2⟩ := xk_set_ok hk'
      obtain ⟨x, rfl⟩ := xv_r hc'.1 hv
      have hi : i < M.2.2.1 := by rw [← hlv.1]; exact h1
      rcases hd with ⟨hd, rfl⟩ | ⟨k, hd, rfl, rfl⟩
      · exact lv_astore hF.1 hF.2.1 hd (xvals_has hlv.2.1 hlv.2.2.1) hi rfl (fun ls' hl => hn _ _ _ _ _ _ _ h2 p e R s m args below meth c Q H locs ls' _ ρ ws tys hF hW hs hr hs2 (xLv_st1 hlv hc'.2 h1 hv hl) hRT)
      · exact lv_astore_n hF.1 hF.2.1 hd rfl (xvals_has hlv.2.1 hlv.2.2.1) hi rfl (fun ls' hl => hn _ _ _ _ _ _ _ h2 p e R s m args below meth c Q H locs ls' _ ρ ws tys hF hW hs hr hs2 (xLv_st1 hlv hc'.2 h1 hv hl) hRT)
theorem xs_lstore {i len : Nat} (hd : (decode M.2.1 pc = .ok (.lstore i, 2) ∧ len = 2) ∨ ∃ k : Fin 4, decode M.2.1 pc = .ok (.lstore_n k, 1) ∧ k.val = i ∧ len = 1) (hn : xNok g M d (pc + len) nx) : xNok g M d pc (xd_st2 i nx jp ag ca) := by
  intro lv st h sy ce sl outs hk p e R s m args below meth c Q H locs ls vs ρ ws tys hF hW hs hr hst hlv hRT
  cases st with
  | nil => cases hk
  | cons a st =>
    obtain ⟨v, vs, rfl, hv, hs2⟩ := xx_2_cons hst
    have hk' : cond (and (xc_l a) (xh_nl lv i)) (xk_set lv i a fun lv' => xk_set lv' (Nat.succ i) (9, 0) fun lv'' => nx lv'' st h sy ce sl) none = some outs := hk
    cases hc : and (xc_l a) (xh_nl lv i) with
    | false => rw [hc] at hk'; cases hk'
    | true =>
      rw [hc] at hk'
      have hc' := Bool.and_eq_true_iff.mp hc
      obtain ⟨h1, h2⟩ := xk_set_ok hk'
      obtain ⟨h3, h4⟩ := xk_set_ok h2
      rw [List.length_set] at h3
      obtain ⟨x, rfl⟩ := xv_l hc'.1 hv
      have hi : i + 1 < M.2.2.1 := by rw [← hlv.1]; exact h3
      rcases hd with ⟨hd, rfl⟩ | ⟨k, hd, rfl, rfl⟩
      · exact lv_lstore hF.1 hF.2.1 hd (xvals_has hlv.2.1 hlv.2.2.1) hi rfl (fun ls' hl => hn _ _ _ _ _ _ _ h4 p e R s m args below meth c Q H locs ls' _ ρ ws tys hF hW hs hr hs2 (xLv_st2 hlv hc'.2 h1 h3 hv hl) hRT)
      · exact lv_lstore_n hF.1 hF.2.1 hd rfl (xvals_has hlv.2.1 hlv.2.2.1) hi rfl (fun ls' hl => hn _ _ _ _ _ _ _ h4 p e R s m args below meth c Q H locs ls' _ ρ ws tys hF hW hs hr hs2 (xLv_st2 hlv hc'.2 h1 h3 hv hl) hRT)
theorem xs_iinc {i : Nat} {n : Int} (hd : decode M.2.1 pc = .ok (.iinc i n, 3)) (hn : xNok g M d (pc + 3) nx) : xNok g M d pc (xd_inc i (xx_n (Int32.ofInt n)) nx jp ag ca) := by
  intro lv st h sy ce sl outs hk p e R s m args below meth c Q H locs ls vs ρ ws tys hF hW hs hr hst hlv hRT
  obtain ⟨a, h1, h2⟩ := xk_nth_ok hk
  cases hc : xh_nl lv i with
  | false => rw [hc] at h2; cases h2
  | true =>
    rw [hc] at h2
    have h2' : xh_bin xn_add xg_add (0, xx_n (Int32.ofInt n)) a sy (fun v sy' => xk_set lv i v fun lv' => nx lv' st h sy' ce sl) = some outs := h2
    have hc9 : a.1 ≠ 9 := by
      intro q
      unfold xh_bin at h2'
      rw [q] at h2'
      have h3 : xh_binS xg_add (0, xx_n (Int32.ofInt n)) a sy (fun v sy' => xk_set lv i v fun lv' => nx lv' st h sy' ce sl) = some outs := h2'
      unfold xh_binS xh_rng at h3
      rw [q] at h3
      cases h3
    obtain ⟨v, e1, e2⟩ := hlv.2.2.2 i a h1 hc9
    obtain ⟨x, y, b, sy', ρ', rfl, ey, g1, g2, g3, g4, g5⟩ := xbin_ok (X := g.2.1) (aw := xaw ws) xn_add_ok xgood_add h2' hs e2 (show xv g.2.1 ρ (xaw ws) (0, xx_n (Int32.ofInt n)) (.int (Int32.ofInt n)) from congrArg Value.int (xx_n_of _).symm)
    cases ey
    obtain ⟨h5, h6⟩ := xk_set_ok g1
    have hi : i < M.2.2.1 := by rw [← hlv.1]; exact h5
    obtain ⟨k, hk2⟩ := List.getElem?_of_mem (xvals_mem e1 hi)
    refine lv_iinc hF.1 hF.2.1 hd (xvals_has hlv.2.1 hlv.2.2.1) hk2 rfl hi rfl (fun ls' hl => ?_)
    have hlv' := xLv_mono (aw' := xaw ws) g2 (xx_e_rf _) hlv
    exact hn _ _ _ _ _ _ _ h6 p e R s m args below meth c Q H locs ls' _ ρ' ws tys hF (xWd_mono g2 hW) g3 (xx_e_tr hr g2) (xx_2_mono (fun _ _ q => xv_mono g2 (xx_e_rf _) q) hst) (xLv_st1 hlv' hc h5 g4 hl) (xRT_mono hRT (fun _ z => z) g2 (xx_e_rf _))
end XI
end
section
/-! numbers, stack, jumps -/
section XJ
variable {g : xGl} {M : xM} {d pc : Nat} {nx ag : xN} {jp : Nat → xN} {ca : xK}
/-- one step of the machine that takes two ints and gives one -/
def xStep2 (g : xGl) (M : xM) (pc : Nat) (F : Int32 → Int32 → Int32) : Prop := ∀ (p : Program) (e : Env) (R : Room) (s : State) (m : MethodId) (args : Array Value) (below : List Frame) (meth : Method) (c : Code) (Q : State → Prop) (H : Heap) (locs : List Loc) (ls : Array Slot) (rest : List Value) (x y : Int32) (ce sl : Nat), p.tables.exec = Jvm.exec → c.code = M.2.1 → W p g.1 e R s m args below meth c H locs ce sl Q (F0 m (pc + 1) ls (.int (F x y) :: rest)) → W p g.1 e R s m args below meth c H locs ce sl Q (F0 m pc ls (.int y :: .int x :: rest))
theorem xs_bin_any {f : Nat → Nat → Nat} {F : Int32 → Int32 → Int32} {r : Int × Int → Int × Int → Int × Int} (hF : ∀ m n, Int32.ofNat (f m n) = F (Int32.ofNat m) (Int32.ofNat n)) (hg : xgood F r) (hS : xStep2 g M pc F) (hn : xNok g M d (pc + 1) nx) : xNok g M d pc (xd_bin f r nx jp ag ca) := by
  intro lv st h sy ce sl outs hk p e R s m args below meth c Q H locs ls vs ρ ws tys hF' hW hs hr hst hlv hRT
  match st, hk, hst with
  | [], hk, _ => cases hk
  | [b], hk, _ => cases hk
  | b :: a :: st, hk, hst =>
    obtain ⟨vb, vs1, rfl, hb, hs1⟩ := xx_2_cons hst
    obtain ⟨va, vs2, rfl, ha, hs2⟩ := xx_2_cons hs1
    obtain ⟨x, y, v, sy', ρ', rfl, rfl, g1, g2, g3, g4, g5⟩ := xbin_ok (X := g.2.1) (aw := xaw ws) hF hg (show xh_bin f r b a sy (fun v sy' => nx lv (v :: st) h sy' ce sl) = some outs from hk) hs ha hb
    refine hS p e R s m args below meth c Q H locs ls vs2 x y ce sl hF'.1 hF'.2.1 ?_
    exact hn _ _ _ _ _ _ _ g1 p e R s m args below meth c Q H locs ls _ ρ' ws tys hF' (xWd_mono g2 hW) g3 (xx_e_tr hr g2) ⟨g4, xx_2_mono (fun _ _ q => xv_mono g2 (xx_e_rf _) q) hs2⟩ (xLv_mono g2 (xx_e_rf _) hlv) (xRT_mono hRT (fun _ z => z) g2 (xx_e_rf _))
/-- a sum -/
theorem xs_iadd (hd : decode M.2.1 pc = .ok (.iadd, 1)) (hn : xNok g M d (pc + 1) nx) : xNok g M d pc (xd_add nx jp ag ca) := by
  intro lv st h sy ce sl outs hk p e R s m args below meth c Q H locs ls vs ρ ws tys hF hW hs hr hst hlv hRT
  match st, hk, hst with
  | [], hk, _ => cases hk
  | [b], hk, _ => cases hk
  | b :: a :: st, hk, hst =>
    have hk' : cond (and (Nat.beq b.1 1) (and (Nat.beq a.1 0) (Nat.beq a.2 0))) (nx lv (b :: st) h sy ce sl) (xh_bin xn_add xg_add b a sy fun v sy' => nx lv (v :: st) h sy' ce sl) = some outs := hk
    cases hc : and (Nat.beq b.1 1) (and (Nat.beq a.1 0) (Nat.beq a.2 0)) with
    | false =>
      rw [hc] at hk'
      dsimp only [cond] at hk'
      exact xs_bin_any (ag := ag) (jp := jp) (ca := ca) (f := xn_add) (r := xg_add) (F := fun x y => x + y) xn_add_ok xgood_add (fun p e R s m args below meth c Q H locs ls rest x y ce sl hx hb k => lv_iadd hx hb hd k) hn lv (b :: a :: st) h sy ce sl outs hk' p e R s m args below meth c Q H locs ls vs ρ ws tys hF hW hs hr hst hlv hRT
    | true =>
      rw [hc] at hk'
      dsimp only [cond] at hk'
      have c1 := Bool.and_eq_true_iff.mp hc
      have c2 := Bool.and_eq_true_iff.mp c1.2
      obtain ⟨vb, vs1, rfl, hb, hs1⟩ := xx_2_cons hst
      obtain ⟨va, vs2, rfl, ha, hs2⟩ := xx_2_cons hs1
      obtain ⟨y, e1, rfl⟩ := xv_1 c1.1 hb
      have ea := xv_0 c2.1 ha
      rw [Nat.eq_of_beq_eq_true c2.2] at ea
      subst ea
      refine lv_iadd hF.1 hF.2.1 hd ?_
      have e0 : Int32.ofNat 0 + y = y := by rw [show Int32.ofNat 0 = 0 from rfl, Int32.zero_add]
      rw [e0]
      exact hn _ _ _ _ _ _ _ hk' p e R s m args below meth c Q H locs ls _ ρ ws tys hF hW hs hr ⟨hb, hs2⟩ hlv hRT
/-- a product -/
theorem xs_imul (hd : decode M.2.1 pc = .ok (.imul, 1)) (hn : xNok g M d (pc + 1) nx) (ha' : xNok g M d pc ag) : xNok g M d pc (xd_mul nx jp ag ca) := by
  intro lv st h sy ce sl outs hk p e R s m args below meth c Q H locs ls vs ρ ws tys hF hW hs hr hst hlv hRT
  match st, hk, hst with
  | [], hk, _ => cases hk
  | [b], hk, _ => cases hk
  | b :: a :: st, hk, hst =>
    have hk' : cond (and (Nat.beq a.1 1) (xh_few sy a)) (xh_conc sy a fun a' sy' => ag lv (b :: a' :: st) h sy' ce sl) (cond (and (Nat.beq b.1 1) (xh_few sy b)) (xh_conc sy b fun b' sy' => ag lv (b' :: a :: st) h sy' ce sl) (xh_bin xn_mul xg_any b a sy fun v sy' => nx lv (v :: st) h sy' ce sl)) = some outs := hk
    obtain ⟨vb, vs1, rfl, hb, hs1⟩ := xx_2_cons hst
    obtain ⟨va, vs2, rfl, ha, hs2⟩ := xx_2_cons hs1
    cases hc : and (Nat.beq a.1 1) (xh_few sy a) with
    | true =>
      rw [hc] at hk'
      dsimp only [cond] at hk'
      obtain ⟨a', sy', r', g1, g2, g3, g4⟩ := xconc_ok (X := g.2.1) (aw := xaw ws) hk' hs ha
      exact ha' _ _ _ _ _ _ _ g1 p e R s m args below meth c Q H locs ls _ ρ ws tys hF hW g2 hr ⟨hb, g3, hs2⟩ hlv (xRT_mono hRT g4 (xx_e_rf _) (xx_e_rf _))
    | false =>
      rw [hc] at hk'
      dsimp only [cond] at hk'
      cases hc2 : and (Nat.beq b.1 1) (xh_few sy b) with
      | true =>
        rw [hc2] at hk'
        dsimp only [cond] at hk'
        obtain ⟨b', sy', r', g1, g2, g3, g4⟩ := xconc_ok (X := g.2.1) (aw := xaw ws) hk' hs hb
        exact ha' _ _ _ _ _ _ _ g1 p e R s m args below meth c Q H locs ls _ ρ ws tys hF hW g2 hr ⟨g3, ha, hs2⟩ hlv (xRT_mono hRT g4 (xx_e_rf _) (xx_e_rf _))
      | false =>
        rw [hc2] at hk'
        dsimp only [cond] at hk'
        exact xs_bin_any (ag := ag) (jp := jp) (ca := ca) (f := xn_mul) (r := xg_any) (F := fun x y => x * y) xn_mul_ok (xgood_any _) (fun p e R s m args below meth c Q H locs ls rest x y ce sl hx hb k => lv_imul hx hb hd k) hn lv (b :: a :: st) h sy ce sl outs hk' p e R s m args below meth c Q H locs ls _ ρ ws tys hF hW hs hr hst hlv hRT
/-- division and rest -/
theorem xs_div {f : Nat → Nat → Nat} {F : Int32 → Int32 → Int32} (hF : ∀ m n, Int32.ofNat (f m n) = F (Int32.ofNat m) (Int32.ofNat n)) (hS : ∀ (p : Program) (e : Env) (R : Room) (s : State) (m : MethodId) (args : Array Value) (below : List Frame) (meth : Method) (c : Code) (Q : State → Prop) (H : Heap) (locs : List Loc) (ls : Array Slot) (rest : List Value) (x y : Int32) (ce sl : Nat), p.tables.exec = Jvm.exec → c.code = M.2.1 → ¬ y = 0 → W p g.1 e R s m args below meth c H locs ce sl Q (F0 m (pc + 1) ls (.int (F x y) :: rest)) → W p g.1 e R s m args below meth c H locs ce sl Q (F0 m pc ls (.int y :: .int x :: rest))) (hn : xNok g M d (pc + 1) nx) : xNok g M d pc (xd_div f nx jp ag ca) := by
  intro lv st h sy ce sl outs hk p e R s m args below meth c Q H locs ls vs ρ ws tys hF' hW hs hr hst hlv hRT
  match st, hk, hst with
  | [], hk, _ => cases hk
  | [b], hk, _ => cases hk
  | b :: a :: st, hk, hst =>
    have hk' : cond (and (Nat.beq b.1 0) (not (Nat.beq (Nat.mod b.2 4294967296) 0))) (xh_bin f xg_any b a sy fun v sy' => nx lv (v :: st) h sy' ce sl) none = some outs := hk
    cases hc : and (Nat.beq b.1 0) (not (Nat.beq (Nat.mod b.2 4294967296) 0)) with
    | false => rw [hc] at hk'; cases hk'
    | true =>
      rw [hc] at hk'
      dsimp only [cond] at hk'
      have c1 := Bool.and_eq_true_iff.mp hc
      obtain ⟨vb, vs1, rfl, hb, hs1⟩ := xx_2_cons hst
      obtain ⟨va, vs2, rfl, ha, hs2⟩ := xx_2_cons hs1
      obtain ⟨x, y, v, sy', ρ', rfl, rfl, g1, g2, g3, g4, g5⟩ := xbin_ok (X := g.2.1) (aw := xaw ws) hF (xgood_any F) hk' hs ha hb
      have hy : ¬ y = 0 := by
        intro e0
        have e1 := xv_0 c1.1 hb
        rw [e0] at e1
        have e2 : (0 : Int32) = Int32.ofNat b.2 := by injection e1
        have e3 : b.2 % 4294967296 = 0 := by
          have e4 := congrArg (fun z : Int32 => z.toUInt32.toNat) e2
          have e5 : (Int32.ofNat b.2).toUInt32.toNat = b.2 % 4294967296 := by
            have : (Int32.ofNat b.2).toUInt32 = UInt32.ofNat b.2 := rfl
            rw [this]
            simp
          have e6 : (0 : Int32).toUInt32.toNat = 0 := rfl
          rw [← e5, ← e6]
          exact e4.symm
        have e7 : Nat.mod b.2 4294967296 = 0 := e3
        rw [e7] at c1
        exact absurd c1.2 (by decide)
      refine hS p e R s m args below meth c Q H locs ls vs2 x y ce sl hF'.1 hF'.2.1 hy ?_
      exact hn _ _ _ _ _ _ _ g1 p e R s m args below meth c Q H locs ls _ ρ' ws tys hF' (xWd_mono g2 hW) g3 (xx_e_tr hr g2) ⟨g4, xx_2_mono (fun _ _ q => xv_mono g2 (xx_e_rf _) q) hs2⟩ (xLv_mono g2 (xx_e_rf _) hlv) (xRT_mono hRT (fun _ z => z) g2 (xx_e_rf _))
/-- one int -/
theorem xs_un {f : Int32 → Int32} (hS : ∀ (p : Program) (e : Env) (R : Room) (s : State) (m : MethodId) (args : Array Value) (below : List Frame) (meth : Method) (c : Code) (Q : State → Prop) (H : Heap) (locs : List Loc) (ls : Array Slot) (rest : List Value) (x : Int32) (ce sl : Nat), p.tables.exec = Jvm.exec → c.code = M.2.1 → W p g.1 e R s m args below meth c H locs ce sl Q (F0 m (pc + 1) ls (.int (f x) :: rest)) → W p g.1 e R s m args below meth c H locs ce sl Q (F0 m pc ls (.int x :: rest))) (hn : xNok g M d (pc + 1) nx) : xNok g M d pc (xd_un f nx jp ag ca) := by
  intro lv st h sy ce sl outs hk p e R s m args below meth c Q H locs ls vs ρ ws tys hF hW hs hr hst hlv hRT
  cases st with
  | nil => cases hk
  | cons a st =>
    obtain ⟨v, vs, rfl, hv, hs2⟩ := xx_2_cons hst
    have hk' : cond (Nat.beq a.1 0) (xx_f (xx_n (f (Int32.ofNat a.2))) fun n => nx lv ((0, n) :: st) h sy ce sl) (cond (xc_i a) (xh_fresh sy xs_full fun v sy' => nx lv (v :: st) h sy' ce sl) none) = some outs := hk
    cases hc : Nat.beq a.1 0 with
    | true =>
      rw [hc] at hk'
      dsimp only [cond] at hk'
      have ea := xv_0 hc hv
      subst ea
      have h1 : xx_f (xx_n (f (Int32.ofNat a.2))) (fun n => nx lv ((0, n) :: st) h sy ce sl) = some outs := hk'
      rw [xx_f_eq] at h1
      refine hS p e R s m args below meth c Q H locs ls vs _ ce sl hF.1 hF.2.1 ?_
      exact hn _ _ _ _ _ _ _ h1 p e R s m args below meth c Q H locs ls _ ρ ws tys hF hW hs hr ⟨congrArg Value.int (xx_n_of _).symm, hs2⟩ hlv hRT
    | false =>
      rw [hc] at hk'
      dsimp only [cond] at hk'
      cases hc2 : xc_i a with
      | false => rw [hc2] at hk'; cases hk'
      | true =>
        rw [hc2] at hk'
        dsimp only [cond] at hk'
        obtain ⟨x, rfl⟩ := xv_i hc2 hv
        obtain ⟨sy', a', g1, g3, g4, g5⟩ := xfresh_ok hk' hs (f x) (xfull_ok _) g.2.1 (xaw ws)
        have g2 := xx_e_one ρ (f x)
        refine hS p e R s m args below meth c Q H locs ls vs _ ce sl hF.1 hF.2.1 ?_
        exact hn _ _ _ _ _ _ _ g1 p e R s m args below meth c Q H locs ls _ _ ws tys hF (xWd_mono g2 hW) g3 (xx_e_tr hr g2) ⟨g4, xx_2_mono (fun _ _ q => xv_mono g2 (xx_e_rf _) q) hs2⟩ (xLv_mono g2 (xx_e_rf _) hlv) (xRT_mono hRT (fun _ z => z) g2 (xx_e_rf _))
/-- longs -/
theorem xs_lbin {f : Int64 → Int64 → Int64} (hS : ∀ (p : Program) (e : Env) (R : Room) (s : State) (m : MethodId) (args : Array Value) (below : List Frame) (meth : Method) (c : Code) (Q : State → Prop) (H : Heap) (locs : List Loc) (ls : Array Slot) (rest : List Value) (x y : Int64) (ce sl : Nat), p.tables.exec = Jvm.exec → c.code = M.2.1 → W p g.1 e R s m args below meth c H locs ce sl Q (F0 m (pc + 1) ls (.long (f x y) :: rest)) → W p g.1 e R s m args below meth c H locs ce sl Q (F0 m pc ls (.long y :: .long x :: rest))) (hn : xNok g M d (pc + 1) nx) : xNok g M d pc (xd_lbin f nx jp ag ca) := by
  intro lv st h sy ce sl outs hk p e R s m args below meth c Q H locs ls vs ρ ws tys hF hW hs hr hst hlv hRT
  match st, hk, hst with
  | [], hk, _ => cases hk
  | [b], hk, _ => cases hk
  | b :: a :: st, hk, hst =>
    obtain ⟨vb, vs1, rfl, hb, hs1⟩ := xx_2_cons hst
    obtain ⟨va, vs2, rfl, ha, hs2⟩ := xx_2_cons hs1
    have hk' : cond (and (Nat.beq a.1 4) (Nat.beq b.1 4)) (xx_f (xx_ln (f (Int64.ofNat a.2) (Int64.ofNat b.2))) fun n => nx lv ((4, n) :: st) h sy ce sl) (cond (and (xc_l a) (xc_l b)) (nx lv ((5, 0) :: st) h sy ce sl) none) = some outs := hk
    cases hc : and (Nat.beq a.1 4) (Nat.beq b.1 4) with
    | true =>
      rw [hc] at hk'
      dsimp only [cond] at hk'
      have c1 := Bool.and_eq_true_iff.mp hc
      have ea := xv_4 c1.1 ha
      have eb := xv_4 c1.2 hb
      subst ea
      subst eb
      have h1 : xx_f (xx_ln (f (Int64.ofNat a.2) (Int64.ofNat b.2))) (fun n => nx lv ((4, n) :: st) h sy ce sl) = some outs := hk'
      rw [xx_f_eq] at h1
      refine hS p e R s m args below meth c Q H locs ls vs2 _ _ ce sl hF.1 hF.2.1 ?_
      exact hn _ _ _ _ _ _ _ h1 p e R s m args below meth c Q H locs ls _ ρ ws tys hF hW hs hr ⟨congrArg Value.long (xx_l_of _).symm, hs2⟩ hlv hRT
    | false =>
      rw [hc] at hk'
      dsimp only [cond] at hk'
      cases hc2 : and (xc_l a) (xc_l b) with
      | false => rw [hc2] at hk'; cases hk'
      | true =>
        rw [hc2] at hk'
        dsimp only [cond] at hk'
        have c1 := Bool.and_eq_true_iff.mp hc2
        obtain ⟨x, rfl⟩ := xv_l c1.1 ha
        obtain ⟨y, rfl⟩ := xv_l c1.2 hb
        refine hS p e R s m args below meth c Q H locs ls vs2 _ _ ce sl hF.1 hF.2.1 ?_
        exact hn _ _ _ _ _ _ _ hk' p e R s m args below meth c Q H locs ls _ ρ ws tys hF hW hs hr ⟨⟨_, rfl⟩, hs2⟩ hlv hRT
theorem xs_lsh {f : Int64 → Int32 → Int64} (hS : ∀ (p : Program) (e : Env) (R : Room) (s : State) (m : MethodId) (args : Array Value) (below : List Frame) (meth : Method) (c : Code) (Q : State → Prop) (H : Heap) (locs : List Loc) (ls : Array Slot) (rest : List Value) (x : Int64) (y : Int32) (ce sl : Nat), p.tables.exec = Jvm.exec → c.code = M.2.1 → W p g.1 e R s m args below meth c H locs ce sl Q (F0 m (pc + 1) ls (.long (f x y) :: rest)) → W p g.1 e R s m args below meth c H locs ce sl Q (F0 m pc ls (.int y :: .long x :: rest))) (hn : xNok g M d (pc + 1) nx) : xNok g M d pc (xd_lsh f nx jp ag ca) := by
  intro lv st h sy ce sl outs hk p e R s m args below meth c Q H locs ls vs ρ ws tys hF hW hs hr hst hlv hRT
  match st, hk, hst with
  | [], hk, _ => cases hk
  | [b], hk, _ => cases hk
  | b :: a :: st, hk, hst =>
    obtain ⟨vb, vs1, rfl, hb, hs1⟩ := xx_2_cons hst
    obtain ⟨va, vs2, rfl, ha, hs2⟩ := xx_2_cons hs1
    have hk' : cond (and (Nat.beq a.1 4) (Nat.beq b.1 0)) (xx_f (xx_ln (f (Int64.ofNat a.2) (Int32.ofNat b.2))) fun n => nx lv ((4, n) :: st) h sy ce sl) (cond (and (xc_l a) (xc_i b)) (nx lv ((5, 0) :: st) h sy ce sl) none) = some outs := hk
    cases hc : and (Nat.beq a.1 4) (Nat.beq b.1 0) with
    | true =>
      rw [hc] at hk'
      dsimp only [cond] at hk'
      have c1 := Bool.and_eq_true_iff.mp hc
      have ea := xv_4 c1.1 ha
      have eb := xv_0 c1.2 hb
      subst ea
      subst eb
      have h1 : xx_f (xx_ln (f (Int64.ofNat a.2) (Int32.ofNat b.2))) (fun n => nx lv ((4, n) :: st) h sy ce sl) = some outs := hk'
      rw [xx_f_eq] at h1
      refine hS p e R s m args below meth c Q H locs ls vs2 _ _ ce sl hF.1 hF.2.1 ?_
      exact hn _ _ _ _ _ _ _ h1 p e R s m args below meth c Q H locs ls _ ρ ws tys hF hW hs hr ⟨congrArg Value.long (xx_l_of _).symm, hs2⟩ hlv hRT
    | false =>
      rw [hc] at hk'
      dsimp only [cond] at hk'
      cases hc2 : and (xc_l a) (xc_i b) with
      | false => rw [hc2] at hk'; cases hk'
      | true =>
        rw [hc2] at hk'
        dsimp only [cond] at hk'
        have c1 := Bool.and_eq_true_iff.mp hc2
        obtain ⟨x, rfl⟩ := xv_l c1.1 ha
        obtain ⟨y, rfl⟩ := xv_i c1.2 hb
        refine hS p e R s m args below meth c Q H locs ls vs2 _ _ ce sl hF.1 hF.2.1 ?_
        exact hn _ _ _ _ _ _ _ hk' p e R s m args below meth c Q H locs ls _ ρ ws tys hF hW hs hr ⟨⟨_, rfl⟩, hs2⟩ hlv hRT
theorem xs_i2l (hd : decode M.2.1 pc = .ok (.i2l, 1)) (hn : xNok g M d (pc + 1) nx) : xNok g M d pc (xd_i2l nx jp ag ca) := by
  intro lv st h sy ce sl outs hk p e R s m args below meth c Q H locs ls vs ρ ws tys hF hW hs hr hst hlv hRT
  cases st with
  | nil => cases hk
  | cons a st =>
    obtain ⟨v, vs, rfl, hv, hs2⟩ := xx_2_cons hst
    have hk' : cond (Nat.beq a.1 0) (xx_f (xx_ln (Int32.ofNat a.2).toInt64) fun n => nx lv ((4, n) :: st) h sy ce sl) (cond (xc_i a) (nx lv ((5, 0) :: st) h sy ce sl) none) = some outs := hk
    cases hc : Nat.beq a.1 0 with
    | true =>
      rw [hc] at hk'
      dsimp only [cond] at hk'
      have ea := xv_0 hc hv
      subst ea
      have h1 : xx_f (xx_ln (Int32.ofNat a.2).toInt64) (fun n => nx lv ((4, n) :: st) h sy ce sl) = some outs := hk'
      rw [xx_f_eq] at h1
      exact lv_i2l hF.1 hF.2.1 hd rfl (hn _ _ _ _ _ _ _ h1 p e R s m args below meth c Q H locs ls _ ρ ws tys hF hW hs hr ⟨congrArg Value.long (xx_l_of _).symm, hs2⟩ hlv hRT)
    | false =>
      rw [hc] at hk'
      dsimp only [cond] at hk'
      cases hc2 : xc_i a with
      | false => rw [hc2] at hk'; cases hk'
      | true =>
        rw [hc2] at hk'
        dsimp only [cond] at hk'
        obtain ⟨x, rfl⟩ := xv_i hc2 hv
        exact lv_i2l hF.1 hF.2.1 hd rfl (hn _ _ _ _ _ _ _ hk' p e R s m args below meth c Q H locs ls _ ρ ws tys hF hW hs hr ⟨⟨_, rfl⟩, hs2⟩ hlv hRT)
theorem xs_l2i (hd : decode M.2.1 pc = .ok (.l2i, 1)) (hn : xNok g M d (pc + 1) nx) : xNok g M d pc (xd_l2i nx jp ag ca) := by
  intro lv st h sy ce sl outs hk p e R s m args below meth c Q H locs ls vs ρ ws tys hF hW hs hr hst hlv hRT
  cases st with
  | nil => cases hk
  | cons a st =>
    obtain ⟨v, vs, rfl, hv, hs2⟩ := xx_2_cons hst
    have hk' : cond (Nat.beq a.1 4) (xx_f (xx_n (Int64.ofNat a.2).toInt32) fun n => nx lv ((0, n) :: st) h sy ce sl) (cond (xc_l a) (xh_fresh sy xs_full fun v sy' => nx lv (v :: st) h sy' ce sl) none) = some outs := hk
    cases hc : Nat.beq a.1 4 with
    | true =>
      rw [hc] at hk'
      dsimp only [cond] at hk'
      have ea := xv_4 hc hv
      subst ea
      have h1 : xx_f (xx_n (Int64.ofNat a.2).toInt32) (fun n => nx lv ((0, n) :: st) h sy ce sl) = some outs := hk'
      rw [xx_f_eq] at h1
      exact lv_l2i hF.1 hF.2.1 hd rfl (hn _ _ _ _ _ _ _ h1 p e R s m args below meth c Q H locs ls _ ρ ws tys hF hW hs hr ⟨congrArg Value.int (xx_n_of _).symm, hs2⟩ hlv hRT)
    | false =>
      rw [hc] at hk'
      dsimp only [cond] at hk'
      cases hc2 : xc_l a with
      | false => rw [hc2] at hk'; cases hk'
      | true =>
        rw [hc2] at hk'
        dsimp only [cond] at hk'
        obtain ⟨x, rfl⟩ := xv_l hc2 hv
        obtain ⟨sy', a', g1, g3, g4, g5⟩ := xfresh_ok hk' hs x.toInt32 (xfull_ok _) g.2.1 (xaw ws)
        have g2 := xx_e_one ρ x.toInt32
        exact lv_l2i hF.1 hF.2.1 hd rfl (hn _ _ _ _ _ _ _ g1 p e R s m args below meth c Q H locs ls _ _ ws tys hF (xWd_mono g2 hW) g3 (xx_e_tr hr g2) ⟨g4, xx_2_mono (fun _ _ q => xv_mono g2 (xx_e_rf _) q) hs2⟩ (xLv_mono g2 (xx_e_rf _) hlv) (xRT_mono hRT (fun _ z => z) g2 (xx_e_rf _)))
theorem xs_lcmp (hd : decode M.2.1 pc = .ok (.lcmp, 1)) (hn : xNok g M d (pc + 1) nx) : xNok g M d pc (xd_lcmp nx jp ag ca) := by
  intro lv st h sy ce sl outs hk p e R s m args below meth c Q H locs ls vs ρ ws tys hF hW hs hr hst hlv hRT
  match st, hk, hst with
  | [], hk, _ => cases hk
  | [b], hk, _ => cases hk
  | b :: a :: st, hk, hst =>
    obtain ⟨vb, vs1, rfl, hb, hs1⟩ := xx_2_cons hst
    obtain ⟨va, vs2, rfl, ha, hs2⟩ := xx_2_cons hs1
    have hk' : cond (and (Nat.beq a.1 4) (Nat.beq b.1 4)) (xx_f (xx_n (lg_cmp (Int64.ofNat a.2) (Int64.ofNat b.2))) fun n => nx lv ((0, n) :: st) h sy ce sl) (cond (and (xc_l a) (xc_l b)) (xh_fresh sy xs_full fun v sy' => nx lv (v :: st) h sy' ce sl) none) = some outs := hk
    cases hc : and (Nat.beq a.1 4) (Nat.beq b.1 4) with
    | true =>
      rw [hc] at hk'
      dsimp only [cond] at hk'
      have c1 := Bool.and_eq_true_iff.mp hc
      have ea := xv_4 c1.1 ha
      have eb := xv_4 c1.2 hb
      subst ea
      subst eb
      have h1 : xx_f (xx_n (lg_cmp (Int64.ofNat a.2) (Int64.ofNat b.2))) (fun n => nx lv ((0, n) :: st) h sy ce sl) = some outs := hk'
      rw [xx_f_eq] at h1
      exact W.lcmp hF.1 hF.2.1 hd (hn _ _ _ _ _ _ _ h1 p e R s m args below meth c Q H locs ls _ ρ ws tys hF hW hs hr ⟨congrArg Value.int (xx_n_of _).symm, hs2⟩ hlv hRT)
    | false =>
      rw [hc] at hk'
      dsimp only [cond] at hk'
      cases hc2 : and (xc_l a) (xc_l b) with
      | false => rw [hc2] at hk'; cases hk'
      | true =>
        rw [hc2] at hk'
        dsimp only [cond] at hk'
        have c1 := Bool.and_eq_true_iff.mp hc2
        obtain ⟨x, rfl⟩ := xv_l c1.1 ha
        obtain ⟨y, rfl⟩ := xv_l c1.2 hb
        obtain ⟨sy', a', g1, g3, g4, g5⟩ := xfresh_ok hk' hs (lg_cmp x y) (xfull_ok _) g.2.1 (xaw ws)
        have g2 := xx_e_one ρ (lg_cmp x y)
        exact W.lcmp hF.1 hF.2.1 hd (hn _ _ _ _ _ _ _ g1 p e R s m args below meth c Q H locs ls _ _ ws tys hF (xWd_mono g2 hW) g3 (xx_e_tr hr g2) ⟨g4, xx_2_mono (fun _ _ q => xv_mono g2 (xx_e_rf _) q) hs2⟩ (xLv_mono g2 (xx_e_rf _) hlv) (xRT_mono hRT (fun _ z => z) g2 (xx_e_rf _)))
/-- the stack -/
theorem xs_dup (hd : decode M.2.1 pc = .ok (.dup, 1)) (hn : xNok g M d (pc + 1) nx) : xNok g M d pc (xd_dup nx jp ag ca) := by
  intro lv st h sy ce sl outs hk p e R s m args below meth c Q H locs ls vs ρ ws tys hF hW hs hr hst hlv hRT
  cases st with
  | nil => cases hk
  | cons a st =>
    obtain ⟨v, vs, rfl, hv, hs2⟩ := xx_2_cons hst
    have hk' : cond (xc_l a) none (nx lv (a :: a :: st) h sy ce sl) = some outs := hk
    cases hc : xc_l a with
    | true => rw [hc] at hk'; cases hk'
    | false =>
      rw [hc] at hk'
      dsimp only [cond] at hk'
      exact lv_dup hF.1 hF.2.1 hd (by rw [xv_cat hv, hc]; rfl) (hn _ _ _ _ _ _ _ hk' p e R s m args below meth c Q H locs ls _ ρ ws tys hF hW hs hr ⟨hv, hv, hs2⟩ hlv hRT)
theorem xs_pop (hd : decode M.2.1 pc = .ok (.pop, 1)) (hn : xNok g M d (pc + 1) nx) : xNok g M d pc (xd_pop nx jp ag ca) := by
  intro lv st h sy ce sl outs hk p e R s m args below meth c Q H locs ls vs ρ ws tys hF hW hs hr hst hlv hRT
  cases st with
  | nil => cases hk
  | cons a st =>
    obtain ⟨v, vs, rfl, hv, hs2⟩ := xx_2_cons hst
    have hk' : cond (xc_l a) none (nx lv st h sy ce sl) = some outs := hk
    cases hc : xc_l a with
    | true => rw [hc] at hk'; cases hk'
    | false =>
      rw [hc] at hk'
      dsimp only [cond] at hk'
      exact lv_pop hF.1 hF.2.1 hd (by rw [xv_cat hv, hc]; rfl) (hn _ _ _ _ _ _ _ hk' p e R s m args below meth c Q H locs ls _ ρ ws tys hF hW hs hr hs2 hlv hRT)
theorem xs_dup2 (hd : decode M.2.1 pc = .ok (.dup2, 1)) (hn : xNok g M d (pc + 1) nx) : xNok g M d pc (xd_dup2 nx jp ag ca) := by
  intro lv st h sy ce sl outs hk p e R s m args below meth c Q H locs ls vs ρ ws tys hF hW hs hr hst hlv hRT
  match st, hk, hst with
  | [], hk, _ => cases hk
  | [b], hk, _ => cases hk
  | a :: b :: st, hk, hst =>
    obtain ⟨va, vs1, rfl, ha, hs1⟩ := xx_2_cons hst
    obtain ⟨vb, vs2, rfl, hb, hs2⟩ := xx_2_cons hs1
    have hk' : cond (or (xc_l a) (xc_l b)) none (nx lv (a :: b :: a :: b :: st) h sy ce sl) = some outs := hk
    cases hc : or (xc_l a) (xc_l b) with
    | true => rw [hc] at hk'; cases hk'
    | false =>
      rw [hc] at hk'
      dsimp only [cond] at hk'
      have c1 := Bool.or_eq_false_iff.mp hc
      exact lv_dup2_11 hF.1 hF.2.1 hd (by rw [xv_cat ha, c1.1]; rfl) (by rw [xv_cat hb, c1.2]; rfl) (hn _ _ _ _ _ _ _ hk' p e R s m args below meth c Q H locs ls _ ρ ws tys hF hW hs hr ⟨ha, hb, ha, hb, hs2⟩ hlv hRT)
/-- jumps -/
theorem xs_goto {off : Int} {j tgt : Nat} (hd : decode M.2.1 pc = .ok (.goto off, 3)) (ht : (pc : Int) + off = (tgt : Int)) (hj : xNok g M d tgt (jp j)) : xNok g M d pc (xd_goto j nx jp ag ca) := by
  intro lv st h sy ce sl outs hk p e R s m args below meth c Q H locs ls vs ρ ws tys hF hW hs hr hst hlv hRT
  exact lv_goto hF.1 hF.2.1 hd ht (hj _ _ _ _ _ _ _ hk p e R s m args below meth c Q H locs ls _ ρ ws tys hF hW hs hr hst hlv hRT)
theorem xs_icmp {cd : ClassFile.Cond} {off : Int} {j tgt : Nat} (hd : decode M.2.1 pc = .ok (.if_icmp cd off, 3)) (ht : (pc : Int) + off = (tgt : Int)) (hj : xNok g M d tgt (jp j)) (hn : xNok g M d (pc + 3) nx) : xNok g M d pc (xd_icmp cd j nx jp ag ca) := by
  intro lv st h sy ce sl outs hk p e R s m args below meth c Q H locs ls vs ρ ws tys hF hW hs hr hst hlv hRT
  match st, hk, hst with
  | [], hk, _ => cases hk
  | [b], hk, _ => cases hk
  | b :: a :: st, hk, hst =>
    obtain ⟨vb, vs1, rfl, hb, hs1⟩ := xx_2_cons hst
    obtain ⟨va, vs2, rfl, ha, hs2⟩ := xx_2_cons hs1
    obtain ⟨x, y, rfl, rfl, kt, kf⟩ := xbr_ok (X := g.2.1) (aw := xaw ws) (show xh_br cd a b sy (fun sy' => jp j lv st h sy' ce sl) (fun sy' => nx lv st h sy' ce sl) = some outs from hk) hs ha hb
    have t1 : xci cd x.toInt y.toInt → W p g.1 e R s m args below meth c H locs ce sl Q (F0 m tgt ls vs2) := fun hp => by
      obtain ⟨sy', r', g1, g2, g3⟩ := kt hp
      exact hj _ _ _ _ _ _ _ g1 p e R s m args below meth c Q H locs ls _ ρ ws tys hF hW g2 hr hs2 hlv (xRT_mono hRT g3 (xx_e_rf _) (xx_e_rf _))
    have t2 : ¬ xci cd x.toInt y.toInt → W p g.1 e R s m args below meth c H locs ce sl Q (F0 m (pc + 3) ls vs2) := fun hp => by
      obtain ⟨sy', r', g1, g2, g3⟩ := kf hp
      exact hn _ _ _ _ _ _ _ g1 p e R s m args below meth c Q H locs ls _ ρ ws tys hF hW g2 hr hs2 hlv (xRT_mono hRT g3 (xx_e_rf _) (xx_e_rf _))
    cases cd
    · exact lv_icmp_eq hF.1 hF.2.1 hd ht (fun q => t1 (show x.toInt = y.toInt by rw [q])) (fun q => t2 (fun z => q (Int32.toInt_inj.mp z)))
    · exact lv_icmp_ne hF.1 hF.2.1 hd ht (fun q => t1 (fun z => q (Int32.toInt_inj.mp z))) (fun q => t2 (fun z => z (by rw [q])))
    · exact lv_icmp_lt hF.1 hF.2.1 hd ht (fun q => t1 (Int32.lt_iff_toInt_lt.mp q)) (fun q => t2 (fun z => q (Int32.lt_iff_toInt_lt.mpr z)))
    · exact lv_icmp_ge hF.1 hF.2.1 hd ht (fun q => t1 (Int32.le_iff_toInt_le.mp q)) (fun q => t2 (fun z => q (Int32.le_iff_toInt_le.mpr z)))
    · exact lv_icmp_gt hF.1 hF.2.1 hd ht (fun q => t1 (Int32.lt_iff_toInt_lt.mp q)) (fun q => t2 (fun z => q (Int32.lt_iff_toInt_lt.mpr z)))
    · exact lv_icmp_le hF.1 hF.2.1 hd ht (fun q => t1 (Int32.le_iff_toInt_le.mp q)) (fun q => t2 (fun z => q (Int32.le_iff_toInt_le.mpr z)))
theorem xs_if {cd : ClassFile.Cond} {off : Int} {j tgt : Nat} (hd : decode M.2.1 pc = .ok (.ifCond cd off, 3)) (ht : (pc : Int) + off = (tgt : Int)) (hj : xNok g M d tgt (jp j)) (hn : xNok g M d (pc + 3) nx) : xNok g M d pc (xd_if cd j nx jp ag ca) := by
  intro lv st h sy ce sl outs hk p e R s m args below meth c Q H locs ls vs ρ ws tys hF hW hs hr hst hlv hRT
  cases st with
  | nil => cases hk
  | cons a st =>
    obtain ⟨va, vs2, rfl, ha, hs2⟩ := xx_2_cons hst
    obtain ⟨x, y, rfl, ey, kt, kf⟩ := xbr_ok (X := g.2.1) (aw := xaw ws) (show xh_br cd a (0, 0) sy (fun sy' => jp j lv st h sy' ce sl) (fun sy' => nx lv st h sy' ce sl) = some outs from hk) hs ha (show xv g.2.1 ρ (xaw ws) (0, 0) (.int 0) from rfl)
    cases ey
    have t1 : xci cd x.toInt 0 → W p g.1 e R s m args below meth c H locs ce sl Q (F0 m tgt ls vs2) := fun hp => by
      obtain ⟨sy', r', g1, g2, g3⟩ := kt (by rw [Int32.toInt_zero]; exact hp)
      exact hj _ _ _ _ _ _ _ g1 p e R s m args below meth c Q H locs ls _ ρ ws tys hF hW g2 hr hs2 hlv (xRT_mono hRT g3 (xx_e_rf _) (xx_e_rf _))
    have t2 : ¬ xci cd x.toInt 0 → W p g.1 e R s m args below meth c H locs ce sl Q (F0 m (pc + 3) ls vs2) := fun hp => by
      obtain ⟨sy', r', g1, g2, g3⟩ := kf (by rw [Int32.toInt_zero]; exact hp)
      exact hn _ _ _ _ _ _ _ g1 p e R s m args below meth c Q H locs ls _ ρ ws tys hF hW g2 hr hs2 hlv (xRT_mono hRT g3 (xx_e_rf _) (xx_e_rf _))
    have e0 : ∀ z : Int32, z.toInt = 0 ↔ z = 0 := fun z => by rw [← Int32.toInt_zero]; exact Int32.toInt_inj
    have e1 : ∀ z : Int32, z.toInt < 0 ↔ z < 0 := fun z => by rw [Int32.lt_iff_toInt_lt, Int32.toInt_zero]
    have e2 : ∀ z : Int32, 0 ≤ z.toInt ↔ 0 ≤ z := fun z => by rw [Int32.le_iff_toInt_le, Int32.toInt_zero]
    have e3 : ∀ z : Int32, 0 < z.toInt ↔ 0 < z := fun z => by rw [Int32.lt_iff_toInt_lt, Int32.toInt_zero]
    have e4 : ∀ z : Int32, z.toInt ≤ 0 ↔ z ≤ 0 := fun z => by rw [Int32.le_iff_toInt_le, Int32.toInt_zero]
    cases cd
    · exact lv_if_eq hF.1 hF.2.1 hd ht (fun q => t1 ((e0 x).mpr q)) (fun q => t2 (fun z => q ((e0 x).mp z)))
    · exact lv_if_ne hF.1 hF.2.1 hd ht (fun q => t1 (fun z => q ((e0 x).mp z))) (fun q => t2 (fun z => z ((e0 x).mpr q)))
    · exact lv_if_lt hF.1 hF.2.1 hd ht (fun q => t1 ((e1 x).mpr q)) (fun q => t2 (fun z => q ((e1 x).mp z)))
    · exact lv_if_ge hF.1 hF.2.1 hd ht (fun q => t1 ((e2 x).mpr q)) (fun q => t2 (fun z => q ((e2 x).mp z)))
    · exact lv_if_gt hF.1 hF.2.1 hd ht (fun q => t1 ((e3 x).mpr q)) (fun q => t2 (fun z => q ((e3 x).mp z)))
    · exact lv_if_le hF.1 hF.2.1 hd ht (fun q => t1 ((e4 x).mpr q)) (fun q => t2 (fun z => q ((e4 x).mp z)))
/-- switches: hT says where a number goes -/
theorem xs_sw {keys : List Int} {t : Int × Int → Option Nat} (hT : ∀ (iv : Int × Int) (j : Nat) (x : Int32), t iv = some j → iv.1 ≤ x.toInt → x.toInt ≤ iv.2 → ∃ tgt, xNok g M d tgt (jp j) ∧ ∀ (p : Program) (e : Env) (R : Room) (s : State) (m : MethodId) (args : Array Value) (below : List Frame) (meth : Method) (c : Code) (Q : State → Prop) (H : Heap) (locs : List Loc) (ls : Array Slot) (rest : List Value) (ce sl : Nat), p.tables.exec = Jvm.exec → c.code = M.2.1 → W p g.1 e R s m args below meth c H locs ce sl Q (F0 m tgt ls rest) → W p g.1 e R s m args below meth c H locs ce sl Q (F0 m pc ls (.int x :: rest))) : xNok g M d pc (xd_sw keys t nx jp ag ca) := by
  intro lv st h sy ce sl outs hk p e R s m args below meth c Q H locs ls vs ρ ws tys hF hW hs hr hst hlv hRT
  cases st with
  | nil => cases hk
  | cons a st =>
    obtain ⟨va, vs2, rfl, ha, hs2⟩ := xx_2_cons hst
    obtain ⟨x, iv, j, sy', r', rfl, b1, b2, g1, g2, g3, g4⟩ := xsw_ok (X := g.2.1) (aw := xaw ws) (show xh_sw keys t a sy (fun j sy' => jp j lv st h sy' ce sl) = some outs from hk) hs ha
    obtain ⟨tgt, h1, h2⟩ := hT iv j x g1 b1 b2
    exact h2 p e R s m args below meth c Q H locs ls vs2 ce sl hF.1 hF.2.1 (h1 _ _ _ _ _ _ _ g2 p e R s m args below meth c Q H locs ls _ ρ ws tys hF hW g3 hr hs2 hlv (xRT_mono hRT g4 (xx_e_rf _) (xx_e_rf _)))
end XJ
end
section
/-! fields, rows, new cells -/
theorem xkind0 {ty : FieldType} (h : Nat.beq (xh_kind ty) 0 = true) : ty = .int := by cases ty <;> first | rfl | cases h
theorem xkind1 {ty : FieldType} (h : Nat.beq (xh_kind ty) 1 = true) : ty = .byte ∨ ty = .boolean := by cases ty <;> first | exact Or.inl rfl | exact Or.inr rfl | cases h
theorem xkind2 {ty : FieldType} (h : Nat.beq (xh_kind ty) 2 = true) : ty = .long := by cases ty <;> first | rfl | cases h
theorem xgmod (w N i : Nat) : xx_g w N i % 2 ^ w = xx_g w N i := Nat.mod_mod _ _
theorem xrow_put {N n j v : Nat} {f : Nat → Int32} {x : Int32} (h : xrow (.inl N) n f) (hv : Int32.ofNat v = x) : xrow (.inl (xx_p 32 N j v)) n (upd f j x) := by
  intro i hi
  by_cases e : i = j
  · subst e
    rw [pk_us, xx_gp_same]
    show x = Int32.ofNat (v % 4294967296)
    rw [xx_n_mod, hv]
  · rw [pk_un e, xx_gp_other _ _ _ _ _ e]
    exact h i hi
theorem xrow_any (n : Nat) (f : Nat → Int32) : xrow (.inr xs_full) n f := fun _ _ => xfull_ok _
theorem xrowl_put {N n j v : Nat} {f : Nat → Int64} {x : Int64} (h : xrowl (.inl N) n f) (hv : Int64.ofNat v = x) : xrowl (.inl (xx_p 64 N j v)) n (vp_updL f j x) := by
  intro i hi
  by_cases e : i = j
  · subst e
    rw [pk_uLs, xx_gp_same]
    show x = Int64.ofNat (v % 18446744073709551616)
    rw [xx_l_mod, hv]
  · rw [pk_uLn e, xx_gp_other _ _ _ _ _ e]
    exact h i hi
theorem xcpy_ok (N0 : Nat) : ∀ (n sp dp N1 j : Nat), xx_g 32 (xh_cpy N0 n sp dp N1) j = if dp ≤ j ∧ j < dp + n then xx_g 32 N0 (sp + (j - dp)) else xx_g 32 N1 j
  | 0, sp, dp, N1, j => by
    rw [if_neg (by omega)]
    rfl
  | n + 1, sp, dp, N1, j => by
    have e : xh_cpy N0 (n + 1) sp dp N1 = xh_cpy N0 n (sp + 1) (dp + 1) (xx_p 32 N1 dp (xx_g 32 N0 sp)) := by
      show xx_f _ _ = _
      rw [xx_f_eq]
    rw [e, xcpy_ok N0 n (sp + 1) (dp + 1) _ j]
    by_cases h1 : dp + 1 ≤ j ∧ j < dp + 1 + n
    · rw [if_pos h1, if_pos (by omega), show sp + 1 + (j - (dp + 1)) = sp + (j - dp) by omega]
    · rw [if_neg h1]
      by_cases h2 : j = dp
      · subst h2
        rw [if_pos (by omega), xx_gp_same, xgmod, show sp + (j - j) = sp by omega]
      · rw [if_neg (by omega), xx_gp_other _ _ _ _ _ h2]
/-- what fits a type stays as it is in it -/
theorem xb01 {x : Int32} (h1 : 0 ≤ x.toInt) (h2 : x.toInt ≤ 1) : x = 0 ∨ x = 1 := by
  rcases (by omega : x.toInt = 0 ∨ x.toInt = 1) with h | h
  · exact Or.inl (Int32.toInt_inj.mp (by rw [h]; rfl))
  · exact Or.inr (Int32.toInt_inj.mp (by rw [h]; rfl))
theorem xwithin_ok {X : xX} {sy : xS} {ρ : List Int32} {aw : List Nat} {a : xV} {v : Value} {lo hi : Int} (h : xh_within sy a lo hi = true) (hs : xsat sy ρ) (hv : xv X ρ aw a v) : ∃ x, v = .int x ∧ lo ≤ x.toInt ∧ x.toInt ≤ hi := by
  unfold xh_within at h
  split at h
  · rename_i iv q
    obtain ⟨x, e, b1, b2⟩ := xrng_ok q hs hv
    rw [Bool.and_eq_true, decide_eq_true_eq, decide_eq_true_eq] at h
    exact ⟨x, e, by omega, by omega⟩
  · cases h
theorem xle32 {x y : Int32} (h : x.toInt ≤ y.toInt) : x ≤ y := Int32.le_iff_toInt_le.mpr h
theorem xfit_ok {X : xX} {sy : xS} {ρ : List Int32} {aw : List Nat} {a : xV} {v : Value} {ty : FieldType} (h : xh_fit (xh_tc ty) a sy = true) (hs : xsat sy ρ) (hv : xv X ρ aw a v) : narrow ty v = v ∧ fits ty v = true := by
  cases ty with
  | int =>
    obtain ⟨x, rfl⟩ := xv_i (show xc_i a = true from h) hv
    exact ⟨rfl, rfl⟩
  | boolean =>
    obtain ⟨x, rfl, b1, b2⟩ := xwithin_ok (show xh_within sy a 0 1 = true from h) hs hv
    rcases xb01 b1 b2 with rfl | rfl
    · exact ⟨by decide, by decide⟩
    · exact ⟨by decide, by decide⟩
  | byte =>
    obtain ⟨x, rfl, b1, b2⟩ := xwithin_ok (show xh_within sy a (-128) 127 = true from h) hs hv
    have e : x.toInt8.toInt32 = x := by
      apply Int32.toInt_inj.mp
      rw [Int8.toInt_toInt32, Int32.toInt_toInt8, Int.bmod_def]
      split <;> omega
    refine ⟨congrArg Value.int e, ?_⟩
    show (decide (-128 ≤ x) && decide (x ≤ 127)) = true
    rw [Bool.and_eq_true, decide_eq_true_eq, decide_eq_true_eq]
    exact ⟨xle32 (by rw [show (-128 : Int32).toInt = -128 from by decide]; exact b1), xle32 (by rw [show (127 : Int32).toInt = 127 from by decide]; exact b2)⟩
  | char =>
    obtain ⟨x, rfl, b1, b2⟩ := xwithin_ok (show xh_within sy a 0 65535 = true from h) hs hv
    have hn : narrow .char (.int x) = .int x := by
      obtain ⟨j, hj, rfl⟩ := nI_of (x := x) (by rw [Int32.lt_iff_toInt_lt, Int32.toInt_zero]; omega)
      have hj2 := nI_toInt hj
      have : j < 65536 := by omega
      show Value.int _ = Value.int _
      congr 1
      apply Int32.toBitVec_inj.mp
      apply BitVec.eq_of_toNat_eq
      simp [nI]
      omega
    refine ⟨hn, ?_⟩
    show (decide (0 ≤ x) && decide (x ≤ 65535)) = true
    rw [Bool.and_eq_true, decide_eq_true_eq, decide_eq_true_eq]
    exact ⟨xle32 (by rw [Int32.toInt_zero]; exact b1), xle32 (by rw [show (65535 : Int32).toInt = 65535 from by decide]; exact b2)⟩
  | short =>
    obtain ⟨x, rfl, b1, b2⟩ := xwithin_ok (show xh_within sy a (-32768) 32767 = true from h) hs hv
    have e : x.toInt16.toInt32 = x := by
      apply Int32.toInt_inj.mp
      rw [Int16.toInt_toInt32, Int32.toInt_toInt16, Int.bmod_def]
      split <;> omega
    refine ⟨congrArg Value.int e, ?_⟩
    show (decide (-32768 ≤ x) && decide (x ≤ 32767)) = true
    rw [Bool.and_eq_true, decide_eq_true_eq, decide_eq_true_eq]
    exact ⟨xle32 (by rw [show (-32768 : Int32).toInt = -32768 from by decide]; exact b1), xle32 (by rw [show (32767 : Int32).toInt = 32767 from by decide]; exact b2)⟩
  | long =>
    obtain ⟨x, rfl⟩ := xv_l (show xc_l a = true from h) hv
    exact ⟨rfl, rfl⟩
  | object C =>
    have h' : or (xc_r a) (Nat.beq a.1 2) = true := h
    rcases Bool.or_eq_true_iff.mp h' with q | q
    · obtain ⟨x, rfl⟩ := xv_r q hv
      exact ⟨rfl, rfl⟩
    · have : v = .null := by
        obtain ⟨t, n⟩ := a
        have e : t = 2 := Nat.eq_of_beq_eq_true q
        subst e
        exact hv
      subst this
      exact ⟨rfl, rfl⟩
  | array C =>
    have h' : or (xc_r a) (Nat.beq a.1 2) = true := h
    rcases Bool.or_eq_true_iff.mp h' with q | q
    · obtain ⟨x, rfl⟩ := xv_r q hv
      exact ⟨rfl, rfl⟩
    · have : v = .null := by
        obtain ⟨t, n⟩ := a
        have e : t = 2 := Nat.eq_of_beq_eq_true q
        subst e
        exact hv
      subst this
      exact ⟨rfl, rfl⟩
  | _ => cases h
end
section
section XK
variable {g : xGl} {M : xM} {d pc : Nat} {nx ag : xN} {jp : Nat → xN} {ca : xK} {G : xG}
theorem xcd {b : Bool} {x y : xR} {r : List xO} (h : cond b x y = some r) (hy : y = none) : b = true ∧ x = some r := by
  cases b with
  | true => exact ⟨rfl, h⟩
  | false => rw [hy] at h; cases h
theorem xan {a b : Bool} (h : and a b = true) : a = true ∧ b = true := Bool.and_eq_true_iff.mp h
/-- getfield, of a cell -/
theorem xs_get {a1 a2 idx : Nat} {C : String} {T : u_T} {N : Nat} (hG : G.2.2.1 = xBY) (hd : decode M.2.1 pc = .ok (.getfield idx, 3)) (hc : xcl[a1]? = some (C, T, N)) (hin : ∀ w ∈ u_ws C T N, w ∈ xTb) (hk : a2 < N) (hl : Cond.fieldLink M.1.cls idx (T a2).1 (T a2).2.1 (T a2).2.2.1 ∈ xTb ∨ ∃ host, Cond.fieldLinkNest M.1.cls idx (T a2).1 (T a2).2.1 (T a2).2.2.1 host ∈ xNW) (h1000 : Nat.beq a1 1000 = false) (hn : xNok g M d (pc + 3) nx) : xNok g M d pc (xd_get G a1 a2 nx jp ag ca) := by
  intro lv st h sy ce sl outs hk' p e R s m args below meth c Q H locs ls vs ρ ws tys hF hW hs hr hst hlv hRT
  cases st with
  | nil => cases hk'
  | cons a st =>
    obtain ⟨v, vs, rfl, hv, hs2⟩ := xx_2_cons hst
    have h0 : cond (Nat.beq a.1 3) (xk_hget h a.2 fun c => match c with
      | .inl o => cond (Nat.beq o.1 a1) (xk_nth o.2 a2 fun v => nx lv (v :: st) h sy ce sl) none
      | .inr _ => none) (cond (and (Nat.beq a.1 7) (and (Nat.beq a1 1000) (Nat.ble (Nat.succ a.2) G.2.2.1.length))) (cond (Nat.beq a2 0) (nx lv ((0, 0) :: st) h sy ce sl) (cond (Nat.beq a2 1) (nx lv ((8, a.2) :: st) h sy ce sl) none)) none) = some outs := hk'
    cases h3 : Nat.beq a.1 3 with
    | false =>
      rw [h3] at h0
      dsimp only [cond] at h0
      obtain ⟨q1, -⟩ := xcd h0 rfl
      rw [(xan (xan q1).2).1] at h1000
      cases h1000
    | true =>
      rw [h3] at h0
      dsimp only [cond] at h0
      obtain ⟨x, g1, g2⟩ := xk_hget_ok h0
      cases x with
      | inr r => cases g2
      | inl o =>
        dsimp only at g2
        obtain ⟨q1, q2⟩ := xcd g2 rfl
        obtain ⟨b, q3, q4⟩ := xk_nth_ok q2
        obtain ⟨q, en, rfl, e2, vs', rfl, e4⟩ := xWd_get hW h3 hv g1
        obtain ⟨w, e5, e6⟩ := xx_2_get e4 q3
        have eo : o.1 = a1 := Nat.eq_of_beq_eq_true q1
        rw [eo] at e2
        have hkk := hn _ _ _ _ _ _ _ q4 p e R s m args below meth c Q H locs ls _ ρ ws tys hF hW hs hr (show xx_2 (xv g.2.1 ρ (xaw ws)) (b :: st) (w :: vs) from ⟨e6, hs2⟩) hlv hRT
        rcases hl with hl | ⟨host, hl⟩
        · exact va_get hF.1 hF.2.1 hF.2.2.2.1 hin hF.2.2.2.2.1 hW.2.2.2.1 hW.1 a.2 e2 hc a2 hk (hF.2.2.2.1 _ hl) (fun _ z => z) e5 hd hkk
        · exact va_getN hF.1 hF.2.1 hF.2.2.2.1 hin hF.2.2.2.2.1 hW.2.2.2.1 hW.1 a.2 e2 hc a2 hk (va_Nw.use rfl (hF.2.2.2.2.2.2.1.1 _ hl)) (fun _ z => z) e5 hd hkk
/-- getfield, of a text -/
theorem xs_getS {a2 idx : Nat} (hG : G.2.2.1 = xBY) (hd : decode M.2.1 pc = .ok (.getfield idx, 3)) (hl : (a2 = 0 ∧ Cond.fieldLink M.1.cls idx "java/lang/String" "coder" "B" ∈ xTb) ∨ (a2 = 1 ∧ Cond.fieldLink M.1.cls idx "java/lang/String" "value" "[B" ∈ xTb)) (hc : ∀ (o : Nat × List xV), Nat.beq o.1 1000 = true → xcl[o.1]? = none) (hn : xNok g M d (pc + 3) nx) : xNok g M d pc (xd_get G 1000 a2 nx jp ag ca) := by
  intro lv st h sy ce sl outs hk' p e R s m args below meth c Q H locs ls vs ρ ws tys hF hW hs hr hst hlv hRT
  cases st with
  | nil => cases hk'
  | cons a st =>
    obtain ⟨v, vs, rfl, hv, hs2⟩ := xx_2_cons hst
    have h0 : cond (Nat.beq a.1 3) (xk_hget h a.2 fun c => match c with
      | .inl o => cond (Nat.beq o.1 1000) (xk_nth o.2 a2 fun v => nx lv (v :: st) h sy ce sl) none
      | .inr _ => none) (cond (and (Nat.beq a.1 7) (and (Nat.beq 1000 1000) (Nat.ble (Nat.succ a.2) G.2.2.1.length))) (cond (Nat.beq a2 0) (nx lv ((0, 0) :: st) h sy ce sl) (cond (Nat.beq a2 1) (nx lv ((8, a.2) :: st) h sy ce sl) none)) none) = some outs := hk'
    cases h3 : Nat.beq a.1 3 with
    | true =>
      rw [h3] at h0
      dsimp only [cond] at h0
      obtain ⟨x, g1, g2⟩ := xk_hget_ok h0
      cases x with
      | inr r => cases g2
      | inl o =>
        dsimp only at g2
        obtain ⟨q1, q2⟩ := xcd g2 rfl
        obtain ⟨q, en, rfl, e2, vs', rfl, e4⟩ := xWd_get hW h3 hv g1
        obtain ⟨r, r1, -⟩ := hW.1 _ _ e2
        rw [hc o q1] at r1
        cases r1
    | false =>
      rw [h3] at h0
      dsimp only [cond] at h0
      obtain ⟨q1, q2⟩ := xcd h0 rfl
      have q3 := xan q1
      have q4 := xan q3.2
      have hlt : a.2 < xBY.length := by
        rw [hG] at q4
        exact Nat.le_of_ble_eq_true q4.2
      have ev := xv_7 q3.1 hv
      subst ev
      have hE := (hF.2.2.2.2.2.2.1.2.2.1.1 a.2 hlt)
      rcases hl with ⟨rfl, hl⟩ | ⟨rfl, hl⟩
      · have h5 : nx lv ((0, 0) :: st) h sy ce sl = some outs := q2
        exact vk_getf hF.1 hF.2.1 hE.2.1 hW.2.2.1 hF.2.2.2.2.1 (hF.2.2.2.1 _ hl) (fun _ z => z) hd (hn _ _ _ _ _ _ _ h5 p e R s m args below meth c Q H locs ls _ ρ ws tys hF hW hs hr ⟨rfl, hs2⟩ hlv hRT)
      · have h5 : nx lv ((8, a.2) :: st) h sy ce sl = some outs := q2
        exact vk_getf hF.1 hF.2.1 hE.2.2.1 hW.2.2.1 hF.2.2.2.2.1 (hF.2.2.2.1 _ hl) (fun _ z => z) hd (hn _ _ _ _ _ _ _ h5 p e R s m args below meth c Q H locs ls _ ρ ws tys hF hW hs hr ⟨rfl, hs2⟩ hlv hRT)
/-- putfield -/
theorem xs_putf {a1 a2 a3 idx : Nat} {C : String} {T : u_T} {N : Nat} {ty0 : Nat → FieldType} (hd : decode M.2.1 pc = .ok (.putfield idx, 3)) (hc : xcl[a1]? = some (C, T, N)) (hin : ∀ w ∈ u_ws C T N, w ∈ xTb) (hty : ∀ k, k < N → parseFieldDescriptor (T k).2.2.1 = some (ty0 k)) (hnm : ∀ a, a < N → ∀ b, b < N → a ≠ b → (T a).2.1 ≠ (T b).2.1) (hk : a2 < N) (hl : Cond.fieldLink M.1.cls idx (T a2).1 (T a2).2.1 (T a2).2.2.1 ∈ xTb) (h3 : a3 = xh_tc (ty0 a2)) (hfin : (T a2).2.2.2 = false ∨ ((T a2).2.2.2 = true ∧ M.1.name = "<init>" ∧ (T a2).1 = M.1.cls)) (hn : xNok g M d (pc + 3) nx) : xNok g M d pc (xd_putf a1 a2 a3 nx jp ag ca) := by
  intro lv st h sy ce sl outs hk' p e R s m args below meth c Q H locs ls vs ρ ws tys hF hW hs hr hst hlv hRT
  match st, hk', hst with
  | [], hk', _ => cases hk'
  | [b], hk', _ => cases hk'
  | b :: a :: st, hk', hst =>
    obtain ⟨vb, vs1, rfl, hb, hs1⟩ := xx_2_cons hst
    obtain ⟨va, vs2, rfl, ha, hs2⟩ := xx_2_cons hs1
    have h0 : cond (and (Nat.beq a.1 3) (xh_fit a3 b sy)) (xk_hget h a.2 fun c => match c with
      | .inl o => cond (Nat.beq o.1 a1) (xk_set o.2 a2 b fun fs => xk_hset h a.2 (.inl (o.1, fs)) fun h' => nx lv st h' sy ce sl) none
      | .inr _ => none) none = some outs := hk'
    obtain ⟨q0, q1⟩ := xcd h0 rfl
    have q0' := xan q0
    obtain ⟨x, g1, g2⟩ := xk_hget_ok q1
    cases x with
    | inr r => cases g2
    | inl o =>
      dsimp only at g2
      obtain ⟨q2, q3⟩ := xcd g2 rfl
      obtain ⟨q4, q5⟩ := xk_set_ok q3
      obtain ⟨h', q6, q7, q8⟩ := xk_hset_ok q5
      obtain ⟨q, en, rfl, e2, vs', rfl, e4⟩ := xWd_get hW q0'.1 ha g1
      have eo : o.1 = a1 := Nat.eq_of_beq_eq_true q2
      rw [eo] at e2 q7
      have hf := xfit_ok (ty := ty0 a2) (by rw [← h3]; exact q0'.2) hs hb
      have hlen : a2 < vs'.length := by rw [← xx_2_len e4]; exact q4
      have hkk : ∀ (H1 : Heap) (locs1 : List Loc), va_P g.2.2.1 xcl (ws.set a.2 (q, .inr (a1, vs'.set a2 vb))) H1 → va_D (xAA g.2.2.2.1) (ws.set a.2 (q, .inr (a1, vs'.set a2 vb))) → va_S (xAA g.2.2.2.1) s.heap H1 locs1 → W p g.1 e R s m args below meth c H1 locs1 ce sl Q (F0 m (pc + 3) ls vs2) := by
        intro H1 locs1 hP1 hD1 hS1
        have hW' := xWd_set hW e2 hP1 hD1 hS1 q6 q7 (show xcell g.2.1 ρ (xaw ws) tys (.inl (a1, o.2.set a2 b)) (.inr (a1, vs'.set a2 vb)) from ⟨_, rfl, xx_2_set e4 a2 hb⟩)
        have ea := xaw_set (e' := .inr (a1, vs'.set a2 vb)) e2
        exact hn _ _ _ _ _ _ _ q8 p e R s m args below meth c Q H1 locs1 ls _ ρ _ tys hF hW' hs hr (by rw [ea]; exact hs2) (by rw [ea]; exact hlv) (xRT_mono hRT (fun _ z => z) (xx_e_rf _) (by rw [ea]; exact xx_e_rf _))
      rcases hfin with hfin | ⟨hfin, hi1, hi2⟩
      · exact va_put hF.1 hF.2.1 hF.2.2.2.1 hin ty0 hty hnm hF.2.2.2.2.1 hW.2.2.2.1 hW.1 hW.2.1 hW.2.2.1 a.2 e2 hc a2 hk (hF.2.2.2.1 _ hl) (fun _ z => z) hfin (hty a2 hk) hf.1 hf.2 hlen hd hkk
      · exact va_putF hF.1 hF.2.1 hF.2.2.2.1 hin ty0 hty hnm hF.2.2.2.2.1 hW.2.2.2.1 hW.1 hW.2.1 hW.2.2.1 a.2 e2 hc a2 hk (hF.2.2.2.1 _ hl) (fun _ z => z) hfin (hF.2.2.2.2.2.1 hi1) hi2 (hty a2 hk) hf.1 hf.2 hlen hd hkk
/-- getstatic -/
theorem xs_gets0 {idx : Nat} (hd : decode M.2.1 pc = .ok (.getstatic idx, 3)) (hl : Cond.fieldLink M.1.cls idx "java/lang/String" "COMPACT_STRINGS" "Z" ∈ xTb) (hn : xNok g M d (pc + 3) nx) : xNok g M d pc (xd_push (0, 1) nx jp ag ca) := by
  intro lv st h sy ce sl outs hk p e R s m args below meth c Q H locs ls vs ρ ws tys hF hW hs hr hst hlv hRT
  exact va_gets hF.1 hF.2.1 hF.2.2.2.2.2.2.1.2.2.2.1 hW.2.2.1 hF.2.2.2.2.1 (hF.2.2.2.1 _ hl) (fun _ z => z) hd (hn _ _ _ _ _ _ _ hk p e R s m args below meth c Q H locs ls _ ρ ws tys hF hW hs hr ⟨rfl, hst⟩ hlv hRT)
theorem xs_gets1 {idx : Nat} (hd : decode M.2.1 pc = .ok (.getstatic idx, 3)) (hl : Cond.fieldLink M.1.cls idx "jdk/internal/util/Preconditions" "SIOOBE_FORMATTER" "Ljava/util/function/BiFunction;" ∈ xTb) (hn : xNok g M d (pc + 3) nx) : xNok g M d pc (xd_push (10, 0) nx jp ag ca) := by
  intro lv st h sy ce sl outs hk p e R s m args below meth c Q H locs ls vs ρ ws tys hF hW hs hr hst hlv hRT
  rcases hF.2.2.2.2.2.2.1.2.2.2.2.1 with hZ | ⟨t, hZ⟩
  · exact va_gets hF.1 hF.2.1 hZ hW.2.2.1 hF.2.2.2.2.1 (hF.2.2.2.1 _ hl) (fun _ z => z) hd (hn _ _ _ _ _ _ _ hk p e R s m args below meth c Q H locs ls _ ρ ws tys hF hW hs hr ⟨Or.inl rfl, hst⟩ hlv hRT)
  · exact va_gets hF.1 hF.2.1 hZ hW.2.2.1 hF.2.2.2.2.1 (hF.2.2.2.1 _ hl) (fun _ z => z) hd (hn _ _ _ _ _ _ _ hk p e R s m args below meth c Q H locs ls _ ρ ws tys hF hW hs hr ⟨Or.inr ⟨t, rfl⟩, hst⟩ hlv hRT)
end XK
end
section
section XR
variable {g : xGl} {M : xM} {d pc : Nat} {nx ag : xN} {jp : Nat → xN} {ca : xK} {G : xG}
/-- what the run knows of the script -/
def xGok (g : xGl) (G : xG) : Prop := G.2.1 = xDF ∧ G.2.2.1 = xBY ∧ ((G.2.2.2 = (0, 6) ∧ g.2.2.2.2.1 = 6) ∨ (G.2.2.2 = (1, 0) ∧ g.2.2.2.2.1 < 6))
theorem xlen6 (hG : xGok g G) (h1 : Nat.beq G.2.2.2.1 0 = true) : g.2.2.2.2.1 = 6 := by
  rcases hG.2.2 with h | h
  · exact h.2
  · rw [h.1] at h1
    cases h1
theorem xrho6 {ρ : List Int32} (h6 : g.2.2.2.2.1 = 6) (hr : xx_e (xrho g) ρ) {j : Nat} (hj : j < 6) : ρ[j]? = some (g.2.2.2.2.2 j) := by
  refine xx_e_get hr ?_
  unfold xrho
  rw [if_pos h6]
  match j, hj with
  | 0, _ => rfl
  | 1, _ => rfl
  | 2, _ => rfl
  | 3, _ => rfl
  | 4, _ => rfl
  | 5, _ => rfl
theorem xrho7 {ρ : List Int32} (h6 : g.2.2.2.2.1 = 6) (hr : xx_e (xrho g) ρ) : ρ[6]? = some (g.2.2.2.2.2 0 &&& 63) := by
  refine xx_e_get hr ?_
  unfold xrho
  rw [if_pos h6]
  rfl
theorem xs_iand (hG : xGok g G) (hd : decode M.2.1 pc = .ok (.iand, 1)) (hn : xNok g M d (pc + 1) nx) : xNok g M d pc (xd_and G nx jp ag ca) := by
  intro lv st h sy ce sl outs hk p e R s m args below meth c Q H locs ls vs ρ ws tys hF hW hs hr hst hlv hRT
  match st, hk, hst with
  | [], hk, _ => cases hk
  | [b], hk, _ => cases hk
  | b :: a :: st, hk, hst =>
    have hk' : cond (and (Nat.beq a.1 1) (and (Nat.beq a.2 0) (and (Nat.beq b.1 0) (and (Nat.beq b.2 63) (and (Nat.beq G.2.2.2.1 0) (Nat.beq G.2.2.2.2 6)))))) (nx lv ((1, 6) :: st) h sy ce sl) (xh_bin (xn_of fun x y => x &&& y) xg_any b a sy fun v sy' => nx lv (v :: st) h sy' ce sl) = some outs := hk
    cases hc : and (Nat.beq a.1 1) (and (Nat.beq a.2 0) (and (Nat.beq b.1 0) (and (Nat.beq b.2 63) (and (Nat.beq G.2.2.2.1 0) (Nat.beq G.2.2.2.2 6))))) with
    | false =>
      rw [hc] at hk'
      exact xs_bin_any (ag := ag) (jp := jp) (ca := ca) (f := xn_of fun x y => x &&& y) (r := xg_any) (F := fun x y => x &&& y) (xn_of_ok _) (xgood_any _) (fun p e R s m args below meth c Q H locs ls rest x y ce sl hx hb k => lv_iand hx hb hd k) hn lv (b :: a :: st) h sy ce sl outs hk' p e R s m args below meth c Q H locs ls vs ρ ws tys hF hW hs hr hst hlv hRT
    | true =>
      rw [hc] at hk'
      dsimp only [cond] at hk'
      have c1 := xan hc
      have c2 := xan c1.2
      have c3 := xan c2.2
      have c4 := xan c3.2
      have c5 := xan c4.2
      obtain ⟨vb, vs1, rfl, hb, hs1⟩ := xx_2_cons hst
      obtain ⟨va, vs2, rfl, ha, hs2⟩ := xx_2_cons hs1
      have h6 := xlen6 hG c5.1
      obtain ⟨x, e1, rfl⟩ := xv_1 c1.1 ha
      rw [Nat.eq_of_beq_eq_true c2.1, xrho6 h6 hr (by decide)] at e1
      cases e1
      have eb := xv_0 c3.1 hb
      rw [Nat.eq_of_beq_eq_true c4.1] at eb
      subst eb
      exact lv_iand hF.1 hF.2.1 hd (hn _ _ _ _ _ _ _ hk' p e R s m args below meth c Q H locs ls _ ρ ws tys hF hW hs hr ⟨⟨_, xrho7 h6 hr, rfl⟩, hs2⟩ hlv hRT)
/-- a row's number -/
theorem xs_ald {kd : Nat} (hG : xGok g G) (hkd : (kd = 0 ∧ decode M.2.1 pc = .ok (.iaload, 1)) ∨ (kd = 1 ∧ decode M.2.1 pc = .ok (.baload, 1))) (hn : xNok g M d (pc + 1) nx) (hag : xNok g M d pc ag) : xNok g M d pc (xd_ald G kd nx jp ag ca) := by
  intro lv st h sy ce sl outs hk p e R s m args below meth c Q H locs ls vs ρ ws tys hF hW hs hr hst hlv hRT
  match st, hk, hst with
  | [], hk, _ => cases hk
  | [b], hk, _ => cases hk
  | i :: a :: st, hk, hst =>
    obtain ⟨vi, vs1, rfl, hi, hs1⟩ := xx_2_cons hst
    obtain ⟨va, vs2, rfl, ha, hs2⟩ := xx_2_cons hs1
    have h0 : cond (Nat.beq i.1 0) (cond (Nat.beq a.1 3) (xk_hget h a.2 fun c => match c with
        | .inl _ => none
        | .inr r => cond (and (Nat.beq (xh_kind r.1) kd) (xh_in i.2 r.2.1)) (match r.2.2 with
            | .inl N => xx_f (xx_g 32 N (xh_ix i.2)) fun n => nx lv ((0, n) :: st) h sy ce sl
            | .inr iv => xh_fresh sy iv fun v sy' => nx lv (v :: st) h sy' ce sl) none)
      (cond (and (Nat.beq a.1 6) (Nat.beq kd 0)) (cond (and (xh_in i.2 6) (and (Nat.beq G.2.2.2.1 0) (Nat.beq G.2.2.2.2 6))) (xx_f (xh_ix i.2) fun n => nx lv ((1, n) :: st) h sy ce sl) none)
      (cond (and (Nat.beq a.1 8) (Nat.beq kd 1)) (xk_nth G.2.2.1 a.2 fun bs => cond (xh_in i.2 bs.length) (xx_f (xx_n (bs.getD (xh_ix i.2) 0)) fun n => nx lv ((0, n) :: st) h sy ce sl) none) none)))
      (xh_conc sy i fun i' sy' => ag lv (i' :: a :: st) h sy' ce sl) = some outs := hk
    cases hc : Nat.beq i.1 0 with
    | false =>
      rw [hc] at h0
      dsimp only [cond] at h0
      obtain ⟨i', sy', r', g1, g2, g3, g4⟩ := xconc_ok (X := g.2.1) (aw := xaw ws) h0 hs hi
      exact hag _ _ _ _ _ _ _ g1 p e R s m args below meth c Q H locs ls _ ρ ws tys hF hW g2 hr ⟨g3, ha, hs2⟩ hlv (xRT_mono hRT g4 (xx_e_rf _) (xx_e_rf _))
    | true =>
      rw [hc] at h0
      have ei := xv_0 hc hi
      subst ei
      have h1 : cond (Nat.beq a.1 3) (xk_hget h a.2 fun c => match c with
        | .inl _ => none
        | .inr r => cond (and (Nat.beq (xh_kind r.1) kd) (xh_in i.2 r.2.1)) (match r.2.2 with
            | .inl N => xx_f (xx_g 32 N (xh_ix i.2)) fun n => nx lv ((0, n) :: st) h sy ce sl
            | .inr iv => xh_fresh sy iv fun v sy' => nx lv (v :: st) h sy' ce sl) none)
        (cond (and (Nat.beq a.1 6) (Nat.beq kd 0)) (cond (and (xh_in i.2 6) (and (Nat.beq G.2.2.2.1 0) (Nat.beq G.2.2.2.2 6))) (xx_f (xh_ix i.2) fun n => nx lv ((1, n) :: st) h sy ce sl) none)
        (cond (and (Nat.beq a.1 8) (Nat.beq kd 1)) (xk_nth G.2.2.1 a.2 fun bs => cond (xh_in i.2 bs.length) (xx_f (xx_n (bs.getD (xh_ix i.2) 0)) fun n => nx lv ((0, n) :: st) h sy ce sl) none) none)) = some outs := h0
      cases h3 : Nat.beq a.1 3 with
      | true =>
        rw [h3] at h1
        dsimp only [cond] at h1
        obtain ⟨x, g1, g2⟩ := xk_hget_ok h1
        cases x with
        | inl o => cases g2
        | inr r =>
          dsimp only at g2
          obtain ⟨q1, q2⟩ := xcd g2 rfl
          have q1' := xan q1
          obtain ⟨q, en, rfl, e2, cA, e3, e4, e5⟩ := xWd_get hW h3 ha g1
          obtain ⟨b1, b2, b3⟩ := xh_in_ok q1'.2 e4
          obtain ⟨t0, ht0⟩ := List.getElem?_of_mem e3
          rcases e5 with ⟨f, rfl, e6, e7⟩ | ⟨f, rfl, e6, e7⟩
          · have hkk : W p g.1 e R s m args below meth c H locs ce sl Q (F0 m (pc + 1) ls (.int (f (Int32.ofNat i.2).toNatClampNeg) :: vs2)) := by
              rw [b2]
              cases hr2 : r.2.2 with
              | inl N =>
                rw [hr2] at q2 e7
                have q3 : xx_f (xx_g 32 N (xh_ix i.2)) (fun n => nx lv ((0, n) :: st) h sy ce sl) = some outs := q2
                rw [xx_f_eq] at q3
                exact hn _ _ _ _ _ _ _ q3 p e R s m args below meth c Q H locs ls _ ρ ws tys hF hW hs hr ⟨congrArg Value.int (e7 _ b3), hs2⟩ hlv hRT
              | inr iv =>
                rw [hr2] at q2 e7
                obtain ⟨sy', a', k1, k3, k4, k5⟩ := xfresh_ok (show xh_fresh sy iv (fun v sy' => nx lv (v :: st) h sy' ce sl) = some outs from q2) hs (f (xh_ix i.2)) (e7 _ b3) g.2.1 (xaw ws)
                have k2 := xx_e_one ρ (f (xh_ix i.2))
                exact hn _ _ _ _ _ _ _ k1 p e R s m args below meth c Q H locs ls _ _ ws tys hF (xWd_mono k2 hW) k3 (xx_e_tr hr k2) ⟨k4, xx_2_mono (fun _ _ q => xv_mono k2 (xx_e_rf _) q) hs2⟩ (xLv_mono k2 (xx_e_rf _) hlv) (xRT_mono hRT (fun _ z => z) k2 (xx_e_rf _))
            rcases hkd with ⟨rfl, hd⟩ | ⟨rfl, hd⟩
            · rw [xkind0 q1'.1] at ht0
              exact va_iald hF.1 hF.2.1 hW.2.2.2.1 hW.1 a.2 t0 e2 ht0 b1 hd hkk
            · rcases xkind1 q1'.1 with z | z
              · rw [z] at ht0
                exact va_bald hF.1 hF.2.1 hW.2.2.2.1 hW.1 a.2 t0 e2 ht0 b1 hd hkk
              · rw [z] at ht0
                exact va_zald hF.1 hF.2.1 hW.2.2.2.1 hW.1 a.2 t0 e2 ht0 b1 hd hkk
          · have := Nat.eq_of_beq_eq_true q1'.1
            rcases hkd with ⟨rfl, -⟩ | ⟨rfl, -⟩ <;> omega
      | false =>
        rw [h3] at h1
        have h2 : cond (and (Nat.beq a.1 6) (Nat.beq kd 0)) (cond (and (xh_in i.2 6) (and (Nat.beq G.2.2.2.1 0) (Nat.beq G.2.2.2.2 6))) (xx_f (xh_ix i.2) fun n => nx lv ((1, n) :: st) h sy ce sl) none)
          (cond (and (Nat.beq a.1 8) (Nat.beq kd 1)) (xk_nth G.2.2.1 a.2 fun bs => cond (xh_in i.2 bs.length) (xx_f (xx_n (bs.getD (xh_ix i.2) 0)) fun n => nx lv ((0, n) :: st) h sy ce sl) none) none) = some outs := h1
        cases h6 : and (Nat.beq a.1 6) (Nat.beq kd 0) with
        | true =>
          rw [h6, cond_true] at h2
          obtain ⟨q1, q2⟩ := xcd h2 rfl
          rw [xx_f_eq] at q2
          have q1' := xan q1
          have q1'' := xan q1'.2
          have h6' := xan h6
          have ev := xv_6 h6'.1 ha
          subst ev
          have hL := xlen6 hG q1''.1
          obtain ⟨b1, b2, b3⟩ := xh_in_ok q1'.1 (by decide)
          rcases hkd with ⟨rfl, hd⟩ | ⟨rfl, hd⟩
          · have hE := hF.2.2.2.2.2.2.1.2.2.2.2.2
            refine va_sld hF.1 hF.2.1 hE.1 (Nat.lt_of_lt_of_le hE.2 hF.2.2.2.2.2.2.2.1) (Nat.not_le.mpr hE.2) hW.2.2.1 (by rw [hL]; exact b1) hd ?_
            rw [b2]
            generalize xh_ix i.2 = j at q2 b3 ⊢
            exact hn _ _ _ _ _ _ _ q2 p e R s m args below meth c Q H locs ls _ ρ ws tys hF hW hs hr ⟨⟨_, xrho6 hL hr b3, rfl⟩, hs2⟩ hlv hRT
          · exact absurd h6'.2 (by decide)
        | false =>
          rw [h6, cond_false] at h2
          have h2' : cond (and (Nat.beq a.1 8) (Nat.beq kd 1)) (xk_nth G.2.2.1 a.2 fun bs => cond (xh_in i.2 bs.length) (xx_f (xx_n (bs.getD (xh_ix i.2) 0)) fun n => nx lv ((0, n) :: st) h sy ce sl) none) none = some outs := h2
          obtain ⟨q1, q2⟩ := xcd h2' rfl
          have q1' := xan q1
          obtain ⟨bs, q3, q4⟩ := xk_nth_ok q2
          have q4' : cond (xh_in i.2 bs.length) (xx_f (xx_n (bs.getD (xh_ix i.2) 0)) fun n => nx lv ((0, n) :: st) h sy ce sl) none = some outs := q4
          obtain ⟨q5, q6⟩ := xcd q4' rfl
          rw [xx_f_eq] at q6
          have ev := xv_8 q1'.1 ha
          subst ev
          rw [hG.2.1] at q3
          have hlt := (List.getElem?_eq_some_iff.mp q3).1
          have hE := (hF.2.2.2.2.2.2.1.2.2.1.1 a.2 hlt).2.2.2
          have hbl : bs.length < 2 ^ 31 := xBYs bs (List.mem_of_getElem? q3)
          obtain ⟨b1, b2, b3⟩ := xh_in_ok q5 hbl
          have el : (xBY.map List.length).getD a.2 0 = bs.length := by
            rw [List.getD_eq_getElem?_getD, List.getElem?_map, q3]
            rfl
          have eb : xBY.getD a.2 [] = bs := by
            rw [List.getD_eq_getElem?_getD, q3]
            rfl
          rw [el, eb] at hE
          rcases hkd with ⟨rfl, hd⟩ | ⟨rfl, hd⟩
          · exact absurd q1'.2 (by decide)
          · refine va_tb hF.1 hF.2.1 hE hW.2.2.1 b1 rfl hd ?_
            rw [b2]
            exact hn _ _ _ _ _ _ _ q6 p e R s m args below meth c Q H locs ls _ ρ ws tys hF hW hs hr ⟨congrArg Value.int (xx_n_of _).symm, hs2⟩ hlv hRT
/-- a row's number is written -/
theorem xs_ast {kd : Nat} (hkd : (kd = 0 ∧ decode M.2.1 pc = .ok (.iastore, 1)) ∨ (kd = 1 ∧ decode M.2.1 pc = .ok (.bastore, 1))) (hn : xNok g M d (pc + 1) nx) (hag : xNok g M d pc ag) : xNok g M d pc (xd_ast kd nx jp ag ca) := by
  intro lv st h sy ce sl outs hk p e R s m args below meth c Q H locs ls vs ρ ws tys hF hW hs hr hst hlv hRT
  match st, hk, hst with
  | [], hk, _ => cases hk
  | [b], hk, _ => cases hk
  | [b, b2], hk, _ => cases hk
  | v :: i :: a :: st, hk, hst =>
    obtain ⟨vv, vs0, rfl, hv, hs0⟩ := xx_2_cons hst
    obtain ⟨vi, vs1, rfl, hi, hs1⟩ := xx_2_cons hs0
    obtain ⟨va, vs2, rfl, ha, hs2⟩ := xx_2_cons hs1
    have h0 : cond (Nat.beq i.1 0) (cond (and (Nat.beq a.1 3) (xc_i v)) (xk_hget h a.2 fun c => match c with
        | .inl _ => none
        | .inr r => cond (and (Nat.beq (xh_kind r.1) kd) (xh_in i.2 r.2.1)) (match r.2.2 with
            | .inl N => cond (Nat.beq v.1 0) (xx_f (xx_p 32 N (xh_ix i.2) (cond (Nat.beq kd 0) v.2 (xx_n (vp_nar r.1 (Int32.ofNat v.2))))) fun N' => xk_hset h a.2 (.inr (r.1, r.2.1, .inl N')) fun h' => nx lv st h' sy ce sl) (xk_hset h a.2 (.inr (r.1, r.2.1, .inr xs_full)) fun h' => nx lv st h' sy ce sl)
            | .inr _ => xk_hset h a.2 (.inr (r.1, r.2.1, .inr xs_full)) fun h' => nx lv st h' sy ce sl) none) none)
      (xh_conc sy i fun i' sy' => ag lv (v :: i' :: a :: st) h sy' ce sl) = some outs := hk
    cases hc : Nat.beq i.1 0 with
    | false =>
      rw [hc] at h0
      dsimp only [cond] at h0
      obtain ⟨i', sy', r', g1, g2, g3, g4⟩ := xconc_ok (X := g.2.1) (aw := xaw ws) h0 hs hi
      exact hag _ _ _ _ _ _ _ g1 p e R s m args below meth c Q H locs ls _ ρ ws tys hF hW g2 hr ⟨hv, g3, ha, hs2⟩ hlv (xRT_mono hRT g4 (xx_e_rf _) (xx_e_rf _))
    | true =>
      rw [hc] at h0
      have ei := xv_0 hc hi
      subst ei
      have h1 : cond (and (Nat.beq a.1 3) (xc_i v)) (xk_hget h a.2 fun c => match c with
        | .inl _ => none
        | .inr r => cond (and (Nat.beq (xh_kind r.1) kd) (xh_in i.2 r.2.1)) (match r.2.2 with
            | .inl N => cond (Nat.beq v.1 0) (xx_f (xx_p 32 N (xh_ix i.2) (cond (Nat.beq kd 0) v.2 (xx_n (vp_nar r.1 (Int32.ofNat v.2))))) fun N' => xk_hset h a.2 (.inr (r.1, r.2.1, .inl N')) fun h' => nx lv st h' sy ce sl) (xk_hset h a.2 (.inr (r.1, r.2.1, .inr xs_full)) fun h' => nx lv st h' sy ce sl)
            | .inr _ => xk_hset h a.2 (.inr (r.1, r.2.1, .inr xs_full)) fun h' => nx lv st h' sy ce sl) none) none = some outs := h0
      obtain ⟨c1, h2⟩ := xcd h1 rfl
      have c1' := xan c1
      obtain ⟨y, rfl⟩ := xv_i c1'.2 hv
      obtain ⟨x, g1, g2⟩ := xk_hget_ok h2
      cases x with
      | inl o => cases g2
      | inr r =>
        dsimp only at g2
        obtain ⟨q1, q2⟩ := xcd g2 rfl
        have q1' := xan q1
        obtain ⟨q, en, rfl, e2, cA, e3, e4, e5⟩ := xWd_get hW c1'.1 ha g1
        obtain ⟨b1, b2, b3⟩ := xh_in_ok q1'.2 e4
        obtain ⟨t0, ht0⟩ := List.getElem?_of_mem e3
        rcases e5 with ⟨f, rfl, e6, e7⟩ | ⟨f, rfl, e6, e7⟩
        · have hkk : ∀ z : Int32, z = (if kd = 0 then y else vp_nar r.1 y) → ∀ (H1 : Heap) (locs1 : List Loc), va_P g.2.2.1 xcl (ws.set a.2 (q, .inl (cA, r.2.1, .inl (upd f (Int32.ofNat i.2).toNatClampNeg z)))) H1 → va_D (xAA g.2.2.2.1) (ws.set a.2 (q, .inl (cA, r.2.1, .inl (upd f (Int32.ofNat i.2).toNatClampNeg z)))) → va_S (xAA g.2.2.2.1) s.heap H1 locs1 → W p g.1 e R s m args below meth c H1 locs1 ce sl Q (F0 m (pc + 1) ls vs2) := by
            intro z hz H1 locs1 hP1 hD1 hS1
            rw [b2] at hP1 hD1
            have ea := xaw_set (e' := (.inl (cA, r.2.1, .inl (upd f (xh_ix i.2) z)) : va_E)) e2
            have fin : ∀ ct : Nat ⊕ (Int × Int), xrow ct r.2.1 (upd f (xh_ix i.2) z) → xk_hset h a.2 (.inr (r.1, r.2.1, ct)) (fun h' => nx lv st h' sy ce sl) = some outs → W p g.1 e R s m args below meth c H1 locs1 ce sl Q (F0 m (pc + 1) ls vs2) := by
              intro ct hct hset
              obtain ⟨h', q6, q7, q8⟩ := xk_hset_ok hset
              have hW' := xWd_set hW e2 hP1 hD1 hS1 q6 q7 (show xcell g.2.1 ρ (xaw ws) tys (.inr (r.1, r.2.1, ct)) (.inl (cA, r.2.1, .inl (upd f (xh_ix i.2) z))) from ⟨cA, e3, e4, Or.inl ⟨_, rfl, e6, hct⟩⟩)
              exact hn _ _ _ _ _ _ _ q8 p e R s m args below meth c Q H1 locs1 ls _ ρ _ tys hF hW' hs hr (by rw [ea]; exact hs2) (by rw [ea]; exact hlv) (xRT_mono hRT (fun _ z => z) (xx_e_rf _) (by rw [ea]; exact xx_e_rf _))
            cases hr2 : r.2.2 with
            | inr iv =>
              rw [hr2] at q2
              exact fin (.inr xs_full) (xrow_any _ _) q2
            | inl N =>
              rw [hr2] at q2 e7
              have q3 : cond (Nat.beq v.1 0) (xx_f (xx_p 32 N (xh_ix i.2) (cond (Nat.beq kd 0) v.2 (xx_n (vp_nar r.1 (Int32.ofNat v.2))))) fun N' => xk_hset h a.2 (.inr (r.1, r.2.1, .inl N')) fun h' => nx lv st h' sy ce sl) (xk_hset h a.2 (.inr (r.1, r.2.1, .inr xs_full)) fun h' => nx lv st h' sy ce sl) = some outs := q2
              cases hv0 : Nat.beq v.1 0 with
              | false =>
                rw [hv0] at q3
                exact fin (.inr xs_full) (xrow_any _ _) q3
              | true =>
                rw [hv0] at q3
                have q4 : xx_f (xx_p 32 N (xh_ix i.2) (cond (Nat.beq kd 0) v.2 (xx_n (vp_nar r.1 (Int32.ofNat v.2))))) (fun N' => xk_hset h a.2 (.inr (r.1, r.2.1, .inl N')) fun h' => nx lv st h' sy ce sl) = some outs := q3
                rw [xx_f_eq] at q4
                refine fin _ (xrow_put e7 ?_) q4
                have ey := xv_0 hv0 hv
                injection ey with ey
                rw [hz]
                rcases hkd with ⟨rfl, -⟩ | ⟨rfl, -⟩
                · rw [if_pos rfl]
                  exact ey.symm
                · rw [if_neg (by decide), ey]
                  exact xx_n_of _
          rcases hkd with ⟨rfl, hd⟩ | ⟨rfl, hd⟩
          · rw [xkind0 q1'.1] at ht0
            exact va_iast hF.1 hF.2.1 hW.2.2.2.1 hW.1 hW.2.1 hW.2.2.1 a.2 t0 e2 ht0 b1 hd (hkk y (by rw [if_pos rfl]))
          · rcases xkind1 q1'.1 with z | z
            · rw [z] at ht0 hkk
              exact va_bast hF.1 hF.2.1 hW.2.2.2.1 hW.1 hW.2.1 hW.2.2.1 a.2 t0 e2 ht0 b1 hd (hkk _ (by rw [if_neg (by decide)]))
            · rw [z] at ht0 hkk
              exact va_zast hF.1 hF.2.1 hW.2.2.2.1 hW.1 hW.2.1 hW.2.2.1 a.2 t0 e2 ht0 b1 hd (hkk _ (by rw [if_neg (by decide)]))
        · have := Nat.eq_of_beq_eq_true q1'.1
          rcases hkd with ⟨rfl, -⟩ | ⟨rfl, -⟩ <;> omega
end XR
end
section
section XT
variable {g : xGl} {M : xM} {d pc : Nat} {nx ag : xN} {jp : Nat → xN} {ca : xK} {G : xG}
theorem xs_lald (hd : decode M.2.1 pc = .ok (.laload, 1)) (hn : xNok g M d (pc + 1) nx) : xNok g M d pc (xd_lald nx jp ag ca) := by
  intro lv st h sy ce sl outs hk p e R s m args below meth c Q H locs ls vs ρ ws tys hF hW hs hr hst hlv hRT
  match st, hk, hst with
  | [], hk, _ => cases hk
  | [b], hk, _ => cases hk
  | i :: a :: st, hk, hst =>
    obtain ⟨vi, vs1, rfl, hi, hs1⟩ := xx_2_cons hst
    obtain ⟨va, vs2, rfl, ha, hs2⟩ := xx_2_cons hs1
    have h0 : cond (and (Nat.beq i.1 0) (Nat.beq a.1 3)) (xk_hget h a.2 fun c => match c with
      | .inl _ => none
      | .inr r => cond (and (Nat.beq (xh_kind r.1) 2) (xh_in i.2 r.2.1)) (match r.2.2 with
          | .inl N => xx_f (xx_g 64 N (xh_ix i.2)) fun n => nx lv ((4, n) :: st) h sy ce sl
          | .inr _ => nx lv ((5, 0) :: st) h sy ce sl) none) none = some outs := hk
    obtain ⟨c0, h1⟩ := xcd h0 rfl
    have c0' := xan c0
    have ei := xv_0 c0'.1 hi
    subst ei
    obtain ⟨x, g1, g2⟩ := xk_hget_ok h1
    cases x with
    | inl o => cases g2
    | inr r =>
      have g3 : cond (and (Nat.beq (xh_kind r.1) 2) (xh_in i.2 r.2.1)) (match r.2.2 with
          | .inl N => xx_f (xx_g 64 N (xh_ix i.2)) fun n => nx lv ((4, n) :: st) h sy ce sl
          | .inr _ => nx lv ((5, 0) :: st) h sy ce sl) none = some outs := g2
      obtain ⟨q1, q2⟩ := xcd g3 rfl
      have q1' := xan q1
      obtain ⟨q, en, rfl, e2, cA, e3, e4, e5⟩ := xWd_get hW c0'.2 ha g1
      obtain ⟨b1, b2, b3⟩ := xh_in_ok q1'.2 e4
      obtain ⟨t0, ht0⟩ := List.getElem?_of_mem e3
      rcases e5 with ⟨f, rfl, e6, e7⟩ | ⟨f, rfl, e6, e7⟩
      · have := Nat.eq_of_beq_eq_true q1'.1
        omega
      · rw [xkind2 q1'.1] at ht0
        refine va_lald hF.1 hF.2.1 hW.2.2.2.1 hW.1 a.2 t0 e2 ht0 b1 hd ?_
        rw [b2]
        cases hr2 : r.2.2 with
        | inl N =>
          rw [hr2] at q2 e7
          have q3 : xx_f (xx_g 64 N (xh_ix i.2)) (fun n => nx lv ((4, n) :: st) h sy ce sl) = some outs := q2
          rw [xx_f_eq] at q3
          exact hn _ _ _ _ _ _ _ q3 p e R s m args below meth c Q H locs ls _ ρ ws tys hF hW hs hr ⟨congrArg Value.long (e7 _ b3), hs2⟩ hlv hRT
        | inr iv =>
          rw [hr2] at q2
          exact hn _ _ _ _ _ _ _ q2 p e R s m args below meth c Q H locs ls _ ρ ws tys hF hW hs hr ⟨⟨_, rfl⟩, hs2⟩ hlv hRT
theorem xs_last (hd : decode M.2.1 pc = .ok (.lastore, 1)) (hn : xNok g M d (pc + 1) nx) : xNok g M d pc (xd_last nx jp ag ca) := by
  intro lv st h sy ce sl outs hk p e R s m args below meth c Q H locs ls vs ρ ws tys hF hW hs hr hst hlv hRT
  match st, hk, hst with
  | [], hk, _ => cases hk
  | [b], hk, _ => cases hk
  | [b, b2], hk, _ => cases hk
  | v :: i :: a :: st, hk, hst =>
    obtain ⟨vv, vs0, rfl, hv, hs0⟩ := xx_2_cons hst
    obtain ⟨vi, vs1, rfl, hi, hs1⟩ := xx_2_cons hs0
    obtain ⟨va, vs2, rfl, ha, hs2⟩ := xx_2_cons hs1
    have h0 : cond (and (Nat.beq i.1 0) (and (Nat.beq a.1 3) (xc_l v))) (xk_hget h a.2 fun c => match c with
      | .inl _ => none
      | .inr r => cond (and (Nat.beq (xh_kind r.1) 2) (xh_in i.2 r.2.1)) (match r.2.2 with
          | .inl N => cond (Nat.beq v.1 4) (xx_f (xx_p 64 N (xh_ix i.2) v.2) fun N' => xk_hset h a.2 (.inr (r.1, r.2.1, .inl N')) fun h' => nx lv st h' sy ce sl) (xk_hset h a.2 (.inr (r.1, r.2.1, .inr xs_full)) fun h' => nx lv st h' sy ce sl)
          | .inr _ => xk_hset h a.2 (.inr (r.1, r.2.1, .inr xs_full)) fun h' => nx lv st h' sy ce sl) none) none = some outs := hk
    obtain ⟨c0, h1⟩ := xcd h0 rfl
    have c0' := xan c0
    have c1' := xan c0'.2
    have ei := xv_0 c0'.1 hi
    subst ei
    obtain ⟨y, rfl⟩ := xv_l c1'.2 hv
    obtain ⟨x, g1, g2⟩ := xk_hget_ok h1
    cases x with
    | inl o => cases g2
    | inr r =>
      have g3 : cond (and (Nat.beq (xh_kind r.1) 2) (xh_in i.2 r.2.1)) (match r.2.2 with
          | .inl N => cond (Nat.beq v.1 4) (xx_f (xx_p 64 N (xh_ix i.2) v.2) fun N' => xk_hset h a.2 (.inr (r.1, r.2.1, .inl N')) fun h' => nx lv st h' sy ce sl) (xk_hset h a.2 (.inr (r.1, r.2.1, .inr xs_full)) fun h' => nx lv st h' sy ce sl)
          | .inr _ => xk_hset h a.2 (.inr (r.1, r.2.1, .inr xs_full)) fun h' => nx lv st h' sy ce sl) none = some outs := g2
      obtain ⟨q1, q2⟩ := xcd g3 rfl
      have q1' := xan q1
      obtain ⟨q, en, rfl, e2, cA, e3, e4, e5⟩ := xWd_get hW c1'.1 ha g1
      obtain ⟨b1, b2, b3⟩ := xh_in_ok q1'.2 e4
      obtain ⟨t0, ht0⟩ := List.getElem?_of_mem e3
      rcases e5 with ⟨f, rfl, e6, e7⟩ | ⟨f, rfl, e6, e7⟩
      · have := Nat.eq_of_beq_eq_true q1'.1
        omega
      · rw [xkind2 q1'.1] at ht0
        refine va_last hF.1 hF.2.1 hW.2.2.2.1 hW.1 hW.2.1 hW.2.2.1 a.2 t0 e2 ht0 b1 hd (fun H1 locs1 hP1 hD1 hS1 => ?_)
        rw [b2] at hP1 hD1
        have ea := xaw_set (e' := (.inl (cA, r.2.1, .inr (.inl (vp_updL f (xh_ix i.2) y))) : va_E)) e2
        have fin : ∀ ct : Nat ⊕ (Int × Int), xrowl ct r.2.1 (vp_updL f (xh_ix i.2) y) → xk_hset h a.2 (.inr (r.1, r.2.1, ct)) (fun h' => nx lv st h' sy ce sl) = some outs → W p g.1 e R s m args below meth c H1 locs1 ce sl Q (F0 m (pc + 1) ls vs2) := by
          intro ct hct hset
          obtain ⟨h', q6, q7, q8⟩ := xk_hset_ok hset
          have hW' := xWd_set hW e2 hP1 hD1 hS1 q6 q7 (show xcell g.2.1 ρ (xaw ws) tys (.inr (r.1, r.2.1, ct)) (.inl (cA, r.2.1, .inr (.inl (vp_updL f (xh_ix i.2) y)))) from ⟨cA, e3, e4, Or.inr ⟨_, rfl, e6, hct⟩⟩)
          exact hn _ _ _ _ _ _ _ q8 p e R s m args below meth c Q H1 locs1 ls _ ρ _ tys hF hW' hs hr (by rw [ea]; exact hs2) (by rw [ea]; exact hlv) (xRT_mono hRT (fun _ z => z) (xx_e_rf _) (by rw [ea]; exact xx_e_rf _))
        cases hr2 : r.2.2 with
        | inr iv =>
          rw [hr2] at q2
          exact fin (.inr xs_full) trivial q2
        | inl N =>
          rw [hr2] at q2 e7
          have q3 : cond (Nat.beq v.1 4) (xx_f (xx_p 64 N (xh_ix i.2) v.2) fun N' => xk_hset h a.2 (.inr (r.1, r.2.1, .inl N')) fun h' => nx lv st h' sy ce sl) (xk_hset h a.2 (.inr (r.1, r.2.1, .inr xs_full)) fun h' => nx lv st h' sy ce sl) = some outs := q2
          cases hv0 : Nat.beq v.1 4 with
          | false =>
            rw [hv0] at q3
            exact fin (.inr xs_full) trivial q3
          | true =>
            rw [hv0] at q3
            have q4 : xx_f (xx_p 64 N (xh_ix i.2) v.2) (fun N' => xk_hset h a.2 (.inr (r.1, r.2.1, .inl N')) fun h' => nx lv st h' sy ce sl) = some outs := q3
            rw [xx_f_eq] at q4
            refine fin _ (xrowl_put e7 ?_) q4
            have ey := xv_4 hv0 hv
            injection ey with ey
            exact ey.symm
theorem xs_alen (hG : xGok g G) (hd : decode M.2.1 pc = .ok (.arraylength, 1)) (hn : xNok g M d (pc + 1) nx) : xNok g M d pc (xd_alen G nx jp ag ca) := by
  intro lv st h sy ce sl outs hk p e R s m args below meth c Q H locs ls vs ρ ws tys hF hW hs hr hst hlv hRT
  cases st with
  | nil => cases hk
  | cons a st =>
    obtain ⟨v, vs, rfl, hv, hs2⟩ := xx_2_cons hst
    have h0 : cond (Nat.beq a.1 3) (xk_hget h a.2 fun c => match c with
      | .inl _ => none
      | .inr r => nx lv ((0, r.2.1) :: st) h sy ce sl)
      (cond (Nat.beq a.1 6) (nx lv (G.2.2.2 :: st) h sy ce sl)
      (cond (Nat.beq a.1 8) (xk_nth G.2.2.1 a.2 fun bs => nx lv ((0, bs.length) :: st) h sy ce sl) none)) = some outs := hk
    cases h3 : Nat.beq a.1 3 with
    | true =>
      rw [h3] at h0
      have h0' : (xk_hget h a.2 fun c => match c with
        | .inl _ => none
        | .inr r => nx lv ((0, r.2.1) :: st) h sy ce sl) = some outs := h0
      obtain ⟨x, g1, g2⟩ := xk_hget_ok h0'
      cases x with
      | inl o => cases g2
      | inr r =>
        have g3 : nx lv ((0, r.2.1) :: st) h sy ce sl = some outs := g2
        obtain ⟨q, en, rfl, e2, cA, e3, e4, e5⟩ := xWd_get hW h3 hv g1
        obtain ⟨t0, ht0⟩ := List.getElem?_of_mem e3
        have hkk := hn _ _ _ _ _ _ _ g3 p e R s m args below meth c Q H locs ls _ ρ ws tys hF hW hs hr (show xx_2 (xv g.2.1 ρ (xaw ws)) ((0, r.2.1) :: st) (.int (Int32.ofNat r.2.1) :: vs) from ⟨rfl, hs2⟩) hlv hRT
        rcases e5 with ⟨f, rfl, e6, e7⟩ | ⟨f, rfl, e6, e7⟩
        · exact va_alen hF.1 hF.2.1 hW.2.2.2.1 hW.1 a.2 t0 e2 ht0 rfl hd hkk
        · exact va_alen hF.1 hF.2.1 hW.2.2.2.1 hW.1 a.2 t0 e2 ht0 rfl hd hkk
    | false =>
      rw [h3] at h0
      have h1 : cond (Nat.beq a.1 6) (nx lv (G.2.2.2 :: st) h sy ce sl) (cond (Nat.beq a.1 8) (xk_nth G.2.2.1 a.2 fun bs => nx lv ((0, bs.length) :: st) h sy ce sl) none) = some outs := h0
      cases h6 : Nat.beq a.1 6 with
      | true =>
        rw [h6] at h1
        have h2 : nx lv (G.2.2.2 :: st) h sy ce sl = some outs := h1
        have ev := xv_6 h6 hv
        subst ev
        have hE := hF.2.2.2.2.2.2.1.2.2.2.2.2
        refine va_slen hF.1 hF.2.1 hE.1 (Nat.lt_of_lt_of_le hE.2 hF.2.2.2.2.2.2.2.1) (Nat.not_le.mpr hE.2) hW.2.2.1 hd ?_
        refine hn _ _ _ _ _ _ _ h2 p e R s m args below meth c Q H locs ls _ ρ ws tys hF hW hs hr ⟨?_, hs2⟩ hlv hRT
        rcases hG.2.2 with ⟨q1, q2⟩ | ⟨q1, q2⟩
        · rw [q1, q2]
          rfl
        · rw [q1]
          refine ⟨_, ?_, rfl⟩
          refine xx_e_get hr ?_
          unfold xrho
          rw [if_neg (by omega)]
          rfl
      | false =>
        rw [h6] at h1
        have h2 : cond (Nat.beq a.1 8) (xk_nth G.2.2.1 a.2 fun bs => nx lv ((0, bs.length) :: st) h sy ce sl) none = some outs := h1
        obtain ⟨q1, q2⟩ := xcd h2 rfl
        obtain ⟨bs, q3, q4⟩ := xk_nth_ok q2
        have ev := xv_8 q1 hv
        subst ev
        rw [hG.2.1] at q3
        have hlt := (List.getElem?_eq_some_iff.mp q3).1
        have hE := (hF.2.2.2.2.2.2.1.2.2.1.1 a.2 hlt).2.2.2
        have el : (xBY.map List.length).getD a.2 0 = bs.length := by
          rw [List.getD_eq_getElem?_getD, List.getElem?_map, q3]
          rfl
        rw [el] at hE
        obtain ⟨cell, k1, k2, k3, k4, k5, k6, k7⟩ := hE
        exact W.alen (n := Int32.ofNat bs.length) hF.1 hF.2.1 (by rw [hW.2.2.1.2.1 _ (Array.getElem?_eq_some_iff.mp k1).1 k7]; exact k1) k2 k5 rfl rfl hd (hn _ _ _ _ _ _ _ q4 p e R s m args below meth c Q H locs ls _ ρ ws tys hF hW hs hr ⟨rfl, hs2⟩ hlv hRT)
/-- a row is made -/
theorem xs_newa {t : ArrayType} (hd : decode M.2.1 pc = .ok (.newarray t, 2)) (hw : Cond.arrayClass (newarray.typeOf t) ∈ xTb) (hn : xNok g M d (pc + 2) nx) : xNok g M d pc (xd_newa M.2.2.2.2.1 M.2.2.2.2.2.1 (newarray.typeOf t) nx jp ag ca) := by
  intro lv st h sy ce sl outs hk p e R s m args below meth c Q H locs ls vs ρ ws tys hF hW hs hr hst hlv hRT
  cases st with
  | nil => cases hk
  | cons a st =>
    obtain ⟨v, vs, rfl, hv, hs2⟩ := xx_2_cons hst
    have h0 : cond (and (Nat.beq a.1 0) (and (xh_in a.2 65537) (and (Nat.ble (Nat.succ ce) M.2.2.2.2.1) (and (Nat.ble (Nat.add sl (xh_ix a.2)) M.2.2.2.2.2.1) (Nat.ble (xh_kind (newarray.typeOf t)) 2))))) (xx_f (xh_ix a.2) fun n => xk_hset h h.1 (.inr (newarray.typeOf t, n, .inl 0)) fun h' => nx lv ((3, h.1) :: st) (Nat.succ h'.1, h'.2) sy (Nat.succ ce) (Nat.add sl n)) none = some outs := hk
    obtain ⟨c0, h1⟩ := xcd h0 rfl
    rw [xx_f_eq] at h1
    have c1 := xan c0
    have c2 := xan c1.2
    have c3 := xan c2.2
    have c4 := xan c3.2
    obtain ⟨h', q6, q7, q8⟩ := xk_hset_ok h1
    have ev := xv_0 c1.1 hv
    subst ev
    obtain ⟨b1, b2, b3⟩ := xh_in_ok c2.1 (by decide)
    have hce : ce + 1 ≤ R.cells := Nat.le_trans (Nat.le_of_ble_eq_true c3.1) hF.2.2.2.2.2.2.2.2.2.2.1
    have hsl : sl + xh_ix a.2 ≤ R.slots := Nat.le_trans (Nat.le_of_ble_eq_true c4.1) hF.2.2.2.2.2.2.2.2.2.2.2
    clear h0 h1 c0 c1 c2 c3
    have c42 := c4.2
    clear c4
    generalize xh_ix a.2 = ixn at b2 b3 hsl q7 q8
    have hkd : xh_kind (newarray.typeOf t) ≤ 2 := Nat.le_of_ble_eq_true c42
    have hnn : ¬ Int32.ofNat a.2 < 0 := fun z => b1 (Or.inl z)
    have hA : ∀ q, s.heap.size ≤ q → xAA g.2.2.2.1 q := fun q hq => Nat.le_trans hF.2.2.2.2.2.2.2.1 hq
    have hbytes : ixn * componentBytes (newarray.typeOf t) ≤ 536870912 := by
      have : componentBytes (newarray.typeOf t) ≤ 8 := by cases t <;> decide
      have := Nat.mul_le_mul (Nat.le_of_lt b3) this
      omega
    have fin : ∀ (a0 : vp_A), (∀ cA : ClassId, vp_cell cA a0 = arrV cA (ixn) (fun _ => defaultValue (newarray.typeOf t))) → (∀ (cA : ClassId) (tys' : List (ClassId × FieldType)) (aw' : List Nat), (cA, newarray.typeOf t) ∈ tys' → xcell g.2.1 ρ aw' tys' (.inr (newarray.typeOf t, ixn, .inl 0)) (.inl (cA, a0))) → W p g.1 e R s m args below meth c H locs ce sl Q (F0 m pc ls (.int (Int32.ofNat a.2) :: vs)) := by
      intro a0 ha0 hcell
      refine va_newa hF.1 hF.2.1 (hF.2.2.2.1 _ hw) rfl hW.2.2.2.1 hW.1 hW.2.1 hW.2.2.1 hA (N' := ixn) (a0 := a0) ha0 hnn b2 hbytes hce hsl hd (fun q cA H1 hK1 hP1 hD1 hS1 => ?_)
      have hmem : (cA, newarray.typeOf t) ∈ tys ++ [(cA, newarray.typeOf t)] := List.mem_append_right _ List.mem_cons_self
      have hW' := xWd_new hW hP1 hD1 hS1 hK1 (fun _ z => List.mem_append_left _ z) q6 q7 (hcell cA _ _ hmem)
      have ea := xaw_app ws (q, (.inl (cA, a0) : va_E))
      refine hn _ _ _ _ _ _ _ q8 p e R s m args below meth c Q H1 locs ls _ ρ _ _ hF hW' hs hr ⟨⟨q, ?_, rfl⟩, xx_2_mono (fun _ _ z => xv_mono (xx_e_rf _) ea z) hs2⟩ (xLv_mono (xx_e_rf _) ea hlv) (xRT_mono hRT (fun _ z => z) (xx_e_rf _) ea)
      show (xaw (ws ++ [(q, (.inl (cA, a0) : va_E))]))[h.1]? = some q
      rw [hW.2.2.2.2.1]
      simp [xaw]
    have z0 : ∀ w j, xx_g w 0 j = 0 := fun w j => by simp [xx_g]
    have hlt31 : ixn < 2 ^ 31 := by omega
    cases t with
    | long =>
      refine fin (ixn, .inr (.inl fun _ => 0)) (fun cA => rfl) (fun cA tys' aw' hm => ⟨cA, hm, hlt31, Or.inr ⟨_, rfl, rfl, fun j _ => ?_⟩⟩)
      rw [z0]
      rfl
    | boolean =>
      refine fin (ixn, .inl fun _ => 0) (fun cA => rfl) (fun cA tys' aw' hm => ⟨cA, hm, hlt31, Or.inl ⟨_, rfl, Nat.le_of_ble_eq_true rfl, fun j _ => ?_⟩⟩)
      rw [z0]
      rfl
    | byte =>
      refine fin (ixn, .inl fun _ => 0) (fun cA => rfl) (fun cA tys' aw' hm => ⟨cA, hm, hlt31, Or.inl ⟨_, rfl, Nat.le_of_ble_eq_true rfl, fun j _ => ?_⟩⟩)
      rw [z0]
      rfl
    | int =>
      refine fin (ixn, .inl fun _ => 0) (fun cA => rfl) (fun cA tys' aw' hm => ⟨cA, hm, hlt31, Or.inl ⟨_, rfl, Nat.le_of_ble_eq_true rfl, fun j _ => ?_⟩⟩)
      rw [z0]
      rfl
    | _ => exact absurd hkd (by decide)
/-- the value that a field begins with -/
def xdv (a : xV) : Value := match a.1 with
  | 0 => .int (Int32.ofNat a.2)
  | 4 => .long (Int64.ofNat a.2)
  | _ => .null
def xdok (a : xV) : Bool := or (Nat.beq a.1 0) (or (Nat.beq a.1 2) (Nat.beq a.1 4))
theorem xdv_ok (X : xX) (ρ : List Int32) (aw : List Nat) : ∀ {l : List xV}, l.all xdok = true → xx_2 (xv X ρ aw) l (l.map xdv)
  | [], _ => trivial
  | (t, n) :: l, h => by
    rw [List.all_cons] at h
    have h' := xan h
    refine ⟨?_, xdv_ok X ρ aw h'.2⟩
    have h1 : or (Nat.beq t 0) (or (Nat.beq t 2) (Nat.beq t 4)) = true := h'.1
    rcases Bool.or_eq_true_iff.mp h1 with q | q
    · have e : t = 0 := Nat.eq_of_beq_eq_true q
      subst e
      rfl
    · rcases Bool.or_eq_true_iff.mp q with q | q
      · have e : t = 2 := Nat.eq_of_beq_eq_true q
        subst e
        rfl
      · have e : t = 4 := Nat.eq_of_beq_eq_true q
        subst e
        rfl
/-- an object is made -/
theorem xs_new {a1 idx : Nat} {C : String} {T : u_T} {N : Nat} {ty0 : Nat → FieldType} {df : List xV} (hG : xGok g G) (hd : decode M.2.1 pc = .ok (.new idx, 3)) (hc : xcl[a1]? = some (C, T, N)) (hin : ∀ w ∈ u_ws C T N, w ∈ xTb) (hty : ∀ k, k < N → parseFieldDescriptor (T k).2.2.1 = some (ty0 k)) (hdf : xDF[a1]? = some df) (hdl : df.length = N) (hda : df.all xdok = true) (hdv : ∀ j, j < N → defaultValue (ty0 j) = vp_V (df.map xdv) j) (hl : Cond.classLink M.1.cls idx C ∈ xTb) (hi : Cond.instantiable C N ∈ xTb) (hini : Cond.initialized C ∈ xTb) (hn : xNok g M d (pc + 3) nx) : xNok g M d pc (xd_new G M.2.2.2.2.1 M.2.2.2.2.2.1 a1 nx jp ag ca) := by
  intro lv st h sy ce sl outs hk p e R s m args below meth c Q H locs ls vs ρ ws tys hF hW hs hr hst hlv hRT
  obtain ⟨df', h1, h2⟩ := xk_nth_ok hk
  rw [hG.1, hdf] at h1
  cases h1
  have h3 : cond (and (Nat.ble (Nat.succ ce) M.2.2.2.2.1) (Nat.ble (Nat.add sl df.length) M.2.2.2.2.2.1)) (xk_hset h h.1 (.inl (a1, df)) fun h' => nx lv ((3, h.1) :: st) (Nat.succ h'.1, h'.2) sy (Nat.succ ce) (Nat.add sl df.length)) none = some outs := h2
  obtain ⟨c0, h4⟩ := xcd h3 rfl
  have c1 := xan c0
  obtain ⟨h', q6, q7, q8⟩ := xk_hset_ok h4
  have hce : ce + 1 ≤ R.cells := Nat.le_trans (Nat.le_of_ble_eq_true c1.1) hF.2.2.2.2.2.2.2.2.2.2.1
  have hsl : sl + N ≤ R.slots := Nat.le_trans (by rw [← hdl]; exact Nat.le_of_ble_eq_true c1.2) hF.2.2.2.2.2.2.2.2.2.2.2
  have hA : ∀ q, s.heap.size ≤ q → xAA g.2.2.2.1 q := fun q hq => Nat.le_trans hF.2.2.2.2.2.2.2.1 hq
  refine va_new hF.1 hF.2.1 hF.2.2.2.1 hin ty0 hty hF.2.2.2.2.1 (hF.2.2.2.1 _ hl) (hF.2.2.2.1 _ hi) (hF.2.2.2.1 _ hini) hW.2.2.2.1 hW.1 hW.2.1 hW.2.2.1 hA hc (fs := df.map xdv) hdv hce hsl hd (fun q H1 hP1 hD1 hS1 => ?_)
  have hW' := xWd_new hW hP1 hD1 hS1 hW.2.2.2.1 (fun _ z => z) q6 q7 (show xcell g.2.1 ρ _ tys (.inl (a1, df)) (.inr (a1, df.map xdv)) from ⟨_, rfl, xdv_ok _ _ _ hda⟩)
  have ea := xaw_app ws (q, (.inr (a1, df.map xdv) : va_E))
  rw [← hdl]
  refine hn _ _ _ _ _ _ _ q8 p e R s m args below meth c Q H1 locs ls _ ρ _ _ hF hW' hs hr ⟨⟨q, ?_, rfl⟩, xx_2_mono (fun _ _ z => xv_mono (xx_e_rf _) ea z) hst⟩ (xLv_mono (xx_e_rf _) ea hlv) (xRT_mono hRT (fun _ z => z) (xx_e_rf _) ea)
  show (xaw (ws ++ [(q, (.inr (a1, df.map xdv) : va_E))]))[h.1]? = some q
  rw [hW.2.2.2.2.1]
  simp [xaw]
theorem xwords_ok {X : xX} {ρ : List Int32} {aw : List Nat} : ∀ {l : List xV} {vs : List Value}, xx_2 (xv X ρ aw) l vs → (vs.map fun v => v.category).sum = xh_words l
  | [], [], _ => rfl
  | a :: l, v :: vs, h => by
    rw [List.map_cons, List.sum_cons, xwords_ok h.2, xv_cat h.1]
    show _ = Nat.add (cond (xc_l a) 2 1) (xh_words l)
    cases xc_l a <;> rfl
  | [], _ :: _, h => absurd h id
  | _ :: _, [], h => absurd h id
theorem xs_obj {idx : Nat} (hd : decode M.2.1 pc = .ok (.invokespecial idx, 3)) (hl : Cond.methodLink M.1.cls idx objectInit ∈ xTb) (hi : Cond.instanceMethod objectInit ∈ xTb) (hc : Cond.code objectInit ⟨#[0xb1]⟩ 1 none ∈ xTb) (hn : xNok g M d (pc + 3) nx) : xNok g M d pc (xd_obj nx jp ag ca) := by
  intro lv st h sy ce sl outs hk p e R s m args below meth c Q H locs ls vs ρ ws tys hF hW hs hr hst hlv hRT
  cases st with
  | nil => cases hk
  | cons a st =>
    obtain ⟨v, vs, rfl, hv, hs2⟩ := xx_2_cons hst
    have h0 : cond (and (Nat.beq a.1 3) (Nat.ble (xh_words st) 8)) (nx lv st h sy ce sl) none = some outs := hk
    obtain ⟨c0, h1⟩ := xcd h0 rfl
    have c1 := xan c0
    obtain ⟨q, -, rfl⟩ := xv_3 c1.1 hv
    have hw := Nat.le_of_ble_eq_true c1.2
    have hfr := hF.2.2.2.2.2.2.2.2.1
    have hlo := hF.2.2.2.2.2.2.2.2.2.1
    refine W.objInit hF.1 hF.2.1 hF.2.2.2.2.1 (hF.2.2.2.1 _ hl) (hF.2.2.2.1 _ hi) (hF.2.2.2.1 _ hc) (g := F0 m pc ls (.ref q :: vs)) rfl (by rw [hF.2.2.1]; exact hlv.2.1) rfl hd (by omega) ?_ (hn _ _ _ _ _ _ _ h1 p e R s m args below meth c Q H locs ls _ ρ ws tys hF hW hs hr hs2 hlv hRT)
    rw [xwords_ok hs2]
    show 2 * 0 + _ + 12 ≤ _
    omega
end XT
end
section
/-! ends and calls -/
section XU
variable {g : xGl} {M : xM} {d pc : Nat} {nx ag : xN} {jp : Nat → xN} {ca : xK} {G : xG}
theorem xfit_int {X : xX} {sy : xS} {ρ : List Int32} {aw : List Nat} {a : xV} {v : Value} {ty : FieldType} (h : xh_fit (xh_tc ty) a sy = true) (h4 : xh_tc ty ≤ 4) (hs : xsat sy ρ) (hv : xv X ρ aw a v) : ∃ x, v = .int x := by
  cases ty with
  | int => exact xv_i (show xc_i a = true from h) hv
  | boolean =>
    obtain ⟨x, e, -⟩ := xwithin_ok (show xh_within sy a 0 1 = true from h) hs hv
    exact ⟨x, e⟩
  | byte =>
    obtain ⟨x, e, -⟩ := xwithin_ok (show xh_within sy a (-128) 127 = true from h) hs hv
    exact ⟨x, e⟩
  | char =>
    obtain ⟨x, e, -⟩ := xwithin_ok (show xh_within sy a 0 65535 = true from h) hs hv
    exact ⟨x, e⟩
  | short =>
    obtain ⟨x, e, -⟩ := xwithin_ok (show xh_within sy a (-32768) 32767 = true from h) hs hv
    exact ⟨x, e⟩
  | long => exact absurd h4 (by decide)
  | object C => exact absurd h4 (by show ¬ 6 ≤ 4; decide)
  | array C => exact absurd h4 (by show ¬ 6 ≤ 4; decide)
  | _ => exact absurd h4 (by decide)
theorem xs_iret (hd : decode M.2.1 pc = .ok (.ireturn, 1)) : xNok g M d pc (xd_ret M.2.2.2.2.1 M.2.2.2.2.2.1 false M.2.2.2.1 nx jp ag ca) := by
  intro lv st h sy ce sl outs hk p e R s m args below meth c Q H locs ls vs ρ ws tys hF hW hs hr hst hlv hRT
  match st, hk, hst with
  | [], hk, _ => cases hk
  | _ :: _ :: _, hk, _ => cases hk
  | [a], hk, hst =>
    obtain ⟨v, vs1, rfl, hv, hs1⟩ := xx_2_cons hst
    have e1 := xx_2_nil hs1
    subst e1
    cases hret : M.2.2.2.1 with
    | none => rw [hret] at hk; cases hk
    | some ty =>
      rw [hret] at hk
      have h0 : cond (and (Nat.ble ce M.2.2.2.2.1) (and (Nat.ble sl M.2.2.2.2.2.1) (and (xh_fit (xh_tc ty) a sy) (Nat.ble (xh_tc ty) 4)))) (some [(some a, h, sy)]) none = some outs := hk
      obtain ⟨c0, h1⟩ := xcd h0 rfl
      have c1 := xan c0
      have c2 := xan c1.2
      have c3 := xan c2.2
      cases h1
      obtain ⟨x, rfl⟩ := xfit_int c3.1 (Nat.le_of_ble_eq_true c3.2) hs hv
      exact (hRT (some a, h, sy) List.mem_cons_self ρ ws tys H locs ls pc ce sl (xx_e_rf _) (xx_e_rf _) hs hW (Nat.le_of_ble_eq_true c1.1) (Nat.le_of_ble_eq_true c2.1)).2.1 a x ty rfl hret hv (xfit_ok c3.1 hs hv).1 hd
theorem xs_lret (hd : decode M.2.1 pc = .ok (.lreturn, 1)) : xNok g M d pc (xd_ret M.2.2.2.2.1 M.2.2.2.2.2.1 true M.2.2.2.1 nx jp ag ca) := by
  intro lv st h sy ce sl outs hk p e R s m args below meth c Q H locs ls vs ρ ws tys hF hW hs hr hst hlv hRT
  match st, hk, hst with
  | [], hk, _ => cases hk
  | _ :: _ :: _, hk, _ => cases hk
  | [a], hk, hst =>
    obtain ⟨v, vs1, rfl, hv, hs1⟩ := xx_2_cons hst
    have e1 := xx_2_nil hs1
    subst e1
    cases hret : M.2.2.2.1 with
    | none => rw [hret] at hk; cases hk
    | some ty =>
      rw [hret] at hk
      have h0 : cond (and (Nat.ble ce M.2.2.2.2.1) (and (Nat.ble sl M.2.2.2.2.2.1) (and (xh_fit (xh_tc ty) a sy) (Nat.beq (xh_tc ty) 5)))) (some [(some a, h, sy)]) none = some outs := hk
      obtain ⟨c0, h1⟩ := xcd h0 rfl
      have c1 := xan c0
      have c2 := xan c1.2
      have c3 := xan c2.2
      cases h1
      have ety : ty = .long := by
        have h5 := c3.2
        cases ty <;> first | rfl | cases h5
      subst ety
      obtain ⟨x, rfl⟩ := xv_l (show xc_l a = true from c3.1) hv
      exact (hRT (some a, h, sy) List.mem_cons_self ρ ws tys H locs ls pc ce sl (xx_e_rf _) (xx_e_rf _) hs hW (Nat.le_of_ble_eq_true c1.1) (Nat.le_of_ble_eq_true c2.1)).2.2 a x rfl hret hv hd
theorem xs_vret (hd : decode M.2.1 pc = .ok (.return_, 1)) : xNok g M d pc (xd_vret M.2.2.2.2.1 M.2.2.2.2.2.1 M.2.2.2.1 nx jp ag ca) := by
  intro lv st h sy ce sl outs hk p e R s m args below meth c Q H locs ls vs ρ ws tys hF hW hs hr hst hlv hRT
  match st, hk, hst with
  | _ :: _, hk, _ => cases hk
  | [], hk, hst =>
    have e1 := xx_2_nil hst
    subst e1
    cases hret : M.2.2.2.1 with
    | some ty => rw [hret] at hk; cases hk
    | none =>
      rw [hret] at hk
      have h0 : cond (and (Nat.ble ce M.2.2.2.2.1) (Nat.ble sl M.2.2.2.2.2.1)) (some [(none, h, sy)]) none = some outs := hk
      obtain ⟨c0, h1⟩ := xcd h0 rfl
      have c1 := xan c0
      cases h1
      exact (hRT (none, h, sy) List.mem_cons_self ρ ws tys H locs ls pc ce sl (xx_e_rf _) (xx_e_rf _) hs hW (Nat.le_of_ble_eq_true c1.1) (Nat.le_of_ble_eq_true c1.2)).1 rfl hret hd
/-- arraycopy of ints -/
theorem xs_copy {idx : Nat} (hd : decode M.2.1 pc = .ok (.invokestatic idx, 3)) (hl : Cond.methodLink M.1.cls idx arraycopyName ∈ xTb) (hnat : Cond.native arraycopyName ∈ xTb) (hst' : Cond.static arraycopyName ∈ xTb) (hini : Cond.initialized "java/lang/System" ∈ xTb) (hn : xNok g M d (pc + 3) nx) : xNok g M d pc (xd_copy nx jp ag ca) := by
  intro lv st h sy ce sl outs hk p e R s m args below meth c Q H locs ls vs ρ ws tys hF hW hs hr hst hlv hRT
  match st, hk, hst with
  | [], hk, _ => cases hk
  | [_], hk, _ => cases hk
  | [_, _], hk, _ => cases hk
  | [_, _, _], hk, _ => cases hk
  | [_, _, _, _], hk, _ => cases hk
  | n :: dp :: b :: sp :: a :: st, hk, hst =>
    obtain ⟨vn, vs1, rfl, hvn, hs1⟩ := xx_2_cons hst
    obtain ⟨vd, vs2, rfl, hvd, hs2⟩ := xx_2_cons hs1
    obtain ⟨vb, vs3, rfl, hvb, hs3⟩ := xx_2_cons hs2
    obtain ⟨vsp, vs4, rfl, hvs, hs4⟩ := xx_2_cons hs3
    obtain ⟨va, vs5, rfl, hva, hs5⟩ := xx_2_cons hs4
    have h0 : cond (and (Nat.beq n.1 0) (and (Nat.beq dp.1 0) (and (Nat.beq sp.1 0) (and (Nat.beq a.1 3) (and (Nat.beq b.1 3) (and (not (Nat.beq a.2 b.2)) (Nat.ble (xh_words st) 8))))))) (xk_hget h a.2 fun ca => xk_hget h b.2 fun cb => match ca with
      | .inl _ => none
      | .inr ra => match cb with
        | .inl _ => none
        | .inr rb => cond (and (Nat.beq (xh_kind ra.1) 0) (and (Nat.beq (xh_kind rb.1) 0) (and (Nat.ble 2147483648 (xo n.2)) (and (Nat.ble 2147483648 (xo dp.2)) (and (Nat.ble 2147483648 (xo sp.2)) (and (Nat.ble (Nat.add (xh_ix sp.2) (xh_ix n.2)) ra.2.1) (Nat.ble (Nat.add (xh_ix dp.2) (xh_ix n.2)) rb.2.1))))))) (match ra.2.2 with
          | .inr _ => none
          | .inl N0 => match rb.2.2 with
            | .inr _ => none
            | .inl N1 => xx_f (xh_cpy N0 (xh_ix n.2) (xh_ix sp.2) (xh_ix dp.2) N1) fun N2 => xk_hset h b.2 (.inr (rb.1, rb.2.1, .inl N2)) fun h' => nx lv st h' sy ce sl) none) none = some outs := hk
    obtain ⟨c0, h1⟩ := xcd h0 rfl
    have c1 := xan c0
    have c2 := xan c1.2
    have c3 := xan c2.2
    have c4 := xan c3.2
    have c5 := xan c4.2
    have c6 := xan c5.2
    obtain ⟨xa, ga1, ga2⟩ := xk_hget_ok h1
    obtain ⟨xb, gb1, gb2⟩ := xk_hget_ok ga2
    cases xa with
    | inl o => cases gb2
    | inr ra =>
      cases xb with
      | inl o => cases gb2
      | inr rb =>
        have h2 : cond (and (Nat.beq (xh_kind ra.1) 0) (and (Nat.beq (xh_kind rb.1) 0) (and (Nat.ble 2147483648 (xo n.2)) (and (Nat.ble 2147483648 (xo dp.2)) (and (Nat.ble 2147483648 (xo sp.2)) (and (Nat.ble (Nat.add (xh_ix sp.2) (xh_ix n.2)) ra.2.1) (Nat.ble (Nat.add (xh_ix dp.2) (xh_ix n.2)) rb.2.1))))))) (match ra.2.2 with
          | .inr _ => none
          | .inl N0 => match rb.2.2 with
            | .inr _ => none
            | .inl N1 => xx_f (xh_cpy N0 (xh_ix n.2) (xh_ix sp.2) (xh_ix dp.2) N1) fun N2 => xk_hset h b.2 (.inr (rb.1, rb.2.1, .inl N2)) fun h' => nx lv st h' sy ce sl) none = some outs := gb2
        obtain ⟨d0, h3⟩ := xcd h2 rfl
        have d1 := xan d0
        have d2 := xan d1.2
        have d3 := xan d2.2
        have d4 := xan d3.2
        have d5 := xan d4.2
        have d6 := xan d5.2
        have en := xv_0 c1.1 hvn
        have ed := xv_0 c2.1 hvd
        have es := xv_0 c3.1 hvs
        subst en
        subst ed
        subst es
        obtain ⟨qa, ea, rfl, ea2, cA, ea3, ea4, ea5⟩ := xWd_get hW c4.1 hva ga1
        obtain ⟨qb, eb, rfl, eb2, cB, eb3, eb4, eb5⟩ := xWd_get hW c5.1 hvb gb1
        have nneg : ∀ k : Nat, Nat.ble 2147483648 (xo k) = true → ¬ Int32.ofNat k < 0 ∧ (Int32.ofNat k).toNatClampNeg = xh_ix k := by
          intro k hk
          have h1 := Nat.le_of_ble_eq_true hk
          have h2 := xo_toInt k
          refine ⟨fun z => ?_, ?_⟩
          · have := Int32.lt_iff_toInt_lt.mp z
            rw [Int32.toInt_zero] at this
            omega
          · show (Int32.ofNat k).toInt.toNat = Nat.sub (xo k) 2147483648
            have e : Nat.sub (xo k) 2147483648 = xo k - 2147483648 := rfl
            omega
        obtain ⟨n1, n2⟩ := nneg n.2 d3.1
        obtain ⟨m1, m2⟩ := nneg dp.2 d4.1
        obtain ⟨k1, k2⟩ := nneg sp.2 d5.1
        have l1 : xh_ix sp.2 + xh_ix n.2 ≤ ra.2.1 := Nat.le_of_ble_eq_true d6.1
        have l2 : xh_ix dp.2 + xh_ix n.2 ≤ rb.2.1 := Nat.le_of_ble_eq_true d6.2
        obtain ⟨t0, ht0⟩ := List.getElem?_of_mem ea3
        obtain ⟨t1, ht1⟩ := List.getElem?_of_mem eb3
        rw [xkind0 d1.1] at ht0
        rw [xkind0 d2.1] at ht1
        have kk0 := Nat.eq_of_beq_eq_true d1.1
        have kk1 := Nat.eq_of_beq_eq_true d2.1
        rcases ea5 with ⟨f, rfl, ea6, ea7⟩ | ⟨f, rfl, ea6, ea7⟩
        · rcases eb5 with ⟨f2, rfl, eb6, eb7⟩ | ⟨f2, rfl, eb6, eb7⟩
          · have hw := Nat.le_of_ble_eq_true c6.2
            have hfr := hF.2.2.2.2.2.2.2.2.1
            have hlo := hF.2.2.2.2.2.2.2.2.2.1
            have hnf : nativeFrameWords "java/lang/System" "arraycopy" 5 ≤ 45 := by decide
            refine va_copyi hF.1 hF.2.1 (by rw [hF.2.2.1]; exact hlv.2.1.symm) hF.2.2.2.2.1 (hF.2.2.2.1 _ hl) (hF.2.2.2.1 _ hnat) (hF.2.2.2.1 _ hst') (hF.2.2.2.1 _ hini) hW.2.2.2.1 hW.1 hW.2.1 hW.2.2.1 a.2 b.2 t0 t1 ea2 eb2 ht0 ht1 (by decide) k1 m1 n1 (by rw [k2, n2]; exact l1) (by rw [m2, n2]; exact l2) (fun _ _ => rfl) (by omega) (by rw [xwords_ok hs5]; omega) hd (fun H1 locs1 hP1 hD1 hS1 => ?_)
            rw [k2, m2, n2] at hP1 hD1
            cases hra : ra.2.2 with
            | inr iv => rw [hra] at h3; cases h3
            | inl N0 =>
              cases hrb : rb.2.2 with
              | inr iv => rw [hra, hrb] at h3; cases h3
              | inl N1 =>
                rw [hra, hrb] at h3
                rw [hra] at ea7
                rw [hrb] at eb7
                generalize xh_ix sp.2 = isp at *
                generalize xh_ix dp.2 = idp at *
                generalize xh_ix n.2 = inn at *
                have h4 : xx_f (xh_cpy N0 inn isp idp N1) (fun N2 => xk_hset h b.2 (.inr (rb.1, rb.2.1, .inl N2)) fun h' => nx lv st h' sy ce sl) = some outs := h3
                rw [xx_f_eq] at h4
                obtain ⟨h', q6, q7, q8⟩ := xk_hset_ok h4
                have hrow : xrow (.inl (xh_cpy N0 inn isp idp N1)) rb.2.1 (va_cpy f f2 isp idp inn) := by
                  intro j hj
                  rw [xcpy_ok]
                  show (if idp ≤ j ∧ j < idp + inn then f (isp + (j - idp)) else f2 j) = _
                  by_cases hq : idp ≤ j ∧ j < idp + inn
                  · rw [if_pos hq, if_pos hq]
                    exact ea7 _ (by omega)
                  · rw [if_neg hq, if_neg hq]
                    exact eb7 _ hj
                have hW' := xWd_set hW eb2 hP1 hD1 hS1 q6 q7 (show xcell g.2.1 ρ (xaw ws) tys (.inr (rb.1, rb.2.1, .inl (xh_cpy N0 inn isp idp N1))) (.inl (cB, rb.2.1, .inl (va_cpy f f2 isp idp inn))) from ⟨cB, eb3, eb4, Or.inl ⟨_, rfl, eb6, hrow⟩⟩)
                have ew := xaw_set (e' := (.inl (cB, rb.2.1, .inl (va_cpy f f2 isp idp inn)) : va_E)) eb2
                exact hn _ _ _ _ _ _ _ q8 p e R s m args below meth c Q H1 locs1 ls _ ρ _ tys hF hW' hs hr (by rw [ew]; exact hs5) (by rw [ew]; exact hlv) (xRT_mono hRT (fun _ z => z) (xx_e_rf _) (by rw [ew]; exact xx_e_rf _))
          · omega
        · omega
/-- the greater, the less of two -/
theorem xs_mm {F : Int32 → Int32 → Int32} (hS : ∀ (p : Program) (e : Env) (R : Room) (s : State) (m : MethodId) (args : Array Value) (below : List Frame) (meth : Method) (c : Code) (Q : State → Prop) (H : Heap) (locs : List Loc) (ls : Array Slot) (rest : List Value) (x y : Int32) (ce sl : Nat), xF g M d p R s m args meth c → ls.size = M.2.2.1 → (rest.map fun v => v.category).sum ≤ 8 → ce ≤ M.2.2.2.2.1 → sl ≤ M.2.2.2.2.2.1 → W p g.1 e R s m args below meth c H locs ce sl Q (F0 m (pc + 3) ls (.int (F x y) :: rest)) → W p g.1 e R s m args below meth c H locs ce sl Q (F0 m pc ls (.int y :: .int x :: rest))) (hn : xNok g M d (pc + 3) nx) : xNok g M d pc (xd_mm M.2.2.2.2.1 M.2.2.2.2.2.1 F nx jp ag ca) := by
  intro lv st h sy ce sl outs hk p e R s m args below meth c Q H locs ls vs ρ ws tys hF' hW hs hr hst hlv hRT
  match st, hk, hst with
  | [], hk, _ => cases hk
  | [b], hk, _ => cases hk
  | b :: a :: st, hk, hst =>
    have hk' : cond (and (Nat.ble (xh_words st) 8) (and (Nat.ble ce M.2.2.2.2.1) (Nat.ble sl M.2.2.2.2.2.1))) (xh_bin (xn_of F) xg_any b a sy fun v sy' => nx lv (v :: st) h sy' ce sl) none = some outs := hk
    obtain ⟨c0, h1⟩ := xcd hk' rfl
    have c1 := xan c0
    have c2 := xan c1.2
    obtain ⟨vb, vs1, rfl, hb, hs1⟩ := xx_2_cons hst
    obtain ⟨va, vs2, rfl, ha, hs2⟩ := xx_2_cons hs1
    obtain ⟨x, y, v, sy', ρ', rfl, rfl, g1, g2, g3, g4, g5⟩ := xbin_ok (X := g.2.1) (aw := xaw ws) (xn_of_ok F) (xgood_any F) h1 hs ha hb
    refine hS p e R s m args below meth c Q H locs ls vs2 x y ce sl hF' hlv.2.1 (by rw [xwords_ok hs2]; exact Nat.le_of_ble_eq_true c1.1) (Nat.le_of_ble_eq_true c2.1) (Nat.le_of_ble_eq_true c2.2) ?_
    exact hn _ _ _ _ _ _ _ g1 p e R s m args below meth c Q H locs ls _ ρ' ws tys hF' (xWd_mono g2 hW) g3 (xx_e_tr hr g2) ⟨g4, xx_2_mono (fun _ _ q => xv_mono g2 (xx_e_rf _) q) hs2⟩ (xLv_mono g2 (xx_e_rf _) hlv) (xRT_mono hRT (fun _ z => z) g2 (xx_e_rf _))
theorem xs_max {idx : Nat} (hd : decode M.2.1 pc = .ok (.invokestatic idx, 3)) (hl : Cond.methodLink M.1.cls idx Lib.Math.max.name ∈ xTb) (hst' : Cond.static Lib.Math.max.name ∈ xTb) (hini : Cond.initialized "java/lang/Math" ∈ xTb) (hcode : Cond.code Lib.Math.max.name Lib.Math.max.code 2 (some .int) ∈ xTb) (hn : xNok g M d (pc + 3) nx) : xNok g M d pc (xd_mm M.2.2.2.2.1 M.2.2.2.2.2.1 xf_max nx jp ag ca) := by
  refine xs_mm (fun p e R s m args below meth c Q H locs ls rest x y ce sl hF hls hwd hce hsl k => ?_) hn
  have hfr := hF.2.2.2.2.2.2.2.2.1
  have hlo := hF.2.2.2.2.2.2.2.2.2.1
  have hcl := hF.2.2.2.2.2.2.2.2.2.2.1
  have hsll := hF.2.2.2.2.2.2.2.2.2.2.2
  exact va_mmax hF.1 hF.2.1 (by rw [hF.2.2.1]; exact hls.symm) hF.2.2.2.2.1 (hF.2.2.2.1 _ hl) (hF.2.2.2.1 _ hst') (hF.2.2.2.1 _ hini) (hF.2.2.2.1 _ hcode) (by omega) (by omega) (by omega) (by omega) hd k
theorem xs_min {idx : Nat} (hd : decode M.2.1 pc = .ok (.invokestatic idx, 3)) (hl : Cond.methodLink M.1.cls idx Lib.Math.min.name ∈ xTb) (hst' : Cond.static Lib.Math.min.name ∈ xTb) (hini : Cond.initialized "java/lang/Math" ∈ xTb) (hcode : Cond.code Lib.Math.min.name Lib.Math.min.code 2 (some .int) ∈ xTb) (hn : xNok g M d (pc + 3) nx) : xNok g M d pc (xd_mm M.2.2.2.2.1 M.2.2.2.2.2.1 xf_min nx jp ag ca) := by
  refine xs_mm (fun p e R s m args below meth c Q H locs ls rest x y ce sl hF hls hwd hce hsl k => ?_) hn
  have hfr := hF.2.2.2.2.2.2.2.2.1
  have hlo := hF.2.2.2.2.2.2.2.2.2.1
  have hcl := hF.2.2.2.2.2.2.2.2.2.2.1
  have hsll := hF.2.2.2.2.2.2.2.2.2.2.2
  exact va_mmin hF.1 hF.2.1 (by rw [hF.2.2.1]; exact hls.symm) hF.2.2.2.2.1 (hF.2.2.2.1 _ hl) (hF.2.2.2.1 _ hst') (hF.2.2.2.1 _ hini) (hF.2.2.2.1 _ hcode) (by omega) (by omega) (by omega) (by omega) hd k
end XU
end
section
/-! a method's contract out of its run -/
section XM
variable {g : xGl}
theorem xlay_ok {X : xX} {ρ : List Int32} {aw : List Nat} : ∀ {as : List xV} {vs : List Value}, xx_2 (xv X ρ aw) as vs → xx_2 (fun (a : xV) (sl : Slot) => a.1 = 9 ∨ ∃ v, sl = .val v ∧ xv X ρ aw a v) (xh_lay as) (lg_sl vs)
  | [], [], _ => trivial
  | a :: as, v :: vs, h => by
    have ih := xlay_ok h.2
    have hc := xv_cat h.1
    have e : lg_sl (v :: vs) = (if v.category = 2 then [Slot.val v, .second] else [.val v]) ++ lg_sl vs := by simp [lg_sl]
    rw [e]
    show xx_2 _ (cond (xc_l a) (a :: (9, 0) :: xh_lay as) (a :: xh_lay as)) _
    cases hl : xc_l a with
    | true =>
      rw [hl, if_pos rfl] at hc
      rw [if_pos hc]
      exact ⟨Or.inr ⟨v, rfl, h.1⟩, Or.inl rfl, ih⟩
    | false =>
      rw [hl, if_neg (by decide)] at hc
      rw [if_neg (by rw [hc]; decide)]
      exact ⟨Or.inr ⟨v, rfl, h.1⟩, ih⟩
  | [], _ :: _, h => absurd h id
  | _ :: _, [], h => absurd h id
theorem xentry_ok {X : xX} {ρ : List Int32} {aw : List Nat} {as : List xV} {vs : List Value} {n : Nat} (h : xx_2 (xv X ρ aw) as vs) (hn : (xh_lay as).length ≤ n) : xLv X ρ aw n (xh_lay as ++ List.replicate (n - (xh_lay as).length) (9, 0)) ((lg_sl vs ++ List.replicate (n - (lg_sl vs).length) Slot.unset).toArray) := by
  have h2 := xlay_ok h
  have hl := xx_2_len h2
  have he := lv_entry vs (n := n) (by rw [← hl]; exact hn)
  refine ⟨by rw [List.length_append, List.length_replicate]; omega, he.1, he.2.1, fun i a q1 q2 => ?_⟩
  by_cases hi : i < (xh_lay as).length
  · rw [List.getElem?_append_left hi] at q1
    obtain ⟨sl, e1, e2⟩ := xx_2_get h2 q1
    rcases e2 with e2 | ⟨v, rfl, e3⟩
    · exact absurd e2 q2
    · refine ⟨v, ?_, e3⟩
      rw [List.getElem?_toArray, List.getElem?_append_left (by rw [← hl]; exact hi)]
      exact e1
  · rw [List.getElem?_append_right (by omega)] at q1
    have := List.eq_of_mem_replicate (List.mem_of_getElem? q1)
    rw [this] at q2
    exact absurd rfl q2
/-- what a called method's tables say -/
def xNf (N : xM) : Prop := plainName N.1.cls = true ∧ Cond.code N.1 N.2.1 N.2.2.1 N.2.2.2.1 ∈ xTb ∧ Cond.initialized N.1.cls ∈ xTb ∧ N.1.cls ≠ "java/lang/invoke/MethodHandle" ∧ N.1.cls ≠ "java/lang/invoke/VarHandle" ∧ (parseMethodDescriptor N.1.desc).map (fun d => d.parameters.length) = some N.2.2.2.2.2.2.1
def xPc (g : xGl) (ws : va_W) (tys : List (ClassId × FieldType)) (vs : List Value) : Array Value → State → Prop := va_Pc vs fun U => g.2.2.2.1 ≤ U.heap.size ∧ va_P g.2.2.1 xcl ws U.heap ∧ va_D (xAA g.2.2.2.1) ws ∧ va_K g.2.2.1 xcl tys U ∧ xEX g.2.1 g.2.2.2.1 g.2.2.2.2.1 g.2.2.2.2.2 U U.heap
def xQc (g : xGl) (ρ : List Int32) (ws : va_W) (outs : List xO) : Array Value → State → Outcome → State → Prop := fun _ st oc t => va_F (xAA g.2.2.2.1) st t ∧ ∃ o ∈ outs, ∃ (ρ' : List Int32) (ws' : va_W) (tys' : List (ClassId × FieldType)), xx_e ρ ρ' ∧ xx_e (xaw ws) (xaw ws') ∧ xsat o.2.2 ρ' ∧ va_P g.2.2.1 xcl ws' t.heap ∧ va_D (xAA g.2.2.2.1) ws' ∧ va_K g.2.2.1 xcl tys' t ∧ o.2.1.1 = ws'.length ∧ (∀ (k : Nat) (p : Nat × va_E) (c : xC), ws'[k]? = some p → xl o.2.1 k = some c → xcell g.2.1 ρ' (xaw ws') tys' c p.2) ∧ ((o.1 = none ∧ oc = .returned none) ∨ ∃ a v, o.1 = some a ∧ oc = .returned (some v) ∧ xv g.2.1 ρ' (xaw ws') a v)
def xrm (N : xM) (d : Nat) : Room := { frames := d + 1, cells := N.2.2.2.2.1, slots := N.2.2.2.2.2.1, locals := 64 * (d + 1) }
abbrev xws (N : xM) : List Cond := Cond.code N.1 N.2.1 N.2.2.1 N.2.2.2.1 :: xTb
set_option maxHeartbeats 4000000 in
theorem xmet {N : xM} {d : Nat} {h : xH} {sy : xS} {outs : List xO} {as : List xV} {vs : List Value} {ρ : List Int32} {ws : va_W} {tys : List (ClassId × FieldType)} (hN : xNf N) (hlay : (xh_lay as).length ≤ N.2.2.1) (hok : xOk g N d 0 (xh_lay as ++ List.replicate (N.2.2.1 - (xh_lay as).length) (9, 0)) [] h sy 0 0 outs) (hs : xsat sy ρ) (hr : xx_e (xrho g) ρ) (hav : xx_2 (xv g.2.1 ρ (xaw ws)) as vs) (hh : h.1 = ws.length) (hcell : ∀ (k : Nat) (p : Nat × va_E) (c : xC), ws[k]? = some p → xl h k = some c → xcell g.2.1 ρ (xaw ws) tys c p.2) :
    Met g.1 N.1 (xws N) (xrm N d) (xPc g ws tys vs) (xQc g ρ ws outs) N.2.2.2.2.1 N.2.2.2.2.2.1 (xAA g.2.2.2.1) := by
  refine Met.ofW (cc := N.2.1) (maxL := N.2.2.1) (ret := N.2.2.2.1) hN.1 rfl ?_
  intro p e s m args below meth c s₁ B hml hv
  obtain ⟨rfl, hbs, hP, hD, hK, hE⟩ := hv
  have hts := atoms_spec (ws := xws N) B.pre
  have hown : s.vm.findClass N.1.cls = some m.cls := findClass_of_methodNamed B.named
  have hlocks := B.notSynchronized
  have hname : meth.name = N.1.name := (name_of_methodNamed B.named B.method).1
  rw [lg_entry_eq]
  refine hok p e (headSpec (xws N) (xrm N d)).room s m vs.toArray below meth c (MQ below (xQc g ρ ws outs) vs.toArray s N.2.2.2.2.1 N.2.2.2.2.2.1 (xAA g.2.2.2.1)) s.heap [] _ [] ρ ws tys ?_ ?_ hs hr trivial (xentry_ok hav hlay) ?_
  · exact ⟨B.exec, B.bytes, hml, fun w hw => hts w (List.mem_cons_of_mem _ hw), hown, fun h => by rw [hname]; exact h, hE, hbs, Nat.le_refl _, Nat.le_refl _, Nat.le_refl _, Nat.le_refl _⟩
  · exact ⟨hP, hD, va_S.rf, hK, hh, hcell⟩
  · intro o ho ρ' ws' tys' H' locs' ls' pc' ce' sl' e1 e2 e3 hW' hce hsl
    obtain ⟨w1, w2, w3, w4, w5, w6⟩ := hW'
    refine ⟨fun o1 r1 dg => ?_, fun a x ty o1 r1 hx hnar dg => ?_, fun a x o1 r1 hx dg => ?_⟩
    · refine W.widen hce hsl ?_
      refine W.vret (Qc := xQc g ρ ws outs) (free := xAA g.2.2.2.1) B.exec B.bytes (by rw [B.returns, r1]) (fun t ht hW => ?_) w3.2.2 dg hlocks
      exact ⟨w3.F ht, o, ho, ρ', ws', tys', e1, e2, e3, by rw [ht]; exact w1, w2, va_K.moved hW.alike w4, w5, w6, Or.inl ⟨o1, rfl⟩⟩
    · refine W.widen hce hsl ?_
      refine W.zret (Qc := xQc g ρ ws outs) (free := xAA g.2.2.2.1) (ty := ty) B.exec B.bytes (by rw [B.returns, r1]) hnar (fun t ht hW => ?_) w3.2.2 dg hlocks
      exact ⟨w3.F ht, o, ho, ρ', ws', tys', e1, e2, e3, by rw [ht]; exact w1, w2, va_K.moved hW.alike w4, w5, w6, Or.inr ⟨a, _, o1, rfl, hx⟩⟩
    · refine W.widen hce hsl ?_
      refine W.lret (Qc := xQc g ρ ws outs) (free := xAA g.2.2.2.1) B.exec B.bytes (by rw [B.returns, r1]) (fun t ht hW => ?_) w3.2.2 dg hlocks
      exact ⟨w3.F ht, o, ho, ρ', ws', tys', e1, e2, e3, by rw [ht]; exact w1, w2, va_K.moved hW.alike w4, w5, w6, Or.inr ⟨a, _, o1, rfl, hx⟩⟩
/-- what lies below stays so -/
theorem xEX_kept {X : xX} {bs L : Nat} {xs : Nat → Int32} {s U : State} {H : Heap} {locs : List Loc} (h : xEX X bs L xs s s.heap) (hb : bs ≤ s.heap.size) (hS : va_S (xAA bs) s.heap H locs) (hU : U.heap = H) (hW : s.WarmedH U.vm) : xEX X bs L xs U U.heap := by
  obtain ⟨h1, h2, h3, h4, h5, h6, h7⟩ := h
  have hq : ∀ a : Nat, a < s.heap.size → ¬ xAA bs a → U.heap[a]? = s.heap[a]? := fun a q1 q2 => by rw [hU]; exact hS.2.1 a q1 q2
  refine ⟨fun w hw => ?_, fun q hq => vk_R.warm hW (h2 q hq), (h3.moved hW.alike).kept hq, (h4.moved hW.alike).kept hq, (h5.moved hW.alike).kept hq, (h6.moved hW.alike).kept (hq _ (Nat.lt_of_lt_of_le h7 hb) (Nat.not_le.mpr h7)), h7⟩
  rcases xNW_ok w hw with ⟨a, i, b, n, d, ho, rfl⟩ | ⟨a, i, y, ho, rfl⟩
  · exact va_Nw.warmF hW (h1 _ hw)
  · exact va_Nw.warmM hW (h1 _ hw)
theorem xEX_call {X : xX} {bs L : Nat} {xs : Nat → Int32} {U : State} {f : JFrame} {mk : MethodId} {a : Array Value} (h : xEX X bs L xs U U.heap) : xEX X bs L xs (U.calling f mk a) (U.calling f mk a).heap := by
  obtain ⟨h1, h2, h3, h4, h5, h6, h7⟩ := h
  refine ⟨fun w hw => ?_, fun q hq => vk_R.same (U := U.calling f mk a) rfl (h2 q hq), vk_S.moved (U := U.calling f mk a) (Vm.Alike.refl U.vm) h3, va_Z.moved (U := U.calling f mk a) (Vm.Alike.refl U.vm) h4, va_Zq.moved (U := U.calling f mk a) (Vm.Alike.refl U.vm) h5, va_X.moved (U := U.calling f mk a) (Vm.Alike.refl U.vm) h6, h7⟩
  rcases xNW_ok w hw with ⟨a, i, b, n, d, ho, rfl⟩ | ⟨a, i, y, ho, rfl⟩
  · exact va_Nw.same rfl (rfl : U.vm = _) (h1 _ hw)
  · exact va_Nw.same rfl (rfl : U.vm = _) (h1 _ hw)
theorem xPc_blind (ws : va_W) (tys : List (ClassId × FieldType)) (vs : List Value) : FrameBlind (xPc g ws tys vs) := by
  intro a U f mk h
  obtain ⟨h0, h1, h2, h3, h4, h5⟩ := h
  exact ⟨h0, h1, h2, h3, va_K.moved (u := U) (U := U.calling f mk a) (Vm.Alike.refl U.vm) h4, xEX_call h5⟩
/-- behind a call -/
theorem xafter {p : Program} {l : Launch} {e : Env} {R : Room} {s : State} {m : MethodId} {args : Array Value} {below : List Frame} {meth : Method} {c : Code} {H : Heap} {locs : List Loc} {ce sl mc ms pc : Nat} {ls : Array Slot} {st0 rest : List Value} {Qa : State → Outcome → State → Prop} {free : Addr → Prop} {Q : State → Prop} (hr : va_Run p l e R s m args below meth c H locs ce sl mc ms (F0 m pc ls st0) rest Qa free) (kk : ∀ (v : Option Value) (st₀ t : State) (L : List Loc), st₀.heap = H → s.vm.Alike t.vm → (∀ q ∈ L, free q.base) → Qa st₀ (.returned v) t → W p l e R s m args below meth c t.heap (locs ++ L) (ce + mc) (sl + ms) Q (F0 m (pc + 3) ls (v.toList ++ rest))) : W p l e R s m args below meth c H locs ce sl Q (F0 m pc ls st0) := by
  intro T hT X
  obtain ⟨v, st₀, t, T', L, h0, X', hL, e1, e2, hq, st⟩ := hr T hT X
  obtain ⟨t2, a1, b1⟩ := kk v st₀ t L h0 (by rw [← e2]; exact X'.warmed.alike) hL hq T' e1 X'
  exact ⟨t2, st t2 a1, b1⟩
end XM
end
section
/-! calls -/
section XC
variable {g : xGl} {M : xM} {d pc : Nat} {nx ag : xN} {jp : Nat → xN} {G : xG} {ih : xI}
noncomputable abbrev xrows (G : xG) (N : xM) (l : List xE) : List xD := xd_rows G xNA N.2.2.2.2.1 N.2.2.2.2.2.1 N.2.2.2.1 l
theorem xd_meths_at (NA : List Nat) : ∀ (l : List xM) (i : Nat), (xd_meths G NA l)[i]? = (l[i]?).map (xd_meth G NA)
  | [], i => by show ([] : List xP)[i]? = _; simp
  | M :: l, 0 => rfl
  | M :: l, i + 1 => by
    show (xd_meth G NA M :: xd_meths G NA l)[i + 1]? = _
    rw [List.getElem?_cons_succ, List.getElem?_cons_succ]
    exact xd_meths_at NA l i
/-- what the run gives of a call -/
theorem xcall_un {mi mc ms : Nat} {as rest : List xV} {lv : List xV} {h : xH} {sy : xS} {ce sl : Nat} {outs : List xO} (hk : xh_call (xd_meths G xNA xMT) ih d mc ms nx mi as rest lv h sy ce sl = some outs) :
    ∃ d' N outs', d = d' + 1 ∧ xMT[mi]? = some N ∧ ce + N.2.2.2.2.1 ≤ mc ∧ sl + N.2.2.2.2.2.1 ≤ ms ∧ xh_words rest ≤ 8 ∧ N.2.2.1 ≤ 40 ∧ (xh_lay as).length ≤ N.2.2.1 ∧ ih d' N.2.2.2.2.1 N.2.2.2.2.2.1 (xrows G N N.2.2.2.2.2.2.2) (xrows G N N.2.2.2.2.2.2.2) (xh_lay as ++ List.replicate (N.2.2.1 - (xh_lay as).length) (9, 0)) [] h sy 0 0 = some outs' ∧
      ∀ o ∈ outs', ∃ r', nx lv (match o.1 with
        | none => rest
        | some v => v :: rest) o.2.1 o.2.2 (ce + N.2.2.2.2.1) (sl + N.2.2.2.2.2.1) = some r' ∧ ∀ x ∈ r', x ∈ outs := by
  cases d with
  | zero => cases hk
  | succ d' =>
    have h0 : (match xk_at (xd_meths G xNA xMT) mi with
      | none => none
      | some N => cond (and (Nat.ble (Nat.add ce N.2.1) mc) (and (Nat.ble (Nat.add sl N.2.2.1) ms) (and (Nat.ble (xh_words rest) 8) (Nat.ble N.1 40))))
          (xk_pad N.1 (xh_lay as) fun lv' => match ih d' N.2.1 N.2.2.1 N.2.2.2.2 N.2.2.2.2 lv' [] h sy 0 0 with
          | none => none
          | some outs => xh_all outs fun o => xx_f (Nat.add ce N.2.1) fun ce' => xx_f (Nat.add sl N.2.2.1) fun sl' => nx lv (match o.1 with
            | none => rest
            | some v => v :: rest) o.2.1 o.2.2 ce' sl') none) = some outs := hk
    rw [xk_at_eq, xd_meths_at] at h0
    cases hm : xMT[mi]? with
    | none => rw [hm] at h0; cases h0
    | some N =>
      rw [hm] at h0
      have h1 : cond (and (Nat.ble (Nat.add ce N.2.2.2.2.1) mc) (and (Nat.ble (Nat.add sl N.2.2.2.2.2.1) ms) (and (Nat.ble (xh_words rest) 8) (Nat.ble N.2.2.1 40))))
          (xk_pad N.2.2.1 (xh_lay as) fun lv' => match ih d' N.2.2.2.2.1 N.2.2.2.2.2.1 (xrows G N N.2.2.2.2.2.2.2) (xrows G N N.2.2.2.2.2.2.2) lv' [] h sy 0 0 with
          | none => none
          | some outs => xh_all outs fun o => xx_f (Nat.add ce N.2.2.2.2.1) fun ce' => xx_f (Nat.add sl N.2.2.2.2.2.1) fun sl' => nx lv (match o.1 with
            | none => rest
            | some v => v :: rest) o.2.1 o.2.2 ce' sl') none = some outs := h0
      obtain ⟨c0, h2⟩ := xcd h1 rfl
      have c1 := xan c0
      have c2 := xan c1.2
      have c3 := xan c2.2
      obtain ⟨hp, h3⟩ := xk_pad_ok h2
      have h3' : (match ih d' N.2.2.2.2.1 N.2.2.2.2.2.1 (xrows G N N.2.2.2.2.2.2.2) (xrows G N N.2.2.2.2.2.2.2) (xh_lay as ++ List.replicate (N.2.2.1 - (xh_lay as).length) (9, 0)) [] h sy 0 0 with
          | none => none
          | some outs => xh_all outs fun o => xx_f (Nat.add ce N.2.2.2.2.1) fun ce' => xx_f (Nat.add sl N.2.2.2.2.2.1) fun sl' => nx lv (match o.1 with
            | none => rest
            | some v => v :: rest) o.2.1 o.2.2 ce' sl') = some outs := h3
      cases hih : ih d' N.2.2.2.2.1 N.2.2.2.2.2.1 (xrows G N N.2.2.2.2.2.2.2) (xrows G N N.2.2.2.2.2.2.2) (xh_lay as ++ List.replicate (N.2.2.1 - (xh_lay as).length) (9, 0)) [] h sy 0 0 with
      | none => rw [hih] at h3'; cases h3'
      | some outs' =>
        rw [hih] at h3'
        have h4 : (xh_all outs' fun o => xx_f (Nat.add ce N.2.2.2.2.1) fun ce' => xx_f (Nat.add sl N.2.2.2.2.2.1) fun sl' => nx lv (match o.1 with
            | none => rest
            | some v => v :: rest) o.2.1 o.2.2 ce' sl') = some outs := h3'
        refine ⟨d', N, outs', rfl, rfl, Nat.le_of_ble_eq_true c1.1, Nat.le_of_ble_eq_true c2.1, Nat.le_of_ble_eq_true c3.1, Nat.le_of_ble_eq_true c3.2, hp, hih, fun o ho => ?_⟩
        obtain ⟨r', k1, k2⟩ := xall_ok h4 o ho
        rw [xx_f_eq, xx_f_eq] at k1
        exact ⟨r', k1, k2⟩
/-- the runs that are shorter are right -/
def xIok (g : xGl) (G : xG) (ih : xI) : Prop := ∀ N ∈ xMT, ∀ (pre suf : List xE), N.2.2.2.2.2.2.2 = pre ++ suf → ∀ (pc : Nat), (∀ (q : xE) (r : List xE), suf = q :: r → q.1 = pc) → ∀ d', xNok g N d' pc (ih d' N.2.2.2.2.1 N.2.2.2.2.2.1 (xrows G N N.2.2.2.2.2.2.2) (xrows G N suf))
/-- how a caller goes on -/
theorem xcont {N : xM} {outs outs' : List xO} {lv rest : List xV} {h : xH} {ce sl : Nat} {p : Program} {e : Env} {R : Room} {s : State} {m : MethodId} {args aargs : Array Value} {below : List Frame} {meth : Method} {c : Code} {Q : State → Prop} {H : Heap} {locs : List Loc} {ls : Array Slot} {vrest st0 : List Value} {ρ : List Int32} {ws : va_W} {tys : List (ClassId × FieldType)}
    (hF : xF g M d p R s m args meth c) (hW : xWg g ρ ws tys h H s locs) (hr : xx_e (xrho g) ρ) (hst : xx_2 (xv g.2.1 ρ (xaw ws)) rest vrest) (hlv : xLv g.2.1 ρ (xaw ws) M.2.2.1 lv ls) (hRT : xRT g M p e R s m args below meth c Q outs ρ ws) (hn : xNok g M d (pc + 3) nx)
    (hall : ∀ o ∈ outs', ∃ r', nx lv (match o.1 with
        | none => rest
        | some v => v :: rest) o.2.1 o.2.2 (ce + N.2.2.2.2.1) (sl + N.2.2.2.2.2.1) = some r' ∧ ∀ x ∈ r', x ∈ outs)
    (hrun : va_Run p g.1 e R s m args below meth c H locs ce sl N.2.2.2.2.1 N.2.2.2.2.2.1 (F0 m pc ls st0) vrest (xQc g ρ ws outs' aargs) (xAA g.2.2.2.1)) : W p g.1 e R s m args below meth c H locs ce sl Q (F0 m pc ls st0) := by
  refine xafter hrun (fun v st₀ t L h0 hvm hL hq => ?_)
  obtain ⟨⟨hz, hk⟩, o, ho, ρ', ws', tys', e1, e2, e3, w1, w2, w4, w5, w6, hret⟩ := hq
  rw [h0] at hz hk
  have hS := hW.2.2.1
  have hS' : va_S (xAA g.2.2.2.1) s.heap t.heap (locs ++ L) := ⟨Nat.le_trans hS.1 hz, fun q h1 h2 => by rw [hk q (Nat.lt_of_lt_of_le h1 hS.1) h2]; exact hS.2.1 q h1 h2, fun q hq => by
    rcases List.mem_append.mp hq with h | h
    · exact hS.2.2 q h
    · exact hL q h⟩
  have hW' : xWg g ρ' ws' tys' o.2.1 t.heap s (locs ++ L) := ⟨w1, w2, hS', va_K.moved hvm.symm w4, w5, w6⟩
  obtain ⟨r', k1, k2⟩ := hall o ho
  have hlv' := xLv_mono e1 e2 hlv
  have hst' := xx_2_mono (fun _ _ z => xv_mono (X := g.2.1) e1 e2 z) hst
  have hRT' := xRT_mono hRT k2 e1 e2
  rcases hret with ⟨o1, o2⟩ | ⟨a, w, o1, o2, o3⟩
  · injection o2 with o2
    subst o2
    rw [o1] at k1
    exact hn _ _ _ _ _ _ _ k1 p e R s m args below meth c Q t.heap _ ls _ ρ' ws' tys' hF hW' e3 (xx_e_tr hr e1) hst' hlv' hRT'
  · injection o2 with o2
    subst o2
    rw [o1] at k1
    exact hn _ _ _ _ _ _ _ k1 p e R s m args below meth c Q t.heap _ ls _ ρ' ws' tys' hF hW' e3 (xx_e_tr hr e1) ⟨o3, hst'⟩ hlv' hRT'
theorem xgoodin {N : xM} (hN : xNf N) : GoodIn xTb (xws N) := by
  intro w hw
  rcases List.mem_cons.mp hw with rfl | hw
  · exact ⟨hN.2.1, good_of_word (xTb_good _ hN.2.1)⟩
  · exact ⟨hw, good_of_word (xTb_good _ hw)⟩
theorem xpre {s : State} {H : Heap} {locs : List Loc} {h : xH} {ρ : List Int32} {ws : va_W} {tys : List (ClassId × FieldType)} {vs : List Value} {R : Room} {p : Program} {m : MethodId} {args : Array Value} {meth : Method} {c : Code} (hF : xF g M d p R s m args meth c) (hW : xWg g ρ ws tys h H s locs) : PreS s H (xPc g ws tys vs) vs := by
  refine ⟨xPc_blind ws tys vs, fun U hU hWm => ⟨rfl, ?_, ?_, hW.2.1, va_K.moved hWm.alike hW.2.2.2.1, ?_⟩⟩
  · rw [hU]
    exact Nat.le_trans hF.2.2.2.2.2.2.2.1 hW.2.2.1.1
  · rw [hU]
    exact hW.1
  · exact xEX_kept hF.2.2.2.2.2.2.1 hF.2.2.2.2.2.2.2.1 hW.2.2.1 hU hWm
/-- a static method -/
theorem xs_stat {mi idx : Nat} {N : xM} (hI : xIok g G ih) (hd : decode M.2.1 pc = .ok (.invokestatic idx, 3)) (hm : xMT[mi]? = some N) (hN : xNf N) (h0 : ∀ (q : xE) (r : List xE), N.2.2.2.2.2.2.2 = q :: r → q.1 = 0) (hl : Cond.methodLink M.1.cls idx N.1 ∈ xTb ∨ ∃ host, Cond.methodLinkNest M.1.cls idx N.1 host ∈ xNW) (hstat : Cond.static N.1 ∈ xTb) (hn : xNok g M d (pc + 3) nx) : xNok g M d pc (xd_stat N.2.2.2.2.2.2.1 mi nx jp ag (xh_call (xd_meths G xNA xMT) ih d M.2.2.2.2.1 M.2.2.2.2.2.1 nx)) := by
  intro lv st h sy ce sl outs hk p e R s m args below meth c Q H locs ls vs ρ ws tys hF hW hs hr hst hlv hRT
  obtain ⟨st1, st2, rfl, hlen, hk2⟩ := xk_take_ok hk
  rw [List.append_nil] at hk2
  obtain ⟨vs1, vs2, rfl, ha, hrest⟩ := xx_2_split hst
  obtain ⟨d', N', outs', rfl, hm', hce, hsl, hwd, hml40, hlay, hih, hall⟩ := xcall_un hk2
  cases hm.symm.trans hm'
  have hok := hI N (List.mem_of_getElem? hm) [] _ rfl 0 h0 d' _ _ _ _ _ _ _ hih
  have hav := xx_2_rev ha
  have hM := xmet hN hlay hok hs hr hav hW.2.2.2.2.1 hW.2.2.2.2.2
  have hfr := hF.2.2.2.2.2.2.2.2.1
  have hlo := hF.2.2.2.2.2.2.2.2.2.1
  have hR : (xrm N d').frames + 1 ≤ R.frames ∧ 8 + (N.2.2.1 + 11) + (xrm N d').locals ≤ R.locals := ⟨hfr, by show 8 + (N.2.2.1 + 11) + 64 * (d' + 1) ≤ _; omega⟩
  have hlen2 : vs1.reverse.length = N.2.2.2.2.2.2.1 := by rw [List.length_reverse, ← xx_2_len ha, hlen]
  have hcells : ce + N.2.2.2.2.1 ≤ R.cells ∧ sl + N.2.2.2.2.2.1 ≤ R.slots := ⟨Nat.le_trans hce hF.2.2.2.2.2.2.2.2.2.2.1, Nat.le_trans hsl hF.2.2.2.2.2.2.2.2.2.2.2⟩
  have hwords : 2 * (F0 m pc ls (vs1 ++ vs2)).monitorRoom + (vs2.map fun v => v.category).sum ≤ 8 := lv_room (by rw [xwords_ok hrest]; exact hwd)
  refine xcont (N := N) (aargs := vs1.reverse.toArray) hF hW hr hrest hlv hRT hn hall ?_
  rcases hl with hl | ⟨host, hl⟩
  · exact va_runS (As := vs1.reverse) (rest := vs2) ⟨hF.1, hF.2.1, hF.2.2.1, hF.2.2.2.2.1, hF.2.2.2.1⟩ hM ⟨callB_of N.2.2.2.2.2.2.1 hF.2.2.2.1 (xgoodin hN) rfl rfl rfl (hF.2.2.2.1 _ hN.2.2.1) (hF.2.2.2.1 _ hl) ⟨hN.2.2.2.1, hN.2.2.2.2.1, hN.2.2.2.2.2⟩ hR, hF.2.2.2.1 _ hstat⟩ (xpre hF hW) rfl hlen2 hlv.2.1 (by rw [List.reverse_reverse]) hwords hd hcells
  · exact va_runSN (As := vs1.reverse) (rest := vs2) (host := host) ⟨hF.1, hF.2.1, hF.2.2.1, hF.2.2.2.2.1, hF.2.2.2.1⟩ hM ⟨va_cnB N.2.2.2.2.2.2.1 hF.2.2.2.1 (xgoodin hN) rfl rfl rfl (hF.2.2.2.2.2.2.1.1 _ hl) (hF.2.2.2.1 _ hN.2.2.1) ⟨hN.2.2.2.1, hN.2.2.2.2.1, hN.2.2.2.2.2⟩ hR, hF.2.2.2.1 _ hstat, trivial⟩ (xpre hF hW) rfl hlen2 hlv.2.1 (by rw [List.reverse_reverse]) hwords hd hcells
/-- a constructor -/
theorem xs_init {mi idx : Nat} {N : xM} (hI : xIok g G ih) (hd : decode M.2.1 pc = .ok (.invokespecial idx, 3)) (hm : xMT[mi]? = some N) (hN : xNf N) (h0 : ∀ (q : xE) (r : List xE), N.2.2.2.2.2.2.2 = q :: r → q.1 = 0) (hl : Cond.methodLink M.1.cls idx N.1 ∈ xTb ∨ ∃ host, Cond.methodLinkNest M.1.cls idx N.1 host ∈ xNW) (hinst : Cond.instanceMethod N.1 ∈ xTb) (hname : N.1.name = "<init>") (hret : N.2.2.2.1 = none) (hn : xNok g M d (pc + 3) nx) : xNok g M d pc (xd_init N.2.2.2.2.2.2.1 mi nx jp ag (xh_call (xd_meths G xNA xMT) ih d M.2.2.2.2.1 M.2.2.2.2.2.1 nx)) := by
  intro lv st h sy ce sl outs hk p e R s m args below meth c Q H locs ls vs ρ ws tys hF hW hs hr hst hlv hRT
  obtain ⟨st1, st2, rfl, hlen, hk2⟩ := xk_take_ok hk
  rw [List.append_nil] at hk2
  obtain ⟨vs1, vs2, rfl, ha, hrest⟩ := xx_2_split hst
  cases st2 with
  | nil => cases hk2
  | cons b rest =>
    have hk3 : cond (Nat.beq b.1 3) (xh_call (xd_meths G xNA xMT) ih d M.2.2.2.2.1 M.2.2.2.2.2.1 nx mi (b :: st1.reverse) rest lv h sy ce sl) none = some outs := hk2
    obtain ⟨c0, hk4⟩ := xcd hk3 rfl
    obtain ⟨vb, vs3, rfl, hb, hrest2⟩ := xx_2_cons hrest
    obtain ⟨q, hq1, rfl⟩ := xv_3 c0 hb
    obtain ⟨d', N', outs', rfl, hm', hce, hsl, hwd, hml40, hlay, hih, hall⟩ := xcall_un hk4
    cases hm.symm.trans hm'
    have hok := hI N (List.mem_of_getElem? hm) [] _ rfl 0 h0 d' _ _ _ _ _ _ _ hih
    have hav : xx_2 (xv g.2.1 ρ (xaw ws)) (b :: st1.reverse) (.ref q :: vs1.reverse) := ⟨hb, xx_2_rev ha⟩
    have hM := xmet hN hlay hok hs hr hav hW.2.2.2.2.1 hW.2.2.2.2.2
    have hfr := hF.2.2.2.2.2.2.2.2.1
    have hlo := hF.2.2.2.2.2.2.2.2.2.1
    have hR : (xrm N d').frames + 1 ≤ R.frames ∧ 8 + (N.2.2.1 + 11) + (xrm N d').locals ≤ R.locals := ⟨hfr, by show 8 + (N.2.2.1 + 11) + 64 * (d' + 1) ≤ _; omega⟩
    have hlen2 : vs1.reverse.length = N.2.2.2.2.2.2.1 := by rw [List.length_reverse, ← xx_2_len ha, hlen]
    have hcells : ce + N.2.2.2.2.1 ≤ R.cells ∧ sl + N.2.2.2.2.2.1 ≤ R.slots := ⟨Nat.le_trans hce hF.2.2.2.2.2.2.2.2.2.2.1, Nat.le_trans hsl hF.2.2.2.2.2.2.2.2.2.2.2⟩
    have hwords : 2 * (F0 m pc ls (vs1 ++ .ref q :: vs3)).monitorRoom + (vs3.map fun v => v.category).sum ≤ 8 := lv_room (by rw [xwords_ok hrest2]; exact hwd)
    have hrw : xws N = Cond.code N.1 N.2.1 N.2.2.1 none :: xTb := by rw [← hret]
    refine xcont (N := N) (aargs := (Value.ref q :: vs1.reverse).toArray) hF hW hr hrest2 hlv hRT hn hall ?_
    rcases hl with hl | ⟨host, hl⟩
    · exact va_runI (As := vs1.reverse) (rest := vs3) ⟨hF.1, hF.2.1, hF.2.2.1, hF.2.2.2.2.1, hF.2.2.2.1⟩ hM ⟨callB_of N.2.2.2.2.2.2.1 hF.2.2.2.1 (xgoodin hN) hrw rfl rfl (hF.2.2.2.1 _ hN.2.2.1) (hF.2.2.2.1 _ hl) ⟨hN.2.2.2.1, hN.2.2.2.2.1, hN.2.2.2.2.2⟩ hR, hname, hF.2.2.2.1 _ hinst⟩ (xpre hF hW) rfl hlen2 hlv.2.1 (by rw [List.reverse_reverse]) hwords hd hcells
    · exact va_runIN (As := vs1.reverse) (rest := vs3) (host := host) ⟨hF.1, hF.2.1, hF.2.2.1, hF.2.2.2.2.1, hF.2.2.2.1⟩ hM ⟨va_cnB N.2.2.2.2.2.2.1 hF.2.2.2.1 (xgoodin hN) hrw rfl rfl (hF.2.2.2.2.2.2.1.1 _ hl) (hF.2.2.2.1 _ hN.2.2.1) ⟨hN.2.2.2.1, hN.2.2.2.2.1, hN.2.2.2.2.2⟩ hR, hname, hF.2.2.2.1 _ hinst⟩ (xpre hF hW) rfl hlen2 hlv.2.1 (by rw [List.reverse_reverse]) hwords hd hcells
/-- an instance method -/
theorem xs_virt {mi ci idx : Nat} {N : xM} (hG : xGok g G) (hI : xIok g G ih) (hd : decode M.2.1 pc = .ok (.invokevirtual idx, 3)) (hm : xMT[mi]? = some N) (hN : xNf N) (h0 : ∀ (q : xE) (r : List xE), N.2.2.2.2.2.2.2 = q :: r → q.1 = 0) (hl : Cond.methodLink M.1.cls idx N.1 ∈ xTb ∨ ∃ host, Cond.methodLinkNest M.1.cls idx N.1 host ∈ xNW) (hinst : Cond.instanceMethod N.1 ∈ xTb) (hsel : Cond.selects N.1.cls N.1 N.1 ∈ xTb) (hci : (∃ q, xcl[ci]? = some q ∧ q.1 = N.1.cls) ∨ (ci = 1000 ∧ N.1.cls = "java/lang/String" ∧ xcl[1000]? = none)) (hn : xNok g M d (pc + 3) nx) : xNok g M d pc (xd_virt G N.2.2.2.2.2.2.1 mi ci nx jp ag (xh_call (xd_meths G xNA xMT) ih d M.2.2.2.2.1 M.2.2.2.2.2.1 nx)) := by
  intro lv st h sy ce sl outs hk p e R s m args below meth c Q H locs ls vs ρ ws tys hF hW hs hr hst hlv hRT
  obtain ⟨st1, st2, rfl, hlen, hk2⟩ := xk_take_ok hk
  rw [List.append_nil] at hk2
  obtain ⟨vs1, vs2, rfl, ha, hrest⟩ := xx_2_split hst
  cases st2 with
  | nil => cases hk2
  | cons b rest =>
    obtain ⟨vb, vs3, rfl, hb, hrest2⟩ := xx_2_cons hrest
    have hk3 : cond (Nat.beq b.1 3) (xk_hget h b.2 fun c => match c with
      | .inl o => cond (Nat.beq o.1 ci) (xh_call (xd_meths G xNA xMT) ih d M.2.2.2.2.1 M.2.2.2.2.2.1 nx mi (b :: st1.reverse) rest lv h sy ce sl) none
      | .inr _ => none) (cond (and (Nat.beq b.1 7) (and (Nat.beq ci 1000) (Nat.ble (Nat.succ b.2) G.2.2.1.length))) (xh_call (xd_meths G xNA xMT) ih d M.2.2.2.2.1 M.2.2.2.2.2.1 nx mi (b :: st1.reverse) rest lv h sy ce sl) none) = some outs := hk2
    -- the receiver
    have hrc : ∃ q, vb = .ref q ∧ (∃ cell : Cell, H[q]? = some cell ∧ cell.vm.isStatics = false ∧ s.vm.findClass N.1.cls = some cell.cls) ∧ xh_call (xd_meths G xNA xMT) ih d M.2.2.2.2.1 M.2.2.2.2.2.1 nx mi (b :: st1.reverse) rest lv h sy ce sl = some outs := by
      cases h3 : Nat.beq b.1 3 with
      | true =>
        rw [h3] at hk3
        have hk4 : (xk_hget h b.2 fun c => match c with
          | .inl o => cond (Nat.beq o.1 ci) (xh_call (xd_meths G xNA xMT) ih d M.2.2.2.2.1 M.2.2.2.2.2.1 nx mi (b :: st1.reverse) rest lv h sy ce sl) none
          | .inr _ => none) = some outs := hk3
        obtain ⟨x, g1, g2⟩ := xk_hget_ok hk4
        cases x with
        | inr r => cases g2
        | inl o =>
          have g3 : cond (Nat.beq o.1 ci) (xh_call (xd_meths G xNA xMT) ih d M.2.2.2.2.1 M.2.2.2.2.2.1 nx mi (b :: st1.reverse) rest lv h sy ce sl) none = some outs := g2
          obtain ⟨q1, q2⟩ := xcd g3 rfl
          obtain ⟨q, en, rfl, e2, vs', rfl, e4⟩ := xWd_get hW h3 hb g1
          rw [Nat.eq_of_beq_eq_true q1] at e2
          refine ⟨q, rfl, ?_, q2⟩
          rcases hci with ⟨r, r1, r2⟩ | ⟨r1, -, r3⟩
          · rw [← r2]
            exact va_recv hW.2.2.2.1 hW.1 r1 e2
          · obtain ⟨r, r4, -⟩ := hW.1 _ _ e2
            rw [r1] at r4
            rw [r3] at r4
            cases r4
      | false =>
        rw [h3] at hk3
        have hk4 : cond (and (Nat.beq b.1 7) (and (Nat.beq ci 1000) (Nat.ble (Nat.succ b.2) G.2.2.1.length))) (xh_call (xd_meths G xNA xMT) ih d M.2.2.2.2.1 M.2.2.2.2.2.1 nx mi (b :: st1.reverse) rest lv h sy ce sl) none = some outs := hk3
        obtain ⟨q1, q2⟩ := xcd hk4 rfl
        have q1' := xan q1
        have q1'' := xan q1'.2
        have ev := xv_7 q1'.1 hb
        subst ev
        refine ⟨_, rfl, ?_, q2⟩
        have hlt : b.2 < xBY.length := by
          have := q1''.2
          rw [hG.2.1] at this
          exact Nat.le_of_ble_eq_true this
        have e1000 : ci = 1000 := Nat.eq_of_beq_eq_true q1''.1
        rcases hci with ⟨r, r1, r2⟩ | ⟨r1, r2, r3⟩
        · rw [e1000, xcl_1000] at r1
          cases r1
        · rw [r2]
          exact vk_recv hF.2.2.2.2.2.2.1.2.2.1 hlt hW.2.2.1
    obtain ⟨q, rfl, hcellB, hk4⟩ := hrc
    obtain ⟨d', N', outs', rfl, hm', hce, hsl, hwd, hml40, hlay, hih, hall⟩ := xcall_un hk4
    cases hm.symm.trans hm'
    have hok := hI N (List.mem_of_getElem? hm) [] _ rfl 0 h0 d' _ _ _ _ _ _ _ hih
    have hav : xx_2 (xv g.2.1 ρ (xaw ws)) (b :: st1.reverse) (.ref q :: vs1.reverse) := ⟨hb, xx_2_rev ha⟩
    have hM := xmet hN hlay hok hs hr hav hW.2.2.2.2.1 hW.2.2.2.2.2
    have hfr := hF.2.2.2.2.2.2.2.2.1
    have hlo := hF.2.2.2.2.2.2.2.2.2.1
    have hR : (xrm N d').frames + 1 ≤ R.frames ∧ 8 + (N.2.2.1 + 11) + (xrm N d').locals ≤ R.locals := ⟨hfr, by show 8 + (N.2.2.1 + 11) + 64 * (d' + 1) ≤ _; omega⟩
    have hlen2 : vs1.reverse.length = N.2.2.2.2.2.2.1 := by rw [List.length_reverse, ← xx_2_len ha, hlen]
    have hcells : ce + N.2.2.2.2.1 ≤ R.cells ∧ sl + N.2.2.2.2.2.1 ≤ R.slots := ⟨Nat.le_trans hce hF.2.2.2.2.2.2.2.2.2.2.1, Nat.le_trans hsl hF.2.2.2.2.2.2.2.2.2.2.2⟩
    have hwords : 2 * (F0 m pc ls (vs1 ++ .ref q :: vs3)).monitorRoom + (vs3.map fun v => v.category).sum ≤ 8 := lv_room (by rw [xwords_ok hrest2]; exact hwd)
    have hp := xpre (vs := .ref q :: vs1.reverse) hF hW
    refine xcont (N := N) (aargs := (Value.ref q :: vs1.reverse).toArray) hF hW hr hrest2 hlv hRT hn hall ?_
    rcases hl with hl | ⟨host, hl⟩
    · exact va_runV (C := N.1.cls) (As := vs1.reverse) (rest := vs3) ⟨hF.1, hF.2.1, hF.2.2.1, hF.2.2.2.2.1, hF.2.2.2.1⟩ hM ⟨callB_of N.2.2.2.2.2.2.1 hF.2.2.2.1 (xgoodin hN) rfl rfl rfl (hF.2.2.2.1 _ hN.2.2.1) (hF.2.2.2.1 _ hl) ⟨hN.2.2.2.1, hN.2.2.2.2.1, hN.2.2.2.2.2⟩ hR, hF.2.2.2.1 _ hinst, hF.2.2.2.1 _ hsel⟩ ⟨hp.1, hcellB, hp.2⟩ rfl hlen2 hlv.2.1 (by rw [List.reverse_reverse]) hwords hd hcells
    · exact va_runVN (C := N.1.cls) (As := vs1.reverse) (rest := vs3) (host := host) ⟨hF.1, hF.2.1, hF.2.2.1, hF.2.2.2.2.1, hF.2.2.2.1⟩ hM ⟨va_cnB N.2.2.2.2.2.2.1 hF.2.2.2.1 (xgoodin hN) rfl rfl rfl (hF.2.2.2.2.2.2.1.1 _ hl) (hF.2.2.2.1 _ hN.2.2.1) ⟨hN.2.2.2.1, hN.2.2.2.2.1, hN.2.2.2.2.2⟩ hR, hF.2.2.2.1 _ hinst, hF.2.2.2.1 _ hsel⟩ ⟨hp.1, hcellB, hp.2⟩ rfl hlen2 hlv.2.1 (by rw [List.reverse_reverse]) hwords hd hcells
end XC
end
section
/-! what is decided of the rows, and what it gives -/
theorem xwd_ok {i : Nat} {w : Cond} (h : xwd i w = true) : w ∈ xTb := by
  unfold xwd at h
  rw [xk_at_eq] at h
  split at h
  · rename_i l hl
    rw [xk_at_eq] at h
    split at h
    · rename_i w' e
      have h' := xan h
      have e2 : w' = w := of_decide_eq_true h'.1
      rw [e2] at e
      exact List.mem_filter.mpr ⟨xch_ok l (List.mem_of_getElem? hl) w (List.mem_of_getElem? e), h'.2⟩
    · cases h
  · cases h
theorem xlayb_ok {C : String} {T : u_T} : ∀ {l : List Nat} {k : Nat}, xlayb C T k l = true → ∀ j, j < l.length → u_lay C T (k + j) ∈ xTb
  | [], _, _, j, hj => absurd hj (Nat.not_lt_zero j)
  | i :: l, k, h, 0, _ => xwd_ok (xan h).1
  | i :: l, k, h, j + 1, hj => by
    have := xlayb_ok (xan h).2 j (by simpa using hj)
    rw [show k + (j + 1) = k + 1 + j by omega]
    exact this
theorem xlays_ok {C : String} {T : u_T} {N : Nat} (l : List Nat) (hl : l.length = N) (h : xlayb C T 0 l = true) : ∀ w ∈ u_ws C T N, w ∈ xTb := by
  intro w hw
  obtain ⟨k, hk, rfl⟩ := List.mem_map.mp hw
  have := xlayb_ok h k (by rw [hl]; exact List.mem_range.mp hk)
  rw [Nat.zero_add] at this
  exact this
def xCf (ci : Nat) (q : vw_C) (ty0 : Nat → FieldType) (df : List xV) : Prop := (∀ w ∈ u_ws q.1 q.2.1 q.2.2, w ∈ xTb) ∧ (∀ k, k < q.2.2 → parseFieldDescriptor (q.2.1 k).2.2.1 = some (ty0 k)) ∧ (∀ a, a < q.2.2 → ∀ b, b < q.2.2 → a ≠ b → (q.2.1 a).2.1 ≠ (q.2.1 b).2.1) ∧ xDF[ci]? = some df ∧ df.length = q.2.2 ∧ df.all xdok = true ∧ (∀ j, j < q.2.2 → defaultValue (ty0 j) = vp_V (df.map xdv) j) ∧ Cond.instantiable q.1 q.2.2 ∈ xTb ∧ Cond.initialized q.1 ∈ xTb
theorem xnst_ok {j : Nat} {w : Cond} (h : xnst j w = true) : w ∈ xNW := by
  unfold xnst at h
  rw [xk_at_eq] at h
  split at h
  · rename_i w' e
    have e2 : w' = w := of_decide_eq_true h
    rw [e2] at e
    exact List.mem_of_getElem? e
  · cases h
theorem xjmp_ok {ents : List xE} {pc : Nat} {off : Int} {j : Nat} (h : xjmp ents pc off j = true) : ∃ e, ents[j]? = some e ∧ (pc : Int) + off = (e.1 : Int) := by
  unfold xjmp at h
  rw [xk_at_eq] at h
  split at h
  · rename_i e q
    exact ⟨e, q, of_decide_eq_true h⟩
  · cases h
theorem xtabs_ok {ents : List xE} {pc N : Nat} : ∀ {l : List Int} {j : Nat}, xtabs ents pc N l j = true → ∀ i o, l[i]? = some o → xjmp ents pc o (xx_g 16 N (j + i)) = true
  | [], _, _, i, o, h => by simp at h
  | a :: l, j, H, 0, o, h => by
    cases h
    exact (xan H).1
  | a :: l, j, H, i + 1, o, h => by
    rw [List.getElem?_cons_succ] at h
    have := xtabs_ok (xan H).2 i o h
    rw [show j + (i + 1) = j + 1 + i by omega]
    exact this
theorem xstr_ok {cls : String} {i n : Nat} (h : xstr cls i n = true) : ∃ tx, (cls, i, tx, n) ∈ xSR := by
  obtain ⟨q, h1, h2⟩ := List.any_eq_true.mp h
  have h3 := xan h2
  have h4 := xan h3.2
  obtain ⟨a, b, c, d⟩ := q
  have e1 : a = cls := of_decide_eq_true h3.1
  have e2 : b = i := of_decide_eq_true h4.1
  have e3 : d = n := of_decide_eq_true h4.2
  subst e1
  subst e2
  subst e3
  exact ⟨c, h1⟩
/-- what is known of Object's constructor, arraycopy, Math -/
def xJd : Prop := (Cond.instanceMethod objectInit ∈ xTb ∧ Cond.code objectInit ⟨#[0xb1]⟩ 1 none ∈ xTb) ∧ (Cond.native arraycopyName ∈ xTb ∧ Cond.static arraycopyName ∈ xTb ∧ Cond.initialized "java/lang/System" ∈ xTb) ∧ Cond.initialized "java/lang/Math" ∈ xTb ∧ (Cond.static Lib.Math.max.name ∈ xTb ∧ Cond.code Lib.Math.max.name Lib.Math.max.code 2 (some .int) ∈ xTb) ∧ Cond.static Lib.Math.min.name ∈ xTb ∧ Cond.code Lib.Math.min.name Lib.Math.min.code 2 (some .int) ∈ xTb
theorem xmb_ok {N : xM} {q : Nat × Nat × Nat × Nat} (h : xmb N q = true) : xNf N := by
  have h1 := xan h
  have h2 := xan h1.2
  have h3 := xan h2.2
  have h4 := xan h3.2
  have h5 := xan h4.2
  exact ⟨h1.1, xwd_ok h2.1, xwd_ok h3.1, of_decide_eq_true h4.1, of_decide_eq_true h5.1, of_decide_eq_true h5.2⟩
theorem xlnk_ok {own : String} {i a2 w : Nat} {y : MethodName} (h : xlnk own i a2 w y = true) : Cond.methodLink own i y ∈ xTb ∨ ∃ host, Cond.methodLinkNest own i y host ∈ xNW := by
  unfold xlnk at h
  cases hc : Nat.beq a2 1 with
  | true => rw [hc] at h; exact Or.inr ⟨_, xnst_ok h⟩
  | false => rw [hc] at h; exact Or.inl (xwd_ok h)
theorem xinv_ok {a1 : Nat} {k : xM → Nat × Nat × Nat × Nat → Bool} (h : xinv a1 k = true) : ∃ N q, xMT[a1]? = some N ∧ xNf N ∧ xk_at xNA a1 = some N.2.2.2.2.2.2.1 ∧ (∀ (e : xE) (r : List xE), N.2.2.2.2.2.2.2 = e :: r → e.1 = 0) ∧ k N q = true := by
  unfold xinv at h
  split at h
  · cases h
  · rename_i N hN
    split at h
    · cases h
    · rename_i q hq
      have h1 := xan h
      have h2 := xan h1.2
      have h3 := xan h2.2
      rw [xk_at_eq] at hN
      refine ⟨N, q, hN, xmb_ok h1.1, ?_, fun e r he => ?_, h3.2⟩
      · have h4 := h2.1
        split at h4
        · rename_i n hn
          rw [hn, Nat.eq_of_beq_eq_true h4]
        · cases h4
      · have h4 := h3.1
        rw [he] at h4
        exact Nat.eq_of_beq_eq_true h4
theorem xallb_ok {M : xM} : ∀ {l : List xE}, xallb M l = true → ∀ e ∈ l, xvb M e = true
  | [], _, e, h => absurd h List.not_mem_nil
  | a :: l, H, e, h => by
    have H' : cond (xvb M a) (xallb M l) false = true := H
    cases hv : xvb M a with
    | false => rw [hv] at H'; cases H'
    | true =>
      rw [hv] at H'
      rcases List.mem_cons.mp h with rfl | h
      · exact hv
      · exact xallb_ok H' e h
theorem xchain_ok : ∀ {pre : List xE} {e f : xE} {r : List xE}, xchain (pre ++ e :: f :: r) = true → f.1 = e.1 + e.2.1
  | [], e, f, r, h => Nat.eq_of_beq_eq_true (xan h).1
  | [a], e, f, r, h => xchain_ok (pre := []) (xan h).2
  | a :: b :: pre, e, f, r, h => xchain_ok (pre := b :: pre) (xan h).2
end
section
/-! every row is right: then every run is -/
section XZ
variable {g : xGl} {G : xG} {ih : xI}
theorem xd_rows_drop (NA : List Nat) (mc ms : Nat) (ret : Option FieldType) : ∀ (l : List xE) (j : Nat), (xd_rows G NA mc ms ret l).drop j = xd_rows G NA mc ms ret (l.drop j)
  | l, 0 => rfl
  | [], j + 1 => rfl
  | e :: l, j + 1 => xd_rows_drop NA mc ms ret l j
theorem xnok_none {M : xM} {d pc : Nat} {k : xN} (h : ∀ lv st h sy ce sl, k lv st h sy ce sl = none) : xNok g M d pc k := by
  intro lv st h' sy ce sl outs hk
  rw [h] at hk
  cases hk
theorem xtlook_ok {x : Int32} {iv : Int × Int} {d : Int} {dft N : Nat} (b1 : iv.1 ≤ x.toInt) (b2 : x.toInt ≤ iv.2) : ∀ {l : List (Int × Int)} {j0 j : Nat}, xh_tlook l j0 dft N iv = some j → (j = dft ∧ Op.lookupswitch.offset l d x.toInt = d) ∨ ∃ i o, l[i]? = some o ∧ j = xx_g 16 N (j0 + i) ∧ Op.lookupswitch.offset l d x.toInt = o.2
  | [], j0, j, h => by
    cases h
    exact Or.inl ⟨rfl, rfl⟩
  | (a, o) :: l, j0, j, h => by
    unfold xh_tlook at h
    split at h
    · rename_i q
      have hne : ¬ x.toInt = a := by
        rcases Bool.or_eq_true_iff.mp q with q | q
        · have := of_decide_eq_true q
          have : iv.2 < a := this
          omega
        · have := of_decide_eq_true q
          have : a < iv.1 := this
          omega
      have e : Op.lookupswitch.offset ((a, o) :: l) d x.toInt = Op.lookupswitch.offset l d x.toInt := by
        rw [Op.lookupswitch.offset_cons, if_neg]
        intro z
        exact hne z.symm
      rcases xtlook_ok (d := d) b1 b2 h with ⟨h1, h2⟩ | ⟨i, p, h1, h2, h3⟩
      · exact Or.inl ⟨h1, by rw [e]; exact h2⟩
      · exact Or.inr ⟨i + 1, p, by rw [List.getElem?_cons_succ]; exact h1, by rw [h2, show j0 + 1 + i = j0 + (i + 1) by omega], by rw [e]; exact h3⟩
    · rename_i q
      split at h
      · rename_i q2
        cases h
        have hq2 := of_decide_eq_true q2
        have hx : x.toInt = a := by
          have q' : ¬ (iv.2 < a) ∧ ¬ (a < iv.1) := by
            rw [Bool.or_eq_true_iff, not_or] at q
            exact ⟨fun z => q.1 (decide_eq_true z), fun z => q.2 (decide_eq_true z)⟩
          omega
        refine Or.inr ⟨0, (a, o), rfl, rfl, ?_⟩
        rw [Op.lookupswitch.offset_cons, if_pos hx.symm]
      · cases h
theorem xlooks_ok {ents : List xE} {pc N : Nat} : ∀ {l : List (Int × Int)} {j : Nat}, xlooks ents pc N l j = true → ∀ i o, l[i]? = some o → xjmp ents pc o.2 (xx_g 16 N (j + i)) = true
  | [], _, _, i, o, h => by simp at h
  | a :: l, j, H, 0, o, h => by
    cases h
    exact (xan H).1
  | a :: l, j, H, i + 1, o, h => by
    rw [List.getElem?_cons_succ] at h
    have := xlooks_ok (xan H).2 i o h
    rw [show j + (i + 1) = j + 1 + i by omega]
    exact this
set_option maxHeartbeats 4000000 in
theorem xstep_ok (hcls : ∀ (ci : Nat) (q : vw_C), xcl[ci]? = some q → ∃ df, xCf ci q (xTY ci) df) (hJ : xJd) (hG : xGok g G) (hI : xIok g G ih) {M : xM} {d pc len : Nat} {ins : Instr} {a1 a2 a3 w : Nat} {nx ag : xN} {jp : Nat → xN} (hv : xvb M (pc, len, ins, a1, a2, a3, w) = true) (hn : xNok g M d (pc + len) nx) (hag : xNok g M d pc ag) (hj : ∀ (j : Nat) (t : xE), M.2.2.2.2.2.2.2[j]? = some t → xNok g M d t.1 (jp j)) :
    xNok g M d pc (xd_of G xNA M.2.2.2.2.1 M.2.2.2.2.2.1 M.2.2.2.1 (pc, len, ins, a1, a2, a3, w) nx jp ag (xh_call (xd_meths G xNA xMT) ih d M.2.2.2.2.1 M.2.2.2.2.2.1 nx)) := by
  obtain ⟨ho, hac, hmi, hmx, hmn⟩ := hJ
  cases hdead : Nat.beq w 999999 with
  | true =>
    unfold xd_of
    dsimp only
    rw [hdead]
    exact xnok_none (fun _ _ _ _ _ _ => rfl)
  | false =>
  unfold xvb at hv
  unfold xd_of
  dsimp only at hv ⊢
  rw [hdead, cond_false] at hv
  rw [hdead, cond_false]
  have hv1 := xan hv
  have hv2 := xan hv1.1
  have hd : decode M.2.1 pc = .ok (ins, len) := of_decide_eq_true hv2.1
  have hlen := hv2.2
  have hv3 := hv1.2
  have hjm : ∀ (off : Int) (j : Nat), xjmp M.2.2.2.2.2.2.2 pc off j = true → ∃ tgt : Nat, (pc : Int) + off = (tgt : Int) ∧ xNok g M d tgt (jp j) := by
    intro off j h
    obtain ⟨e, e1, e2⟩ := xjmp_ok h
    exact ⟨e.1, e2, hj j e e1⟩
  cases ins with
  | iconst n =>
    have el : len = 1 := Nat.eq_of_beq_eq_true hlen
    subst el
    show xNok g M d pc (xx_f (xx_n (Int32.ofInt n)) (fun v => xd_push (0, v)) nx jp ag (xh_call (xd_meths G xNA xMT) ih d M.2.2.2.2.1 M.2.2.2.2.2.1 nx))
    rw [xx_f_eq]
    exact xs_iconst (jp := jp) (ag := ag) (ca := xh_call (xd_meths G xNA xMT) ih d M.2.2.2.2.1 M.2.2.2.2.2.1 nx) hd hn
  | bipush n =>
    have el : len = 2 := Nat.eq_of_beq_eq_true hlen
    subst el
    show xNok g M d pc (xx_f (xx_n (Int8.ofInt n).toInt32) (fun v => xd_push (0, v)) nx jp ag (xh_call (xd_meths G xNA xMT) ih d M.2.2.2.2.1 M.2.2.2.2.2.1 nx))
    rw [xx_f_eq]
    exact xs_bipush (jp := jp) (ag := ag) (ca := xh_call (xd_meths G xNA xMT) ih d M.2.2.2.2.1 M.2.2.2.2.2.1 nx) hd hn
  | sipush n =>
    have el : len = 3 := Nat.eq_of_beq_eq_true hlen
    subst el
    show xNok g M d pc (xx_f (xx_n (Int16.ofInt n).toInt32) (fun v => xd_push (0, v)) nx jp ag (xh_call (xd_meths G xNA xMT) ih d M.2.2.2.2.1 M.2.2.2.2.2.1 nx))
    rw [xx_f_eq]
    exact xs_sipush (jp := jp) (ag := ag) (ca := xh_call (xd_meths G xNA xMT) ih d M.2.2.2.2.1 M.2.2.2.2.2.1 nx) hd hn
  | lconst n =>
    have el : len = 1 := Nat.eq_of_beq_eq_true hlen
    subst el
    show xNok g M d pc (xx_f n.val (fun v => xd_push (4, v)) nx jp ag (xh_call (xd_meths G xNA xMT) ih d M.2.2.2.2.1 M.2.2.2.2.2.1 nx))
    rw [xx_f_eq]
    exact xs_lconst (jp := jp) (ag := ag) (ca := xh_call (xd_meths G xNA xMT) ih d M.2.2.2.2.1 M.2.2.2.2.2.1 nx) hd hn
  | ldc i =>
    have el : len = 2 := Nat.eq_of_beq_eq_true hlen
    subst el
    have h0 : cond (Nat.beq a1 0) (xwd w (Cond.constant M.1.cls i (Int32.ofNat a2))) (xstr M.1.cls i a2) = true := hv3
    show xNok g M d pc (cond (Nat.beq a1 0) (xd_push (0, a2)) (xd_push (7, a2)) nx jp ag (xh_call (xd_meths G xNA xMT) ih d M.2.2.2.2.1 M.2.2.2.2.2.1 nx))
    cases hc : Nat.beq a1 0 with
    | true =>
      rw [hc] at h0
      exact xs_ldc (jp := jp) (ag := ag) (ca := xh_call (xd_meths G xNA xMT) ih d M.2.2.2.2.1 M.2.2.2.2.2.1 nx) hd (xwd_ok h0) hn
    | false =>
      rw [hc] at h0
      obtain ⟨tx, ht⟩ := xstr_ok h0
      exact xs_ldcS (jp := jp) (ag := ag) (ca := xh_call (xd_meths G xNA xMT) ih d M.2.2.2.2.1 M.2.2.2.2.2.1 nx) hd ht hn
  | ldc_w i =>
    have el : len = 3 := Nat.eq_of_beq_eq_true hlen
    subst el
    exact xs_ldcw (jp := jp) (ag := ag) (ca := xh_call (xd_meths G xNA xMT) ih d M.2.2.2.2.1 M.2.2.2.2.2.1 nx) hd (xwd_ok hv3) hn
  | ldc2_w i =>
    have el : len = 3 := Nat.eq_of_beq_eq_true hlen
    subst el
    exact xs_ldc2 (jp := jp) (ag := ag) (ca := xh_call (xd_meths G xNA xMT) ih d M.2.2.2.2.1 M.2.2.2.2.2.1 nx) hd (xwd_ok hv3) hn
  | iload i =>
    have el : len = 2 := Nat.eq_of_beq_eq_true hlen
    subst el
    exact xs_iload (jp := jp) (ag := ag) (ca := xh_call (xd_meths G xNA xMT) ih d M.2.2.2.2.1 M.2.2.2.2.2.1 nx) (Or.inl ⟨hd, rfl⟩) hn
  | iload_n i =>
    have el : len = 1 := Nat.eq_of_beq_eq_true hlen
    subst el
    show xNok g M d pc (xx_f i.val (fun j => xd_ld xc_i j) nx jp ag (xh_call (xd_meths G xNA xMT) ih d M.2.2.2.2.1 M.2.2.2.2.2.1 nx))
    rw [xx_f_eq]
    exact xs_iload (jp := jp) (ag := ag) (ca := xh_call (xd_meths G xNA xMT) ih d M.2.2.2.2.1 M.2.2.2.2.2.1 nx) (Or.inr ⟨i, hd, rfl, rfl⟩) hn
  | lload i =>
    have el : len = 2 := Nat.eq_of_beq_eq_true hlen
    subst el
    exact xs_lload (jp := jp) (ag := ag) (ca := xh_call (xd_meths G xNA xMT) ih d M.2.2.2.2.1 M.2.2.2.2.2.1 nx) (Or.inl ⟨hd, rfl⟩) hn
  | lload_n i =>
    have el : len = 1 := Nat.eq_of_beq_eq_true hlen
    subst el
    show xNok g M d pc (xx_f i.val (fun j => xd_ld xc_l j) nx jp ag (xh_call (xd_meths G xNA xMT) ih d M.2.2.2.2.1 M.2.2.2.2.2.1 nx))
    rw [xx_f_eq]
    exact xs_lload (jp := jp) (ag := ag) (ca := xh_call (xd_meths G xNA xMT) ih d M.2.2.2.2.1 M.2.2.2.2.2.1 nx) (Or.inr ⟨i, hd, rfl, rfl⟩) hn
  | aload i =>
    have el : len = 2 := Nat.eq_of_beq_eq_true hlen
    subst el
    exact xs_aload (jp := jp) (ag := ag) (ca := xh_call (xd_meths G xNA xMT) ih d M.2.2.2.2.1 M.2.2.2.2.2.1 nx) (Or.inl ⟨hd, rfl⟩) hn
  | aload_n i =>
    have el : len = 1 := Nat.eq_of_beq_eq_true hlen
    subst el
    show xNok g M d pc (xx_f i.val (fun j => xd_ld xc_r j) nx jp ag (xh_call (xd_meths G xNA xMT) ih d M.2.2.2.2.1 M.2.2.2.2.2.1 nx))
    rw [xx_f_eq]
    exact xs_aload (jp := jp) (ag := ag) (ca := xh_call (xd_meths G xNA xMT) ih d M.2.2.2.2.1 M.2.2.2.2.2.1 nx) (Or.inr ⟨i, hd, rfl, rfl⟩) hn
  | istore i =>
    have el : len = 2 := Nat.eq_of_beq_eq_true hlen
    subst el
    exact xs_istore (jp := jp) (ag := ag) (ca := xh_call (xd_meths G xNA xMT) ih d M.2.2.2.2.1 M.2.2.2.2.2.1 nx) (Or.inl ⟨hd, rfl⟩) hn
  | istore_n i =>
    have el : len = 1 := Nat.eq_of_beq_eq_true hlen
    subst el
    show xNok g M d pc (xx_f i.val (fun j => xd_st1 xc_i j) nx jp ag (xh_call (xd_meths G xNA xMT) ih d M.2.2.2.2.1 M.2.2.2.2.2.1 nx))
    rw [xx_f_eq]
    exact xs_istore (jp := jp) (ag := ag) (ca := xh_call (xd_meths G xNA xMT) ih d M.2.2.2.2.1 M.2.2.2.2.2.1 nx) (Or.inr ⟨i, hd, rfl, rfl⟩) hn
  | astore i =>
    have el : len = 2 := Nat.eq_of_beq_eq_true hlen
    subst el
    exact xs_astore (jp := jp) (ag := ag) (ca := xh_call (xd_meths G xNA xMT) ih d M.2.2.2.2.1 M.2.2.2.2.2.1 nx) (Or.inl ⟨hd, rfl⟩) hn
  | astore_n i =>
    have el : len = 1 := Nat.eq_of_beq_eq_true hlen
    subst el
    show xNok g M d pc (xx_f i.val (fun j => xd_st1 xc_r j) nx jp ag (xh_call (xd_meths G xNA xMT) ih d M.2.2.2.2.1 M.2.2.2.2.2.1 nx))
    rw [xx_f_eq]
    exact xs_astore (jp := jp) (ag := ag) (ca := xh_call (xd_meths G xNA xMT) ih d M.2.2.2.2.1 M.2.2.2.2.2.1 nx) (Or.inr ⟨i, hd, rfl, rfl⟩) hn
  | lstore i =>
    have el : len = 2 := Nat.eq_of_beq_eq_true hlen
    subst el
    exact xs_lstore (jp := jp) (ag := ag) (ca := xh_call (xd_meths G xNA xMT) ih d M.2.2.2.2.1 M.2.2.2.2.2.1 nx) (Or.inl ⟨hd, rfl⟩) hn
  | lstore_n i =>
    have el : len = 1 := Nat.eq_of_beq_eq_true hlen
    subst el
    show xNok g M d pc (xx_f i.val (fun j => xd_st2 j) nx jp ag (xh_call (xd_meths G xNA xMT) ih d M.2.2.2.2.1 M.2.2.2.2.2.1 nx))
    rw [xx_f_eq]
    exact xs_lstore (jp := jp) (ag := ag) (ca := xh_call (xd_meths G xNA xMT) ih d M.2.2.2.2.1 M.2.2.2.2.2.1 nx) (Or.inr ⟨i, hd, rfl, rfl⟩) hn
  | iinc i n =>
    have el : len = 3 := Nat.eq_of_beq_eq_true hlen
    subst el
    show xNok g M d pc (xx_f (xx_n (Int32.ofInt n)) (fun v => xd_inc i v) nx jp ag (xh_call (xd_meths G xNA xMT) ih d M.2.2.2.2.1 M.2.2.2.2.2.1 nx))
    rw [xx_f_eq]
    exact xs_iinc (jp := jp) (ag := ag) (ca := xh_call (xd_meths G xNA xMT) ih d M.2.2.2.2.1 M.2.2.2.2.2.1 nx) hd hn
  | iadd =>
    have el : len = 1 := Nat.eq_of_beq_eq_true hlen
    subst el
    exact xs_iadd (jp := jp) (ag := ag) (ca := xh_call (xd_meths G xNA xMT) ih d M.2.2.2.2.1 M.2.2.2.2.2.1 nx) hd hn
  | isub =>
    have el : len = 1 := Nat.eq_of_beq_eq_true hlen
    subst el
    exact xs_bin_any (jp := jp) (ag := ag) (ca := xh_call (xd_meths G xNA xMT) ih d M.2.2.2.2.1 M.2.2.2.2.2.1 nx) (F := fun x y => x - y) xn_sub_ok xgood_sub (fun p e R s m args below meth c Q H locs ls rest x y ce sl hx hb k => lv_isub hx hb hd k) hn
  | imul =>
    have el : len = 1 := Nat.eq_of_beq_eq_true hlen
    subst el
    exact xs_imul (jp := jp) (ag := ag) (ca := xh_call (xd_meths G xNA xMT) ih d M.2.2.2.2.1 M.2.2.2.2.2.1 nx) hd hn hag
  | iand =>
    have el : len = 1 := Nat.eq_of_beq_eq_true hlen
    subst el
    exact xs_iand (jp := jp) (ag := ag) (ca := xh_call (xd_meths G xNA xMT) ih d M.2.2.2.2.1 M.2.2.2.2.2.1 nx) hG hd hn
  | ior =>
    have el : len = 1 := Nat.eq_of_beq_eq_true hlen
    subst el
    exact xs_bin_any (jp := jp) (ag := ag) (ca := xh_call (xd_meths G xNA xMT) ih d M.2.2.2.2.1 M.2.2.2.2.2.1 nx) (F := fun x y => x ||| y) (xn_of_ok _) (xgood_any _) (fun p e R s m args below meth c Q H locs ls rest x y ce sl hx hb k => lv_ior hx hb hd k) hn
  | ixor =>
    have el : len = 1 := Nat.eq_of_beq_eq_true hlen
    subst el
    exact xs_bin_any (jp := jp) (ag := ag) (ca := xh_call (xd_meths G xNA xMT) ih d M.2.2.2.2.1 M.2.2.2.2.2.1 nx) (F := fun x y => x ^^^ y) (xn_of_ok _) (xgood_any _) (fun p e R s m args below meth c Q H locs ls rest x y ce sl hx hb k => lv_ixor hx hb hd k) hn
  | ishl =>
    have el : len = 1 := Nat.eq_of_beq_eq_true hlen
    subst el
    exact xs_bin_any (jp := jp) (ag := ag) (ca := xh_call (xd_meths G xNA xMT) ih d M.2.2.2.2.1 M.2.2.2.2.2.1 nx) (F := fun x y => x <<< (y &&& 31)) (xn_of_ok _) (xgood_any _) (fun p e R s m args below meth c Q H locs ls rest x y ce sl hx hb k => lv_ishl hx hb hd k) hn
  | ishr =>
    have el : len = 1 := Nat.eq_of_beq_eq_true hlen
    subst el
    exact xs_bin_any (jp := jp) (ag := ag) (ca := xh_call (xd_meths G xNA xMT) ih d M.2.2.2.2.1 M.2.2.2.2.2.1 nx) (F := fun x y => x >>> (y &&& 31)) (xn_of_ok _) (xgood_any _) (fun p e R s m args below meth c Q H locs ls rest x y ce sl hx hb k => lv_ishr hx hb hd k) hn
  | iushr =>
    have el : len = 1 := Nat.eq_of_beq_eq_true hlen
    subst el
    exact xs_bin_any (jp := jp) (ag := ag) (ca := xh_call (xd_meths G xNA xMT) ih d M.2.2.2.2.1 M.2.2.2.2.2.1 nx) (F := fun x y => (x.toUInt32 >>> (y.toUInt32 &&& Int32.toUInt32 31)).toInt32) (xn_of_ok _) (xgood_any _) (fun p e R s m args below meth c Q H locs ls rest x y ce sl hx hb k => lv_iushr hx hb hd rfl k) hn
  | idiv =>
    have el : len = 1 := Nat.eq_of_beq_eq_true hlen
    subst el
    exact xs_div (jp := jp) (ag := ag) (ca := xh_call (xd_meths G xNA xMT) ih d M.2.2.2.2.1 M.2.2.2.2.2.1 nx) (F := fun x y => x / y) (xn_of_ok _) (fun p e R s m args below meth c Q H locs ls rest x y ce sl hx hb h0 k => lv_idiv hx hb hd h0 k) hn
  | irem =>
    have el : len = 1 := Nat.eq_of_beq_eq_true hlen
    subst el
    exact xs_div (jp := jp) (ag := ag) (ca := xh_call (xd_meths G xNA xMT) ih d M.2.2.2.2.1 M.2.2.2.2.2.1 nx) (F := fun x y => x - x / y * y) (xn_of_ok _) (fun p e R s m args below meth c Q H locs ls rest x y ce sl hx hb h0 k => lv_irem hx hb hd h0 k) hn
  | ineg =>
    have el : len = 1 := Nat.eq_of_beq_eq_true hlen
    subst el
    exact xs_un (jp := jp) (ag := ag) (ca := xh_call (xd_meths G xNA xMT) ih d M.2.2.2.2.1 M.2.2.2.2.2.1 nx) (f := fun x => -x) (fun p e R s m args below meth c Q H locs ls rest x ce sl hx hb k => lv_ineg hx hb hd k) hn
  | i2b =>
    have el : len = 1 := Nat.eq_of_beq_eq_true hlen
    subst el
    exact xs_un (jp := jp) (ag := ag) (ca := xh_call (xd_meths G xNA xMT) ih d M.2.2.2.2.1 M.2.2.2.2.2.1 nx) (f := fun x => x.toInt8.toInt32) (fun p e R s m args below meth c Q H locs ls rest x ce sl hx hb k => lv_i2b hx hb hd rfl k) hn
  | i2c =>
    have el : len = 1 := Nat.eq_of_beq_eq_true hlen
    subst el
    exact xs_un (jp := jp) (ag := ag) (ca := xh_call (xd_meths G xNA xMT) ih d M.2.2.2.2.1 M.2.2.2.2.2.1 nx) (f := fun x => (x.toUInt32 % 65536).toInt32) (fun p e R s m args below meth c Q H locs ls rest x ce sl hx hb k => lv_i2c hx hb hd rfl k) hn
  | i2l =>
    have el : len = 1 := Nat.eq_of_beq_eq_true hlen
    subst el
    exact xs_i2l (jp := jp) (ag := ag) (ca := xh_call (xd_meths G xNA xMT) ih d M.2.2.2.2.1 M.2.2.2.2.2.1 nx) hd hn
  | l2i =>
    have el : len = 1 := Nat.eq_of_beq_eq_true hlen
    subst el
    exact xs_l2i (jp := jp) (ag := ag) (ca := xh_call (xd_meths G xNA xMT) ih d M.2.2.2.2.1 M.2.2.2.2.2.1 nx) hd hn
  | ladd =>
    have el : len = 1 := Nat.eq_of_beq_eq_true hlen
    subst el
    exact xs_lbin (jp := jp) (ag := ag) (ca := xh_call (xd_meths G xNA xMT) ih d M.2.2.2.2.1 M.2.2.2.2.2.1 nx) (f := fun x y => x + y) (fun p e R s m args below meth c Q H locs ls rest x y ce sl hx hb k => lv_ladd hx hb hd k) hn
  | lmul =>
    have el : len = 1 := Nat.eq_of_beq_eq_true hlen
    subst el
    exact xs_lbin (jp := jp) (ag := ag) (ca := xh_call (xd_meths G xNA xMT) ih d M.2.2.2.2.1 M.2.2.2.2.2.1 nx) (f := fun x y => x * y) (fun p e R s m args below meth c Q H locs ls rest x y ce sl hx hb k => lv_lmul hx hb hd k) hn
  | land =>
    have el : len = 1 := Nat.eq_of_beq_eq_true hlen
    subst el
    exact xs_lbin (jp := jp) (ag := ag) (ca := xh_call (xd_meths G xNA xMT) ih d M.2.2.2.2.1 M.2.2.2.2.2.1 nx) (f := fun x y => x &&& y) (fun p e R s m args below meth c Q H locs ls rest x y ce sl hx hb k => lv_land hx hb hd k) hn
  | lor =>
    have el : len = 1 := Nat.eq_of_beq_eq_true hlen
    subst el
    exact xs_lbin (jp := jp) (ag := ag) (ca := xh_call (xd_meths G xNA xMT) ih d M.2.2.2.2.1 M.2.2.2.2.2.1 nx) (f := fun x y => x ||| y) (fun p e R s m args below meth c Q H locs ls rest x y ce sl hx hb k => lv_lor hx hb hd k) hn
  | lshl =>
    have el : len = 1 := Nat.eq_of_beq_eq_true hlen
    subst el
    exact xs_lsh (jp := jp) (ag := ag) (ca := xh_call (xd_meths G xNA xMT) ih d M.2.2.2.2.1 M.2.2.2.2.2.1 nx) (f := fun x y => x <<< (y.toInt64 &&& 63)) (fun p e R s m args below meth c Q H locs ls rest x y ce sl hx hb k => lv_lshl hx hb hd rfl k) hn
  | lushr =>
    have el : len = 1 := Nat.eq_of_beq_eq_true hlen
    subst el
    exact xs_lsh (jp := jp) (ag := ag) (ca := xh_call (xd_meths G xNA xMT) ih d M.2.2.2.2.1 M.2.2.2.2.2.1 nx) (f := fun x y => (x.toUInt64 >>> (y.toInt64.toUInt64 &&& Int64.toUInt64 63)).toInt64) (fun p e R s m args below meth c Q H locs ls rest x y ce sl hx hb k => lv_lushr hx hb hd rfl k) hn
  | lcmp =>
    have el : len = 1 := Nat.eq_of_beq_eq_true hlen
    subst el
    exact xs_lcmp (jp := jp) (ag := ag) (ca := xh_call (xd_meths G xNA xMT) ih d M.2.2.2.2.1 M.2.2.2.2.2.1 nx) hd hn
  | dup =>
    have el : len = 1 := Nat.eq_of_beq_eq_true hlen
    subst el
    exact xs_dup (jp := jp) (ag := ag) (ca := xh_call (xd_meths G xNA xMT) ih d M.2.2.2.2.1 M.2.2.2.2.2.1 nx) hd hn
  | pop =>
    have el : len = 1 := Nat.eq_of_beq_eq_true hlen
    subst el
    exact xs_pop (jp := jp) (ag := ag) (ca := xh_call (xd_meths G xNA xMT) ih d M.2.2.2.2.1 M.2.2.2.2.2.1 nx) hd hn
  | dup2 =>
    have el : len = 1 := Nat.eq_of_beq_eq_true hlen
    subst el
    exact xs_dup2 (jp := jp) (ag := ag) (ca := xh_call (xd_meths G xNA xMT) ih d M.2.2.2.2.1 M.2.2.2.2.2.1 nx) hd hn
  | goto off =>
    have el : len = 3 := Nat.eq_of_beq_eq_true hlen
    subst el
    obtain ⟨tgt, t1, t2⟩ := hjm off a1 hv3
    exact xs_goto (nx := nx) (jp := jp) (ag := ag) (ca := xh_call (xd_meths G xNA xMT) ih d M.2.2.2.2.1 M.2.2.2.2.2.1 nx) hd t1 t2
  | ifCond cd off =>
    have el : len = 3 := Nat.eq_of_beq_eq_true hlen
    subst el
    obtain ⟨tgt, t1, t2⟩ := hjm off a1 hv3
    exact xs_if (jp := jp) (ag := ag) (ca := xh_call (xd_meths G xNA xMT) ih d M.2.2.2.2.1 M.2.2.2.2.2.1 nx) hd t1 t2 hn
  | if_icmp cd off =>
    have el : len = 3 := Nat.eq_of_beq_eq_true hlen
    subst el
    obtain ⟨tgt, t1, t2⟩ := hjm off a1 hv3
    exact xs_icmp (jp := jp) (ag := ag) (ca := xh_call (xd_meths G xNA xMT) ih d M.2.2.2.2.1 M.2.2.2.2.2.1 nx) hd t1 t2 hn
  | tableswitch dflt lo hi offs =>
    have h0 := xan (show and (xjmp M.2.2.2.2.2.2.2 pc dflt a1) (and (decide (hi - lo + 1 = (offs.toList.length : Int))) (xtabs M.2.2.2.2.2.2.2 pc a2 offs.toList 0)) = true from hv3)
    have h1 := xan h0.2
    have hsz : hi - lo + 1 = (offs.toList.length : Int) := of_decide_eq_true h1.1
    show xNok g M d pc (xd_sw (xh_num lo (hi - lo + 1).toNat) (xh_ttab lo hi a1 a2) nx jp ag (xh_call (xd_meths G xNA xMT) ih d M.2.2.2.2.1 M.2.2.2.2.2.1 nx))
    refine xs_sw (nx := nx) (ag := ag) (ca := xh_call (xd_meths G xNA xMT) ih d M.2.2.2.2.1 M.2.2.2.2.2.1 nx) (fun iv j x ht b1 b2 => ?_)
    unfold xh_ttab at ht
    split at ht
    · rename_i q
      cases ht
      obtain ⟨tgt, t1, t2⟩ := hjm dflt a1 h0.1
      refine ⟨tgt, t2, fun p e R s m args below meth c Q H locs ls rest ce sl hx hb k => lv_tableOut hx hb hd ?_ t1 k⟩
      rcases Bool.or_eq_true_iff.mp q with q | q
      · have := of_decide_eq_true q
        exact Or.inl (by omega)
      · have := of_decide_eq_true q
        exact Or.inr (by omega)
    · rename_i q
      rw [Bool.or_eq_true_iff, not_or] at q
      have q1 : ¬ iv.2 < lo := fun z => q.1 (decide_eq_true z)
      have q2 : ¬ hi < iv.1 := fun z => q.2 (decide_eq_true z)
      split at ht
      · rename_i q3
        cases ht
        have hq3 := of_decide_eq_true q3
        have hx : x.toInt = iv.1 := by omega
        have hlt : (iv.1 - lo).toNat < offs.toList.length := by omega
        have hget : offs.toList[(iv.1 - lo).toNat]? = some offs.toList[(iv.1 - lo).toNat] := List.getElem?_eq_getElem hlt
        have hj2 := xtabs_ok h1.2 _ _ hget
        rw [Nat.zero_add] at hj2
        obtain ⟨tgt, t1, t2⟩ := hjm _ _ hj2
        refine ⟨tgt, t2, fun p e R s m args below meth c Q H locs ls rest ce sl hx' hb k => lv_tableIn hx' hb hd (by omega) (by omega) ?_ t1 k⟩
        rw [hx, ← Array.getElem?_toList]
        exact hget
      · cases ht
  | lookupswitch dflt ps =>
    have h0 := xan (show and (xjmp M.2.2.2.2.2.2.2 pc dflt a1) (and ((ps.toList.zip (ps.toList.drop 1)).all (fun (a, next) => a.1 < next.1)) (xlooks M.2.2.2.2.2.2.2 pc a2 ps.toList 0)) = true from hv3)
    have h1 := xan h0.2
    show xNok g M d pc (xd_sw (ps.toList.map Prod.fst) (xh_tlook ps.toList 0 a1 a2) nx jp ag (xh_call (xd_meths G xNA xMT) ih d M.2.2.2.2.1 M.2.2.2.2.2.1 nx))
    refine xs_sw (nx := nx) (ag := ag) (ca := xh_call (xd_meths G xNA xMT) ih d M.2.2.2.2.1 M.2.2.2.2.2.1 nx) (fun iv j x ht b1 b2 => ?_)
    rcases xtlook_ok (d := dflt) b1 b2 ht with ⟨rfl, h2⟩ | ⟨i, o, h2, h3, h4⟩
    · obtain ⟨tgt, t1, t2⟩ := hjm dflt j h0.1
      exact ⟨tgt, t2, fun p e R s m args below meth c Q H locs ls rest ce sl hx hb k => lv_lookup hx hb hd h1.1 h2 t1 k⟩
    · have hj2 := xlooks_ok h1.2 _ _ h2
      obtain ⟨tgt, t1, t2⟩ := hjm _ _ hj2
      rw [← h3] at t2
      exact ⟨tgt, t2, fun p e R s m args below meth c Q H locs ls rest ce sl hx hb k => lv_lookup hx hb hd h1.1 h4 t1 k⟩
  | getfield i =>
    have el : len = 3 := Nat.eq_of_beq_eq_true hlen
    subst el
    have h0 : (match xk_at xcl a1 with
      | some q => and (Nat.ble (Nat.succ a2) q.2.2) (cond (Nat.ble 100000 w) (xnst (Nat.sub w 100000) (Cond.fieldLinkNest M.1.cls i (q.2.1 a2).1 (q.2.1 a2).2.1 (q.2.1 a2).2.2.1 "GridLaws")) (xwd w (Cond.fieldLink M.1.cls i (q.2.1 a2).1 (q.2.1 a2).2.1 (q.2.1 a2).2.2.1)))
      | none => and (Nat.beq a1 1000) (cond (Nat.beq a2 0) (xwd w (Cond.fieldLink M.1.cls i "java/lang/String" "coder" "B")) (and (Nat.beq a2 1) (xwd w (Cond.fieldLink M.1.cls i "java/lang/String" "value" "[B"))))) = true := hv3
    rw [xk_at_eq] at h0
    show xNok g M d pc (xd_get G a1 a2 nx jp ag (xh_call (xd_meths G xNA xMT) ih d M.2.2.2.2.1 M.2.2.2.2.2.1 nx))
    cases hc : xcl[a1]? with
    | some q =>
      rw [hc] at h0
      obtain ⟨df, hcf⟩ := hcls a1 q hc
      have h1 := xan h0
      have h1000 : Nat.beq a1 1000 = false := by
        cases hz : Nat.beq a1 1000 with
        | false => rfl
        | true =>
          rw [Nat.eq_of_beq_eq_true hz, xcl_1000] at hc
          cases hc
      refine xs_get (jp := jp) (ag := ag) (ca := xh_call (xd_meths G xNA xMT) ih d M.2.2.2.2.1 M.2.2.2.2.2.1 nx) (C := q.1) (T := q.2.1) (N := q.2.2) hG.2.1 hd hc hcf.1 (Nat.le_of_ble_eq_true h1.1) ?_ h1000 hn
      have h2 := h1.2
      cases hw : Nat.ble 100000 w with
      | true =>
        rw [hw, cond_true] at h2
        generalize Nat.sub w 100000 = jw at h2
        exact Or.inr ⟨"GridLaws", xnst_ok h2⟩
      | false =>
        rw [hw] at h2
        exact Or.inl (xwd_ok h2)
    | none =>
      rw [hc] at h0
      have h1 := xan h0
      have e1 : a1 = 1000 := Nat.eq_of_beq_eq_true h1.1
      subst e1
      refine xs_getS (jp := jp) (ag := ag) (ca := xh_call (xd_meths G xNA xMT) ih d M.2.2.2.2.1 M.2.2.2.2.2.1 nx) hG.2.1 hd ?_ (fun o ho => by rw [Nat.eq_of_beq_eq_true ho]; exact xcl_1000) hn
      have h2 := h1.2
      cases hw : Nat.beq a2 0 with
      | true =>
        rw [hw] at h2
        exact Or.inl ⟨Nat.eq_of_beq_eq_true hw, xwd_ok h2⟩
      | false =>
        rw [hw] at h2
        have h3 := xan h2
        exact Or.inr ⟨Nat.eq_of_beq_eq_true h3.1, xwd_ok h3.2⟩
  | putfield i =>
    have el : len = 3 := Nat.eq_of_beq_eq_true hlen
    subst el
    have h0 : (match xk_at xcl a1 with
      | some q => and (Nat.ble (Nat.succ a2) q.2.2) (and (xwd w (Cond.fieldLink M.1.cls i (q.2.1 a2).1 (q.2.1 a2).2.1 (q.2.1 a2).2.2.1)) (and (Nat.beq a3 (xh_tc (xTY a1 a2))) (cond (q.2.1 a2).2.2.2 (and (decide (M.1.name = "<init>")) (decide ((q.2.1 a2).1 = M.1.cls))) true)))
      | none => false) = true := hv3
    rw [xk_at_eq] at h0
    show xNok g M d pc (xd_putf a1 a2 a3 nx jp ag (xh_call (xd_meths G xNA xMT) ih d M.2.2.2.2.1 M.2.2.2.2.2.1 nx))
    cases hc : xcl[a1]? with
    | none => rw [hc] at h0; cases h0
    | some q =>
      rw [hc] at h0
      obtain ⟨df, hcf⟩ := hcls a1 q hc
      have h1 := xan h0
      have h2 := xan h1.2
      have h3 := xan h2.2
      refine xs_putf (jp := jp) (ag := ag) (ca := xh_call (xd_meths G xNA xMT) ih d M.2.2.2.2.1 M.2.2.2.2.2.1 nx) (C := q.1) (T := q.2.1) (N := q.2.2) (ty0 := xTY a1) hd hc hcf.1 hcf.2.1 hcf.2.2.1 (Nat.le_of_ble_eq_true h1.1) (xwd_ok h2.1) (Nat.eq_of_beq_eq_true h3.1) ?_ hn
      have h4 := h3.2
      cases hf : (q.2.1 a2).2.2.2 with
      | false => exact Or.inl rfl
      | true =>
        rw [hf] at h4
        have h5 := xan h4
        exact Or.inr ⟨rfl, of_decide_eq_true h5.1, of_decide_eq_true h5.2⟩
  | getstatic i =>
    have el : len = 3 := Nat.eq_of_beq_eq_true hlen
    subst el
    have h0 : cond (Nat.beq a1 0) (and (Nat.beq a2 1) (xwd w (Cond.fieldLink M.1.cls i "java/lang/String" "COMPACT_STRINGS" "Z"))) (xwd w (Cond.fieldLink M.1.cls i "jdk/internal/util/Preconditions" "SIOOBE_FORMATTER" "Ljava/util/function/BiFunction;")) = true := hv3
    show xNok g M d pc (cond (Nat.beq a1 0) (xd_push (0, a2)) (xd_push (10, 0)) nx jp ag (xh_call (xd_meths G xNA xMT) ih d M.2.2.2.2.1 M.2.2.2.2.2.1 nx))
    cases hc : Nat.beq a1 0 with
    | true =>
      rw [hc] at h0
      have h1 := xan h0
      have e1 : a2 = 1 := Nat.eq_of_beq_eq_true h1.1
      subst e1
      exact xs_gets0 (jp := jp) (ag := ag) (ca := xh_call (xd_meths G xNA xMT) ih d M.2.2.2.2.1 M.2.2.2.2.2.1 nx) hd (xwd_ok h1.2) hn
    | false =>
      rw [hc] at h0
      exact xs_gets1 (jp := jp) (ag := ag) (ca := xh_call (xd_meths G xNA xMT) ih d M.2.2.2.2.1 M.2.2.2.2.2.1 nx) hd (xwd_ok h0) hn
  | iaload =>
    have el : len = 1 := Nat.eq_of_beq_eq_true hlen
    subst el
    exact xs_ald (jp := jp) (ag := ag) (ca := xh_call (xd_meths G xNA xMT) ih d M.2.2.2.2.1 M.2.2.2.2.2.1 nx) hG (Or.inl ⟨rfl, hd⟩) hn hag
  | baload =>
    have el : len = 1 := Nat.eq_of_beq_eq_true hlen
    subst el
    exact xs_ald (jp := jp) (ag := ag) (ca := xh_call (xd_meths G xNA xMT) ih d M.2.2.2.2.1 M.2.2.2.2.2.1 nx) hG (Or.inr ⟨rfl, hd⟩) hn hag
  | iastore =>
    have el : len = 1 := Nat.eq_of_beq_eq_true hlen
    subst el
    exact xs_ast (jp := jp) (ag := ag) (ca := xh_call (xd_meths G xNA xMT) ih d M.2.2.2.2.1 M.2.2.2.2.2.1 nx) (Or.inl ⟨rfl, hd⟩) hn hag
  | bastore =>
    have el : len = 1 := Nat.eq_of_beq_eq_true hlen
    subst el
    exact xs_ast (jp := jp) (ag := ag) (ca := xh_call (xd_meths G xNA xMT) ih d M.2.2.2.2.1 M.2.2.2.2.2.1 nx) (Or.inr ⟨rfl, hd⟩) hn hag
  | laload =>
    have el : len = 1 := Nat.eq_of_beq_eq_true hlen
    subst el
    exact xs_lald (jp := jp) (ag := ag) (ca := xh_call (xd_meths G xNA xMT) ih d M.2.2.2.2.1 M.2.2.2.2.2.1 nx) hd hn
  | lastore =>
    have el : len = 1 := Nat.eq_of_beq_eq_true hlen
    subst el
    exact xs_last (jp := jp) (ag := ag) (ca := xh_call (xd_meths G xNA xMT) ih d M.2.2.2.2.1 M.2.2.2.2.2.1 nx) hd hn
  | arraylength =>
    have el : len = 1 := Nat.eq_of_beq_eq_true hlen
    subst el
    exact xs_alen (jp := jp) (ag := ag) (ca := xh_call (xd_meths G xNA xMT) ih d M.2.2.2.2.1 M.2.2.2.2.2.1 nx) hG hd hn
  | newarray t =>
    have el : len = 2 := Nat.eq_of_beq_eq_true hlen
    subst el
    exact xs_newa (jp := jp) (ag := ag) (ca := xh_call (xd_meths G xNA xMT) ih d M.2.2.2.2.1 M.2.2.2.2.2.1 nx) hd (xwd_ok hv3) hn
  | new i =>
    have el : len = 3 := Nat.eq_of_beq_eq_true hlen
    subst el
    have h0 : (match xk_at xcl a1 with
      | some q => xwd w (Cond.classLink M.1.cls i q.1)
      | none => false) = true := hv3
    rw [xk_at_eq] at h0
    cases hc : xcl[a1]? with
    | none => rw [hc] at h0; cases h0
    | some q =>
      rw [hc] at h0
      obtain ⟨df, c1, c2, c3, c4, c5, c6, c7, c8, c9⟩ := hcls a1 q hc
      exact xs_new (jp := jp) (ag := ag) (ca := xh_call (xd_meths G xNA xMT) ih d M.2.2.2.2.1 M.2.2.2.2.2.1 nx) (C := q.1) (T := q.2.1) (N := q.2.2) (ty0 := xTY a1) hG hd hc c1 c2 c4 c5 c6 c7 (xwd_ok h0) c8 c9 hn
  | invokevirtual i =>
    have el : len = 3 := Nat.eq_of_beq_eq_true hlen
    subst el
    obtain ⟨N, q, n1, n2, n3, n4, n5⟩ := xinv_ok hv3
    have k1 := xan n5
    have k2 := xan k1.2
    have k3 := xan k2.2
    show xNok g M d pc ((match xk_at xNA a1 with
      | none => xd_none
      | some n => xd_virt G n a1 a3) nx jp ag (xh_call (xd_meths G xNA xMT) ih d M.2.2.2.2.1 M.2.2.2.2.2.1 nx))
    rw [n3]
    refine xs_virt (jp := jp) (ag := ag) hG hI hd n1 n2 n4 (xlnk_ok k1.1) (xwd_ok k2.1) (xwd_ok k3.1) ?_ hn
    have k4 := k3.2
    rw [xk_at_eq] at k4
    cases hc : xcl[a3]? with
    | some q =>
      rw [hc] at k4
      exact Or.inl ⟨q, rfl, of_decide_eq_true k4⟩
    | none =>
      rw [hc] at k4
      have k5 := xan k4
      exact Or.inr ⟨Nat.eq_of_beq_eq_true k5.1, of_decide_eq_true k5.2, xcl_1000⟩
  | invokespecial i =>
    have el : len = 3 := Nat.eq_of_beq_eq_true hlen
    subst el
    have h0 : cond (Nat.beq a2 2) (xwd w (Cond.methodLink M.1.cls i objectInit)) (xinv a1 fun N q => and (xlnk M.1.cls i a2 w N.1) (and (xwd q.2.1 (Cond.instanceMethod N.1)) (and (decide (N.1.name = "<init>")) (decide (N.2.2.2.1 = none))))) = true := hv3
    show xNok g M d pc (cond (Nat.beq a2 2) xd_obj (match xk_at xNA a1 with
      | none => xd_none
      | some n => xd_init n a1) nx jp ag (xh_call (xd_meths G xNA xMT) ih d M.2.2.2.2.1 M.2.2.2.2.2.1 nx))
    cases hc : Nat.beq a2 2 with
    | true =>
      rw [hc] at h0
      exact xs_obj (jp := jp) (ag := ag) (ca := xh_call (xd_meths G xNA xMT) ih d M.2.2.2.2.1 M.2.2.2.2.2.1 nx) hd (xwd_ok h0) ho.1 ho.2 hn
    | false =>
      rw [hc] at h0
      obtain ⟨N, q, n1, n2, n3, n4, n5⟩ := xinv_ok h0
      have k1 := xan n5
      have k2 := xan k1.2
      have k3 := xan k2.2
      rw [n3]
      exact xs_init (jp := jp) (ag := ag) hI hd n1 n2 n4 (xlnk_ok k1.1) (xwd_ok k2.1) (of_decide_eq_true k3.1) (of_decide_eq_true k3.2) hn
  | invokestatic i =>
    have el : len = 3 := Nat.eq_of_beq_eq_true hlen
    subst el
    have h0 : cond (Nat.beq a2 3) (xwd w (Cond.methodLink M.1.cls i arraycopyName)) (cond (Nat.beq a2 4) (xwd w (Cond.methodLink M.1.cls i Lib.Math.max.name)) (cond (Nat.beq a2 5) (xwd w (Cond.methodLink M.1.cls i Lib.Math.min.name)) (xinv a1 fun N q => and (xlnk M.1.cls i a2 w N.1) (xwd q.2.1 (Cond.static N.1))))) = true := hv3
    show xNok g M d pc (cond (Nat.beq a2 3) xd_copy (cond (Nat.beq a2 4) (xd_mm M.2.2.2.2.1 M.2.2.2.2.2.1 xf_max) (cond (Nat.beq a2 5) (xd_mm M.2.2.2.2.1 M.2.2.2.2.2.1 xf_min) (match xk_at xNA a1 with
      | none => xd_none
      | some n => xd_stat n a1))) nx jp ag (xh_call (xd_meths G xNA xMT) ih d M.2.2.2.2.1 M.2.2.2.2.2.1 nx))
    cases hc : Nat.beq a2 3 with
    | true =>
      rw [hc] at h0
      exact xs_copy (jp := jp) (ag := ag) (ca := xh_call (xd_meths G xNA xMT) ih d M.2.2.2.2.1 M.2.2.2.2.2.1 nx) hd (xwd_ok h0) hac.1 hac.2.1 hac.2.2 hn
    | false =>
      rw [hc, cond_false] at h0
      rw [cond_false]
      cases hc4 : Nat.beq a2 4 with
      | true =>
        rw [hc4] at h0
        exact xs_max (jp := jp) (ag := ag) (ca := xh_call (xd_meths G xNA xMT) ih d M.2.2.2.2.1 M.2.2.2.2.2.1 nx) hd (xwd_ok h0) hmx.1 hmi hmx.2 hn
      | false =>
        rw [hc4, cond_false] at h0
        rw [cond_false]
        cases hc5 : Nat.beq a2 5 with
        | true =>
          rw [hc5] at h0
          exact xs_min (jp := jp) (ag := ag) (ca := xh_call (xd_meths G xNA xMT) ih d M.2.2.2.2.1 M.2.2.2.2.2.1 nx) hd (xwd_ok h0) hmn.1 hmi hmn.2 hn
        | false =>
          rw [hc5] at h0
          obtain ⟨N, q, n1, n2, n3, n4, n5⟩ := xinv_ok h0
          have k1 := xan n5
          rw [n3]
          exact xs_stat (jp := jp) (ag := ag) hI hd n1 n2 n4 (xlnk_ok k1.1) (xwd_ok k1.2) hn
  | ireturn =>
    have el : len = 1 := Nat.eq_of_beq_eq_true hlen
    subst el
    exact xs_iret (nx := nx) (jp := jp) (ag := ag) (ca := xh_call (xd_meths G xNA xMT) ih d M.2.2.2.2.1 M.2.2.2.2.2.1 nx) hd
  | lreturn =>
    have el : len = 1 := Nat.eq_of_beq_eq_true hlen
    subst el
    exact xs_lret (nx := nx) (jp := jp) (ag := ag) (ca := xh_call (xd_meths G xNA xMT) ih d M.2.2.2.2.1 M.2.2.2.2.2.1 nx) hd
  | return_ =>
    have el : len = 1 := Nat.eq_of_beq_eq_true hlen
    subst el
    exact xs_vret (nx := nx) (jp := jp) (ag := ag) (ca := xh_call (xd_meths G xNA xMT) ih d M.2.2.2.2.1 M.2.2.2.2.2.1 nx) hd
  | _ => exact xnok_none (fun _ _ _ _ _ _ => rfl)
theorem xrun_ok (hcls : ∀ (ci : Nat) (q : vw_C), xcl[ci]? = some q → ∃ df, xCf ci q (xTY ci) df) (hJ : xJd) (hMT : ∀ M ∈ xMT, xmvb M = true) (hG : xGok g G) : ∀ fuel, xIok g G (xh_run (xd_meths G xNA xMT) fuel)
  | 0 => fun _ _ _ _ _ _ _ _ => xnok_none (fun _ _ _ _ _ _ => rfl)
  | n + 1 => by
    have hI := xrun_ok hcls hJ hMT hG n
    intro N hN pre suf hsuf pc hpc d
    cases suf with
    | nil => exact xnok_none (fun _ _ _ _ _ _ => rfl)
    | cons e r =>
      have hm := xan (hMT N hN)
      have he : xvb N e = true := xallb_ok hm.2 e (by rw [hsuf]; exact List.mem_append_right _ List.mem_cons_self)
      have hpe : e.1 = pc := hpc e r rfl
      have hn : xNok g N d (e.1 + e.2.1) (xh_run (xd_meths G xNA xMT) n d N.2.2.2.2.1 N.2.2.2.2.2.1 (xrows G N N.2.2.2.2.2.2.2) (xrows G N r)) := by
        refine hI N hN (pre ++ [e]) r (by rw [hsuf]; simp) _ (fun f t hf => ?_) d
        have hch := hm.1
        rw [hsuf, hf] at hch
        exact xchain_ok hch
      have hag := hI N hN pre (e :: r) hsuf pc hpc d
      have hj : ∀ (j : Nat) (t : xE), N.2.2.2.2.2.2.2[j]? = some t → xNok g N d t.1 ((fun j => xh_run (xd_meths G xNA xMT) n d N.2.2.2.2.1 N.2.2.2.2.2.1 (xrows G N N.2.2.2.2.2.2.2) (xk_drop j (xrows G N N.2.2.2.2.2.2.2))) j) := by
        intro j t ht
        have e1 : xk_drop j (xrows G N N.2.2.2.2.2.2.2) = xrows G N (N.2.2.2.2.2.2.2.drop j) := by rw [xk_drop_eq, xd_rows_drop]
        show xNok g N d t.1 (xh_run (xd_meths G xNA xMT) n d N.2.2.2.2.1 N.2.2.2.2.2.1 (xrows G N N.2.2.2.2.2.2.2) (xk_drop j (xrows G N N.2.2.2.2.2.2.2)))
        rw [e1]
        refine hI N hN (N.2.2.2.2.2.2.2.take j) _ (List.take_append_drop j _).symm t.1 (fun q r' hq => ?_) d
        have h1 : (N.2.2.2.2.2.2.2.drop j)[0]? = some t := by rw [List.getElem?_drop, Nat.add_zero]; exact ht
        rw [hq] at h1
        cases h1
        rfl
      rw [← hpe] at hag ⊢
      obtain ⟨pc', len, ins, a1, a2, a3, w⟩ := e
      exact xstep_ok hcls hJ hG hI he hn hag hj
end XZ
end
section
theorem xw_o1 : xwd 1029 (Cond.instanceMethod objectInit) = true := by decide +kernel
theorem xw_o2 : xwd 1030 (Cond.code objectInit ⟨#[0xb1]⟩ 1 none) = true := by decide +kernel
theorem xw_a1 : xwd 3100 (Cond.native arraycopyName) = true := by decide +kernel
theorem xw_a2 : xwd 3099 (Cond.static arraycopyName) = true := by decide +kernel
theorem xw_a3 : xwd 1020 (Cond.initialized "java/lang/System") = true := by decide +kernel
theorem xJd_ok : xJd := ⟨⟨xwd_ok xw_o1, xwd_ok xw_o2⟩, ⟨xwd_ok xw_a1, xwd_ok xw_a2, xwd_ok xw_a3⟩, xwd_ok (i := 1014) (by decide +kernel), ⟨xwd_ok (i := 2141) (by decide +kernel), xwd_ok (i := 2142) (by decide +kernel)⟩, xwd_ok (i := 3216) (by decide +kernel), xwd_ok (i := 3217) (by decide +kernel)⟩
theorem xcf_0 : xCf 0 ("GridLaws$Board", xT_0, 15) xy_0 [(0, 0), (2, 0), (2, 0), (2, 0), (2, 0), (2, 0), (2, 0), (0, 0), (2, 0), (2, 0), (2, 0), (0, 0), (0, 0), (2, 0), (0, 0)] := ⟨xlays_ok [2105, 2109, 2103, 2119, 2117, 2111, 2113, 2107, 2097, 2121, 2123, 2101, 2125, 2115, 2099] rfl (by decide +kernel), by decide +kernel, by decide +kernel, rfl, rfl, by decide +kernel, by decide +kernel, xwd_ok (i := 2054) (by decide +kernel), xwd_ok (i := 1011) (by decide +kernel)⟩
theorem xcf_1 : xCf 1 ("GridLaws$Duel", xT_1, 6) xy_1 [(0, 0), (0, 0), (0, 0), (2, 0), (0, 0), (2, 0)] := ⟨xlays_ok [3029, 3031, 3033, 3027, 3035, 3037] rfl (by decide +kernel), by decide +kernel, by decide +kernel, rfl, rfl, by decide +kernel, by decide +kernel, xwd_ok (i := 3013) (by decide +kernel), xwd_ok (i := 1017) (by decide +kernel)⟩
theorem xcf_2 : xCf 2 ("GridLaws$Filler", xT_2, 13) xy_2 [(2, 0), (0, 0), (0, 0), (2, 0), (2, 0), (0, 0), (0, 0), (2, 0), (2, 0), (0, 0), (0, 0), (0, 0), (2, 0)] := ⟨xlays_ok [2225, 2237, 2235, 2227, 3009, 3001, 2239, 3003, 3007, 2229, 2231, 2233, 3005] rfl (by decide +kernel), by decide +kernel, by decide +kernel, rfl, rfl, by decide +kernel, by decide +kernel, xwd_ok (i := 2202) (by decide +kernel), xwd_ok (i := 1016) (by decide +kernel)⟩
theorem xcf_3 : xCf 3 ("GridLaws$Formula", xT_3, 6) xy_3 [(0, 0), (0, 0), (0, 0), (2, 0), (2, 0), (2, 0)] := ⟨xlays_ok [1177, 1175, 1179, 1181, 1183, 1185] rfl (by decide +kernel), by decide +kernel, by decide +kernel, rfl, rfl, by decide +kernel, by decide +kernel, xwd_ok (i := 1161) (by decide +kernel), xwd_ok (i := 1009) (by decide +kernel)⟩
theorem xcf_4 : xCf 4 ("GridLaws$History", xT_4, 4) xy_4 [(0, 0), (2, 0), (0, 0), (0, 0)] := ⟨xlays_ok [2162, 2160, 2164, 2166] rfl (by decide +kernel), by decide +kernel, by decide +kernel, rfl, rfl, by decide +kernel, by decide +kernel, xwd_ok (i := 2129) (by decide +kernel), xwd_ok (i := 1012) (by decide +kernel)⟩
theorem xcf_5 : xCf 5 ("GridLaws$Law", xT_5, 17) xy_5 [(0, 0), (0, 0), (2, 0), (2, 0), (2, 0), (0, 0), (0, 0), (2, 0), (0, 0), (2, 0), (2, 0), (2, 0), (2, 0), (2, 0), (2, 0), (2, 0), (0, 0)] := ⟨xlays_ok [1236, 1234, 2012, 2014, 2022, 1238, 2002, 2024, 2020, 2026, 2006, 2016, 2000, 2004, 2008, 2010, 2018] rfl (by decide +kernel), by decide +kernel, by decide +kernel, rfl, rfl, by decide +kernel, by decide +kernel, xwd_ok (i := 1127) (by decide +kernel), xwd_ok (i := 1007) (by decide +kernel)⟩
theorem xcf_6 : xCf 6 ("GridLaws$Reader", xT_6, 5) xy_6 [(2, 0), (0, 0), (0, 0), (2, 0), (0, 0)] := ⟨xlays_ok [2042, 2046, 2048, 2044, 2050] rfl (by decide +kernel), by decide +kernel, by decide +kernel, rfl, rfl, by decide +kernel, by decide +kernel, xwd_ok (i := 2030) (by decide +kernel), xwd_ok (i := 1010) (by decide +kernel)⟩
theorem xcf_7 : xCf 7 ("GridLaws$Rules", xT_7, 4) xy_7 [(0, 0), (2, 0), (2, 0), (2, 0)] := ⟨xlays_ok [1150, 1152, 1154, 1156] rfl (by decide +kernel), by decide +kernel, by decide +kernel, rfl, rfl, by decide +kernel, by decide +kernel, xwd_ok (i := 1133) (by decide +kernel), xwd_ok (i := 1008) (by decide +kernel)⟩
theorem xcf_8 : xCf 8 ("GridLaws$Shelf", xT_8, 3) xy_8 [(2, 0), (0, 0), (2, 0)] := ⟨xlays_ok [2148, 2146, 2150] rfl (by decide +kernel), by decide +kernel, by decide +kernel, rfl, rfl, by decide +kernel, by decide +kernel, xwd_ok (i := 2135) (by decide +kernel), xwd_ok (i := 1013) (by decide +kernel)⟩
theorem xcf_9 : xCf 9 ("GridLaws$Sights", xT_9, 7) xy_9 [(0, 0), (2, 0), (2, 0), (0, 0), (2, 0), (2, 0), (2, 0)] := ⟨xlays_ok [2188, 2198, 2196, 2186, 2190, 2192, 2194] rfl (by decide +kernel), by decide +kernel, by decide +kernel, rfl, rfl, by decide +kernel, by decide +kernel, xwd_ok (i := 2172) (by decide +kernel), xwd_ok (i := 1015) (by decide +kernel)⟩
theorem xcf_10 : xCf 10 ("GridLaws$Tape", xT_10, 10) xy_10 [(0, 0), (0, 0), (2, 0), (2, 0), (0, 0), (0, 0), (0, 0), (4, 0), (0, 0), (0, 0)] := ⟨xlays_ok [1103, 1109, 1105, 1107, 1111, 1113, 1115, 1117, 1119, 1121] rfl (by decide +kernel), by decide +kernel, by decide +kernel, rfl, rfl, by decide +kernel, by decide +kernel, xwd_ok (i := 1032) (by decide +kernel), xwd_ok (i := 1002) (by decide +kernel)⟩
theorem xcf_11 : xCf 11 ("GridLaws", xT_11, 13) xy_11 [(2, 0), (2, 0), (2, 0), (2, 0), (2, 0), (2, 0), (2, 0), (2, 0), (2, 0), (2, 0), (2, 0), (0, 0), (2, 0)] := ⟨xlays_ok [3122, 3132, 3124, 3116, 3114, 3126, 3130, 3120, 3134, 3118, 3128, 3138, 3136] rfl (by decide +kernel), by decide +kernel, by decide +kernel, rfl, rfl, by decide +kernel, by decide +kernel, xwd_ok (i := 1024) (by decide +kernel), xwd_ok (i := 1001) (by decide +kernel)⟩
theorem xcf_12 : xCf 12 ("GridLawsModel", xT_12, 84) xy_12 [(0, 0), (2, 0), (0, 0), (2, 0), (2, 0), (2, 0), (2, 0), (2, 0), (2, 0), (2, 0), (0, 0), (2, 0), (0, 0), (0, 0), (2, 0), (2, 0), (0, 0), (2, 0), (2, 0), (2, 0), (2, 0), (0, 0), (0, 0), (2, 0), (0, 0), (2, 0), (2, 0), (0, 0), (2, 0), (0, 0), (2, 0), (2, 0), (2, 0), (2, 0), (2, 0), (0, 0), (2, 0), (0, 0), (2, 0), (0, 0), (0, 0), (0, 0), (0, 0), (2, 0), (2, 0), (0, 0), (2, 0), (2, 0), (4, 0), (2, 0), (2, 0), (2, 0), (2, 0), (2, 0), (2, 0), (2, 0), (0, 0), (0, 0), (0, 0), (2, 0), (2, 0), (2, 0), (2, 0), (2, 0), (2, 0), (2, 0), (2, 0), (2, 0), (2, 0), (2, 0), (2, 0), (2, 0), (2, 0), (0, 0), (0, 0), (0, 0), (0, 0), (0, 0), (0, 0), (0, 0), (0, 0), (0, 0), (0, 0), (0, 0)] := ⟨xlays_ok [7083, 7029, 7117, 7115, 7027, 7113, 7109, 7107, 7105, 7111, 7165, 7125, 7121, 7167, 7129, 7031, 7139, 7119, 7033, 7135, 7153, 7009, 7085, 7127, 7141, 7037, 7039, 7123, 7041, 7137, 7163, 7155, 7157, 7159, 7161, 7017, 7171, 7019, 7169, 7011, 7013, 7147, 7015, 7045, 7133, 7145, 7005, 7007, 7025, 7035, 7043, 7053, 7055, 7057, 7067, 7131, 7151, 7021, 7023, 7059, 7061, 7047, 7049, 7051, 7063, 7065, 7069, 7071, 7073, 7075, 7077, 7079, 7081, 7087, 7089, 7091, 7093, 7095, 7097, 7099, 7101, 7103, 7143, 7149] rfl (by decide +kernel), by decide +kernel, by decide +kernel, rfl, rfl, by decide +kernel, by decide +kernel, xwd_ok (i := 6145) (by decide +kernel), xwd_ok (i := 1021) (by decide +kernel)⟩
theorem xcls : ∀ (ci : Nat) (q : vw_C), xcl[ci]? = some q → ∃ df, xCf ci q (xTY ci) df := by
  intro ci q h
  match ci, h with
  | 0, h => cases h; exact ⟨_, xcf_0⟩
  | 1, h => cases h; exact ⟨_, xcf_1⟩
  | 2, h => cases h; exact ⟨_, xcf_2⟩
  | 3, h => cases h; exact ⟨_, xcf_3⟩
  | 4, h => cases h; exact ⟨_, xcf_4⟩
  | 5, h => cases h; exact ⟨_, xcf_5⟩
  | 6, h => cases h; exact ⟨_, xcf_6⟩
  | 7, h => cases h; exact ⟨_, xcf_7⟩
  | 8, h => cases h; exact ⟨_, xcf_8⟩
  | 9, h => cases h; exact ⟨_, xcf_9⟩
  | 10, h => cases h; exact ⟨_, xcf_10⟩
  | 11, h => cases h; exact ⟨_, xcf_11⟩
  | 12, h => cases h; exact ⟨_, xcf_12⟩
  | n + 13, h => exact absurd h (by simp [xcl])
end
section
theorem xallb_cut {M : xM} (n : Nat) : ∀ {l : List xE}, xallb M (l.take n) = true → xallb M (l.drop n) = true → xallb M l = true := by
  induction n with
  | zero => intro l _ h; exact h
  | succ n ih =>
    intro l h1 h2
    cases l with
    | nil => rfl
    | cons e l =>
      have h1' : cond (xvb M e) (xallb M (l.take n)) false = true := h1
      show cond (xvb M e) (xallb M l) false = true
      cases hv : xvb M e with
      | false => rw [hv] at h1'; cases h1'
      | true => rw [hv] at h1'; exact ih h1' h2
theorem xva_t11 : xallb xm_177 (xt_177.drop 682) = true := xva_11
theorem xva_t10 : xallb xm_177 (xt_177.drop 620) = true := xallb_cut 62 xva_10 (by rw [List.drop_drop]; exact xva_t11)
theorem xva_t9 : xallb xm_177 (xt_177.drop 558) = true := xallb_cut 62 xva_9 (by rw [List.drop_drop]; exact xva_t10)
theorem xva_t8 : xallb xm_177 (xt_177.drop 496) = true := xallb_cut 62 xva_8 (by rw [List.drop_drop]; exact xva_t9)
theorem xva_t7 : xallb xm_177 (xt_177.drop 434) = true := xallb_cut 62 xva_7 (by rw [List.drop_drop]; exact xva_t8)
theorem xva_t6 : xallb xm_177 (xt_177.drop 372) = true := xallb_cut 62 xva_6 (by rw [List.drop_drop]; exact xva_t7)
theorem xva_t5 : xallb xm_177 (xt_177.drop 310) = true := xallb_cut 62 xva_5 (by rw [List.drop_drop]; exact xva_t6)
theorem xva_t4 : xallb xm_177 (xt_177.drop 248) = true := xallb_cut 62 xva_4 (by rw [List.drop_drop]; exact xva_t5)
theorem xva_t3 : xallb xm_177 (xt_177.drop 186) = true := xallb_cut 62 xva_3 (by rw [List.drop_drop]; exact xva_t4)
theorem xva_t2 : xallb xm_177 (xt_177.drop 124) = true := xallb_cut 62 xva_2 (by rw [List.drop_drop]; exact xva_t3)
theorem xva_t1 : xallb xm_177 (xt_177.drop 62) = true := xallb_cut 62 xva_1 (by rw [List.drop_drop]; exact xva_t2)
theorem xva_t0 : xallb xm_177 xt_177 = true := xallb_cut 62 xva_0 xva_t1
theorem xvm_177 : xmvb xm_177 = true := Bool.and_eq_true_iff.mpr ⟨xva_c, xva_t0⟩
set_option maxRecDepth 10000 in
theorem xMT_ok : ∀ M ∈ xMT, xmvb M = true := List.forall_mem_cons.mpr ⟨xvm_0, List.forall_mem_cons.mpr ⟨xvm_1, List.forall_mem_cons.mpr ⟨xvm_2, List.forall_mem_cons.mpr ⟨xvm_3, List.forall_mem_cons.mpr ⟨xvm_4, List.forall_mem_cons.mpr ⟨xvm_5, List.forall_mem_cons.mpr ⟨xvm_6, List.forall_mem_cons.mpr ⟨xvm_7, List.forall_mem_cons.mpr ⟨xvm_8, List.forall_mem_cons.mpr ⟨xvm_9, List.forall_mem_cons.mpr ⟨xvm_10, List.forall_mem_cons.mpr ⟨xvm_11, List.forall_mem_cons.mpr ⟨xvm_12, List.forall_mem_cons.mpr ⟨xvm_13, List.forall_mem_cons.mpr ⟨xvm_14, List.forall_mem_cons.mpr ⟨xvm_15, List.forall_mem_cons.mpr ⟨xvm_16, List.forall_mem_cons.mpr ⟨xvm_17, List.forall_mem_cons.mpr ⟨xvm_18, List.forall_mem_cons.mpr ⟨xvm_19, List.forall_mem_cons.mpr ⟨xvm_20, List.forall_mem_cons.mpr ⟨xvm_21, List.forall_mem_cons.mpr ⟨xvm_22, List.forall_mem_cons.mpr ⟨xvm_23, List.forall_mem_cons.mpr ⟨xvm_24, List.forall_mem_cons.mpr ⟨xvm_25, List.forall_mem_cons.mpr ⟨xvm_26, List.forall_mem_cons.mpr ⟨xvm_27, List.forall_mem_cons.mpr ⟨xvm_28, List.forall_mem_cons.mpr ⟨xvm_29, List.forall_mem_cons.mpr ⟨xvm_30, List.forall_mem_cons.mpr ⟨xvm_31, List.forall_mem_cons.mpr ⟨xvm_32, List.forall_mem_cons.mpr ⟨xvm_33, List.forall_mem_cons.mpr ⟨xvm_34, List.forall_mem_cons.mpr ⟨xvm_35, List.forall_mem_cons.mpr ⟨xvm_36, List.forall_mem_cons.mpr ⟨xvm_37, List.forall_mem_cons.mpr ⟨xvm_38, List.forall_mem_cons.mpr ⟨xvm_39, List.forall_mem_cons.mpr ⟨xvm_40, List.forall_mem_cons.mpr ⟨xvm_41, List.forall_mem_cons.mpr ⟨xvm_42, List.forall_mem_cons.mpr ⟨xvm_43, List.forall_mem_cons.mpr ⟨xvm_44, List.forall_mem_cons.mpr ⟨xvm_45, List.forall_mem_cons.mpr ⟨xvm_46, List.forall_mem_cons.mpr ⟨xvm_47, List.forall_mem_cons.mpr ⟨xvm_48, List.forall_mem_cons.mpr ⟨xvm_49, List.forall_mem_cons.mpr ⟨xvm_50, List.forall_mem_cons.mpr ⟨xvm_51, List.forall_mem_cons.mpr ⟨xvm_52, List.forall_mem_cons.mpr ⟨xvm_53, List.forall_mem_cons.mpr ⟨xvm_54, List.forall_mem_cons.mpr ⟨xvm_55, List.forall_mem_cons.mpr ⟨xvm_56, List.forall_mem_cons.mpr ⟨xvm_57, List.forall_mem_cons.mpr ⟨xvm_58, List.forall_mem_cons.mpr ⟨xvm_59, List.forall_mem_cons.mpr ⟨xvm_60, List.forall_mem_cons.mpr ⟨xvm_61, List.forall_mem_cons.mpr ⟨xvm_62, List.forall_mem_cons.mpr ⟨xvm_63, List.forall_mem_cons.mpr ⟨xvm_64, List.forall_mem_cons.mpr ⟨xvm_65, List.forall_mem_cons.mpr ⟨xvm_66, List.forall_mem_cons.mpr ⟨xvm_67, List.forall_mem_cons.mpr ⟨xvm_68, List.forall_mem_cons.mpr ⟨xvm_69, List.forall_mem_cons.mpr ⟨xvm_70, List.forall_mem_cons.mpr ⟨xvm_71, List.forall_mem_cons.mpr ⟨xvm_72, List.forall_mem_cons.mpr ⟨xvm_73, List.forall_mem_cons.mpr ⟨xvm_74, List.forall_mem_cons.mpr ⟨xvm_75, List.forall_mem_cons.mpr ⟨xvm_76, List.forall_mem_cons.mpr ⟨xvm_77, List.forall_mem_cons.mpr ⟨xvm_78, List.forall_mem_cons.mpr ⟨xvm_79, List.forall_mem_cons.mpr ⟨xvm_80, List.forall_mem_cons.mpr ⟨xvm_81, List.forall_mem_cons.mpr ⟨xvm_82, List.forall_mem_cons.mpr ⟨xvm_83, List.forall_mem_cons.mpr ⟨xvm_84, List.forall_mem_cons.mpr ⟨xvm_85, List.forall_mem_cons.mpr ⟨xvm_86, List.forall_mem_cons.mpr ⟨xvm_87, List.forall_mem_cons.mpr ⟨xvm_88, List.forall_mem_cons.mpr ⟨xvm_89, List.forall_mem_cons.mpr ⟨xvm_90, List.forall_mem_cons.mpr ⟨xvm_91, List.forall_mem_cons.mpr ⟨xvm_92, List.forall_mem_cons.mpr ⟨xvm_93, List.forall_mem_cons.mpr ⟨xvm_94, List.forall_mem_cons.mpr ⟨xvm_95, List.forall_mem_cons.mpr ⟨xvm_96, List.forall_mem_cons.mpr ⟨xvm_97, List.forall_mem_cons.mpr ⟨xvm_98, List.forall_mem_cons.mpr ⟨xvm_99, List.forall_mem_cons.mpr ⟨xvm_100, List.forall_mem_cons.mpr ⟨xvm_101, List.forall_mem_cons.mpr ⟨xvm_102, List.forall_mem_cons.mpr ⟨xvm_103, List.forall_mem_cons.mpr ⟨xvm_104, List.forall_mem_cons.mpr ⟨xvm_105, List.forall_mem_cons.mpr ⟨xvm_106, List.forall_mem_cons.mpr ⟨xvm_107, List.forall_mem_cons.mpr ⟨xvm_108, List.forall_mem_cons.mpr ⟨xvm_109, List.forall_mem_cons.mpr ⟨xvm_110, List.forall_mem_cons.mpr ⟨xvm_111, List.forall_mem_cons.mpr ⟨xvm_112, List.forall_mem_cons.mpr ⟨xvm_113, List.forall_mem_cons.mpr ⟨xvm_114, List.forall_mem_cons.mpr ⟨xvm_115, List.forall_mem_cons.mpr ⟨xvm_116, List.forall_mem_cons.mpr ⟨xvm_117, List.forall_mem_cons.mpr ⟨xvm_118, List.forall_mem_cons.mpr ⟨xvm_119, List.forall_mem_cons.mpr ⟨xvm_120, List.forall_mem_cons.mpr ⟨xvm_121, List.forall_mem_cons.mpr ⟨xvm_122, List.forall_mem_cons.mpr ⟨xvm_123, List.forall_mem_cons.mpr ⟨xvm_124, List.forall_mem_cons.mpr ⟨xvm_125, List.forall_mem_cons.mpr ⟨xvm_126, List.forall_mem_cons.mpr ⟨xvm_127, List.forall_mem_cons.mpr ⟨xvm_128, List.forall_mem_cons.mpr ⟨xvm_129, List.forall_mem_cons.mpr ⟨xvm_130, List.forall_mem_cons.mpr ⟨xvm_131, List.forall_mem_cons.mpr ⟨xvm_132, List.forall_mem_cons.mpr ⟨xvm_133, List.forall_mem_cons.mpr ⟨xvm_134, List.forall_mem_cons.mpr ⟨xvm_135, List.forall_mem_cons.mpr ⟨xvm_136, List.forall_mem_cons.mpr ⟨xvm_137, List.forall_mem_cons.mpr ⟨xvm_138, List.forall_mem_cons.mpr ⟨xvm_139, List.forall_mem_cons.mpr ⟨xvm_140, List.forall_mem_cons.mpr ⟨xvm_141, List.forall_mem_cons.mpr ⟨xvm_142, List.forall_mem_cons.mpr ⟨xvm_143, List.forall_mem_cons.mpr ⟨xvm_144, List.forall_mem_cons.mpr ⟨xvm_145, List.forall_mem_cons.mpr ⟨xvm_146, List.forall_mem_cons.mpr ⟨xvm_147, List.forall_mem_cons.mpr ⟨xvm_148, List.forall_mem_cons.mpr ⟨xvm_149, List.forall_mem_cons.mpr ⟨xvm_150, List.forall_mem_cons.mpr ⟨xvm_151, List.forall_mem_cons.mpr ⟨xvm_152, List.forall_mem_cons.mpr ⟨xvm_153, List.forall_mem_cons.mpr ⟨xvm_154, List.forall_mem_cons.mpr ⟨xvm_155, List.forall_mem_cons.mpr ⟨xvm_156, List.forall_mem_cons.mpr ⟨xvm_157, List.forall_mem_cons.mpr ⟨xvm_158, List.forall_mem_cons.mpr ⟨xvm_159, List.forall_mem_cons.mpr ⟨xvm_160, List.forall_mem_cons.mpr ⟨xvm_161, List.forall_mem_cons.mpr ⟨xvm_162, List.forall_mem_cons.mpr ⟨xvm_163, List.forall_mem_cons.mpr ⟨xvm_164, List.forall_mem_cons.mpr ⟨xvm_165, List.forall_mem_cons.mpr ⟨xvm_166, List.forall_mem_cons.mpr ⟨xvm_167, List.forall_mem_cons.mpr ⟨xvm_168, List.forall_mem_cons.mpr ⟨xvm_169, List.forall_mem_cons.mpr ⟨xvm_170, List.forall_mem_cons.mpr ⟨xvm_171, List.forall_mem_cons.mpr ⟨xvm_172, List.forall_mem_cons.mpr ⟨xvm_173, List.forall_mem_cons.mpr ⟨xvm_174, List.forall_mem_cons.mpr ⟨xvm_175, List.forall_mem_cons.mpr ⟨xvm_176, List.forall_mem_cons.mpr ⟨xvm_177, fun _ h => absurd h List.not_mem_nil⟩⟩⟩⟩⟩⟩⟩⟩⟩⟩⟩⟩⟩⟩⟩⟩⟩⟩⟩⟩⟩⟩⟩⟩⟩⟩⟩⟩⟩⟩⟩⟩⟩⟩⟩⟩⟩⟩⟩⟩⟩⟩⟩⟩⟩⟩⟩⟩⟩⟩⟩⟩⟩⟩⟩⟩⟩⟩⟩⟩⟩⟩⟩⟩⟩⟩⟩⟩⟩⟩⟩⟩⟩⟩⟩⟩⟩⟩⟩⟩⟩⟩⟩⟩⟩⟩⟩⟩⟩⟩⟩⟩⟩⟩⟩⟩⟩⟩⟩⟩⟩⟩⟩⟩⟩⟩⟩⟩⟩⟩⟩⟩⟩⟩⟩⟩⟩⟩⟩⟩⟩⟩⟩⟩⟩⟩⟩⟩⟩⟩⟩⟩⟩⟩⟩⟩⟩⟩⟩⟩⟩⟩⟩⟩⟩⟩⟩⟩⟩⟩⟩⟩⟩⟩⟩⟩⟩⟩⟩⟩⟩⟩⟩⟩⟩⟩⟩⟩⟩⟩⟩⟩⟩⟩⟩⟩⟩⟩
end
section

/-! the law, by its runs -/
abbrev xFl : List Cond := flatC (Jvm.Cond.and given_1 narrow_1)
def xtm (i : Nat) : Term := match i with
  | 0 => .string "GridLaws$Law" 99
  | 1 => .string "GridLaws$Tape" 46
  | _ => .string "GridLaws$Tape" 78
theorem xq_ex : ∀ i, i < 3 → Cond.exactly (xtm i) "java/lang/String" ∈ xFl := by decide +kernel
theorem xq_co : ∀ i, i < 3 → Cond.eq (.field (xtm i) "java/lang/String" "coder" "B") (.int 0) ∈ xFl := by decide +kernel
theorem xq_ar : ∀ i, i < 3 → Cond.arrayOf (.field (xtm i) "java/lang/String" "value" "[B") .byte ∈ xFl := by decide +kernel
theorem xq_le : ∀ i, i < 3 → Cond.eq (.length (.field (xtm i) "java/lang/String" "value" "[B")) (.int (Int32.ofNat ((xBY.map List.length).getD i 0))) ∈ xFl := by decide +kernel
theorem xq_el : ∀ i, i < 3 → ∀ j, j < (xBY.map List.length).getD i 0 → Cond.eq (.elem (.field (xtm i) "java/lang/String" "value" "[B") (.int (Int32.ofNat j))) (.int ((xBY.getD i []).getD j 0)) ∈ xFl := by decide +kernel
theorem xq_ne : ∀ i, i < 3 → ∀ j, j < 3 → i ≠ j → Cond.not (Cond.eq (xtm i) (xtm j)) ∈ xFl ∨ Cond.not (Cond.eq (xtm j) (xtm i)) ∈ xFl := by decide +kernel
theorem xq_bl : ∀ i, i < 3 → (xBY.map List.length).getD i 0 < 2 ^ 31 := by decide +kernel
theorem xq_cs : Cond.eq (.static "java/lang/String" "COMPACT_STRINGS" "Z") (.int 1) ∈ xFl := by decide +kernel
theorem xq_si : Cond.isRef (.static "jdk/internal/util/Preconditions" "SIOOBE_FORMATTER" "Ljava/util/function/BiFunction;") ∈ xFl := by decide +kernel
theorem xq_nw : ∀ w ∈ xNW, w ∈ lw_tbl ∧ w.onTables = true := by decide +kernel
theorem xq_sr : ∀ q ∈ xSR, Cond.stringRef q.1 q.2.1 q.2.2.1 ∈ lw_tbl ∧ xtm q.2.2.2 = .string q.1 q.2.1 ∧ q.2.2.2 < 3 := by decide +kernel
theorem xq_l1 : Cond.laysStatic "java/lang/String" "COMPACT_STRINGS" "Z" ∈ lw_tbl := by decide +kernel
theorem xq_l2 : Cond.laysStatic "jdk/internal/util/Preconditions" "SIOOBE_FORMATTER" "Ljava/util/function/BiFunction;" ∈ lw_tbl := by decide +kernel
theorem xq_i1 : Cond.initialized "java/lang/String" ∈ lw_tbl := by decide +kernel
theorem xq_i2 : Cond.initialized "jdk/internal/util/Preconditions" ∈ lw_tbl := by decide +kernel
end
section
/-! THE CLAIM OUT OF ONE WALK OF THE LAW'S BODY. Your part is whole_start (and what it stands on); all else here is the same for every law, but numbers. -/
def R_law : String := "GridLawsLaw"
def lw_P (b : Addr) (xs : List Int32) (args : Array Value) (s : State) : Prop := args = #[.ref b] ∧ s.IntsAt b xs ∧ xs.length ≤ 6 ∧ (Jvm.Cond.and given_1 narrow_1).before args s = true
def lw_Q (_ : Array Value) (s : State) (o : Outcome) (t : State) : Prop := o = .returned (some (.int 1)) ∧ Framed s o t [] 600000 7302250
def lw_Z (below : List Frame) (a : Array Value) (s : State) : State → Prop := fun t => ∃ o, t.status = .running ∧ Ended t below o ∧ lw_Q a s o t
/-- the law's own end, with 1 on the stack, nothing written that was there before, its room as the claim has it -/
theorem lw_ret {p : Program} {l : Launch} {e : Env} {s : State} {m : MethodId} {below : List Frame} {meth : Method} {c : Code} {b : Nat} (hx : p.tables.exec = Jvm.exec) (hb : c.code = code) (hr : meth.sig.returnType = ret) (hlocks : meth.locks = false) {pc : Nat} {H : Heap} {ls : Array Slot} (hdg : decode code pc = .ok (.ireturn, 1)) : W p l e room_1 s m #[Value.ref b] below meth c H [] 600000 7302250 (lw_Z below #[Value.ref b] s) (F0 m pc ls [.int 1]) := by
  intro T hT X
  obtain ⟨fs, hret, hrun, hended, hW, hframe⟩ := X.leave (v := some (.int 1)) (hlocks := hlocks) (fun h => by rw [hr] at h; cases h)
  have hmeth' : T.vm.method? m = some meth := X.method'
  refine ⟨T.setFrames fs, ?_, .returned (some (.int 1)), hrun, hended, rfl, ⟨_, rfl⟩, hW, hframe⟩
  jvm_step X.here [X.here.top, hx, hb, hdg, hmeth', hr, ret, narrow_b1]
  (try refine ⟨rfl, ?_⟩); (try refine ⟨rfl, ?_⟩)
  first | (intro acts; rw [hret _ acts rfl rfl rfl]) | rw [hret _ _ rfl rfl rfl]
  exact Steps.refl _
/-- what holds at the law's entry: the machine, the code, the tables' words (any of lw_tbl by 'hts w (by decide +kernel)'), the script of L ints xs at the cell b, what the Statement gives of the start (any of its parts by flat_of_before) -/
def lw_At (p : Program) (s : State) (m : MethodId) (meth : Method) (c : Code) (b L : Nat) (xs : Nat → Int32) : Prop :=
  p.tables.exec = Jvm.exec ∧ c.code = code ∧ meth.sig.returnType = ret ∧ c.maxLocals = 4 ∧ s.vm.findClass R_law = some m.cls ∧ (∀ w ∈ lw_tbl, w.before #[Value.ref b] s = true) ∧ va_X b L xs s s.heap ∧ b < s.heap.size ∧ meth.locks = false ∧ (Jvm.Cond.and given_1 narrow_1).before #[Value.ref b] s = true
/-- what lies below, at the law's entry -/
theorem xlaw_ex {p : Program} {s : State} {m : MethodId} {meth : Method} {c : Code} {b L : Nat} {xs : Nat → Int32} (C0 : lw_At p s m meth c b L xs) : ∃ X : xX, X.1 = b ∧ xEX X s.heap.size L xs s s.heap := by
  obtain ⟨hx, hb, hr, hml, hown, hts, hX, hbl, hlocks, hgv⟩ := C0
  have hf := flat_of_before _ hgv
  have hA : ∀ a : Nat, a < s.heap.size → ¬ xAA s.heap.size a := fun a h => Nat.not_le.mpr h
  obtain ⟨adK, adV, hS, hE⟩ := vk_Sof (A := xAA s.heap.size) (N := 3) (tm := xtm) (len := xBY.map List.length) (byt := xBY) xq_bl (fun i hi => hf _ (xq_ex i hi)) (fun i hi => hf _ (xq_co i hi)) (fun i hi => hf _ (xq_ar i hi)) (fun i hi => hf _ (xq_le i hi)) (fun i hi j hj => hf _ (xq_el i hi j hj)) (fun i j hi hj hij => (xq_ne i hi j hj hij).imp (fun h => hf _ h) (fun h => hf _ h)) hA
  refine ⟨(b, adK, adV), rfl, fun w hw => ?_, fun q hq => ?_, hS, ?_, ?_, hX, hbl⟩
  · exact va_Nw.of (xq_nw w hw).2 (hts w (xq_nw w hw).1)
  · obtain ⟨h1, h2, h3⟩ := xq_sr q hq
    exact vk_R.of (hts _ h1) (by rw [← h2]; exact hE _ h3)
  · exact va_Zof (hts _ xq_l1) (hts _ xq_i1) (va_eqi (hf _ xq_cs)) hA
  · exact va_Zqof (hts _ xq_l2) (hts _ xq_i2) (hf _ xq_si) hA
theorem xone_ok {o : xR} (h : xh_one o = true) : ∃ outs, o = some outs ∧ ∀ q ∈ outs, q.1 = some (0, 1) := by
  cases o with
  | none => cases h
  | some l =>
    refine ⟨l, rfl, fun q hq => ?_⟩
    have h1 := List.all_eq_true.mp h q hq
    obtain ⟨r, t⟩ := q
    cases r with
    | none => cases h1
    | some v =>
      have h2 := xan h1
      obtain ⟨v1, v2⟩ := v
      have e1 : v1 = 0 := Nat.eq_of_beq_eq_true h2.1
      have e2 : v2 = 1 := Nat.eq_of_beq_eq_true h2.2
      subst e1
      subst e2
      rfl
set_option maxHeartbeats 4000000 in
/-- the law's end, by one of its runs -/
theorem xlaw {p : Program} {e : Env} {s : State} {m : MethodId} {below : List Frame} {meth : Method} {c : Code} (l : Launch) {b L : Nat} {xs : Nat → Int32} {G : xG} {sy : xS} (C0 : lw_At p s m meth c b L xs) (hG : ∀ X D, xGok (l, X, D, s.heap.size, L, xs) G) (hs : ∀ X D, xsat sy (xrho (l, X, D, s.heap.size, L, xs))) (hrun : xh_one (xh_run (xd_meths G xNA xMT) 30000 12 600000 7302250 (xd_rows G xNA 600000 7302250 (some .boolean) xt_177) (xd_rows G xNA 600000 7302250 (some .boolean) xt_177) [(6, 0), (9, 0), (9, 0), (9, 0)] [] xH0 sy 0 0) = true) : W p l e room_1 s m #[Value.ref b] below meth c s.heap [] 0 0 (lw_Z below #[Value.ref b] s) (entryFrame m ([Value.ref b] : List Value).toArray 4) := by
  obtain ⟨X, hXb, hE⟩ := xlaw_ex C0
  obtain ⟨hx, hb, hr, hml, hown, hts, hX, hbl, hlocks, hgv⟩ := id C0
  obtain ⟨c0, i0, hKn0⟩ := u_known (C := "GridLaws$Board") (T := xT_0) (N := 15) (n := 15) hts (fun w hw => (List.mem_filter.mp (xcf_0.1 w hw)).1) (hts _ (List.mem_filter.mp xcf_0.2.2.2.2.2.2.2.1).1)
  obtain ⟨c1, i1, hKn1⟩ := u_known (C := "GridLaws$Duel") (T := xT_1) (N := 6) (n := 6) hts (fun w hw => (List.mem_filter.mp (xcf_1.1 w hw)).1) (hts _ (List.mem_filter.mp xcf_1.2.2.2.2.2.2.2.1).1)
  obtain ⟨c2, i2, hKn2⟩ := u_known (C := "GridLaws$Filler") (T := xT_2) (N := 13) (n := 13) hts (fun w hw => (List.mem_filter.mp (xcf_2.1 w hw)).1) (hts _ (List.mem_filter.mp xcf_2.2.2.2.2.2.2.2.1).1)
  obtain ⟨c3, i3, hKn3⟩ := u_known (C := "GridLaws$Formula") (T := xT_3) (N := 6) (n := 6) hts (fun w hw => (List.mem_filter.mp (xcf_3.1 w hw)).1) (hts _ (List.mem_filter.mp xcf_3.2.2.2.2.2.2.2.1).1)
  obtain ⟨c4, i4, hKn4⟩ := u_known (C := "GridLaws$History") (T := xT_4) (N := 4) (n := 4) hts (fun w hw => (List.mem_filter.mp (xcf_4.1 w hw)).1) (hts _ (List.mem_filter.mp xcf_4.2.2.2.2.2.2.2.1).1)
  obtain ⟨c5, i5, hKn5⟩ := u_known (C := "GridLaws$Law") (T := xT_5) (N := 17) (n := 17) hts (fun w hw => (List.mem_filter.mp (xcf_5.1 w hw)).1) (hts _ (List.mem_filter.mp xcf_5.2.2.2.2.2.2.2.1).1)
  obtain ⟨c6, i6, hKn6⟩ := u_known (C := "GridLaws$Reader") (T := xT_6) (N := 5) (n := 5) hts (fun w hw => (List.mem_filter.mp (xcf_6.1 w hw)).1) (hts _ (List.mem_filter.mp xcf_6.2.2.2.2.2.2.2.1).1)
  obtain ⟨c7, i7, hKn7⟩ := u_known (C := "GridLaws$Rules") (T := xT_7) (N := 4) (n := 4) hts (fun w hw => (List.mem_filter.mp (xcf_7.1 w hw)).1) (hts _ (List.mem_filter.mp xcf_7.2.2.2.2.2.2.2.1).1)
  obtain ⟨c8, i8, hKn8⟩ := u_known (C := "GridLaws$Shelf") (T := xT_8) (N := 3) (n := 3) hts (fun w hw => (List.mem_filter.mp (xcf_8.1 w hw)).1) (hts _ (List.mem_filter.mp xcf_8.2.2.2.2.2.2.2.1).1)
  obtain ⟨c9, i9, hKn9⟩ := u_known (C := "GridLaws$Sights") (T := xT_9) (N := 7) (n := 7) hts (fun w hw => (List.mem_filter.mp (xcf_9.1 w hw)).1) (hts _ (List.mem_filter.mp xcf_9.2.2.2.2.2.2.2.1).1)
  obtain ⟨c10, i10, hKn10⟩ := u_known (C := "GridLaws$Tape") (T := xT_10) (N := 10) (n := 10) hts (fun w hw => (List.mem_filter.mp (xcf_10.1 w hw)).1) (hts _ (List.mem_filter.mp xcf_10.2.2.2.2.2.2.2.1).1)
  obtain ⟨c11, i11, hKn11⟩ := u_known (C := "GridLaws") (T := xT_11) (N := 13) (n := 13) hts (fun w hw => (List.mem_filter.mp (xcf_11.1 w hw)).1) (hts _ (List.mem_filter.mp xcf_11.2.2.2.2.2.2.2.1).1)
  obtain ⟨c12, i12, hKn12⟩ := u_known (C := "GridLawsModel") (T := xT_12) (N := 84) (n := 84) hts (fun w hw => (List.mem_filter.mp (xcf_12.1 w hw)).1) (hts _ (List.mem_filter.mp xcf_12.2.2.2.2.2.2.2.1).1)
  obtain ⟨dC, dI, hKc⟩ : ∃ (dC : Nat → ClassId) (dI : Nat → Nat → Nat), ∀ (k : Nat) (q : vw_C), xcl[k]? = some q → u_Kn s q.1 q.2.1 q.2.2 (dC k) (dI k) := by
    refine ⟨fun k => if k = 0 then c0 else if k = 1 then c1 else if k = 2 then c2 else if k = 3 then c3 else if k = 4 then c4 else if k = 5 then c5 else if k = 6 then c6 else if k = 7 then c7 else if k = 8 then c8 else if k = 9 then c9 else if k = 10 then c10 else if k = 11 then c11 else c12, fun k => if k = 0 then i0 else if k = 1 then i1 else if k = 2 then i2 else if k = 3 then i3 else if k = 4 then i4 else if k = 5 then i5 else if k = 6 then i6 else if k = 7 then i7 else if k = 8 then i8 else if k = 9 then i9 else if k = 10 then i10 else if k = 11 then i11 else i12, ?_⟩
    intro k q hq
    match k, hq with
    | 0, hq => cases hq; exact hKn0
    | 1, hq => cases hq; exact hKn1
    | 2, hq => cases hq; exact hKn2
    | 3, hq => cases hq; exact hKn3
    | 4, hq => cases hq; exact hKn4
    | 5, hq => cases hq; exact hKn5
    | 6, hq => cases hq; exact hKn6
    | 7, hq => cases hq; exact hKn7
    | 8, hq => cases hq; exact hKn8
    | 9, hq => cases hq; exact hKn9
    | 10, hq => cases hq; exact hKn10
    | 11, hq => cases hq; exact hKn11
    | 12, hq => cases hq; exact hKn12
    | k + 13, hq => exact absurd hq (by simp [xcl])
  obtain ⟨outs, hk, hone⟩ := xone_ok hrun
  have hI := xrun_ok (g := (l, X, (dC, dI), s.heap.size, L, xs)) (G := G) xcls xJd_ok xMT_ok (hG X (dC, dI)) 30000
  have hN : xLW ∈ xMT := List.mem_of_getElem? (i := 177) rfl
  have hok := hI xLW hN [] xt_177 rfl 0 (fun q r hq => by cases hq; rfl) 12 _ _ _ _ _ _ _ hk
  rw [lg_entry_eq]
  refine hok p e room_1 s m #[Value.ref b] below meth c (lw_Z below #[Value.ref b] s) s.heap [] _ [] (xrho (l, X, (dC, dI), s.heap.size, L, xs)) [] [] ?_ ?_ (hs X (dC, dI)) (xx_e_rf _) trivial ?_ ?_
  · exact ⟨hx, hb, hml, fun w hw => hts w (List.mem_filter.mp hw).1, hown, fun h => absurd h (by decide), hE, Nat.le_refl _, by decide, by decide, Nat.le_refl _, Nat.le_refl _⟩
  · refine ⟨fun k q h => by simp at h, ⟨fun i j p q h => by simp at h, fun k q h => by simp at h⟩, va_S.rf, ⟨hKc, fun k q h => by simp at h⟩, rfl, fun k p c h => by simp at h⟩
  · exact xentry_ok (as := [(6, 0)]) (vs := [Value.ref b]) (n := 4) ⟨by rw [← hXb]; rfl, trivial⟩ (by decide)
  · intro o ho ρ' ws' tys' H' locs' ls' pc' ce' sl' e1 e2 e3 hW' hce hsl
    have ho1 := hone o ho
    refine ⟨fun o1 => absurd (ho1.symm.trans o1) (fun h => by cases h), fun a x ty o1 r1 hxv hnar dg => ?_, fun a x o1 r1 => absurd r1 (fun h => by cases h)⟩
    rw [ho1] at o1
    cases o1
    have ex : x = 1 := by
      have : Value.int x = .int (Int32.ofNat 1) := hxv
      injection this
    subst ex
    refine va_forget hW'.2.2.1.2.2 ?_
    refine W.widen (k := 600000) (n := 7302250) hce hsl ?_
    exact lw_ret hx hb hr hlocks dg
theorem xand63 (x : Int32) : 0 ≤ (x &&& 63).toInt ∧ (x &&& 63).toInt ≤ 63 := by
  obtain ⟨j, hj, e⟩ := pk_andE x (m := 63) 6 (by decide)
  rw [e, nI_toInt (by omega)]
  omega
/-- THE LAW, from its entry -/
theorem whole_start {p : Program} {e : Env} {s : State} {m : MethodId} {below : List Frame} {meth : Method} {c : Code} (l : Launch) {b L : Nat} {xs : Nat → Int32} (hL : L ≤ 6) (C0 : lw_At p s m meth c b L xs) : W p l e room_1 s m #[Value.ref b] below meth c s.heap [] 0 0 (lw_Z below #[Value.ref b] s) (entryFrame m ([Value.ref b] : List Value).toArray 4) := by
  by_cases h6 : L = 6
  · subst h6
    have hGB : ∀ X D, xGok (l, X, D, s.heap.size, 6, xs) xGB := fun X D => ⟨rfl, rfl, Or.inl ⟨rfl, rfl⟩⟩
    have hz := xand63 (xs 0)
    have hy := xfull_ok (xs 1)
    have hyl : -2147483648 ≤ (xs 1).toInt := hy.1
    have hyu : (xs 1).toInt ≤ 2147483647 := hy.2
    have go : ∀ (iv1 iv6 : Int × Int), iv1.1 ≤ (xs 1).toInt → (xs 1).toInt ≤ iv1.2 → iv6.1 ≤ (xs 0 &&& 63).toInt → (xs 0 &&& 63).toInt ≤ iv6.2 → xh_one (xh_run xMB 30000 12 600000 7302250 xLB xLB [(6, 0), (9, 0), (9, 0), (9, 0)] [] xH0 [xs_full, iv1, xs_full, xs_full, xs_full, xs_full, iv6] 0 0) = true → W p l e room_1 s m #[Value.ref b] below meth c s.heap [] 0 0 (lw_Z below #[Value.ref b] s) (entryFrame m ([Value.ref b] : List Value).toArray 4) :=
      fun iv1 iv6 h1 h2 h3 h4 hrun => xlaw l C0 (G := xGB) (sy := [xs_full, iv1, xs_full, xs_full, xs_full, xs_full, iv6]) hGB (fun X D => by
        show xsat _ (xrho (l, X, D, s.heap.size, 6, xs))
        unfold xrho
        rw [if_pos (show (6 : Nat) = 6 from rfl)]
        exact ⟨xfull_ok _, ⟨h1, h2⟩, xfull_ok _, xfull_ok _, xfull_ok _, xfull_ok _, ⟨h3, h4⟩, trivial⟩) hrun
    generalize (xs 0 &&& 63).toInt = zz at hz go
    generalize (xs 1).toInt = yy at hyl hyu go
    clear hy
    by_cases a0 : zz ≤ 5
    · exact go xs_full (0, 5) hyl hyu (show (0 : Int) ≤ zz by omega) (show zz ≤ (5 : Int) by omega) xr_0
    by_cases a1 : zz ≤ 6
    · by_cases y0 : yy ≤ 0
      · exact go (-2147483648, 0) (6, 6) (show (-2147483648 : Int) ≤ yy by omega) (show yy ≤ (0 : Int) by omega) (show (6 : Int) ≤ zz by omega) (show zz ≤ (6 : Int) by omega) xr_6a
      by_cases y1 : yy ≤ 1
      · exact go (1, 1) (6, 6) (show (1 : Int) ≤ yy by omega) (show yy ≤ (1 : Int) by omega) (show (6 : Int) ≤ zz by omega) (show zz ≤ (6 : Int) by omega) xr_6b
      by_cases y2 : yy ≤ 2
      · exact go (2, 2) (6, 6) (show (2 : Int) ≤ yy by omega) (show yy ≤ (2 : Int) by omega) (show (6 : Int) ≤ zz by omega) (show zz ≤ (6 : Int) by omega) xr_6c
      by_cases y3 : yy ≤ 3
      · exact go (3, 3) (6, 6) (show (3 : Int) ≤ yy by omega) (show yy ≤ (3 : Int) by omega) (show (6 : Int) ≤ zz by omega) (show zz ≤ (6 : Int) by omega) xr_6d
      by_cases y4 : yy ≤ 4
      · exact go (4, 4) (6, 6) (show (4 : Int) ≤ yy by omega) (show yy ≤ (4 : Int) by omega) (show (6 : Int) ≤ zz by omega) (show zz ≤ (6 : Int) by omega) xr_6e
      exact go (5, 2147483647) (6, 6) (show (5 : Int) ≤ yy by omega) (show yy ≤ (2147483647 : Int) by omega) (show (6 : Int) ≤ zz by omega) (show zz ≤ (6 : Int) by omega) xr_6f
    by_cases a2 : zz ≤ 11
    · exact go xs_full (7, 11) hyl hyu (show (7 : Int) ≤ zz by omega) (show zz ≤ (11 : Int) by omega) xr_7
    by_cases a3 : zz ≤ 12
    · by_cases y0 : yy ≤ 3
      · exact go (-2147483648, 3) (12, 12) (show (-2147483648 : Int) ≤ yy by omega) (show yy ≤ (3 : Int) by omega) (show (12 : Int) ≤ zz by omega) (show zz ≤ (12 : Int) by omega) xr_12a
      exact go (4, 2147483647) (12, 12) (show (4 : Int) ≤ yy by omega) (show yy ≤ (2147483647 : Int) by omega) (show (12 : Int) ≤ zz by omega) (show zz ≤ (12 : Int) by omega) xr_12b
    by_cases a4 : zz ≤ 22
    · exact go xs_full (13, 22) hyl hyu (show (13 : Int) ≤ zz by omega) (show zz ≤ (22 : Int) by omega) xr_13
    by_cases a5 : zz ≤ 32
    · exact go xs_full (23, 32) hyl hyu (show (23 : Int) ≤ zz by omega) (show zz ≤ (32 : Int) by omega) xr_23
    by_cases a6 : zz ≤ 33
    · exact go xs_full (33, 33) hyl hyu (show (33 : Int) ≤ zz by omega) (show zz ≤ (33 : Int) by omega) xr_33
    by_cases a7 : zz ≤ 34
    · by_cases y0 : yy ≤ 0
      · exact go (-2147483648, 0) (34, 34) (show (-2147483648 : Int) ≤ yy by omega) (show yy ≤ (0 : Int) by omega) (show (34 : Int) ≤ zz by omega) (show zz ≤ (34 : Int) by omega) xr_34a
      by_cases y1 : yy ≤ 1
      · exact go (1, 1) (34, 34) (show (1 : Int) ≤ yy by omega) (show yy ≤ (1 : Int) by omega) (show (34 : Int) ≤ zz by omega) (show zz ≤ (34 : Int) by omega) xr_34b
      by_cases y2 : yy ≤ 2
      · exact go (2, 2) (34, 34) (show (2 : Int) ≤ yy by omega) (show yy ≤ (2 : Int) by omega) (show (34 : Int) ≤ zz by omega) (show zz ≤ (34 : Int) by omega) xr_34c
      by_cases y3 : yy ≤ 3
      · exact go (3, 3) (34, 34) (show (3 : Int) ≤ yy by omega) (show yy ≤ (3 : Int) by omega) (show (34 : Int) ≤ zz by omega) (show zz ≤ (34 : Int) by omega) xr_34d
      by_cases y4 : yy ≤ 4
      · exact go (4, 4) (34, 34) (show (4 : Int) ≤ yy by omega) (show yy ≤ (4 : Int) by omega) (show (34 : Int) ≤ zz by omega) (show zz ≤ (34 : Int) by omega) xr_34e
      by_cases y5 : yy ≤ 5
      · exact go (5, 5) (34, 34) (show (5 : Int) ≤ yy by omega) (show yy ≤ (5 : Int) by omega) (show (34 : Int) ≤ zz by omega) (show zz ≤ (34 : Int) by omega) xr_34f
      by_cases y6 : yy ≤ 6
      · exact go (6, 6) (34, 34) (show (6 : Int) ≤ yy by omega) (show yy ≤ (6 : Int) by omega) (show (34 : Int) ≤ zz by omega) (show zz ≤ (34 : Int) by omega) xr_34g
      by_cases y7 : yy ≤ 7
      · exact go (7, 7) (34, 34) (show (7 : Int) ≤ yy by omega) (show yy ≤ (7 : Int) by omega) (show (34 : Int) ≤ zz by omega) (show zz ≤ (34 : Int) by omega) xr_34h
      exact go (8, 2147483647) (34, 34) (show (8 : Int) ≤ yy by omega) (show yy ≤ (2147483647 : Int) by omega) (show (34 : Int) ≤ zz by omega) (show zz ≤ (34 : Int) by omega) xr_34i
    exact go xs_full (35, 63) hyl hyu (show (35 : Int) ≤ zz by omega) (show zz ≤ (63 : Int) by omega) xr_35
  · have hlt : L < 6 := by omega
    refine xlaw l C0 (G := xGA) (sy := [(0, 5)]) (fun X D => ⟨rfl, rfl, Or.inr ⟨rfl, hlt⟩⟩) (fun X D => ?_) xr_A
    show xsat [(0, 5)] (xrho (l, X, D, s.heap.size, L, xs))
    unfold xrho
    rw [if_neg (show ¬ L = 6 from h6)]
    refine ⟨?_, trivial⟩
    have e1 : (Int32.ofNat L).toInt = (L : Int) := nI_toInt (by omega)
    show (0 : Int) ≤ (Int32.ofNat L).toInt ∧ (Int32.ofNat L).toInt ≤ 5
    omega
set_option maxHeartbeats 4000000 in
theorem lw_walk (l : Launch) (b : Addr) (xs : List Int32) : MetFree l x (headSpec (Jvm.Cond.code x code maxLocals ret :: tables_1) room_1) (lw_P b xs) (fun _ _ _ _ _ => True) lw_Q := by
  refine MetFree.of_bodyS (code := code) (maxLocals := maxLocals) (ret := ret) (by decide) ?_ ?_
  · intro args s m h hn
    obtain ⟨meth, c, h1, h2, h3, h4, h5, h6, -, -⟩ := Cond.code_spec hn (atoms_spec (ws := Jvm.Cond.code x code maxLocals ret :: tables_1) h _ List.mem_cons_self)
    exact ⟨meth, c, h1, h2, h3, h4, h5, h6⟩
  · intro p e s m args below meth c s₁ B hml0 hP _
    obtain ⟨rfl, hx, hbd, hgv⟩ := hP
    obtain ⟨scr, harrAt, hlist, hof, hsmall⟩ := hx
    obtain ⟨hcb, hkn, -, -⟩ := State.arrayAt?_spec harrAt
    have hown : s.vm.findClass R_law = some m.cls := findClass_of_methodNamed B.named
    have hts0 : ∀ c ∈ (Jvm.Cond.code x code maxLocals ret :: tables_1), c.before #[Value.ref b] s = true := atoms_spec (ws := Jvm.Cond.code x code maxLocals ret :: tables_1) B.pre
    have hts : ∀ w ∈ lw_tbl, w.before #[Value.ref b] s = true := k2_hts_sels lw_privs (fun w hw => hts0 w (List.mem_cons_of_mem _ hw)) lw_privs_ok
    have hml : c.maxLocals = 4 := B.maxLocals_eq (hts0 _ List.mem_cons_self)
    have X₀ : Stand p l e room_1 s m #[Value.ref b] below meth c s₁ [] 0 0 := Stand.of_body B
    have hh0 : s₁.heap = s.heap := by rw [B.state]; rfl
    have hsz : scr.slots.size = xs.length := by rw [← Array.length_toList, hlist, List.length_map]
    have hval : ∀ j : Nat, j < xs.length → scr.slots[j]? = some (.int (xs.getD j 0)) := fun j hj => by
      rw [← Array.getElem?_toList, hlist]
      simp [hj]
    have hbl : b < s.heap.size := (Array.getElem?_eq_some_iff.mp hcb).1
    have hX : va_X b xs.length (fun j => xs.getD j 0) s s.heap := ⟨scr, hcb, hof, hkn, hsz, hval⟩
    have K : W p l e room_1 s m #[Value.ref b] below meth c s₁.heap [] 0 0 (lw_Z below #[Value.ref b] s) (entryFrame m ([Value.ref b] : List Value).toArray 4) := by
      rw [hh0]
      exact whole_start l hbd ⟨B.exec, B.bytes, B.returns, hml, hown, hts, hX, hbl, B.notSynchronized, hgv⟩
    obtain ⟨t, a1, o, b1, b2, b3⟩ := K s₁ rfl X₀
    exact ⟨t, o, a1, b1, b2, b3⟩
theorem lw_pre_spec {args : Array Value} {s : State} (h : (Jvm.Cond.and given_1 narrow_1).before args s = true) (hr : rest_1_c.before args s = true) : ∃ (b : Addr) (xs : List Int32), lw_P b xs args s := by
  have hs := flat_of_before _ h
  have hq := flat_of_before _ hr
  have hc : (Cond.count 1).before args s = true := hs _ (by decide +kernel)
  have harr : (Cond.arrayOf (.arg 0) .int).before args s = true := hs _ (by decide +kernel)
  have hle : (Cond.le (.length (.arg 0)) (.int 6)).before args s = true := hs _ (by decide +kernel)
  have hlen : (Cond.isInt (.length (.arg 0))).before args s = true := hq _ (by decide +kernel)
  have hall : (Cond.all (.arg 0) (.isInt (.elem (.arg 0) (.index 0)))).before args s = true := hq _ (by decide +kernel)
  obtain ⟨b, xs, hb, hx⟩ := State.ints_of_pre rfl harr hlen hall
  have hsm : xs.length < 2 ^ 31 := hx.choose_spec.2.2.2
  have hev : (Term.length (.arg 0)).eval args s none [] s = some (.int xs.length.toInt32) := hx.length_eval hb
  have hv := Cond.le_ints hev (show (Term.int 6).eval args s none [] s = some (.int 6) from rfl)
  have hd : xs.length.toInt32 ≤ 6 := by
    simpa [Cond.before, Cond.holds, hv] using hle
  have hN : xs.length ≤ 6 := (Int32.ofNat_le_ofNat hsm (by decide)).mp (show Int32.ofNat xs.length ≤ Int32.ofNat 6 from hd)
  exact ⟨b, xs, Cond.one_arg hc (show args[0]? = some (.ref b) from hb), hx, hN, h⟩
theorem lw_comes (l : Launch) : Comes l x (Jvm.Cond.code x code maxLocals ret :: tables_1) room_1 (fun tb e args s => Calls_1 tb e args s ∧ rest_1 tb e args s ∧ Pre_1 tb e args s)
    (fun _ _ args s o t => lw_Q args s o t) := by
  intro p e ha hc hk s m args below hf hfit hheap happ hpre
  obtain ⟨b, xs, hP⟩ := lw_pre_spec hpre.2.2 hpre.2.1
  obtain ⟨k, o, h1, h2, h3, hQ⟩ := lw_walk l b xs p e ha hc hk s m args below hf ((Spec.applies_iff_loose hf).mp happ).1 hP trivial
  exact ⟨k, o, h1, h2, h3, hQ⟩
theorem lw_frame {s t : State} {o : Outcome} {args : Array Value} (h : Framed s o t [] 600000 7302250) :
    Framed s o t (fieldLocs frame_1_writes args s ++ arrayLocs frame_1_arrays args s ++ staticLocs frame_1_statics s) 600000 7302250 := h
theorem lw_limb (L : Cond) (hL : ∀ (args : Array Value) (s t : State), L.after args s (.returned (some (.int 1))) t = true) :
    ArmFor flags0 classFile x code maxLocals ret World_1 tables_1 room_1 Calls_1 rest_1 Pre_1
      (fun tb e a s o t => postC L tb e a s o t ∧ Framed s o t (fieldLocs frame_1_writes a s ++ arrayLocs frame_1_arrays a s ++ staticLocs frame_1_statics s) 600000 7302250) := by
  intro l _ _ _ p e ha hc hk s m args below hf hfit hheap happ hpre
  obtain ⟨k, o, h1, h2, h3, rfl, hF⟩ := lw_comes l p e ha hc hk s m args below hf hfit hheap happ hpre
  exact ⟨k, _, h1, h2, h3, hL args s _, lw_frame hF⟩
theorem i_vc : Claimed_1_1 ∧ Claimed_1_2 := ⟨lw_limb limb_1_1 (fun args s t => by simp [limb_1_1, Cond.after, Cond.holds, Cond.value]), lw_limb limb_1_2 (fun args s t => Cond.after_iff.mpr (by
  first | (rw [show limb_1_2 = Cond.eq .result (.int 1) from rfl, Cond.eq_ints (x := 1) (y := 1) rfl rfl]; simp; done) | (simp [limb_1_2, Cond.value, Term.eval]; done)))⟩
end
