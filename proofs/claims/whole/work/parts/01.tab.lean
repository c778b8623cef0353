/-! the tables words (pasted), the classes and their fields -/
-- ===== PART A: goes FIRST, ahead of the names: the tables' words, and 'selects' of the private methods out of them =====
/-- a private method of a class that the tables say can be made, by its rows of tables_1 -/
def lw_okq (q : MethodName × Nat) : Prop := (q.1.cls ≠ "java/lang/invoke/MethodHandle" ∧ q.1.cls ≠ "java/lang/invoke/VarHandle") ∧ Cond.instantiable q.1.cls q.2 ∈ tables_1 ∧ Cond.privateMethod q.1 ∈ tables_1 ∧ Cond.instanceMethod q.1 ∈ tables_1
theorem lw_p0 : lw_okq (⟨"WordFolder$Tree", "addNode", "(I)V"⟩, 5) := ⟨⟨by decide +kernel, by decide +kernel⟩, List.mem_of_getElem? (i := 63) (by decide +kernel), List.mem_of_getElem? (i := 367) (by decide +kernel), List.mem_of_getElem? (i := 368) (by decide +kernel)⟩
theorem lw_p1 : lw_okq (⟨"WordFolder$Tree", "placeOf", "(I)I"⟩, 5) := ⟨⟨by decide +kernel, by decide +kernel⟩, List.mem_of_getElem? (i := 63) (by decide +kernel), List.mem_of_getElem? (i := 371) (by decide +kernel), List.mem_of_getElem? (i := 372) (by decide +kernel)⟩
theorem lw_p2 : lw_okq (⟨"WordFolder", "wordOfTape", "()I"⟩, 17) := ⟨⟨by decide +kernel, by decide +kernel⟩, List.mem_of_getElem? (i := 17) (by decide +kernel), List.mem_of_getElem? (i := 497) (by decide +kernel), List.mem_of_getElem? (i := 498) (by decide +kernel)⟩
theorem lw_p3 : lw_okq (⟨"WordFolder", "addExample", "(IZ)I"⟩, 17) := ⟨⟨by decide +kernel, by decide +kernel⟩, List.mem_of_getElem? (i := 17) (by decide +kernel), List.mem_of_getElem? (i := 512) (by decide +kernel), List.mem_of_getElem? (i := 513) (by decide +kernel)⟩
theorem lw_p4 : lw_okq (⟨"WordFolder$Learner", "seeBehind", "(I)V"⟩, 11) := ⟨⟨by decide +kernel, by decide +kernel⟩, List.mem_of_getElem? (i := 96) (by decide +kernel), List.mem_of_getElem? (i := 605) (by decide +kernel), List.mem_of_getElem? (i := 606) (by decide +kernel)⟩
theorem lw_p5 : lw_okq (⟨"WordFolder$Fold", "absorb", "(II)V"⟩, 14) := ⟨⟨by decide +kernel, by decide +kernel⟩, List.mem_of_getElem? (i := 102) (by decide +kernel), List.mem_of_getElem? (i := 660) (by decide +kernel), List.mem_of_getElem? (i := 661) (by decide +kernel)⟩
theorem lw_p6 : lw_okq (⟨"WordFolder$Learner", "note", "(IIII)V"⟩, 11) := ⟨⟨by decide +kernel, by decide +kernel⟩, List.mem_of_getElem? (i := 96) (by decide +kernel), List.mem_of_getElem? (i := 674) (by decide +kernel), List.mem_of_getElem? (i := 675) (by decide +kernel)⟩
theorem lw_p7 : lw_okq (⟨"WordFolder$Learner", "doFirst", "()V"⟩, 11) := ⟨⟨by decide +kernel, by decide +kernel⟩, List.mem_of_getElem? (i := 96) (by decide +kernel), List.mem_of_getElem? (i := 686) (by decide +kernel), List.mem_of_getElem? (i := 687) (by decide +kernel)⟩
theorem lw_p8 : lw_okq (⟨"WordFolder$Learner", "doRedden", "(I)V"⟩, 11) := ⟨⟨by decide +kernel, by decide +kernel⟩, List.mem_of_getElem? (i := 96) (by decide +kernel), List.mem_of_getElem? (i := 691) (by decide +kernel), List.mem_of_getElem? (i := 692) (by decide +kernel)⟩
theorem lw_p9 : lw_okq (⟨"WordFolder$Learner", "doBest", "(I)V"⟩, 11) := ⟨⟨by decide +kernel, by decide +kernel⟩, List.mem_of_getElem? (i := 96) (by decide +kernel), List.mem_of_getElem? (i := 699) (by decide +kernel), List.mem_of_getElem? (i := 700) (by decide +kernel)⟩
theorem lw_p10 : lw_okq (⟨"WordFolder$Search", "findWith", "(LWordFolder$Tree;I)I"⟩, 10) := ⟨⟨by decide +kernel, by decide +kernel⟩, List.mem_of_getElem? (i := 218) (by decide +kernel), List.mem_of_getElem? (i := 758) (by decide +kernel), List.mem_of_getElem? (i := 759) (by decide +kernel)⟩
theorem lw_p11 : lw_okq (⟨"WordFolder$Search", "forget", "()V"⟩, 10) := ⟨⟨by decide +kernel, by decide +kernel⟩, List.mem_of_getElem? (i := 218) (by decide +kernel), List.mem_of_getElem? (i := 763) (by decide +kernel), List.mem_of_getElem? (i := 764) (by decide +kernel)⟩
theorem lw_p12 : lw_okq (⟨"WordFolder$Search", "enter", "(LWordFolder$Tree;II)V"⟩, 10) := ⟨⟨by decide +kernel, by decide +kernel⟩, List.mem_of_getElem? (i := 218) (by decide +kernel), List.mem_of_getElem? (i := 767) (by decide +kernel), List.mem_of_getElem? (i := 768) (by decide +kernel)⟩
theorem lw_p13 : lw_okq (⟨"WordFolder$Search", "arrowTo", "(LWordFolder$Tree;I)I"⟩, 10) := ⟨⟨by decide +kernel, by decide +kernel⟩, List.mem_of_getElem? (i := 218) (by decide +kernel), List.mem_of_getElem? (i := 772) (by decide +kernel), List.mem_of_getElem? (i := 773) (by decide +kernel)⟩
theorem lw_p14 : lw_okq (⟨"WordFolder$Search", "takeAway", "(LWordFolder$Tree;I)V"⟩, 10) := ⟨⟨by decide +kernel, by decide +kernel⟩, List.mem_of_getElem? (i := 218) (by decide +kernel), List.mem_of_getElem? (i := 778) (by decide +kernel), List.mem_of_getElem? (i := 779) (by decide +kernel)⟩
theorem lw_p15 : lw_okq (⟨"WordFolder$Search", "tryNext", "(LWordFolder$Tree;I)Z"⟩, 10) := ⟨⟨by decide +kernel, by decide +kernel⟩, List.mem_of_getElem? (i := 218) (by decide +kernel), List.mem_of_getElem? (i := 783) (by decide +kernel), List.mem_of_getElem? (i := 784) (by decide +kernel)⟩
def lw_privs_1 : List (MethodName × Nat) := [(⟨"WordFolder$Tree", "addNode", "(I)V"⟩, 5), (⟨"WordFolder$Tree", "placeOf", "(I)I"⟩, 5), (⟨"WordFolder", "wordOfTape", "()I"⟩, 17), (⟨"WordFolder", "addExample", "(IZ)I"⟩, 17), (⟨"WordFolder$Learner", "seeBehind", "(I)V"⟩, 11), (⟨"WordFolder$Fold", "absorb", "(II)V"⟩, 14), (⟨"WordFolder$Learner", "note", "(IIII)V"⟩, 11), (⟨"WordFolder$Learner", "doFirst", "()V"⟩, 11), (⟨"WordFolder$Learner", "doRedden", "(I)V"⟩, 11), (⟨"WordFolder$Learner", "doBest", "(I)V"⟩, 11), (⟨"WordFolder$Search", "findWith", "(LWordFolder$Tree;I)I"⟩, 10), (⟨"WordFolder$Search", "forget", "()V"⟩, 10), (⟨"WordFolder$Search", "enter", "(LWordFolder$Tree;II)V"⟩, 10), (⟨"WordFolder$Search", "arrowTo", "(LWordFolder$Tree;I)I"⟩, 10), (⟨"WordFolder$Search", "takeAway", "(LWordFolder$Tree;I)V"⟩, 10), (⟨"WordFolder$Search", "tryNext", "(LWordFolder$Tree;I)Z"⟩, 10)]
theorem lw_r1 : ∀ q ∈ lw_privs_1, lw_okq q := List.forall_mem_cons.mpr ⟨lw_p0, List.forall_mem_cons.mpr ⟨lw_p1, List.forall_mem_cons.mpr ⟨lw_p2, List.forall_mem_cons.mpr ⟨lw_p3, List.forall_mem_cons.mpr ⟨lw_p4, List.forall_mem_cons.mpr ⟨lw_p5, List.forall_mem_cons.mpr ⟨lw_p6, List.forall_mem_cons.mpr ⟨lw_p7, List.forall_mem_cons.mpr ⟨lw_p8, List.forall_mem_cons.mpr ⟨lw_p9, List.forall_mem_cons.mpr ⟨lw_p10, List.forall_mem_cons.mpr ⟨lw_p11, List.forall_mem_cons.mpr ⟨lw_p12, List.forall_mem_cons.mpr ⟨lw_p13, List.forall_mem_cons.mpr ⟨lw_p14, List.forall_mem_cons.mpr ⟨lw_p15, fun _ h => absurd h List.not_mem_nil⟩⟩⟩⟩⟩⟩⟩⟩⟩⟩⟩⟩⟩⟩⟩⟩
theorem lw_p16 : lw_okq (⟨"WordFolder$Reader", "readState", "(LWordFolder$Octets;I)Z"⟩, 3) := ⟨⟨by decide +kernel, by decide +kernel⟩, List.mem_of_getElem? (i := 256) (by decide +kernel), List.mem_of_getElem? (i := 813) (by decide +kernel), List.mem_of_getElem? (i := 814) (by decide +kernel)⟩
theorem lw_p17 : lw_okq (⟨"WordFolder$Reader", "readNumber", "(LWordFolder$Octets;II)Z"⟩, 3) := ⟨⟨by decide +kernel, by decide +kernel⟩, List.mem_of_getElem? (i := 256) (by decide +kernel), List.mem_of_getElem? (i := 822) (by decide +kernel), List.mem_of_getElem? (i := 823) (by decide +kernel)⟩
theorem lw_p18 : lw_okq (⟨"WordFolder$Reader", "lostDigit", "(I)I"⟩, 3) := ⟨⟨by decide +kernel, by decide +kernel⟩, List.mem_of_getElem? (i := 256) (by decide +kernel), List.mem_of_getElem? (i := 830) (by decide +kernel), List.mem_of_getElem? (i := 831) (by decide +kernel)⟩
theorem lw_p19 : lw_okq (⟨"WordFolder", "isThere", "(I)Z"⟩, 17) := ⟨⟨by decide +kernel, by decide +kernel⟩, List.mem_of_getElem? (i := 17) (by decide +kernel), List.mem_of_getElem? (i := 848) (by decide +kernel), List.mem_of_getElem? (i := 849) (by decide +kernel)⟩
theorem lw_p20 : lw_okq (⟨"WordFolder", "machine", "(I)LWordFolder$Machine;"⟩, 17) := ⟨⟨by decide +kernel, by decide +kernel⟩, List.mem_of_getElem? (i := 17) (by decide +kernel), List.mem_of_getElem? (i := 852) (by decide +kernel), List.mem_of_getElem? (i := 853) (by decide +kernel)⟩
theorem lw_p21 : lw_okq (⟨"WordFolder$Meter", "wordOf", "(LWordFolder$Machine;III)I"⟩, 6) := ⟨⟨by decide +kernel, by decide +kernel⟩, List.mem_of_getElem? (i := 275) (by decide +kernel), List.mem_of_getElem? (i := 901) (by decide +kernel), List.mem_of_getElem? (i := 902) (by decide +kernel)⟩
theorem lw_p22 : lw_okq (⟨"WordFolder$Meter", "reach", "(LWordFolder$Machine;I)I"⟩, 6) := ⟨⟨by decide +kernel, by decide +kernel⟩, List.mem_of_getElem? (i := 275) (by decide +kernel), List.mem_of_getElem? (i := 918) (by decide +kernel), List.mem_of_getElem? (i := 919) (by decide +kernel)⟩
theorem lw_p23 : lw_okq (⟨"WordFolder$Meter", "leadsOn", "(LWordFolder$Machine;II)Z"⟩, 6) := ⟨⟨by decide +kernel, by decide +kernel⟩, List.mem_of_getElem? (i := 275) (by decide +kernel), List.mem_of_getElem? (i := 923) (by decide +kernel), List.mem_of_getElem? (i := 924) (by decide +kernel)⟩
theorem lw_p24 : lw_okq (⟨"WordFolder$Meter", "goOn", "(LWordFolder$Machine;I)Z"⟩, 6) := ⟨⟨by decide +kernel, by decide +kernel⟩, List.mem_of_getElem? (i := 275) (by decide +kernel), List.mem_of_getElem? (i := 936) (by decide +kernel), List.mem_of_getElem? (i := 937) (by decide +kernel)⟩
theorem lw_p25 : lw_okq (⟨"WordFolder$Mill", "unite", "(II)Z"⟩, 11) := ⟨⟨by decide +kernel, by decide +kernel⟩, List.mem_of_getElem? (i := 300) (by decide +kernel), List.mem_of_getElem? (i := 969) (by decide +kernel), List.mem_of_getElem? (i := 970) (by decide +kernel)⟩
theorem lw_p26 : lw_okq (⟨"WordFolder$Mill", "leadOf", "(I)I"⟩, 11) := ⟨⟨by decide +kernel, by decide +kernel⟩, List.mem_of_getElem? (i := 300) (by decide +kernel), List.mem_of_getElem? (i := 973) (by decide +kernel), List.mem_of_getElem? (i := 974) (by decide +kernel)⟩
theorem lw_p27 : lw_okq (⟨"WordFolder$Mill", "note", "(III)I"⟩, 11) := ⟨⟨by decide +kernel, by decide +kernel⟩, List.mem_of_getElem? (i := 300) (by decide +kernel), List.mem_of_getElem? (i := 977) (by decide +kernel), List.mem_of_getElem? (i := 978) (by decide +kernel)⟩
theorem lw_p28 : lw_okq (⟨"WordFolder$Mill", "forgetPairs", "()V"⟩, 11) := ⟨⟨by decide +kernel, by decide +kernel⟩, List.mem_of_getElem? (i := 300) (by decide +kernel), List.mem_of_getElem? (i := 1006) (by decide +kernel), List.mem_of_getElem? (i := 1007) (by decide +kernel)⟩
theorem lw_p29 : lw_okq (⟨"WordFolder$Mill", "numberOf", "(II)I"⟩, 11) := ⟨⟨by decide +kernel, by decide +kernel⟩, List.mem_of_getElem? (i := 300) (by decide +kernel), List.mem_of_getElem? (i := 1010) (by decide +kernel), List.mem_of_getElem? (i := 1011) (by decide +kernel)⟩
theorem lw_p30 : lw_okq (⟨"WordFolder$Mill", "splitByMark", "()V"⟩, 11) := ⟨⟨by decide +kernel, by decide +kernel⟩, List.mem_of_getElem? (i := 300) (by decide +kernel), List.mem_of_getElem? (i := 1019) (by decide +kernel), List.mem_of_getElem? (i := 1020) (by decide +kernel)⟩
theorem lw_p31 : lw_okq (⟨"WordFolder$Mill", "takeKinds", "()V"⟩, 11) := ⟨⟨by decide +kernel, by decide +kernel⟩, List.mem_of_getElem? (i := 300) (by decide +kernel), List.mem_of_getElem? (i := 1023) (by decide +kernel), List.mem_of_getElem? (i := 1024) (by decide +kernel)⟩
def lw_privs_2 : List (MethodName × Nat) := [(⟨"WordFolder$Reader", "readState", "(LWordFolder$Octets;I)Z"⟩, 3), (⟨"WordFolder$Reader", "readNumber", "(LWordFolder$Octets;II)Z"⟩, 3), (⟨"WordFolder$Reader", "lostDigit", "(I)I"⟩, 3), (⟨"WordFolder", "isThere", "(I)Z"⟩, 17), (⟨"WordFolder", "machine", "(I)LWordFolder$Machine;"⟩, 17), (⟨"WordFolder$Meter", "wordOf", "(LWordFolder$Machine;III)I"⟩, 6), (⟨"WordFolder$Meter", "reach", "(LWordFolder$Machine;I)I"⟩, 6), (⟨"WordFolder$Meter", "leadsOn", "(LWordFolder$Machine;II)Z"⟩, 6), (⟨"WordFolder$Meter", "goOn", "(LWordFolder$Machine;I)Z"⟩, 6), (⟨"WordFolder$Mill", "unite", "(II)Z"⟩, 11), (⟨"WordFolder$Mill", "leadOf", "(I)I"⟩, 11), (⟨"WordFolder$Mill", "note", "(III)I"⟩, 11), (⟨"WordFolder$Mill", "forgetPairs", "()V"⟩, 11), (⟨"WordFolder$Mill", "numberOf", "(II)I"⟩, 11), (⟨"WordFolder$Mill", "splitByMark", "()V"⟩, 11), (⟨"WordFolder$Mill", "takeKinds", "()V"⟩, 11)]
theorem lw_r2 : ∀ q ∈ lw_privs_2, lw_okq q := List.forall_mem_cons.mpr ⟨lw_p16, List.forall_mem_cons.mpr ⟨lw_p17, List.forall_mem_cons.mpr ⟨lw_p18, List.forall_mem_cons.mpr ⟨lw_p19, List.forall_mem_cons.mpr ⟨lw_p20, List.forall_mem_cons.mpr ⟨lw_p21, List.forall_mem_cons.mpr ⟨lw_p22, List.forall_mem_cons.mpr ⟨lw_p23, List.forall_mem_cons.mpr ⟨lw_p24, List.forall_mem_cons.mpr ⟨lw_p25, List.forall_mem_cons.mpr ⟨lw_p26, List.forall_mem_cons.mpr ⟨lw_p27, List.forall_mem_cons.mpr ⟨lw_p28, List.forall_mem_cons.mpr ⟨lw_p29, List.forall_mem_cons.mpr ⟨lw_p30, List.forall_mem_cons.mpr ⟨lw_p31, fun _ h => absurd h List.not_mem_nil⟩⟩⟩⟩⟩⟩⟩⟩⟩⟩⟩⟩⟩⟩⟩⟩
theorem lw_p32 : lw_okq (⟨"WordFolder$Mill", "splitByLetter", "(I)V"⟩, 11) := ⟨⟨by decide +kernel, by decide +kernel⟩, List.mem_of_getElem? (i := 300) (by decide +kernel), List.mem_of_getElem? (i := 1028) (by decide +kernel), List.mem_of_getElem? (i := 1029) (by decide +kernel)⟩
theorem lw_p33 : lw_okq (⟨"WordFolder$Mill", "kindOf", "(I)I"⟩, 11) := ⟨⟨by decide +kernel, by decide +kernel⟩, List.mem_of_getElem? (i := 300) (by decide +kernel), List.mem_of_getElem? (i := 1032) (by decide +kernel), List.mem_of_getElem? (i := 1033) (by decide +kernel)⟩
theorem lw_p34 : lw_okq (⟨"WordFolderModel", "four", "(I)V"⟩, 68) := ⟨⟨by decide +kernel, by decide +kernel⟩, List.mem_of_getElem? (i := 1056) (by decide +kernel), List.mem_of_getElem? (i := 1054) (by decide +kernel), List.mem_of_getElem? (i := 1055) (by decide +kernel)⟩
theorem lw_p35 : lw_okq (⟨"WordFolderModel", "layTree", "()V"⟩, 68) := ⟨⟨by decide +kernel, by decide +kernel⟩, List.mem_of_getElem? (i := 1056) (by decide +kernel), List.mem_of_getElem? (i := 1072) (by decide +kernel), List.mem_of_getElem? (i := 1073) (by decide +kernel)⟩
theorem lw_p36 : lw_okq (⟨"WordFolderModel", "addNode", "(II)V"⟩, 68) := ⟨⟨by decide +kernel, by decide +kernel⟩, List.mem_of_getElem? (i := 1056) (by decide +kernel), List.mem_of_getElem? (i := 1076) (by decide +kernel), List.mem_of_getElem? (i := 1077) (by decide +kernel)⟩
theorem lw_p37 : lw_okq (⟨"WordFolderModel", "nodeOf", "(II)I"⟩, 68) := ⟨⟨by decide +kernel, by decide +kernel⟩, List.mem_of_getElem? (i := 1056) (by decide +kernel), List.mem_of_getElem? (i := 1080) (by decide +kernel), List.mem_of_getElem? (i := 1081) (by decide +kernel)⟩
theorem lw_p38 : lw_okq (⟨"WordFolderModel", "isNode", "(III)Z"⟩, 68) := ⟨⟨by decide +kernel, by decide +kernel⟩, List.mem_of_getElem? (i := 1056) (by decide +kernel), List.mem_of_getElem? (i := 1087) (by decide +kernel), List.mem_of_getElem? (i := 1088) (by decide +kernel)⟩
theorem lw_p39 : lw_okq (⟨"WordFolderModel", "layStates", "()V"⟩, 68) := ⟨⟨by decide +kernel, by decide +kernel⟩, List.mem_of_getElem? (i := 1056) (by decide +kernel), List.mem_of_getElem? (i := 1091) (by decide +kernel), List.mem_of_getElem? (i := 1092) (by decide +kernel)⟩
theorem lw_p40 : lw_okq (⟨"WordFolderModel", "fresh", "()V"⟩, 68) := ⟨⟨by decide +kernel, by decide +kernel⟩, List.mem_of_getElem? (i := 1056) (by decide +kernel), List.mem_of_getElem? (i := 1305) (by decide +kernel), List.mem_of_getElem? (i := 1306) (by decide +kernel)⟩
theorem lw_p41 : lw_okq (⟨"WordFolderModel", "readWord", "()Z"⟩, 68) := ⟨⟨by decide +kernel, by decide +kernel⟩, List.mem_of_getElem? (i := 1056) (by decide +kernel), List.mem_of_getElem? (i := 1313) (by decide +kernel), List.mem_of_getElem? (i := 1314) (by decide +kernel)⟩
theorem lw_p42 : lw_okq (⟨"WordFolderModel", "exampleNow", "(IIZ)I"⟩, 68) := ⟨⟨by decide +kernel, by decide +kernel⟩, List.mem_of_getElem? (i := 1056) (by decide +kernel), List.mem_of_getElem? (i := 1317) (by decide +kernel), List.mem_of_getElem? (i := 1318) (by decide +kernel)⟩
theorem lw_p43 : lw_okq (⟨"WordFolderModel", "placeOf", "(II)I"⟩, 68) := ⟨⟨by decide +kernel, by decide +kernel⟩, List.mem_of_getElem? (i := 1056) (by decide +kernel), List.mem_of_getElem? (i := 1321) (by decide +kernel), List.mem_of_getElem? (i := 1322) (by decide +kernel)⟩
theorem lw_p44 : lw_okq (⟨"WordFolderModel", "isThere", "(III)Z"⟩, 68) := ⟨⟨by decide +kernel, by decide +kernel⟩, List.mem_of_getElem? (i := 1056) (by decide +kernel), List.mem_of_getElem? (i := 1325) (by decide +kernel), List.mem_of_getElem? (i := 1326) (by decide +kernel)⟩
theorem lw_p45 : lw_okq (⟨"WordFolderModel", "moreNodes", "(II)I"⟩, 68) := ⟨⟨by decide +kernel, by decide +kernel⟩, List.mem_of_getElem? (i := 1056) (by decide +kernel), List.mem_of_getElem? (i := 1329) (by decide +kernel), List.mem_of_getElem? (i := 1330) (by decide +kernel)⟩
theorem lw_p46 : lw_okq (⟨"WordFolderModel", "insert", "(IIIZ)V"⟩, 68) := ⟨⟨by decide +kernel, by decide +kernel⟩, List.mem_of_getElem? (i := 1056) (by decide +kernel), List.mem_of_getElem? (i := 1333) (by decide +kernel), List.mem_of_getElem? (i := 1334) (by decide +kernel)⟩
theorem lw_p47 : lw_okq (⟨"WordFolderModel", "move", "(II)V"⟩, 68) := ⟨⟨by decide +kernel, by decide +kernel⟩, List.mem_of_getElem? (i := 1056) (by decide +kernel), List.mem_of_getElem? (i := 1337) (by decide +kernel), List.mem_of_getElem? (i := 1338) (by decide +kernel)⟩
def lw_privs_3 : List (MethodName × Nat) := [(⟨"WordFolder$Mill", "splitByLetter", "(I)V"⟩, 11), (⟨"WordFolder$Mill", "kindOf", "(I)I"⟩, 11), (⟨"WordFolderModel", "four", "(I)V"⟩, 68), (⟨"WordFolderModel", "layTree", "()V"⟩, 68), (⟨"WordFolderModel", "addNode", "(II)V"⟩, 68), (⟨"WordFolderModel", "nodeOf", "(II)I"⟩, 68), (⟨"WordFolderModel", "isNode", "(III)Z"⟩, 68), (⟨"WordFolderModel", "layStates", "()V"⟩, 68), (⟨"WordFolderModel", "fresh", "()V"⟩, 68), (⟨"WordFolderModel", "readWord", "()Z"⟩, 68), (⟨"WordFolderModel", "exampleNow", "(IIZ)I"⟩, 68), (⟨"WordFolderModel", "placeOf", "(II)I"⟩, 68), (⟨"WordFolderModel", "isThere", "(III)Z"⟩, 68), (⟨"WordFolderModel", "moreNodes", "(II)I"⟩, 68), (⟨"WordFolderModel", "insert", "(IIIZ)V"⟩, 68), (⟨"WordFolderModel", "move", "(II)V"⟩, 68)]
theorem lw_r3 : ∀ q ∈ lw_privs_3, lw_okq q := List.forall_mem_cons.mpr ⟨lw_p32, List.forall_mem_cons.mpr ⟨lw_p33, List.forall_mem_cons.mpr ⟨lw_p34, List.forall_mem_cons.mpr ⟨lw_p35, List.forall_mem_cons.mpr ⟨lw_p36, List.forall_mem_cons.mpr ⟨lw_p37, List.forall_mem_cons.mpr ⟨lw_p38, List.forall_mem_cons.mpr ⟨lw_p39, List.forall_mem_cons.mpr ⟨lw_p40, List.forall_mem_cons.mpr ⟨lw_p41, List.forall_mem_cons.mpr ⟨lw_p42, List.forall_mem_cons.mpr ⟨lw_p43, List.forall_mem_cons.mpr ⟨lw_p44, List.forall_mem_cons.mpr ⟨lw_p45, List.forall_mem_cons.mpr ⟨lw_p46, List.forall_mem_cons.mpr ⟨lw_p47, fun _ h => absurd h List.not_mem_nil⟩⟩⟩⟩⟩⟩⟩⟩⟩⟩⟩⟩⟩⟩⟩⟩
theorem lw_p48 : lw_okq (⟨"WordFolderModel", "remove", "(I)V"⟩, 68) := ⟨⟨by decide +kernel, by decide +kernel⟩, List.mem_of_getElem? (i := 1056) (by decide +kernel), List.mem_of_getElem? (i := 1345) (by decide +kernel), List.mem_of_getElem? (i := 1346) (by decide +kernel)⟩
theorem lw_p49 : lw_okq (⟨"WordFolderModel", "nameOf", "(I)I"⟩, 68) := ⟨⟨by decide +kernel, by decide +kernel⟩, List.mem_of_getElem? (i := 1056) (by decide +kernel), List.mem_of_getElem? (i := 1353) (by decide +kernel), List.mem_of_getElem? (i := 1354) (by decide +kernel)⟩
theorem lw_p50 : lw_okq (⟨"WordFolderModel", "inMany", "()I"⟩, 68) := ⟨⟨by decide +kernel, by decide +kernel⟩, List.mem_of_getElem? (i := 1056) (by decide +kernel), List.mem_of_getElem? (i := 1361) (by decide +kernel), List.mem_of_getElem? (i := 1362) (by decide +kernel)⟩
theorem lw_p51 : lw_okq (⟨"WordFolderModel", "redMany", "()I"⟩, 68) := ⟨⟨by decide +kernel, by decide +kernel⟩, List.mem_of_getElem? (i := 1056) (by decide +kernel), List.mem_of_getElem? (i := 1365) (by decide +kernel), List.mem_of_getElem? (i := 1366) (by decide +kernel)⟩
theorem lw_p52 : lw_okq (⟨"WordFolderModel", "isName", "(I)Z"⟩, 68) := ⟨⟨by decide +kernel, by decide +kernel⟩, List.mem_of_getElem? (i := 1056) (by decide +kernel), List.mem_of_getElem? (i := 1369) (by decide +kernel), List.mem_of_getElem? (i := 1370) (by decide +kernel)⟩
theorem lw_p53 : lw_okq (⟨"WordFolderModel", "blueMany", "()I"⟩, 68) := ⟨⟨by decide +kernel, by decide +kernel⟩, List.mem_of_getElem? (i := 1056) (by decide +kernel), List.mem_of_getElem? (i := 1373) (by decide +kernel), List.mem_of_getElem? (i := 1374) (by decide +kernel)⟩
theorem lw_p54 : lw_okq (⟨"WordFolderModel", "isBlue", "(I)Z"⟩, 68) := ⟨⟨by decide +kernel, by decide +kernel⟩, List.mem_of_getElem? (i := 1056) (by decide +kernel), List.mem_of_getElem? (i := 1377) (by decide +kernel), List.mem_of_getElem? (i := 1378) (by decide +kernel)⟩
theorem lw_p55 : lw_okq (⟨"WordFolderModel", "put", "(I)V"⟩, 68) := ⟨⟨by decide +kernel, by decide +kernel⟩, List.mem_of_getElem? (i := 1056) (by decide +kernel), List.mem_of_getElem? (i := 1392) (by decide +kernel), List.mem_of_getElem? (i := 1393) (by decide +kernel)⟩
theorem lw_p56 : lw_okq (⟨"WordFolderModel", "areTwo", "(II)Z"⟩, 68) := ⟨⟨by decide +kernel, by decide +kernel⟩, List.mem_of_getElem? (i := 1056) (by decide +kernel), List.mem_of_getElem? (i := 1403) (by decide +kernel), List.mem_of_getElem? (i := 1404) (by decide +kernel)⟩
theorem lw_p57 : lw_okq (⟨"WordFolderModel", "scoreOf", "(III)I"⟩, 68) := ⟨⟨by decide +kernel, by decide +kernel⟩, List.mem_of_getElem? (i := 1056) (by decide +kernel), List.mem_of_getElem? (i := 1407) (by decide +kernel), List.mem_of_getElem? (i := 1408) (by decide +kernel)⟩
theorem lw_p58 : lw_okq (⟨"WordFolderModel", "merges", "(II)Z"⟩, 68) := ⟨⟨by decide +kernel, by decide +kernel⟩, List.mem_of_getElem? (i := 1056) (by decide +kernel), List.mem_of_getElem? (i := 1411) (by decide +kernel), List.mem_of_getElem? (i := 1412) (by decide +kernel)⟩
theorem lw_p59 : lw_okq (⟨"WordFolderModel", "pair", "(II)V"⟩, 68) := ⟨⟨by decide +kernel, by decide +kernel⟩, List.mem_of_getElem? (i := 1056) (by decide +kernel), List.mem_of_getElem? (i := 1415) (by decide +kernel), List.mem_of_getElem? (i := 1416) (by decide +kernel)⟩
theorem lw_p60 : lw_okq (⟨"WordFolderModel", "untie", "(I)V"⟩, 68) := ⟨⟨by decide +kernel, by decide +kernel⟩, List.mem_of_getElem? (i := 1056) (by decide +kernel), List.mem_of_getElem? (i := 1419) (by decide +kernel), List.mem_of_getElem? (i := 1420) (by decide +kernel)⟩
theorem lw_p61 : lw_okq (⟨"WordFolderModel", "tieNow", "(II)V"⟩, 68) := ⟨⟨by decide +kernel, by decide +kernel⟩, List.mem_of_getElem? (i := 1056) (by decide +kernel), List.mem_of_getElem? (i := 1423) (by decide +kernel), List.mem_of_getElem? (i := 1424) (by decide +kernel)⟩
theorem lw_p62 : lw_okq (⟨"WordFolderModel", "mergeNow", "(III)I"⟩, 68) := ⟨⟨by decide +kernel, by decide +kernel⟩, List.mem_of_getElem? (i := 1056) (by decide +kernel), List.mem_of_getElem? (i := 1431) (by decide +kernel), List.mem_of_getElem? (i := 1432) (by decide +kernel)⟩
theorem lw_p63 : lw_okq (⟨"WordFolderModel", "write", "(IIII)V"⟩, 68) := ⟨⟨by decide +kernel, by decide +kernel⟩, List.mem_of_getElem? (i := 1056) (by decide +kernel), List.mem_of_getElem? (i := 1435) (by decide +kernel), List.mem_of_getElem? (i := 1436) (by decide +kernel)⟩
def lw_privs_4 : List (MethodName × Nat) := [(⟨"WordFolderModel", "remove", "(I)V"⟩, 68), (⟨"WordFolderModel", "nameOf", "(I)I"⟩, 68), (⟨"WordFolderModel", "inMany", "()I"⟩, 68), (⟨"WordFolderModel", "redMany", "()I"⟩, 68), (⟨"WordFolderModel", "isName", "(I)Z"⟩, 68), (⟨"WordFolderModel", "blueMany", "()I"⟩, 68), (⟨"WordFolderModel", "isBlue", "(I)Z"⟩, 68), (⟨"WordFolderModel", "put", "(I)V"⟩, 68), (⟨"WordFolderModel", "areTwo", "(II)Z"⟩, 68), (⟨"WordFolderModel", "scoreOf", "(III)I"⟩, 68), (⟨"WordFolderModel", "merges", "(II)Z"⟩, 68), (⟨"WordFolderModel", "pair", "(II)V"⟩, 68), (⟨"WordFolderModel", "untie", "(I)V"⟩, 68), (⟨"WordFolderModel", "tieNow", "(II)V"⟩, 68), (⟨"WordFolderModel", "mergeNow", "(III)I"⟩, 68), (⟨"WordFolderModel", "write", "(IIII)V"⟩, 68)]
theorem lw_r4 : ∀ q ∈ lw_privs_4, lw_okq q := List.forall_mem_cons.mpr ⟨lw_p48, List.forall_mem_cons.mpr ⟨lw_p49, List.forall_mem_cons.mpr ⟨lw_p50, List.forall_mem_cons.mpr ⟨lw_p51, List.forall_mem_cons.mpr ⟨lw_p52, List.forall_mem_cons.mpr ⟨lw_p53, List.forall_mem_cons.mpr ⟨lw_p54, List.forall_mem_cons.mpr ⟨lw_p55, List.forall_mem_cons.mpr ⟨lw_p56, List.forall_mem_cons.mpr ⟨lw_p57, List.forall_mem_cons.mpr ⟨lw_p58, List.forall_mem_cons.mpr ⟨lw_p59, List.forall_mem_cons.mpr ⟨lw_p60, List.forall_mem_cons.mpr ⟨lw_p61, List.forall_mem_cons.mpr ⟨lw_p62, List.forall_mem_cons.mpr ⟨lw_p63, fun _ h => absurd h List.not_mem_nil⟩⟩⟩⟩⟩⟩⟩⟩⟩⟩⟩⟩⟩⟩⟩⟩
theorem lw_p64 : lw_okq (⟨"WordFolderModel", "leastBlue", "(I)I"⟩, 68) := ⟨⟨by decide +kernel, by decide +kernel⟩, List.mem_of_getElem? (i := 1056) (by decide +kernel), List.mem_of_getElem? (i := 1443) (by decide +kernel), List.mem_of_getElem? (i := 1444) (by decide +kernel)⟩
theorem lw_p65 : lw_okq (⟨"WordFolderModel", "stepNow", "(I)I"⟩, 68) := ⟨⟨by decide +kernel, by decide +kernel⟩, List.mem_of_getElem? (i := 1056) (by decide +kernel), List.mem_of_getElem? (i := 1447) (by decide +kernel), List.mem_of_getElem? (i := 1448) (by decide +kernel)⟩
theorem lw_p66 : lw_okq (⟨"WordFolderModel", "stepFirst", "()I"⟩, 68) := ⟨⟨by decide +kernel, by decide +kernel⟩, List.mem_of_getElem? (i := 1056) (by decide +kernel), List.mem_of_getElem? (i := 1451) (by decide +kernel), List.mem_of_getElem? (i := 1452) (by decide +kernel)⟩
theorem lw_p67 : lw_okq (⟨"WordFolderModel", "redden", "(I)I"⟩, 68) := ⟨⟨by decide +kernel, by decide +kernel⟩, List.mem_of_getElem? (i := 1056) (by decide +kernel), List.mem_of_getElem? (i := 1455) (by decide +kernel), List.mem_of_getElem? (i := 1456) (by decide +kernel)⟩
theorem lw_p68 : lw_okq (⟨"WordFolderModel", "stepBest", "(I)I"⟩, 68) := ⟨⟨by decide +kernel, by decide +kernel⟩, List.mem_of_getElem? (i := 1056) (by decide +kernel), List.mem_of_getElem? (i := 1459) (by decide +kernel), List.mem_of_getElem? (i := 1460) (by decide +kernel)⟩
theorem lw_p69 : lw_okq (⟨"WordFolderModel", "learnNow", "(I)V"⟩, 68) := ⟨⟨by decide +kernel, by decide +kernel⟩, List.mem_of_getElem? (i := 1056) (by decide +kernel), List.mem_of_getElem? (i := 1467) (by decide +kernel), List.mem_of_getElem? (i := 1468) (by decide +kernel)⟩
theorem lw_p70 : lw_okq (⟨"WordFolderModel", "redo", "(I)V"⟩, 68) := ⟨⟨by decide +kernel, by decide +kernel⟩, List.mem_of_getElem? (i := 1056) (by decide +kernel), List.mem_of_getElem? (i := 1475) (by decide +kernel), List.mem_of_getElem? (i := 1476) (by decide +kernel)⟩
theorem lw_p71 : lw_okq (⟨"WordFolderModel", "isMachine", "(I)Z"⟩, 68) := ⟨⟨by decide +kernel, by decide +kernel⟩, List.mem_of_getElem? (i := 1056) (by decide +kernel), List.mem_of_getElem? (i := 1487) (by decide +kernel), List.mem_of_getElem? (i := 1488) (by decide +kernel)⟩
theorem lw_p72 : lw_okq (⟨"WordFolderModel", "layNow", "()V"⟩, 68) := ⟨⟨by decide +kernel, by decide +kernel⟩, List.mem_of_getElem? (i := 1056) (by decide +kernel), List.mem_of_getElem? (i := 1491) (by decide +kernel), List.mem_of_getElem? (i := 1492) (by decide +kernel)⟩
theorem lw_p73 : lw_okq (⟨"WordFolderModel", "putArrow", "(IIII)V"⟩, 68) := ⟨⟨by decide +kernel, by decide +kernel⟩, List.mem_of_getElem? (i := 1056) (by decide +kernel), List.mem_of_getElem? (i := 1495) (by decide +kernel), List.mem_of_getElem? (i := 1496) (by decide +kernel)⟩
theorem lw_p74 : lw_okq (⟨"WordFolderModel", "copyMachine", "(II)V"⟩, 68) := ⟨⟨by decide +kernel, by decide +kernel⟩, List.mem_of_getElem? (i := 1056) (by decide +kernel), List.mem_of_getElem? (i := 1499) (by decide +kernel), List.mem_of_getElem? (i := 1500) (by decide +kernel)⟩
theorem lw_p75 : lw_okq (⟨"WordFolderModel", "markOf", "(II)I"⟩, 68) := ⟨⟨by decide +kernel, by decide +kernel⟩, List.mem_of_getElem? (i := 1056) (by decide +kernel), List.mem_of_getElem? (i := 1511) (by decide +kernel), List.mem_of_getElem? (i := 1512) (by decide +kernel)⟩
theorem lw_p76 : lw_okq (⟨"WordFolderModel", "arrowOf", "(III)I"⟩, 68) := ⟨⟨by decide +kernel, by decide +kernel⟩, List.mem_of_getElem? (i := 1056) (by decide +kernel), List.mem_of_getElem? (i := 1515) (by decide +kernel), List.mem_of_getElem? (i := 1516) (by decide +kernel)⟩
theorem lw_p77 : lw_okq (⟨"WordFolderModel", "isTaken", "(III)Z"⟩, 68) := ⟨⟨by decide +kernel, by decide +kernel⟩, List.mem_of_getElem? (i := 1056) (by decide +kernel), List.mem_of_getElem? (i := 1523) (by decide +kernel), List.mem_of_getElem? (i := 1524) (by decide +kernel)⟩
theorem lw_p78 : lw_okq (⟨"WordFolderModel", "findWith", "(I)I"⟩, 68) := ⟨⟨by decide +kernel, by decide +kernel⟩, List.mem_of_getElem? (i := 1056) (by decide +kernel), List.mem_of_getElem? (i := 1535) (by decide +kernel), List.mem_of_getElem? (i := 1536) (by decide +kernel)⟩
theorem lw_p79 : lw_okq (⟨"WordFolderModel", "nextTry", "(III)I"⟩, 68) := ⟨⟨by decide +kernel, by decide +kernel⟩, List.mem_of_getElem? (i := 1056) (by decide +kernel), List.mem_of_getElem? (i := 1539) (by decide +kernel), List.mem_of_getElem? (i := 1540) (by decide +kernel)⟩
def lw_privs_5 : List (MethodName × Nat) := [(⟨"WordFolderModel", "leastBlue", "(I)I"⟩, 68), (⟨"WordFolderModel", "stepNow", "(I)I"⟩, 68), (⟨"WordFolderModel", "stepFirst", "()I"⟩, 68), (⟨"WordFolderModel", "redden", "(I)I"⟩, 68), (⟨"WordFolderModel", "stepBest", "(I)I"⟩, 68), (⟨"WordFolderModel", "learnNow", "(I)V"⟩, 68), (⟨"WordFolderModel", "redo", "(I)V"⟩, 68), (⟨"WordFolderModel", "isMachine", "(I)Z"⟩, 68), (⟨"WordFolderModel", "layNow", "()V"⟩, 68), (⟨"WordFolderModel", "putArrow", "(IIII)V"⟩, 68), (⟨"WordFolderModel", "copyMachine", "(II)V"⟩, 68), (⟨"WordFolderModel", "markOf", "(II)I"⟩, 68), (⟨"WordFolderModel", "arrowOf", "(III)I"⟩, 68), (⟨"WordFolderModel", "isTaken", "(III)Z"⟩, 68), (⟨"WordFolderModel", "findWith", "(I)I"⟩, 68), (⟨"WordFolderModel", "nextTry", "(III)I"⟩, 68)]
theorem lw_r5 : ∀ q ∈ lw_privs_5, lw_okq q := List.forall_mem_cons.mpr ⟨lw_p64, List.forall_mem_cons.mpr ⟨lw_p65, List.forall_mem_cons.mpr ⟨lw_p66, List.forall_mem_cons.mpr ⟨lw_p67, List.forall_mem_cons.mpr ⟨lw_p68, List.forall_mem_cons.mpr ⟨lw_p69, List.forall_mem_cons.mpr ⟨lw_p70, List.forall_mem_cons.mpr ⟨lw_p71, List.forall_mem_cons.mpr ⟨lw_p72, List.forall_mem_cons.mpr ⟨lw_p73, List.forall_mem_cons.mpr ⟨lw_p74, List.forall_mem_cons.mpr ⟨lw_p75, List.forall_mem_cons.mpr ⟨lw_p76, List.forall_mem_cons.mpr ⟨lw_p77, List.forall_mem_cons.mpr ⟨lw_p78, List.forall_mem_cons.mpr ⟨lw_p79, fun _ h => absurd h List.not_mem_nil⟩⟩⟩⟩⟩⟩⟩⟩⟩⟩⟩⟩⟩⟩⟩⟩
theorem lw_p80 : lw_okq (⟨"WordFolderModel", "takeOut", "(I)V"⟩, 68) := ⟨⟨by decide +kernel, by decide +kernel⟩, List.mem_of_getElem? (i := 1056) (by decide +kernel), List.mem_of_getElem? (i := 1543) (by decide +kernel), List.mem_of_getElem? (i := 1544) (by decide +kernel)⟩
theorem lw_p81 : lw_okq (⟨"WordFolderModel", "isForced", "(I)Z"⟩, 68) := ⟨⟨by decide +kernel, by decide +kernel⟩, List.mem_of_getElem? (i := 1056) (by decide +kernel), List.mem_of_getElem? (i := 1547) (by decide +kernel), List.mem_of_getElem? (i := 1548) (by decide +kernel)⟩
theorem lw_p82 : lw_okq (⟨"WordFolderModel", "puts", "(II)Z"⟩, 68) := ⟨⟨by decide +kernel, by decide +kernel⟩, List.mem_of_getElem? (i := 1056) (by decide +kernel), List.mem_of_getElem? (i := 1552) (by decide +kernel), List.mem_of_getElem? (i := 1553) (by decide +kernel)⟩
theorem lw_p83 : lw_okq (⟨"WordFolderModel", "readMachine", "()Z"⟩, 68) := ⟨⟨by decide +kernel, by decide +kernel⟩, List.mem_of_getElem? (i := 1056) (by decide +kernel), List.mem_of_getElem? (i := 1564) (by decide +kernel), List.mem_of_getElem? (i := 1565) (by decide +kernel)⟩
theorem lw_p84 : lw_okq (⟨"WordFolderModel", "readState", "(I)Z"⟩, 68) := ⟨⟨by decide +kernel, by decide +kernel⟩, List.mem_of_getElem? (i := 1056) (by decide +kernel), List.mem_of_getElem? (i := 1568) (by decide +kernel), List.mem_of_getElem? (i := 1569) (by decide +kernel)⟩
theorem lw_p85 : lw_okq (⟨"WordFolderModel", "here", "()I"⟩, 68) := ⟨⟨by decide +kernel, by decide +kernel⟩, List.mem_of_getElem? (i := 1056) (by decide +kernel), List.mem_of_getElem? (i := 1572) (by decide +kernel), List.mem_of_getElem? (i := 1573) (by decide +kernel)⟩
theorem lw_p86 : lw_okq (⟨"WordFolderModel", "fails", "(I)Z"⟩, 68) := ⟨⟨by decide +kernel, by decide +kernel⟩, List.mem_of_getElem? (i := 1056) (by decide +kernel), List.mem_of_getElem? (i := 1579) (by decide +kernel), List.mem_of_getElem? (i := 1580) (by decide +kernel)⟩
theorem lw_p87 : lw_okq (⟨"WordFolderModel", "readArrow", "(II)Z"⟩, 68) := ⟨⟨by decide +kernel, by decide +kernel⟩, List.mem_of_getElem? (i := 1056) (by decide +kernel), List.mem_of_getElem? (i := 1583) (by decide +kernel), List.mem_of_getElem? (i := 1584) (by decide +kernel)⟩
theorem lw_p88 : lw_okq (⟨"WordFolderModel", "areMachines", "(II)Z"⟩, 68) := ⟨⟨by decide +kernel, by decide +kernel⟩, List.mem_of_getElem? (i := 1056) (by decide +kernel), List.mem_of_getElem? (i := 1598) (by decide +kernel), List.mem_of_getElem? (i := 1599) (by decide +kernel)⟩
theorem lw_p89 : lw_okq (⟨"WordFolderModel", "differs", "(II)I"⟩, 68) := ⟨⟨by decide +kernel, by decide +kernel⟩, List.mem_of_getElem? (i := 1056) (by decide +kernel), List.mem_of_getElem? (i := 1602) (by decide +kernel), List.mem_of_getElem? (i := 1603) (by decide +kernel)⟩
theorem lw_p90 : lw_okq (⟨"WordFolderModel", "beginPairs", "()V"⟩, 68) := ⟨⟨by decide +kernel, by decide +kernel⟩, List.mem_of_getElem? (i := 1056) (by decide +kernel), List.mem_of_getElem? (i := 1606) (by decide +kernel), List.mem_of_getElem? (i := 1607) (by decide +kernel)⟩
theorem lw_p91 : lw_okq (⟨"WordFolderModel", "comeTo", "(IIII)I"⟩, 68) := ⟨⟨by decide +kernel, by decide +kernel⟩, List.mem_of_getElem? (i := 1056) (by decide +kernel), List.mem_of_getElem? (i := 1610) (by decide +kernel), List.mem_of_getElem? (i := 1611) (by decide +kernel)⟩
theorem lw_p92 : lw_okq (⟨"WordFolderModel", "isMarked", "(II)Z"⟩, 68) := ⟨⟨by decide +kernel, by decide +kernel⟩, List.mem_of_getElem? (i := 1056) (by decide +kernel), List.mem_of_getElem? (i := 1614) (by decide +kernel), List.mem_of_getElem? (i := 1615) (by decide +kernel)⟩
theorem lw_p93 : lw_okq (⟨"WordFolderModel", "laySorts", "(I)I"⟩, 68) := ⟨⟨by decide +kernel, by decide +kernel⟩, List.mem_of_getElem? (i := 1056) (by decide +kernel), List.mem_of_getElem? (i := 1626) (by decide +kernel), List.mem_of_getElem? (i := 1627) (by decide +kernel)⟩
theorem lw_p94 : lw_okq (⟨"WordFolderModel", "layCome", "(I)V"⟩, 68) := ⟨⟨by decide +kernel, by decide +kernel⟩, List.mem_of_getElem? (i := 1056) (by decide +kernel), List.mem_of_getElem? (i := 1630) (by decide +kernel), List.mem_of_getElem? (i := 1631) (by decide +kernel)⟩
theorem lw_p95 : lw_okq (⟨"WordFolderModel", "stepOf", "(III)I"⟩, 68) := ⟨⟨by decide +kernel, by decide +kernel⟩, List.mem_of_getElem? (i := 1056) (by decide +kernel), List.mem_of_getElem? (i := 1634) (by decide +kernel), List.mem_of_getElem? (i := 1635) (by decide +kernel)⟩
def lw_privs_6 : List (MethodName × Nat) := [(⟨"WordFolderModel", "takeOut", "(I)V"⟩, 68), (⟨"WordFolderModel", "isForced", "(I)Z"⟩, 68), (⟨"WordFolderModel", "puts", "(II)Z"⟩, 68), (⟨"WordFolderModel", "readMachine", "()Z"⟩, 68), (⟨"WordFolderModel", "readState", "(I)Z"⟩, 68), (⟨"WordFolderModel", "here", "()I"⟩, 68), (⟨"WordFolderModel", "fails", "(I)Z"⟩, 68), (⟨"WordFolderModel", "readArrow", "(II)Z"⟩, 68), (⟨"WordFolderModel", "areMachines", "(II)Z"⟩, 68), (⟨"WordFolderModel", "differs", "(II)I"⟩, 68), (⟨"WordFolderModel", "beginPairs", "()V"⟩, 68), (⟨"WordFolderModel", "comeTo", "(IIII)I"⟩, 68), (⟨"WordFolderModel", "isMarked", "(II)Z"⟩, 68), (⟨"WordFolderModel", "laySorts", "(I)I"⟩, 68), (⟨"WordFolderModel", "layCome", "(I)V"⟩, 68), (⟨"WordFolderModel", "stepOf", "(III)I"⟩, 68)]
theorem lw_r6 : ∀ q ∈ lw_privs_6, lw_okq q := List.forall_mem_cons.mpr ⟨lw_p80, List.forall_mem_cons.mpr ⟨lw_p81, List.forall_mem_cons.mpr ⟨lw_p82, List.forall_mem_cons.mpr ⟨lw_p83, List.forall_mem_cons.mpr ⟨lw_p84, List.forall_mem_cons.mpr ⟨lw_p85, List.forall_mem_cons.mpr ⟨lw_p86, List.forall_mem_cons.mpr ⟨lw_p87, List.forall_mem_cons.mpr ⟨lw_p88, List.forall_mem_cons.mpr ⟨lw_p89, List.forall_mem_cons.mpr ⟨lw_p90, List.forall_mem_cons.mpr ⟨lw_p91, List.forall_mem_cons.mpr ⟨lw_p92, List.forall_mem_cons.mpr ⟨lw_p93, List.forall_mem_cons.mpr ⟨lw_p94, List.forall_mem_cons.mpr ⟨lw_p95, fun _ h => absurd h List.not_mem_nil⟩⟩⟩⟩⟩⟩⟩⟩⟩⟩⟩⟩⟩⟩⟩⟩
theorem lw_p96 : lw_okq (⟨"WordFolderModel", "areAlike", "(III)Z"⟩, 68) := ⟨⟨by decide +kernel, by decide +kernel⟩, List.mem_of_getElem? (i := 1056) (by decide +kernel), List.mem_of_getElem? (i := 1638) (by decide +kernel), List.mem_of_getElem? (i := 1639) (by decide +kernel)⟩
theorem lw_p97 : lw_okq (⟨"WordFolderModel", "numberSort", "(II)I"⟩, 68) := ⟨⟨by decide +kernel, by decide +kernel⟩, List.mem_of_getElem? (i := 1056) (by decide +kernel), List.mem_of_getElem? (i := 1646) (by decide +kernel), List.mem_of_getElem? (i := 1647) (by decide +kernel)⟩
theorem lw_p98 : lw_okq (⟨"WordFolderModel", "layTaken", "(I)V"⟩, 68) := ⟨⟨by decide +kernel, by decide +kernel⟩, List.mem_of_getElem? (i := 1056) (by decide +kernel), List.mem_of_getElem? (i := 1654) (by decide +kernel), List.mem_of_getElem? (i := 1655) (by decide +kernel)⟩
theorem lw_p99 : lw_okq (⟨"WordFolderModel", "layUseful", "(I)I"⟩, 68) := ⟨⟨by decide +kernel, by decide +kernel⟩, List.mem_of_getElem? (i := 1056) (by decide +kernel), List.mem_of_getElem? (i := 1666) (by decide +kernel), List.mem_of_getElem? (i := 1667) (by decide +kernel)⟩
theorem lw_p100 : lw_okq (⟨"WordFolderModel", "putNumber", "(I)V"⟩, 68) := ⟨⟨by decide +kernel, by decide +kernel⟩, List.mem_of_getElem? (i := 1056) (by decide +kernel), List.mem_of_getElem? (i := 1678) (by decide +kernel), List.mem_of_getElem? (i := 1679) (by decide +kernel)⟩
theorem lw_p101 : lw_okq (⟨"WordFolderModel", "codeOf", "(II)I"⟩, 68) := ⟨⟨by decide +kernel, by decide +kernel⟩, List.mem_of_getElem? (i := 1056) (by decide +kernel), List.mem_of_getElem? (i := 1690) (by decide +kernel), List.mem_of_getElem? (i := 1691) (by decide +kernel)⟩
theorem lw_p102 : lw_okq (⟨"WordFolderModel", "putAside", "()V"⟩, 68) := ⟨⟨by decide +kernel, by decide +kernel⟩, List.mem_of_getElem? (i := 1056) (by decide +kernel), List.mem_of_getElem? (i := 1698) (by decide +kernel), List.mem_of_getElem? (i := 1699) (by decide +kernel)⟩
theorem lw_p103 : lw_okq (⟨"WordFolderModel", "learnWithout", "(II)V"⟩, 68) := ⟨⟨by decide +kernel, by decide +kernel⟩, List.mem_of_getElem? (i := 1056) (by decide +kernel), List.mem_of_getElem? (i := 1702) (by decide +kernel), List.mem_of_getElem? (i := 1703) (by decide +kernel)⟩
theorem lw_p104 : lw_okq (⟨"WordFolderModel", "bringIn", "(I)V"⟩, 68) := ⟨⟨by decide +kernel, by decide +kernel⟩, List.mem_of_getElem? (i := 1056) (by decide +kernel), List.mem_of_getElem? (i := 1706) (by decide +kernel), List.mem_of_getElem? (i := 1707) (by decide +kernel)⟩
theorem lw_p105 : lw_okq (⟨"WordFolderModel", "bringBack", "()V"⟩, 68) := ⟨⟨by decide +kernel, by decide +kernel⟩, List.mem_of_getElem? (i := 1056) (by decide +kernel), List.mem_of_getElem? (i := 1710) (by decide +kernel), List.mem_of_getElem? (i := 1711) (by decide +kernel)⟩
theorem lw_p106 : lw_okq (⟨"WordFolderModel", "isTakenNow", "(II)Z"⟩, 68) := ⟨⟨by decide +kernel, by decide +kernel⟩, List.mem_of_getElem? (i := 1056) (by decide +kernel), List.mem_of_getElem? (i := 1718) (by decide +kernel), List.mem_of_getElem? (i := 1719) (by decide +kernel)⟩
def lw_privs_7 : List (MethodName × Nat) := [(⟨"WordFolderModel", "areAlike", "(III)Z"⟩, 68), (⟨"WordFolderModel", "numberSort", "(II)I"⟩, 68), (⟨"WordFolderModel", "layTaken", "(I)V"⟩, 68), (⟨"WordFolderModel", "layUseful", "(I)I"⟩, 68), (⟨"WordFolderModel", "putNumber", "(I)V"⟩, 68), (⟨"WordFolderModel", "codeOf", "(II)I"⟩, 68), (⟨"WordFolderModel", "putAside", "()V"⟩, 68), (⟨"WordFolderModel", "learnWithout", "(II)V"⟩, 68), (⟨"WordFolderModel", "bringIn", "(I)V"⟩, 68), (⟨"WordFolderModel", "bringBack", "()V"⟩, 68), (⟨"WordFolderModel", "isTakenNow", "(II)Z"⟩, 68)]
theorem lw_r7 : ∀ q ∈ lw_privs_7, lw_okq q := List.forall_mem_cons.mpr ⟨lw_p96, List.forall_mem_cons.mpr ⟨lw_p97, List.forall_mem_cons.mpr ⟨lw_p98, List.forall_mem_cons.mpr ⟨lw_p99, List.forall_mem_cons.mpr ⟨lw_p100, List.forall_mem_cons.mpr ⟨lw_p101, List.forall_mem_cons.mpr ⟨lw_p102, List.forall_mem_cons.mpr ⟨lw_p103, List.forall_mem_cons.mpr ⟨lw_p104, List.forall_mem_cons.mpr ⟨lw_p105, List.forall_mem_cons.mpr ⟨lw_p106, fun _ h => absurd h List.not_mem_nil⟩⟩⟩⟩⟩⟩⟩⟩⟩⟩⟩
def lw_privs : List (MethodName × Nat) := lw_privs_1 ++ (lw_privs_2 ++ (lw_privs_3 ++ (lw_privs_4 ++ (lw_privs_5 ++ (lw_privs_6 ++ (lw_privs_7))))))
def lw_tbl : List Cond := k2_sels lw_privs ++ tables_1
theorem lw_privs_ok : ∀ q ∈ lw_privs, lw_okq q := by
  show ∀ q ∈ lw_privs_1 ++ (lw_privs_2 ++ (lw_privs_3 ++ (lw_privs_4 ++ (lw_privs_5 ++ (lw_privs_6 ++ (lw_privs_7)))))), lw_okq q
  exact List.forall_mem_append.mpr ⟨lw_r1, List.forall_mem_append.mpr ⟨lw_r2, List.forall_mem_append.mpr ⟨lw_r3, List.forall_mem_append.mpr ⟨lw_r4, List.forall_mem_append.mpr ⟨lw_r5, List.forall_mem_append.mpr ⟨lw_r6, lw_r7⟩⟩⟩⟩⟩⟩
def RX0 : String := "WordFolder$Fold"
def TX0 : u_T := fun k => match k with
  | 0 => ("WordFolder$Fold", "up", "[I", true)
  | 1 => ("WordFolder$Fold", "mark", "[I", true)
  | 2 => ("WordFolder$Fold", "red", "[Z", true)
  | 3 => ("WordFolder$Fold", "arrow", "[I", true)
  | 4 => ("WordFolder$Fold", "joined", "[I", true)
  | 5 => ("WordFolder$Fold", "change", "[I", true)
  | 6 => ("WordFolder$Fold", "waitingOne", "[I", true)
  | 7 => ("WordFolder$Fold", "waitingOther", "[I", true)
  | 8 => ("WordFolder$Fold", "number", "[I", true)
  | 9 => ("WordFolder$Fold", "nodes", "I", false)
  | 10 => ("WordFolder$Fold", "count", "I", false)
  | 11 => ("WordFolder$Fold", "marked", "I", false)
  | 12 => ("WordFolder$Fold", "joins", "I", false)
  | _ => ("WordFolder$Fold", "waiting", "I", false)
def tyX0 : Nat → FieldType := fun k => match k with
  | 0 => .array .int
  | 1 => .array .int
  | 2 => .array .boolean
  | 3 => .array .int
  | 4 => .array .int
  | 5 => .array .int
  | 6 => .array .int
  | 7 => .array .int
  | 8 => .array .int
  | 9 => .int
  | 10 => .int
  | 11 => .int
  | 12 => .int
  | _ => .int
theorem nmX0 : ∀ a, a < 14 → ∀ b, b < 14 → a ≠ b → (TX0 a).2.1 ≠ (TX0 b).2.1 := by decide +kernel
theorem tyX0_ok : ∀ k, k < 14 → parseFieldDescriptor (TX0 k).2.2.1 = some (tyX0 k) := by decide +kernel
def RX1 : String := "WordFolder$Learner"
def TX1 : u_T := fun k => match k with
  | 0 => ("WordFolder$Learner", "fold", "LWordFolder$Fold;", true)
  | 1 => ("WordFolder$Learner", "reds", "[I", true)
  | 2 => ("WordFolder$Learner", "blues", "[I", true)
  | 3 => ("WordFolder$Learner", "behindRed", "[Z", true)
  | 4 => ("WordFolder$Learner", "deedBlue", "[I", true)
  | 5 => ("WordFolder$Learner", "deedRed", "[I", true)
  | 6 => ("WordFolder$Learner", "deedScore", "[I", true)
  | 7 => ("WordFolder$Learner", "joinsAhead", "[I", true)
  | 8 => ("WordFolder$Learner", "redCount", "I", false)
  | 9 => ("WordFolder$Learner", "blueCount", "I", false)
  | _ => ("WordFolder$Learner", "deedCount", "I", false)
def tyX1 : Nat → FieldType := fun k => match k with
  | 0 => .object "WordFolder$Fold"
  | 1 => .array .int
  | 2 => .array .int
  | 3 => .array .boolean
  | 4 => .array .int
  | 5 => .array .int
  | 6 => .array .int
  | 7 => .array .int
  | 8 => .int
  | 9 => .int
  | _ => .int
theorem nmX1 : ∀ a, a < 11 → ∀ b, b < 11 → a ≠ b → (TX1 a).2.1 ≠ (TX1 b).2.1 := by decide +kernel
theorem tyX1_ok : ∀ k, k < 11 → parseFieldDescriptor (TX1 k).2.2.1 = some (tyX1 k) := by decide +kernel
def RX2 : String := "WordFolder$Machine"
def TX2 : u_T := fun k => match k with
  | 0 => ("WordFolder$Machine", "mark", "[I", true)
  | 1 => ("WordFolder$Machine", "arrow", "[I", true)
  | _ => ("WordFolder$Machine", "count", "I", false)
def tyX2 : Nat → FieldType := fun k => match k with
  | 0 => .array .int
  | 1 => .array .int
  | _ => .int
theorem nmX2 : ∀ a, a < 3 → ∀ b, b < 3 → a ≠ b → (TX2 a).2.1 ≠ (TX2 b).2.1 := by decide +kernel
theorem tyX2_ok : ∀ k, k < 3 → parseFieldDescriptor (TX2 k).2.2.1 = some (tyX2 k) := by decide +kernel
def RX3 : String := "WordFolder$Meter"
def TX3 : u_T := fun k => match k with
  | 0 => ("WordFolder$Meter", "ways", "[I", true)
  | 1 => ("WordFolder$Meter", "isReached", "[Z", true)
  | 2 => ("WordFolder$Meter", "isUseful", "[Z", true)
  | 3 => ("WordFolder$Meter", "row", "[I", true)
  | 4 => ("WordFolder$Meter", "isHere", "[Z", true)
  | _ => ("WordFolder$Meter", "isNext", "[Z", true)
def tyX3 : Nat → FieldType := fun k => match k with
  | 0 => .array .int
  | 1 => .array .boolean
  | 2 => .array .boolean
  | 3 => .array .int
  | 4 => .array .boolean
  | _ => .array .boolean
theorem nmX3 : ∀ a, a < 6 → ∀ b, b < 6 → a ≠ b → (TX3 a).2.1 ≠ (TX3 b).2.1 := by decide +kernel
theorem tyX3_ok : ∀ k, k < 6 → parseFieldDescriptor (TX3 k).2.2.1 = some (tyX3 k) := by decide +kernel
def RX4 : String := "WordFolder$Mill"
def TX4 : u_T := fun k => match k with
  | 0 => ("WordFolder$Mill", "made", "LWordFolder$Machine;", true)
  | 1 => ("WordFolder$Mill", "first", "[I", true)
  | 2 => ("WordFolder$Mill", "second", "[I", true)
  | 3 => ("WordFolder$Mill", "way", "[I", true)
  | 4 => ("WordFolder$Mill", "earlier", "[I", true)
  | 5 => ("WordFolder$Mill", "latest", "[I", true)
  | 6 => ("WordFolder$Mill", "lead", "[I", true)
  | 7 => ("WordFolder$Mill", "kind", "[I", true)
  | 8 => ("WordFolder$Mill", "newKind", "[I", true)
  | 9 => ("WordFolder$Mill", "pairs", "I", false)
  | _ => ("WordFolder$Mill", "kinds", "I", false)
def tyX4 : Nat → FieldType := fun k => match k with
  | 0 => .object "WordFolder$Machine"
  | 1 => .array .int
  | 2 => .array .int
  | 3 => .array .int
  | 4 => .array .int
  | 5 => .array .int
  | 6 => .array .int
  | 7 => .array .int
  | 8 => .array .int
  | 9 => .int
  | _ => .int
theorem nmX4 : ∀ a, a < 11 → ∀ b, b < 11 → a ≠ b → (TX4 a).2.1 ≠ (TX4 b).2.1 := by decide +kernel
theorem tyX4_ok : ∀ k, k < 11 → parseFieldDescriptor (TX4 k).2.2.1 = some (tyX4 k) := by decide +kernel
def RX5 : String := "WordFolder$Octets"
def TX5 : u_T := fun k => match k with
  | 0 => ("WordFolder$Octets", "row", "[I", true)
  | _ => ("WordFolder$Octets", "count", "I", false)
def tyX5 : Nat → FieldType := fun k => match k with
  | 0 => .array .int
  | _ => .int
theorem nmX5 : ∀ a, a < 2 → ∀ b, b < 2 → a ≠ b → (TX5 a).2.1 ≠ (TX5 b).2.1 := by decide +kernel
theorem tyX5_ok : ∀ k, k < 2 → parseFieldDescriptor (TX5 k).2.2.1 = some (tyX5 k) := by decide +kernel
def RX6 : String := "WordFolder$Reader"
def TX6 : u_T := fun k => match k with
  | 0 => ("WordFolder$Reader", "told", "LWordFolder$Machine;", true)
  | 1 => ("WordFolder$Reader", "digitAt", "[I", true)
  | _ => ("WordFolder$Reader", "place", "I", false)
def tyX6 : Nat → FieldType := fun k => match k with
  | 0 => .object "WordFolder$Machine"
  | 1 => .array .int
  | _ => .int
theorem nmX6 : ∀ a, a < 3 → ∀ b, b < 3 → a ≠ b → (TX6 a).2.1 ≠ (TX6 b).2.1 := by decide +kernel
theorem tyX6_ok : ∀ k, k < 3 → parseFieldDescriptor (TX6 k).2.2.1 = some (tyX6 k) := by decide +kernel
def RX7 : String := "WordFolder$Sample"
def TX7 : u_T := fun k => match k with
  | 0 => ("WordFolder$Sample", "code", "[I", true)
  | 1 => ("WordFolder$Sample", "in", "[Z", true)
  | _ => ("WordFolder$Sample", "count", "I", false)
def tyX7 : Nat → FieldType := fun k => match k with
  | 0 => .array .int
  | 1 => .array .boolean
  | _ => .int
theorem nmX7 : ∀ a, a < 3 → ∀ b, b < 3 → a ≠ b → (TX7 a).2.1 ≠ (TX7 b).2.1 := by decide +kernel
theorem tyX7_ok : ∀ k, k < 3 → parseFieldDescriptor (TX7 k).2.2.1 = some (tyX7 k) := by decide +kernel
def RX8 : String := "WordFolder$Search"
def TX8 : u_T := fun k => match k with
  | 0 => ("WordFolder$Search", "put", "[I", true)
  | 1 => ("WordFolder$Search", "next", "[I", true)
  | 2 => ("WordFolder$Search", "last", "[I", true)
  | 3 => ("WordFolder$Search", "gaveMark", "[Z", true)
  | 4 => ("WordFolder$Search", "gaveArrow", "[Z", true)
  | 5 => ("WordFolder$Search", "gaveState", "[Z", true)
  | 6 => ("WordFolder$Search", "mark", "[I", true)
  | 7 => ("WordFolder$Search", "arrow", "[I", true)
  | 8 => ("WordFolder$Search", "used", "I", false)
  | _ => ("WordFolder$Search", "tryCount", "I", false)
def tyX8 : Nat → FieldType := fun k => match k with
  | 0 => .array .int
  | 1 => .array .int
  | 2 => .array .int
  | 3 => .array .boolean
  | 4 => .array .boolean
  | 5 => .array .boolean
  | 6 => .array .int
  | 7 => .array .int
  | 8 => .int
  | _ => .int
theorem nmX8 : ∀ a, a < 10 → ∀ b, b < 10 → a ≠ b → (TX8 a).2.1 ≠ (TX8 b).2.1 := by decide +kernel
theorem tyX8_ok : ∀ k, k < 10 → parseFieldDescriptor (TX8 k).2.2.1 = some (tyX8 k) := by decide +kernel
def RX9 : String := "WordFolder$Tree"
def TX9 : u_T := fun k => match k with
  | 0 => ("WordFolder$Tree", "code", "[I", true)
  | 1 => ("WordFolder$Tree", "mark", "[I", true)
  | 2 => ("WordFolder$Tree", "parent", "[I", true)
  | 3 => ("WordFolder$Tree", "child", "[I", true)
  | _ => ("WordFolder$Tree", "count", "I", false)
def tyX9 : Nat → FieldType := fun k => match k with
  | 0 => .array .int
  | 1 => .array .int
  | 2 => .array .int
  | 3 => .array .int
  | _ => .int
theorem nmX9 : ∀ a, a < 5 → ∀ b, b < 5 → a ≠ b → (TX9 a).2.1 ≠ (TX9 b).2.1 := by decide +kernel
theorem tyX9_ok : ∀ k, k < 5 → parseFieldDescriptor (TX9 k).2.2.1 = some (tyX9 k) := by decide +kernel
def RX10 : String := "WordFolder$Word"
def TX10 : u_T := fun k => match k with
  | _ => ("", "", "", false)
def tyX10 : Nat → FieldType := fun k => match k with
  | _ => .int
theorem nmX10 : ∀ a, a < 0 → ∀ b, b < 0 → a ≠ b → (TX10 a).2.1 ≠ (TX10 b).2.1 := by decide +kernel
theorem tyX10_ok : ∀ k, k < 0 → parseFieldDescriptor (TX10 k).2.2.1 = some (tyX10 k) := by decide +kernel
def RX11 : String := "WordFolder"
def TX11 : u_T := fun k => match k with
  | 0 => ("WordFolder", "tape", "LWordFolder$Octets;", true)
  | 1 => ("WordFolder", "written", "LWordFolder$Octets;", true)
  | 2 => ("WordFolder", "sample", "LWordFolder$Sample;", true)
  | 3 => ("WordFolder", "tree", "LWordFolder$Tree;", true)
  | 4 => ("WordFolder", "learner", "LWordFolder$Learner;", true)
  | 5 => ("WordFolder", "otherTree", "LWordFolder$Tree;", true)
  | 6 => ("WordFolder", "otherLearner", "LWordFolder$Learner;", true)
  | 7 => ("WordFolder", "present", "LWordFolder$Machine;", true)
  | 8 => ("WordFolder", "smallest", "LWordFolder$Machine;", true)
  | 9 => ("WordFolder", "aim", "LWordFolder$Machine;", true)
  | 10 => ("WordFolder", "stored", "LWordFolder$Machine;", true)
  | 11 => ("WordFolder", "search", "LWordFolder$Search;", true)
  | 12 => ("WordFolder", "reader", "LWordFolder$Reader;", true)
  | 13 => ("WordFolder", "meter", "LWordFolder$Meter;", true)
  | 14 => ("WordFolder", "mill", "LWordFolder$Mill;", true)
  | 15 => ("WordFolder", "alphabet", "I", false)
  | _ => ("WordFolder", "faultPlace", "I", false)
def tyX11 : Nat → FieldType := fun k => match k with
  | 0 => .object "WordFolder$Octets"
  | 1 => .object "WordFolder$Octets"
  | 2 => .object "WordFolder$Sample"
  | 3 => .object "WordFolder$Tree"
  | 4 => .object "WordFolder$Learner"
  | 5 => .object "WordFolder$Tree"
  | 6 => .object "WordFolder$Learner"
  | 7 => .object "WordFolder$Machine"
  | 8 => .object "WordFolder$Machine"
  | 9 => .object "WordFolder$Machine"
  | 10 => .object "WordFolder$Machine"
  | 11 => .object "WordFolder$Search"
  | 12 => .object "WordFolder$Reader"
  | 13 => .object "WordFolder$Meter"
  | 14 => .object "WordFolder$Mill"
  | 15 => .int
  | _ => .int
theorem nmX11 : ∀ a, a < 17 → ∀ b, b < 17 → a ≠ b → (TX11 a).2.1 ≠ (TX11 b).2.1 := by decide +kernel
theorem tyX11_ok : ∀ k, k < 17 → parseFieldDescriptor (TX11 k).2.2.1 = some (tyX11 k) := by decide +kernel
def RX12 : String := "WordFolderModel"
def TX12 : u_T := fun k => match k with
  | 0 => ("WordFolderModel", "tape", "[B", true)
  | 1 => ("WordFolderModel", "taped", "I", false)
  | 2 => ("WordFolderModel", "letters", "I", false)
  | 3 => ("WordFolderModel", "wordLong", "I", false)
  | 4 => ("WordFolderModel", "wordCode", "I", false)
  | 5 => ("WordFolderModel", "exLong", "[I", true)
  | 6 => ("WordFolderModel", "exCode", "[I", true)
  | 7 => ("WordFolderModel", "exIn", "[Z", true)
  | 8 => ("WordFolderModel", "examples", "I", false)
  | 9 => ("WordFolderModel", "nodeLong", "[I", true)
  | 10 => ("WordFolderModel", "nodeCode", "[I", true)
  | 11 => ("WordFolderModel", "nodeMark", "[I", true)
  | 12 => ("WordFolderModel", "nodeUp", "[I", true)
  | 13 => ("WordFolderModel", "nodeKid", "[I", true)
  | 14 => ("WordFolderModel", "nodes", "I", false)
  | 15 => ("WordFolderModel", "tie", "[I", true)
  | 16 => ("WordFolderModel", "mark", "[I", true)
  | 17 => ("WordFolderModel", "red", "[Z", true)
  | 18 => ("WordFolderModel", "kid", "[I", true)
  | 19 => ("WordFolderModel", "states", "I", false)
  | 20 => ("WordFolderModel", "tied", "[I", true)
  | 21 => ("WordFolderModel", "wasMark", "[I", true)
  | 22 => ("WordFolderModel", "wasRed", "[Z", true)
  | 23 => ("WordFolderModel", "wasKid", "[I", true)
  | 24 => ("WordFolderModel", "tiedMany", "I", false)
  | 25 => ("WordFolderModel", "marksFewer", "I", false)
  | 26 => ("WordFolderModel", "pairs", "[I", true)
  | 27 => ("WordFolderModel", "paired", "I", false)
  | 28 => ("WordFolderModel", "deeds", "[I", true)
  | 29 => ("WordFolderModel", "done", "I", false)
  | 30 => ("WordFolderModel", "many", "[I", true)
  | 31 => ("WordFolderModel", "machineMark", "[I", true)
  | 32 => ("WordFolderModel", "arrow", "[I", true)
  | 33 => ("WordFolderModel", "rank", "[I", true)
  | 34 => ("WordFolderModel", "ways", "[I", true)
  | 35 => ("WordFolderModel", "waysThen", "[I", true)
  | 36 => ("WordFolderModel", "putTo", "[I", true)
  | 37 => ("WordFolderModel", "newArrow", "[Z", true)
  | 38 => ("WordFolderModel", "there", "[I", true)
  | 39 => ("WordFolderModel", "ofMark", "[I", true)
  | 40 => ("WordFolderModel", "tries", "I", false)
  | 41 => ("WordFolderModel", "at", "I", false)
  | 42 => ("WordFolderModel", "faultPlace", "I", false)
  | 43 => ("WordFolderModel", "textLong", "I", false)
  | 44 => ("WordFolderModel", "toldTo", "[I", true)
  | 45 => ("WordFolderModel", "toldAt", "[I", true)
  | 46 => ("WordFolderModel", "told", "I", false)
  | 47 => ("WordFolderModel", "first", "[I", true)
  | 48 => ("WordFolderModel", "second", "[I", true)
  | 49 => ("WordFolderModel", "back", "[I", true)
  | 50 => ("WordFolderModel", "by", "[I", true)
  | 51 => ("WordFolderModel", "numberOf", "[I", true)
  | 52 => ("WordFolderModel", "come", "I", false)
  | 53 => ("WordFolderModel", "isCome", "[Z", true)
  | 54 => ("WordFolderModel", "sort", "[I", true)
  | 55 => ("WordFolderModel", "sortThen", "[I", true)
  | 56 => ("WordFolderModel", "oneOf", "[I", true)
  | 57 => ("WordFolderModel", "numbered", "[I", true)
  | 58 => ("WordFolderModel", "takenFrom", "[I", true)
  | 59 => ("WordFolderModel", "isUseful", "[Z", true)
  | 60 => ("WordFolderModel", "far", "[I", true)
  | 61 => ("WordFolderModel", "written", "[B", true)
  | 62 => ("WordFolderModel", "writtenLong", "I", false)
  | 63 => ("WordFolderModel", "asideDeeds", "[I", true)
  | 64 => ("WordFolderModel", "asideDone", "I", false)
  | 65 => ("WordFolderModel", "outLong", "I", false)
  | 66 => ("WordFolderModel", "outCode", "I", false)
  | _ => ("WordFolderModel", "outIn", "Z", false)
def tyX12 : Nat → FieldType := fun k => match k with
  | 0 => .array .byte
  | 1 => .int
  | 2 => .int
  | 3 => .int
  | 4 => .int
  | 5 => .array .int
  | 6 => .array .int
  | 7 => .array .boolean
  | 8 => .int
  | 9 => .array .int
  | 10 => .array .int
  | 11 => .array .int
  | 12 => .array .int
  | 13 => .array .int
  | 14 => .int
  | 15 => .array .int
  | 16 => .array .int
  | 17 => .array .boolean
  | 18 => .array .int
  | 19 => .int
  | 20 => .array .int
  | 21 => .array .int
  | 22 => .array .boolean
  | 23 => .array .int
  | 24 => .int
  | 25 => .int
  | 26 => .array .int
  | 27 => .int
  | 28 => .array .int
  | 29 => .int
  | 30 => .array .int
  | 31 => .array .int
  | 32 => .array .int
  | 33 => .array .int
  | 34 => .array .int
  | 35 => .array .int
  | 36 => .array .int
  | 37 => .array .boolean
  | 38 => .array .int
  | 39 => .array .int
  | 40 => .int
  | 41 => .int
  | 42 => .int
  | 43 => .int
  | 44 => .array .int
  | 45 => .array .int
  | 46 => .int
  | 47 => .array .int
  | 48 => .array .int
  | 49 => .array .int
  | 50 => .array .int
  | 51 => .array .int
  | 52 => .int
  | 53 => .array .boolean
  | 54 => .array .int
  | 55 => .array .int
  | 56 => .array .int
  | 57 => .array .int
  | 58 => .array .int
  | 59 => .array .boolean
  | 60 => .array .int
  | 61 => .array .byte
  | 62 => .int
  | 63 => .array .int
  | 64 => .int
  | 65 => .int
  | 66 => .int
  | _ => .boolean
theorem nmX12 : ∀ a, a < 68 → ∀ b, b < 68 → a ≠ b → (TX12 a).2.1 ≠ (TX12 b).2.1 := by decide +kernel
theorem tyX12_ok : ∀ k, k < 68 → parseFieldDescriptor (TX12 k).2.2.1 = some (tyX12 k) := by decide +kernel
def classes : List vw_C := [(RX0, TX0, 14), (RX1, TX1, 11), (RX2, TX2, 3), (RX3, TX3, 6), (RX4, TX4, 11), (RX5, TX5, 2), (RX6, TX6, 3), (RX7, TX7, 3), (RX8, TX8, 10), (RX9, TX9, 5), (RX0, TX0, 14), (RX11, TX11, 17), (RX12, TX12, 68)]
def cN (c : Nat) : String := [RX0, RX1, RX2, RX3, RX4, RX5, RX6, RX7, RX8, RX9, RX10, RX11, RX12, "WordFolderLaw"].getD c ""
def cT (c : Nat) : u_T := [TX0, TX1, TX2, TX3, TX4, TX5, TX6, TX7, TX8, TX9, TX10, TX11, TX12].getD c TX0
def cTy (c : Nat) : Nat → FieldType := [tyX0, tyX1, tyX2, tyX3, tyX4, tyX5, tyX6, tyX7, tyX8, tyX9, tyX10, tyX11, tyX12].getD c tyX0
def nf (c : Nat) : Nat := [14, 11, 3, 6, 11, 2, 3, 3, 10, 5, 0, 17, 68].getD c 0
def fkL : List (List Nat) := [[1, 2, 3, 4, 5, 6, 7, 8, 9, 0, 0, 0, 0, 0], [1, 11, 12, 13, 14, 15, 16, 17, 0, 0, 0], [1, 2, 0], [1, 2, 3, 4, 5, 6], [1, 4, 5, 6, 7, 8, 9, 10, 11, 0, 0], [1, 0], [1, 4, 0], [1, 2, 0], [1, 2, 3, 4, 5, 6, 7, 8, 0, 0], [1, 2, 3, 4, 0], [], [1, 3, 5, 8, 13, 31, 36, 54, 57, 60, 63, 66, 75, 80, 87, 0, 0], [1, 0, 0, 0, 0, 2, 3, 4, 0, 5, 6, 7, 8, 9, 0, 10, 11, 12, 13, 0, 14, 15, 16, 17, 0, 0, 18, 0, 19, 0, 20, 21, 22, 23, 24, 25, 26, 27, 28, 29, 0, 0, 0, 0, 30, 31, 0, 32, 33, 34, 35, 36, 0, 37, 38, 39, 40, 41, 42, 43, 44, 45, 0, 46, 0, 0, 0, 0]]
def fk (c k : Nat) : Nat := (fkL.getD c []).getD k 0
def NO : Nat := 146
def klL : List Nat := [11, 5, 50, 5, 50, 7, 50, 52, 9, 50, 50, 50, 50, 1, 0, 50, 50, 52, 50, 50, 50, 50, 50, 50, 50, 50, 52, 50, 50, 50, 50, 9, 50, 50, 50, 50, 1, 0, 50, 50, 52, 50, 50, 50, 50, 50, 50, 50, 50, 52, 50, 50, 50, 50, 2, 50, 50, 2, 50, 50, 2, 50, 50, 2, 50, 50, 8, 50, 50, 50, 52, 52, 52, 50, 50, 6, 2, 50, 50, 50, 3, 50, 52, 52, 50, 52, 52, 4, 2, 50, 50, 50, 50, 50, 50, 50, 50, 50, 50, 12, 51, 50, 50, 52, 50, 50, 50, 50, 50, 50, 50, 52, 50, 50, 50, 52, 50, 50, 50, 50, 50, 50, 50, 50, 50, 50, 52, 50, 50, 50, 50, 50, 50, 50, 50, 50, 52, 50, 50, 50, 50, 50, 52, 50, 51, 50]
def lenL : List Nat := [0, 0, 800, 0, 3618, 0, 40, 40, 0, 120, 120, 120, 480, 0, 0, 120, 120, 120, 480, 120, 120, 481, 481, 120, 120, 120, 120, 200, 200, 200, 200, 0, 120, 120, 120, 480, 0, 0, 120, 120, 120, 480, 120, 120, 481, 481, 120, 120, 120, 120, 200, 200, 200, 200, 0, 120, 480, 0, 8, 32, 0, 40, 160, 0, 201, 804, 0, 120, 120, 120, 120, 120, 120, 8, 32, 0, 0, 40, 160, 160, 0, 2211, 201, 201, 201, 201, 201, 0, 0, 201, 804, 404, 404, 404, 404, 202, 404, 201, 201, 0, 800, 40, 40, 40, 161, 161, 161, 161, 644, 161, 161, 161, 644, 161, 161, 161, 644, 1400, 800, 5, 1000, 4000, 161, 200, 200, 120, 120, 120, 24, 160, 160, 40401, 40401, 40401, 40401, 40401, 201, 201, 201, 201, 201, 2211, 201, 201, 8000, 800]
def kl (k : Nat) : Nat := klL.getD k 99
def len (k : Nat) : Nat := lenL.getD k 0
/-- a word stands there in the tables, and it is one that lasts -/
def tb (j : Nat) : List Cond := match j with
  | 0 => k2_sels lw_privs
  | 1 => tables_1_1
  | 2 => tables_1_2
  | 3 => tables_1_3
  | 4 => tables_1_4
  | 5 => tables_1_5
  | 6 => tables_1_6
  | 7 => tables_1_7
  | 8 => tables_1_8
  | _ => []
def atq (pos : Nat) (w : Cond) : Bool := decide ((tb (pos / 1000))[pos % 1000]? = some w)
def atp (pos : Nat) (w : Cond) : Bool := atq pos w && goodWord w
def lyL : List (List Nat) := [[1125, 1127, 1129, 1131, 1133, 1135, 1137, 1139, 1141, 1143, 1145, 1147, 1149, 1151], [1169, 1171, 1173, 1175, 1177, 1179, 1181, 1183, 1185, 1187, 1189], [1210, 1212, 1214], [2046, 2048, 2050, 2052, 2054, 2056], [2079, 2081, 2083, 2085, 2087, 2089, 2091, 2093, 2095, 2097, 2099], [1037, 1039], [2027, 2029, 2031], [1054, 1056, 1058], [1234, 1236, 1238, 2000, 2002, 2004, 2006, 2008, 2010, 2012], [1084, 1086, 1088, 1090, 1092], [], [2185, 2187, 2189, 2191, 2193, 2195, 2197, 2199, 2201, 2203, 2205, 2207, 2209, 2211, 2213, 2215, 2217], [5202, 5204, 5206, 5208, 5210, 5212, 5214, 5216, 5218, 5220, 5222, 5224, 5226, 5228, 5230, 5232, 5234, 5236, 5238, 6000, 6002, 6004, 6006, 6008, 6010, 6012, 6014, 6016, 6018, 6020, 6022, 6024, 6026, 6028, 6030, 6032, 6034, 6036, 6038, 6040, 6042, 6044, 6046, 6048, 6050, 6052, 6054, 6056, 6058, 6060, 6062, 6064, 6066, 6068, 6070, 6072, 6074, 6076, 6078, 6080, 6082, 6084, 6086, 6088, 6090, 6092, 6094, 6096]]
def okLay (c : Nat) : Bool := (List.range (nf c)).all (fun k => atp ((lyL.getD c []).getD k 0) (u_lay (cN c) (cT c) k))
theorem okLay_0 : okLay 0 = true := by decide +kernel
theorem okLay_1 : okLay 1 = true := by decide +kernel
theorem okLay_2 : okLay 2 = true := by decide +kernel
theorem okLay_3 : okLay 3 = true := by decide +kernel
theorem okLay_4 : okLay 4 = true := by decide +kernel
theorem okLay_5 : okLay 5 = true := by decide +kernel
theorem okLay_6 : okLay 6 = true := by decide +kernel
theorem okLay_7 : okLay 7 = true := by decide +kernel
theorem okLay_8 : okLay 8 = true := by decide +kernel
theorem okLay_9 : okLay 9 = true := by decide +kernel
theorem okLay_10 : okLay 10 = true := by decide +kernel
theorem okLay_11 : okLay 11 = true := by decide +kernel
theorem okLay_12 : okLay 12 = true := by decide +kernel
theorem okLays : ∀ c, c < 13 → okLay c = true := by
  intro c hc
  match c, hc with
  | 0, _ => exact okLay_0
  | 1, _ => exact okLay_1
  | 2, _ => exact okLay_2
  | 3, _ => exact okLay_3
  | 4, _ => exact okLay_4
  | 5, _ => exact okLay_5
  | 6, _ => exact okLay_6
  | 7, _ => exact okLay_7
  | 8, _ => exact okLay_8
  | 9, _ => exact okLay_9
  | 10, _ => exact okLay_10
  | 11, _ => exact okLay_11
  | 12, _ => exact okLay_12
theorem nms : ∀ c, c < 13 → ∀ a, a < nf c → ∀ b, b < nf c → a ≠ b → ((cT c) a).2.1 ≠ ((cT c) b).2.1 := by
  intro c hc
  match c, hc with
  | 0, _ => exact nmX0
  | 1, _ => exact nmX1
  | 2, _ => exact nmX2
  | 3, _ => exact nmX3
  | 4, _ => exact nmX4
  | 5, _ => exact nmX5
  | 6, _ => exact nmX6
  | 7, _ => exact nmX7
  | 8, _ => exact nmX8
  | 9, _ => exact nmX9
  | 10, _ => exact nmX10
  | 11, _ => exact nmX11
  | 12, _ => exact nmX12
theorem tys : ∀ c, c < 13 → ∀ k, k < nf c → parseFieldDescriptor ((cT c) k).2.2.1 = some ((cTy c) k) := by
  intro c hc
  match c, hc with
  | 0, _ => exact tyX0_ok
  | 1, _ => exact tyX1_ok
  | 2, _ => exact tyX2_ok
  | 3, _ => exact tyX3_ok
  | 4, _ => exact tyX4_ok
  | 5, _ => exact tyX5_ok
  | 6, _ => exact tyX6_ok
  | 7, _ => exact tyX7_ok
  | 8, _ => exact tyX8_ok
  | 9, _ => exact tyX9_ok
  | 10, _ => exact tyX10_ok
  | 11, _ => exact tyX11_ok
  | 12, _ => exact tyX12_ok
