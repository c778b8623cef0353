section
/-! the tables words (pasted), the classes and their fields -/
-- ===== PART A: goes FIRST, ahead of the names: the tables' words, and 'selects' of the private methods out of them =====
/-- a private method of a class that the tables say can be made, by its rows of tables_1 -/
def lw_okq (q : MethodName × Nat) : Prop := (q.1.cls ≠ "java/lang/invoke/MethodHandle" ∧ q.1.cls ≠ "java/lang/invoke/VarHandle") ∧ Cond.instantiable q.1.cls q.2 ∈ tables_1 ∧ Cond.privateMethod q.1 ∈ tables_1 ∧ Cond.instanceMethod q.1 ∈ tables_1
theorem lw_p0 : lw_okq (⟨"WordFolder$Tree", "addNode", "(I)V"⟩, 5) := ⟨⟨by decide +kernel, by decide +kernel⟩, List.mem_of_getElem? (i := 63) (by decide +kernel), List.mem_of_getElem? (i := 367) (by decide +kernel), List.mem_of_getElem? (i := 368) (by decide +kernel)⟩
theorem lw_p1 : lw_okq (⟨"WordFolder$Tree", "placeOf", "(I)I"⟩, 5) := ⟨⟨by decide +kernel, by decide +kernel⟩, List.mem_of_getElem? (i := 63) (by decide +kernel), List.mem_of_getElem? (i := 371) (by decide +kernel), List.mem_of_getElem? (i := 372) (by decide +kernel)⟩
theorem lw_p2 : lw_okq (⟨"WordFolder", "wordOfTape", "()I"⟩, 17) := ⟨⟨by decide +kernel, by decide +kernel⟩, List.mem_of_getElem? (i := 17) (by decide +kernel), List.mem_of_getElem? (i := 497) (by decide +kernel), List.mem_of_getElem? (i := 498) (by decide +kernel)⟩
theorem lw_p3 : lw_okq (⟨"WordFolder", "addExample", "(IZ)I"⟩, 17) := ⟨⟨by decide +kernel, by decide +kernel⟩, List.mem_of_getElem? (i := 17) (by decide +kernel), List.mem_of_getElem? (i := 512) (by decide +kernel), List.mem_of_getElem? (i := 513) (by decide +kernel)⟩
theorem lw_p4 : lw_okq (⟨"WordFolder$Learner", "seeBehind", "(I)V"⟩, 11) := ⟨⟨by decide +kernel, by decide +kernel⟩, List.mem_of_getElem? (i := 96) (by decide +kernel), List.mem_of_getElem? (i := 605) (by decide +kernel), List.mem_of_getElem? (i := 606) (by decide +kernel)⟩
theorem lw_p5 : lw_okq (⟨"WordFolder$Fold", "absorb", "(II)V"⟩, 14) := ⟨⟨by decide +kernel, by decide +kernel⟩, List.mem_of_getElem? (i := 102) (by decide +kernel), List.mem_of_getElem? (i := 660) (by decide +kernel), List.mem_of_getElem? (i := 661) (by decide +kernel)⟩
theorem lw_p6 : lw_okq (⟨"WordFolder$Learner", "note", "(IIII)V"⟩, 11) := ⟨⟨by decide +kernel, by decide +kernel⟩, List.mem_of_getElem? (i := 96) (by decide +kernel), List.mem_of_getElem? (i := 674) (by decide +kernel), List.mem_of_getElem? (i := 675) (by decide +kernel)⟩
theorem lw_p7 : lw_okq (⟨"WordFolder$Learner", "doFirst", "()V"⟩, 11) := ⟨⟨by decide +kernel, by decide +kernel⟩, List.mem_of_getElem? (i := 96) (by decide +kernel), List.mem_of_getElem? (i := 686) (by decide +kernel), List.mem_of_getElem? (i := 687) (by decide +kernel)⟩
theorem lw_p8 : lw_okq (⟨"WordFolder$Learner", "doRedden", "(I)V"⟩, 11) := ⟨⟨by decide +kernel, by decide +kernel⟩, List.mem_of_getElem? (i := 96) (by decide +kernel), List.mem_of_getElem? (i := 691) (by decide +kernel), List.mem_of_getElem? (i := 692) (by decide +kernel)⟩
theorem lw_p9 : lw_okq (⟨"WordFolder$Learner", "doBest", "(I)V"⟩, 11) := ⟨⟨by decide +kernel, by decide +kernel⟩, List.mem_of_getElem? (i := 96) (by decide +kernel), List.mem_of_getElem? (i := 699) (by decide +kernel), List.mem_of_getElem? (i := 700) (by decide +kernel)⟩
theorem lw_p10 : lw_okq (⟨"WordFolder$Search", "findWith", "(LWordFolder$Tree;I)I"⟩, 10) := ⟨⟨by decide +kernel, by decide +kernel⟩, List.mem_of_getElem? (i := 218) (by decide +kernel), List.mem_of_getElem? (i := 758) (by decide +kernel), List.mem_of_getElem? (i := 759) (by decide +kernel)⟩
theorem lw_p11 : lw_okq (⟨"WordFolder$Search", "forget", "()V"⟩, 10) := ⟨⟨by decide +kernel, by decide +kernel⟩, List.mem_of_getElem? (i := 218) (by decide +kernel), List.mem_of_getElem? (i := 763) (by decide +kernel), List.mem_of_getElem? (i := 764) (by decide +kernel)⟩
theorem lw_p12 : lw_okq (⟨"WordFolder$Search", "enter", "(LWordFolder$Tree;II)V"⟩, 10) := ⟨⟨by decide +kernel, by decide +kernel⟩, List.mem_of_getElem? (i := 218) (by decide +kernel), List.mem_of_getElem? (i := 767) (by decide +kernel), List.mem_of_getElem? (i := 768) (by decide +kernel)⟩
theorem lw_p13 : lw_okq (⟨"WordFolder$Search", "arrowTo", "(LWordFolder$Tree;I)I"⟩, 10) := ⟨⟨by decide +kernel, by decide +kernel⟩, List.mem_of_getElem? (i := 218) (by decide +kernel), List.mem_of_getElem? (i := 772) (by decide +kernel), List.mem_of_getElem? (i := 773) (by decide +kernel)⟩
theorem lw_p14 : lw_okq (⟨"WordFolder$Search", "takeAway", "(LWordFolder$Tree;I)V"⟩, 10) := ⟨⟨by decide +kernel, by decide +kernel⟩, List.mem_of_getElem? (i := 218) (by decide +kernel), List.mem_of_getElem? (i := 778) (by decide +kernel), List.mem_of_getElem? (i := 779) (by decide +kernel)⟩
theorem lw_p15 : lw_okq (⟨"WordFolder$Search", "tryNext", "(LWordFolder$Tree;I)Z"⟩, 10) := ⟨⟨by decide +kernel, by decide +kernel⟩, List.mem_of_getElem? (i := 218) (by decide +kernel), List.mem_of_getElem? (i := 783) (by decide +kernel), List.mem_of_getElem? (i := 784) (by decide +kernel)⟩
def lw_privs_1 : List (MethodName × Nat) := [(⟨"WordFolder$Tree", "addNode", "(I)V"⟩, 5), (⟨"WordFolder$Tree", "placeOf", "(I)I"⟩, 5), (⟨"WordFolder", "wordOfTape", "()I"⟩, 17), (⟨"WordFolder", "addExample", "(IZ)I"⟩, 17), (⟨"WordFolder$Learner", "seeBehind", "(I)V"⟩, 11), (⟨"WordFolder$Fold", "absorb", "(II)V"⟩, 14), (⟨"WordFolder$Learner", "note", "(IIII)V"⟩, 11), (⟨"WordFolder$Learner", "doFirst", "()V"⟩, 11), (⟨"WordFolder$Learner", "doRedden", "(I)V"⟩, 11), (⟨"WordFolder$Learner", "doBest", "(I)V"⟩, 11), (⟨"WordFolder$Search", "findWith", "(LWordFolder$Tree;I)I"⟩, 10), (⟨"WordFolder$Search", "forget", "()V"⟩, 10), (⟨"WordFolder$Search", "enter", "(LWordFolder$Tree;II)V"⟩, 10), (⟨"WordFolder$Search", "arrowTo", "(LWordFolder$Tree;I)I"⟩, 10), (⟨"WordFolder$Search", "takeAway", "(LWordFolder$Tree;I)V"⟩, 10), (⟨"WordFolder$Search", "tryNext", "(LWordFolder$Tree;I)Z"⟩, 10)]
theorem lw_r1 : ∀ q ∈ lw_privs_1, lw_okq q := List.forall_mem_cons.mpr ⟨lw_p0, List.forall_mem_cons.mpr ⟨lw_p1, List.forall_mem_cons.mpr ⟨lw_p2, List.forall_mem_cons.mpr ⟨lw_p3, List.forall_mem_cons.mpr ⟨lw_p4, List.forall_mem_cons.mpr ⟨lw_p5, List.forall_mem_cons.mpr ⟨lw_p6, List.forall_mem_cons.mpr ⟨lw_p7, List.forall_mem_cons.mpr ⟨lw_p8, List.forall_mem_cons.mpr ⟨lw_p9, List.forall_mem_cons.mpr ⟨lw_p10, List.forall_mem_cons.mpr ⟨lw_p11, List.forall_mem_cons.mpr ⟨lw_p12, List.forall_mem_cons.mpr ⟨lw_p13, List.forall_mem_cons.mpr ⟨lw_p14, List.forall_mem_cons.mpr ⟨lw_p15, fun _ h => absurd h List.not_mem_nil⟩⟩⟩⟩⟩⟩⟩⟩⟩⟩⟩⟩⟩⟩⟩⟩
theorem lw_p16 : lw_okq (⟨"WordFolder$Reader", "readState", "(LWordFolder$Octets;I)Z"⟩, 3) := ⟨⟨by decide +kernel, by decide +kernel⟩, List.mem_of_getElem? (i := 256) (by decide +kernel), List.mem_of_getElem? (i := 813) (by decide +kernel), List.mem_of_getElem? (i := 814) (by decide +kernel)⟩
theorem lw_p17 : lw_okq (⟨"WordFolder$Reader", "readNumber", "(LWordFolder$Octets;II)Z"⟩, 3) := ⟨⟨by decide +kernel, by decide +kernel⟩, List.mem_of_getElem? (i := 256) (by decide +kernel), List.mem_of_getElem? (i := 822) (by decide +kernel), List.mem_of_getElem? (i := 823) (by decide +kernel)⟩
theorem lw_p18 : lw_okq (⟨"WordFolder$Reader", "lostDigit", "(I)I"⟩, 3) := ⟨⟨by decide +kernel, by decide +kernel⟩, List.mem_of_getElem? (i := 256) (by decide +kernel), List.mem_of_getElem? (i := 830) (by decide +kernel), List.mem_of_getElem? (i := 831) (by decide +kernel)⟩
theorem lw_p19 : lw_okq (⟨"WordFolder", "isThere", "(I)Z"⟩, 17) := ⟨⟨by decide +kernel, by decide +kernel⟩, List.mem_of_getElem? (i := 17) (by decide +kernel), List.mem_of_getElem? (i := 848) (by decide +kernel), List.mem_of_getElem? (i := 849) (by decide +kernel)⟩
theorem lw_p20 : lw_okq (⟨"WordFolder", "machine", "(I)LWordFolder$Machine;"⟩, 17) := ⟨⟨by decide +kernel, by decide +kernel⟩, List.mem_of_getElem? (i := 17) (by decide +kernel), List.mem_of_getElem? (i := 852) (by decide +kernel), List.mem_of_getElem? (i := 853) (by decide +kernel)⟩
theorem lw_p21 : lw_okq (⟨"WordFolder$Meter", "wordOf", "(LWordFolder$Machine;III)I"⟩, 6) := ⟨⟨by decide +kernel, by decide +kernel⟩, List.mem_of_getElem? (i := 275) (by decide +kernel), List.mem_of_getElem? (i := 901) (by decide +kernel), List.mem_of_getElem? (i := 902) (by decide +kernel)⟩
theorem lw_p22 : lw_okq (⟨"WordFolder$Meter", "reach", "(LWordFolder$Machine;I)I"⟩, 6) := ⟨⟨by decide +kernel, by decide +kernel⟩, List.mem_of_getElem? (i := 275) (by decide +kernel), List.mem_of_getElem? (i := 918) (by decide +kernel), List.mem_of_getElem? (i := 919) (by decide +kernel)⟩
theorem lw_p23 : lw_okq (⟨"WordFolder$Meter", "leadsOn", "(LWordFolder$Machine;II)Z"⟩, 6) := ⟨⟨by decide +kernel, by decide +kernel⟩, List.mem_of_getElem? (i := 275) (by decide +kernel), List.mem_of_getElem? (i := 923) (by decide +kernel), List.mem_of_getElem? (i := 924) (by decide +kernel)⟩
theorem lw_p24 : lw_okq (⟨"WordFolder$Meter", "goOn", "(LWordFolder$Machine;I)Z"⟩, 6) := ⟨⟨by decide +kernel, by decide +kernel⟩, List.mem_of_getElem? (i := 275) (by decide +kernel), List.mem_of_getElem? (i := 936) (by decide +kernel), List.mem_of_getElem? (i := 937) (by decide +kernel)⟩
theorem lw_p25 : lw_okq (⟨"WordFolder$Mill", "unite", "(II)Z"⟩, 11) := ⟨⟨by decide +kernel, by decide +kernel⟩, List.mem_of_getElem? (i := 300) (by decide +kernel), List.mem_of_getElem? (i := 969) (by decide +kernel), List.mem_of_getElem? (i := 970) (by decide +kernel)⟩
theorem lw_p26 : lw_okq (⟨"WordFolder$Mill", "leadOf", "(I)I"⟩, 11) := ⟨⟨by decide +kernel, by decide +kernel⟩, List.mem_of_getElem? (i := 300) (by decide +kernel), List.mem_of_getElem? (i := 973) (by decide +kernel), List.mem_of_getElem? (i := 974) (by decide +kernel)⟩
theorem lw_p27 : lw_okq (⟨"WordFolder$Mill", "note", "(III)I"⟩, 11) := ⟨⟨by decide +kernel, by decide +kernel⟩, List.mem_of_getElem? (i := 300) (by decide +kernel), List.mem_of_getElem? (i := 977) (by decide +kernel), List.mem_of_getElem? (i := 978) (by decide +kernel)⟩
theorem lw_p28 : lw_okq (⟨"WordFolder$Mill", "forgetPairs", "()V"⟩, 11) := ⟨⟨by decide +kernel, by decide +kernel⟩, List.mem_of_getElem? (i := 300) (by decide +kernel), List.mem_of_getElem? (i := 1006) (by decide +kernel), List.mem_of_getElem? (i := 1007) (by decide +kernel)⟩
theorem lw_p29 : lw_okq (⟨"WordFolder$Mill", "numberOf", "(II)I"⟩, 11) := ⟨⟨by decide +kernel, by decide +kernel⟩, List.mem_of_getElem? (i := 300) (by decide +kernel), List.mem_of_getElem? (i := 1010) (by decide +kernel), List.mem_of_getElem? (i := 1011) (by decide +kernel)⟩
theorem lw_p30 : lw_okq (⟨"WordFolder$Mill", "splitByMark", "()V"⟩, 11) := ⟨⟨by decide +kernel, by decide +kernel⟩, List.mem_of_getElem? (i := 300) (by decide +kernel), List.mem_of_getElem? (i := 1019) (by decide +kernel), List.mem_of_getElem? (i := 1020) (by decide +kernel)⟩
theorem lw_p31 : lw_okq (⟨"WordFolder$Mill", "takeKinds", "()V"⟩, 11) := ⟨⟨by decide +kernel, by decide +kernel⟩, List.mem_of_getElem? (i := 300) (by decide +kernel), List.mem_of_getElem? (i := 1023) (by decide +kernel), List.mem_of_getElem? (i := 1024) (by decide +kernel)⟩
def lw_privs_2 : List (MethodName × Nat) := [(⟨"WordFolder$Reader", "readState", "(LWordFolder$Octets;I)Z"⟩, 3), (⟨"WordFolder$Reader", "readNumber", "(LWordFolder$Octets;II)Z"⟩, 3), (⟨"WordFolder$Reader", "lostDigit", "(I)I"⟩, 3), (⟨"WordFolder", "isThere", "(I)Z"⟩, 17), (⟨"WordFolder", "machine", "(I)LWordFolder$Machine;"⟩, 17), (⟨"WordFolder$Meter", "wordOf", "(LWordFolder$Machine;III)I"⟩, 6), (⟨"WordFolder$Meter", "reach", "(LWordFolder$Machine;I)I"⟩, 6), (⟨"WordFolder$Meter", "leadsOn", "(LWordFolder$Machine;II)Z"⟩, 6), (⟨"WordFolder$Meter", "goOn", "(LWordFolder$Machine;I)Z"⟩, 6), (⟨"WordFolder$Mill", "unite", "(II)Z"⟩, 11), (⟨"WordFolder$Mill", "leadOf", "(I)I"⟩, 11), (⟨"WordFolder$Mill", "note", "(III)I"⟩, 11), (⟨"WordFolder$Mill", "forgetPairs", "()V"⟩, 11), (⟨"WordFolder$Mill", "numberOf", "(II)I"⟩, 11), (⟨"WordFolder$Mill", "splitByMark", "()V"⟩, 11), (⟨"WordFolder$Mill", "takeKinds", "()V"⟩, 11)]
theorem lw_r2 : ∀ q ∈ lw_privs_2, lw_okq q := List.forall_mem_cons.mpr ⟨lw_p16, List.forall_mem_cons.mpr ⟨lw_p17, List.forall_mem_cons.mpr ⟨lw_p18, List.forall_mem_cons.mpr ⟨lw_p19, List.forall_mem_cons.mpr ⟨lw_p20, List.forall_mem_cons.mpr ⟨lw_p21, List.forall_mem_cons.mpr ⟨lw_p22, List.forall_mem_cons.mpr ⟨lw_p23, List.forall_mem_cons.mpr ⟨lw_p24, List.forall_mem_cons.mpr ⟨lw_p25, List.forall_mem_cons.mpr ⟨lw_p26, List.forall_mem_cons.mpr ⟨lw_p27, List.forall_mem_cons.mpr ⟨lw_p28, List.forall_mem_cons.mpr ⟨lw_p29, List.forall_mem_cons.mpr ⟨lw_p30, List.forall_mem_cons.mpr ⟨lw_p31, fun _ h => absurd h List.not_mem_nil⟩⟩⟩⟩⟩⟩⟩⟩⟩⟩⟩⟩⟩⟩⟩⟩
theorem lw_p32 : lw_okq (⟨"WordFolder$Mill", "splitByLetter", "(I)V"⟩, 11) := ⟨⟨by decide +kernel, by decide +kernel⟩, List.mem_of_getElem? (i := 300) (by decide +kernel), List.mem_of_getElem? (i := 1028) (by decide +kernel), List.mem_of_getElem? (i := 1029) (by decide +kernel)⟩
theorem lw_p33 : lw_okq (⟨"WordFolder$Mill", "kindOf", "(I)I"⟩, 11) := ⟨⟨by decide +kernel, by decide +kernel⟩, List.mem_of_getElem? (i := 300) (by decide +kernel), List.mem_of_getElem? (i := 1032) (by decide +kernel), List.mem_of_getElem? (i := 1033) (by decide +kernel)⟩
theorem lw_p34 : lw_okq (⟨"WordFolderModel", "four", "(I)V"⟩, 68) := ⟨⟨by decide +kernel, by decide +kernel⟩, List.mem_of_getElem? (i := 1056) (by decide +kernel), List.mem_of_getElem? (i := 1054) (by decide +kernel), List.mem_of_getElem? (i := 1055) (by decide +kernel)⟩
theorem lw_p35 : lw_okq (⟨"WordFolderModel", "layTree", "()V"⟩, 68) := ⟨⟨by decide +kernel, by decide +kernel⟩, List.mem_of_getElem? (i := 1056) (by decide +kernel), List.mem_of_getElem? (i := 1072) (by decide +kernel), List.mem_of_getElem? (i := 1073) (by decide +kernel)⟩
theorem lw_p36 : lw_okq (⟨"WordFolderModel", "addNode", "(II)V"⟩, 68) := ⟨⟨by decide +kernel, by decide +kernel⟩, List.mem_of_getElem? (i := 1056) (by decide +kernel), List.mem_of_getElem? (i := 1076) (by decide +kernel), List.mem_of_getElem? (i := 1077) (by decide +kernel)⟩
theorem lw_p37 : lw_okq (⟨"WordFolderModel", "nodeOf", "(II)I"⟩, 68) := ⟨⟨by decide +kernel, by decide +kernel⟩, List.mem_of_getElem? (i := 1056) (by decide +kernel), List.mem_of_getElem? (i := 1080) (by decide +kernel), List.mem_of_getElem? (i := 1081) (by decide +kernel)⟩
theorem lw_p38 : lw_okq (⟨"WordFolderModel", "isNode", "(III)Z"⟩, 68) := ⟨⟨by decide +kernel, by decide +kernel⟩, List.mem_of_getElem? (i := 1056) (by decide +kernel), List.mem_of_getElem? (i := 1087) (by decide +kernel), List.mem_of_getElem? (i := 1088) (by decide +kernel)⟩
theorem lw_p39 : lw_okq (⟨"WordFolderModel", "layStates", "()V"⟩, 68) := ⟨⟨by decide +kernel, by decide +kernel⟩, List.mem_of_getElem? (i := 1056) (by decide +kernel), List.mem_of_getElem? (i := 1091) (by decide +kernel), List.mem_of_getElem? (i := 1092) (by decide +kernel)⟩
theorem lw_p40 : lw_okq (⟨"WordFolderModel", "fresh", "()V"⟩, 68) := ⟨⟨by decide +kernel, by decide +kernel⟩, List.mem_of_getElem? (i := 1056) (by decide +kernel), List.mem_of_getElem? (i := 1305) (by decide +kernel), List.mem_of_getElem? (i := 1306) (by decide +kernel)⟩
theorem lw_p41 : lw_okq (⟨"WordFolderModel", "readWord", "()Z"⟩, 68) := ⟨⟨by decide +kernel, by decide +kernel⟩, List.mem_of_getElem? (i := 1056) (by decide +kernel), List.mem_of_getElem? (i := 1313) (by decide +kernel), List.mem_of_getElem? (i := 1314) (by decide +kernel)⟩
theorem lw_p42 : lw_okq (⟨"WordFolderModel", "exampleNow", "(IIZ)I"⟩, 68) := ⟨⟨by decide +kernel, by decide +kernel⟩, List.mem_of_getElem? (i := 1056) (by decide +kernel), List.mem_of_getElem? (i := 1317) (by decide +kernel), List.mem_of_getElem? (i := 1318) (by decide +kernel)⟩
theorem lw_p43 : lw_okq (⟨"WordFolderModel", "placeOf", "(II)I"⟩, 68) := ⟨⟨by decide +kernel, by decide +kernel⟩, List.mem_of_getElem? (i := 1056) (by decide +kernel), List.mem_of_getElem? (i := 1321) (by decide +kernel), List.mem_of_getElem? (i := 1322) (by decide +kernel)⟩
theorem lw_p44 : lw_okq (⟨"WordFolderModel", "isThere", "(III)Z"⟩, 68) := ⟨⟨by decide +kernel, by decide +kernel⟩, List.mem_of_getElem? (i := 1056) (by decide +kernel), List.mem_of_getElem? (i := 1325) (by decide +kernel), List.mem_of_getElem? (i := 1326) (by decide +kernel)⟩
theorem lw_p45 : lw_okq (⟨"WordFolderModel", "moreNodes", "(II)I"⟩, 68) := ⟨⟨by decide +kernel, by decide +kernel⟩, List.mem_of_getElem? (i := 1056) (by decide +kernel), List.mem_of_getElem? (i := 1329) (by decide +kernel), List.mem_of_getElem? (i := 1330) (by decide +kernel)⟩
theorem lw_p46 : lw_okq (⟨"WordFolderModel", "insert", "(IIIZ)V"⟩, 68) := ⟨⟨by decide +kernel, by decide +kernel⟩, List.mem_of_getElem? (i := 1056) (by decide +kernel), List.mem_of_getElem? (i := 1333) (by decide +kernel), List.mem_of_getElem? (i := 1334) (by decide +kernel)⟩
theorem lw_p47 : lw_okq (⟨"WordFolderModel", "move", "(II)V"⟩, 68) := ⟨⟨by decide +kernel, by decide +kernel⟩, List.mem_of_getElem? (i := 1056) (by decide +kernel), List.mem_of_getElem? (i := 1337) (by decide +kernel), List.mem_of_getElem? (i := 1338) (by decide +kernel)⟩
def lw_privs_3 : List (MethodName × Nat) := [(⟨"WordFolder$Mill", "splitByLetter", "(I)V"⟩, 11), (⟨"WordFolder$Mill", "kindOf", "(I)I"⟩, 11), (⟨"WordFolderModel", "four", "(I)V"⟩, 68), (⟨"WordFolderModel", "layTree", "()V"⟩, 68), (⟨"WordFolderModel", "addNode", "(II)V"⟩, 68), (⟨"WordFolderModel", "nodeOf", "(II)I"⟩, 68), (⟨"WordFolderModel", "isNode", "(III)Z"⟩, 68), (⟨"WordFolderModel", "layStates", "()V"⟩, 68), (⟨"WordFolderModel", "fresh", "()V"⟩, 68), (⟨"WordFolderModel", "readWord", "()Z"⟩, 68), (⟨"WordFolderModel", "exampleNow", "(IIZ)I"⟩, 68), (⟨"WordFolderModel", "placeOf", "(II)I"⟩, 68), (⟨"WordFolderModel", "isThere", "(III)Z"⟩, 68), (⟨"WordFolderModel", "moreNodes", "(II)I"⟩, 68), (⟨"WordFolderModel", "insert", "(IIIZ)V"⟩, 68), (⟨"WordFolderModel", "move", "(II)V"⟩, 68)]
theorem lw_r3 : ∀ q ∈ lw_privs_3, lw_okq q := List.forall_mem_cons.mpr ⟨lw_p32, List.forall_mem_cons.mpr ⟨lw_p33, List.forall_mem_cons.mpr ⟨lw_p34, List.forall_mem_cons.mpr ⟨lw_p35, List.forall_mem_cons.mpr ⟨lw_p36, List.forall_mem_cons.mpr ⟨lw_p37, List.forall_mem_cons.mpr ⟨lw_p38, List.forall_mem_cons.mpr ⟨lw_p39, List.forall_mem_cons.mpr ⟨lw_p40, List.forall_mem_cons.mpr ⟨lw_p41, List.forall_mem_cons.mpr ⟨lw_p42, List.forall_mem_cons.mpr ⟨lw_p43, List.forall_mem_cons.mpr ⟨lw_p44, List.forall_mem_cons.mpr ⟨lw_p45, List.forall_mem_cons.mpr ⟨lw_p46, List.forall_mem_cons.mpr ⟨lw_p47, fun _ h => absurd h List.not_mem_nil⟩⟩⟩⟩⟩⟩⟩⟩⟩⟩⟩⟩⟩⟩⟩⟩
theorem lw_p48 : lw_okq (⟨"WordFolderModel", "remove", "(I)V"⟩, 68) := ⟨⟨by decide +kernel, by decide +kernel⟩, List.mem_of_getElem? (i := 1056) (by decide +kernel), List.mem_of_getElem? (i := 1345) (by decide +kernel), List.mem_of_getElem? (i := 1346) (by decide +kernel)⟩
theorem lw_p49 : lw_okq (⟨"WordFolderModel", "nameOf", "(I)I"⟩, 68) := ⟨⟨by decide +kernel, by decide +kernel⟩, List.mem_of_getElem? (i := 1056) (by decide +kernel), List.mem_of_getElem? (i := 1353) (by decide +kernel), List.mem_of_getElem? (i := 1354) (by decide +kernel)⟩
theorem lw_p50 : lw_okq (⟨"WordFolderModel", "inMany", "()I"⟩, 68) := ⟨⟨by decide +kernel, by decide +kernel⟩, List.mem_of_getElem? (i := 1056) (by decide +kernel), List.mem_of_getElem? (i := 1361) (by decide +kernel), List.mem_of_getElem? (i := 1362) (by decide +kernel)⟩
theorem lw_p51 : lw_okq (⟨"WordFolderModel", "redMany", "()I"⟩, 68) := ⟨⟨by decide +kernel, by decide +kernel⟩, List.mem_of_getElem? (i := 1056) (by decide +kernel), List.mem_of_getElem? (i := 1365) (by decide +kernel), List.mem_of_getElem? (i := 1366) (by decide +kernel)⟩
theorem lw_p52 : lw_okq (⟨"WordFolderModel", "isName", "(I)Z"⟩, 68) := ⟨⟨by decide +kernel, by decide +kernel⟩, List.mem_of_getElem? (i := 1056) (by decide +kernel), List.mem_of_getElem? (i := 1369) (by decide +kernel), List.mem_of_getElem? (i := 1370) (by decide +kernel)⟩
theorem lw_p53 : lw_okq (⟨"WordFolderModel", "blueMany", "()I"⟩, 68) := ⟨⟨by decide +kernel, by decide +kernel⟩, List.mem_of_getElem? (i := 1056) (by decide +kernel), List.mem_of_getElem? (i := 1373) (by decide +kernel), List.mem_of_getElem? (i := 1374) (by decide +kernel)⟩
theorem lw_p54 : lw_okq (⟨"WordFolderModel", "isBlue", "(I)Z"⟩, 68) := ⟨⟨by decide +kernel, by decide +kernel⟩, List.mem_of_getElem? (i := 1056) (by decide +kernel), List.mem_of_getElem? (i := 1377) (by decide +kernel), List.mem_of_getElem? (i := 1378) (by decide +kernel)⟩
theorem lw_p55 : lw_okq (⟨"WordFolderModel", "put", "(I)V"⟩, 68) := ⟨⟨by decide +kernel, by decide +kernel⟩, List.mem_of_getElem? (i := 1056) (by decide +kernel), List.mem_of_getElem? (i := 1392) (by decide +kernel), List.mem_of_getElem? (i := 1393) (by decide +kernel)⟩
theorem lw_p56 : lw_okq (⟨"WordFolderModel", "areTwo", "(II)Z"⟩, 68) := ⟨⟨by decide +kernel, by decide +kernel⟩, List.mem_of_getElem? (i := 1056) (by decide +kernel), List.mem_of_getElem? (i := 1403) (by decide +kernel), List.mem_of_getElem? (i := 1404) (by decide +kernel)⟩
theorem lw_p57 : lw_okq (⟨"WordFolderModel", "scoreOf", "(III)I"⟩, 68) := ⟨⟨by decide +kernel, by decide +kernel⟩, List.mem_of_getElem? (i := 1056) (by decide +kernel), List.mem_of_getElem? (i := 1407) (by decide +kernel), List.mem_of_getElem? (i := 1408) (by decide +kernel)⟩
theorem lw_p58 : lw_okq (⟨"WordFolderModel", "merges", "(II)Z"⟩, 68) := ⟨⟨by decide +kernel, by decide +kernel⟩, List.mem_of_getElem? (i := 1056) (by decide +kernel), List.mem_of_getElem? (i := 1411) (by decide +kernel), List.mem_of_getElem? (i := 1412) (by decide +kernel)⟩
theorem lw_p59 : lw_okq (⟨"WordFolderModel", "pair", "(II)V"⟩, 68) := ⟨⟨by decide +kernel, by decide +kernel⟩, List.mem_of_getElem? (i := 1056) (by decide +kernel), List.mem_of_getElem? (i := 1415) (by decide +kernel), List.mem_of_getElem? (i := 1416) (by decide +kernel)⟩
theorem lw_p60 : lw_okq (⟨"WordFolderModel", "untie", "(I)V"⟩, 68) := ⟨⟨by decide +kernel, by decide +kernel⟩, List.mem_of_getElem? (i := 1056) (by decide +kernel), List.mem_of_getElem? (i := 1419) (by decide +kernel), List.mem_of_getElem? (i := 1420) (by decide +kernel)⟩
theorem lw_p61 : lw_okq (⟨"WordFolderModel", "tieNow", "(II)V"⟩, 68) := ⟨⟨by decide +kernel, by decide +kernel⟩, List.mem_of_getElem? (i := 1056) (by decide +kernel), List.mem_of_getElem? (i := 1423) (by decide +kernel), List.mem_of_getElem? (i := 1424) (by decide +kernel)⟩
theorem lw_p62 : lw_okq (⟨"WordFolderModel", "mergeNow", "(III)I"⟩, 68) := ⟨⟨by decide +kernel, by decide +kernel⟩, List.mem_of_getElem? (i := 1056) (by decide +kernel), List.mem_of_getElem? (i := 1431) (by decide +kernel), List.mem_of_getElem? (i := 1432) (by decide +kernel)⟩
theorem lw_p63 : lw_okq (⟨"WordFolderModel", "write", "(IIII)V"⟩, 68) := ⟨⟨by decide +kernel, by decide +kernel⟩, List.mem_of_getElem? (i := 1056) (by decide +kernel), List.mem_of_getElem? (i := 1435) (by decide +kernel), List.mem_of_getElem? (i := 1436) (by decide +kernel)⟩
def lw_privs_4 : List (MethodName × Nat) := [(⟨"WordFolderModel", "remove", "(I)V"⟩, 68), (⟨"WordFolderModel", "nameOf", "(I)I"⟩, 68), (⟨"WordFolderModel", "inMany", "()I"⟩, 68), (⟨"WordFolderModel", "redMany", "()I"⟩, 68), (⟨"WordFolderModel", "isName", "(I)Z"⟩, 68), (⟨"WordFolderModel", "blueMany", "()I"⟩, 68), (⟨"WordFolderModel", "isBlue", "(I)Z"⟩, 68), (⟨"WordFolderModel", "put", "(I)V"⟩, 68), (⟨"WordFolderModel", "areTwo", "(II)Z"⟩, 68), (⟨"WordFolderModel", "scoreOf", "(III)I"⟩, 68), (⟨"WordFolderModel", "merges", "(II)Z"⟩, 68), (⟨"WordFolderModel", "pair", "(II)V"⟩, 68), (⟨"WordFolderModel", "untie", "(I)V"⟩, 68), (⟨"WordFolderModel", "tieNow", "(II)V"⟩, 68), (⟨"WordFolderModel", "mergeNow", "(III)I"⟩, 68), (⟨"WordFolderModel", "write", "(IIII)V"⟩, 68)]
theorem lw_r4 : ∀ q ∈ lw_privs_4, lw_okq q := List.forall_mem_cons.mpr ⟨lw_p48, List.forall_mem_cons.mpr ⟨lw_p49, List.forall_mem_cons.mpr ⟨lw_p50, List.forall_mem_cons.mpr ⟨lw_p51, List.forall_mem_cons.mpr ⟨lw_p52, List.forall_mem_cons.mpr ⟨lw_p53, List.forall_mem_cons.mpr ⟨lw_p54, List.forall_mem_cons.mpr ⟨lw_p55, List.forall_mem_cons.mpr ⟨lw_p56, List.forall_mem_cons.mpr ⟨lw_p57, List.forall_mem_cons.mpr ⟨lw_p58, List.forall_mem_cons.mpr ⟨lw_p59, List.forall_mem_cons.mpr ⟨lw_p60, List.forall_mem_cons.mpr ⟨lw_p61, List.forall_mem_cons.mpr ⟨lw_p62, List.forall_mem_cons.mpr ⟨lw_p63, fun _ h => absurd h List.not_mem_nil⟩⟩⟩⟩⟩⟩⟩⟩⟩⟩⟩⟩⟩⟩⟩⟩
theorem lw_p64 : lw_okq (⟨"WordFolderModel", "leastBlue", "(I)I"⟩, 68) := ⟨⟨by decide +kernel, by decide +kernel⟩, List.mem_of_getElem? (i := 1056) (by decide +kernel), List.mem_of_getElem? (i := 1443) (by decide +kernel), List.mem_of_getElem? (i := 1444) (by decide +kernel)⟩
theorem lw_p65 : lw_okq (⟨"WordFolderModel", "stepNow", "(I)I"⟩, 68) := ⟨⟨by decide +kernel, by decide +kernel⟩, List.mem_of_getElem? (i := 1056) (by decide +kernel), List.mem_of_getElem? (i := 1447) (by decide +kernel), List.mem_of_getElem? (i := 1448) (by decide +kernel)⟩
theorem lw_p66 : lw_okq (⟨"WordFolderModel", "stepFirst", "()I"⟩, 68) := ⟨⟨by decide +kernel, by decide +kernel⟩, List.mem_of_getElem? (i := 1056) (by decide +kernel), List.mem_of_getElem? (i := 1451) (by decide +kernel), List.mem_of_getElem? (i := 1452) (by decide +kernel)⟩
theorem lw_p67 : lw_okq (⟨"WordFolderModel", "redden", "(I)I"⟩, 68) := ⟨⟨by decide +kernel, by decide +kernel⟩, List.mem_of_getElem? (i := 1056) (by decide +kernel), List.mem_of_getElem? (i := 1455) (by decide +kernel), List.mem_of_getElem? (i := 1456) (by decide +kernel)⟩
theorem lw_p68 : lw_okq (⟨"WordFolderModel", "stepBest", "(I)I"⟩, 68) := ⟨⟨by decide +kernel, by decide +kernel⟩, List.mem_of_getElem? (i := 1056) (by decide +kernel), List.mem_of_getElem? (i := 1459) (by decide +kernel), List.mem_of_getElem? (i := 1460) (by decide +kernel)⟩
theorem lw_p69 : lw_okq (⟨"WordFolderModel", "learnNow", "(I)V"⟩, 68) := ⟨⟨by decide +kernel, by decide +kernel⟩, List.mem_of_getElem? (i := 1056) (by decide +kernel), List.mem_of_getElem? (i := 1467) (by decide +kernel), List.mem_of_getElem? (i := 1468) (by decide +kernel)⟩
theorem lw_p70 : lw_okq (⟨"WordFolderModel", "redo", "(I)V"⟩, 68) := ⟨⟨by decide +kernel, by decide +kernel⟩, List.mem_of_getElem? (i := 1056) (by decide +kernel), List.mem_of_getElem? (i := 1475) (by decide +kernel), List.mem_of_getElem? (i := 1476) (by decide +kernel)⟩
theorem lw_p71 : lw_okq (⟨"WordFolderModel", "isMachine", "(I)Z"⟩, 68) := ⟨⟨by decide +kernel, by decide +kernel⟩, List.mem_of_getElem? (i := 1056) (by decide +kernel), List.mem_of_getElem? (i := 1487) (by decide +kernel), List.mem_of_getElem? (i := 1488) (by decide +kernel)⟩
theorem lw_p72 : lw_okq (⟨"WordFolderModel", "layNow", "()V"⟩, 68) := ⟨⟨by decide +kernel, by decide +kernel⟩, List.mem_of_getElem? (i := 1056) (by decide +kernel), List.mem_of_getElem? (i := 1491) (by decide +kernel), List.mem_of_getElem? (i := 1492) (by decide +kernel)⟩
theorem lw_p73 : lw_okq (⟨"WordFolderModel", "putArrow", "(IIII)V"⟩, 68) := ⟨⟨by decide +kernel, by decide +kernel⟩, List.mem_of_getElem? (i := 1056) (by decide +kernel), List.mem_of_getElem? (i := 1495) (by decide +kernel), List.mem_of_getElem? (i := 1496) (by decide +kernel)⟩
theorem lw_p74 : lw_okq (⟨"WordFolderModel", "copyMachine", "(II)V"⟩, 68) := ⟨⟨by decide +kernel, by decide +kernel⟩, List.mem_of_getElem? (i := 1056) (by decide +kernel), List.mem_of_getElem? (i := 1499) (by decide +kernel), List.mem_of_getElem? (i := 1500) (by decide +kernel)⟩
theorem lw_p75 : lw_okq (⟨"WordFolderModel", "markOf", "(II)I"⟩, 68) := ⟨⟨by decide +kernel, by decide +kernel⟩, List.mem_of_getElem? (i := 1056) (by decide +kernel), List.mem_of_getElem? (i := 1511) (by decide +kernel), List.mem_of_getElem? (i := 1512) (by decide +kernel)⟩
theorem lw_p76 : lw_okq (⟨"WordFolderModel", "arrowOf", "(III)I"⟩, 68) := ⟨⟨by decide +kernel, by decide +kernel⟩, List.mem_of_getElem? (i := 1056) (by decide +kernel), List.mem_of_getElem? (i := 1515) (by decide +kernel), List.mem_of_getElem? (i := 1516) (by decide +kernel)⟩
theorem lw_p77 : lw_okq (⟨"WordFolderModel", "isTaken", "(III)Z"⟩, 68) := ⟨⟨by decide +kernel, by decide +kernel⟩, List.mem_of_getElem? (i := 1056) (by decide +kernel), List.mem_of_getElem? (i := 1523) (by decide +kernel), List.mem_of_getElem? (i := 1524) (by decide +kernel)⟩
theorem lw_p78 : lw_okq (⟨"WordFolderModel", "findWith", "(I)I"⟩, 68) := ⟨⟨by decide +kernel, by decide +kernel⟩, List.mem_of_getElem? (i := 1056) (by decide +kernel), List.mem_of_getElem? (i := 1535) (by decide +kernel), List.mem_of_getElem? (i := 1536) (by decide +kernel)⟩
theorem lw_p79 : lw_okq (⟨"WordFolderModel", "nextTry", "(III)I"⟩, 68) := ⟨⟨by decide +kernel, by decide +kernel⟩, List.mem_of_getElem? (i := 1056) (by decide +kernel), List.mem_of_getElem? (i := 1539) (by decide +kernel), List.mem_of_getElem? (i := 1540) (by decide +kernel)⟩
def lw_privs_5 : List (MethodName × Nat) := [(⟨"WordFolderModel", "leastBlue", "(I)I"⟩, 68), (⟨"WordFolderModel", "stepNow", "(I)I"⟩, 68), (⟨"WordFolderModel", "stepFirst", "()I"⟩, 68), (⟨"WordFolderModel", "redden", "(I)I"⟩, 68), (⟨"WordFolderModel", "stepBest", "(I)I"⟩, 68), (⟨"WordFolderModel", "learnNow", "(I)V"⟩, 68), (⟨"WordFolderModel", "redo", "(I)V"⟩, 68), (⟨"WordFolderModel", "isMachine", "(I)Z"⟩, 68), (⟨"WordFolderModel", "layNow", "()V"⟩, 68), (⟨"WordFolderModel", "putArrow", "(IIII)V"⟩, 68), (⟨"WordFolderModel", "copyMachine", "(II)V"⟩, 68), (⟨"WordFolderModel", "markOf", "(II)I"⟩, 68), (⟨"WordFolderModel", "arrowOf", "(III)I"⟩, 68), (⟨"WordFolderModel", "isTaken", "(III)Z"⟩, 68), (⟨"WordFolderModel", "findWith", "(I)I"⟩, 68), (⟨"WordFolderModel", "nextTry", "(III)I"⟩, 68)]
theorem lw_r5 : ∀ q ∈ lw_privs_5, lw_okq q := List.forall_mem_cons.mpr ⟨lw_p64, List.forall_mem_cons.mpr ⟨lw_p65, List.forall_mem_cons.mpr ⟨lw_p66, List.forall_mem_cons.mpr ⟨lw_p67, List.forall_mem_cons.mpr ⟨lw_p68, List.forall_mem_cons.mpr ⟨lw_p69, List.forall_mem_cons.mpr ⟨lw_p70, List.forall_mem_cons.mpr ⟨lw_p71, List.forall_mem_cons.mpr ⟨lw_p72, List.forall_mem_cons.mpr ⟨lw_p73, List.forall_mem_cons.mpr ⟨lw_p74, List.forall_mem_cons.mpr ⟨lw_p75, List.forall_mem_cons.mpr ⟨lw_p76, List.forall_mem_cons.mpr ⟨lw_p77, List.forall_mem_cons.mpr ⟨lw_p78, List.forall_mem_cons.mpr ⟨lw_p79, fun _ h => absurd h List.not_mem_nil⟩⟩⟩⟩⟩⟩⟩⟩⟩⟩⟩⟩⟩⟩⟩⟩
theorem lw_p80 : lw_okq (⟨"WordFolderModel", "takeOut", "(I)V"⟩, 68) := ⟨⟨by decide +kernel, by decide +kernel⟩, List.mem_of_getElem? (i := 1056) (by decide +kernel), List.mem_of_getElem? (i := 1543) (by decide +kernel), List.mem_of_getElem? (i := 1544) (by decide +kernel)⟩
theorem lw_p81 : lw_okq (⟨"WordFolderModel", "isForced", "(I)Z"⟩, 68) := ⟨⟨by decide +kernel, by decide +kernel⟩, List.mem_of_getElem? (i := 1056) (by decide +kernel), List.mem_of_getElem? (i := 1547) (by decide +kernel), List.mem_of_getElem? (i := 1548) (by decide +kernel)⟩
theorem lw_p82 : lw_okq (⟨"WordFolderModel", "puts", "(II)Z"⟩, 68) := ⟨⟨by decide +kernel, by decide +kernel⟩, List.mem_of_getElem? (i := 1056) (by decide +kernel), List.mem_of_getElem? (i := 1552) (by decide +kernel), List.mem_of_getElem? (i := 1553) (by decide +kernel)⟩
theorem lw_p83 : lw_okq (⟨"WordFolderModel", "readMachine", "()Z"⟩, 68) := ⟨⟨by decide +kernel, by decide +kernel⟩, List.mem_of_getElem? (i := 1056) (by decide +kernel), List.mem_of_getElem? (i := 1564) (by decide +kernel), List.mem_of_getElem? (i := 1565) (by decide +kernel)⟩
theorem lw_p84 : lw_okq (⟨"WordFolderModel", "readState", "(I)Z"⟩, 68) := ⟨⟨by decide +kernel, by decide +kernel⟩, List.mem_of_getElem? (i := 1056) (by decide +kernel), List.mem_of_getElem? (i := 1568) (by decide +kernel), List.mem_of_getElem? (i := 1569) (by decide +kernel)⟩
theorem lw_p85 : lw_okq (⟨"WordFolderModel", "here", "()I"⟩, 68) := ⟨⟨by decide +kernel, by decide +kernel⟩, List.mem_of_getElem? (i := 1056) (by decide +kernel), List.mem_of_getElem? (i := 1572) (by decide +kernel), List.mem_of_getElem? (i := 1573) (by decide +kernel)⟩
theorem lw_p86 : lw_okq (⟨"WordFolderModel", "fails", "(I)Z"⟩, 68) := ⟨⟨by decide +kernel, by decide +kernel⟩, List.mem_of_getElem? (i := 1056) (by decide +kernel), List.mem_of_getElem? (i := 1579) (by decide +kernel), List.mem_of_getElem? (i := 1580) (by decide +kernel)⟩
theorem lw_p87 : lw_okq (⟨"WordFolderModel", "readArrow", "(II)Z"⟩, 68) := ⟨⟨by decide +kernel, by decide +kernel⟩, List.mem_of_getElem? (i := 1056) (by decide +kernel), List.mem_of_getElem? (i := 1583) (by decide +kernel), List.mem_of_getElem? (i := 1584) (by decide +kernel)⟩
theorem lw_p88 : lw_okq (⟨"WordFolderModel", "areMachines", "(II)Z"⟩, 68) := ⟨⟨by decide +kernel, by decide +kernel⟩, List.mem_of_getElem? (i := 1056) (by decide +kernel), List.mem_of_getElem? (i := 1598) (by decide +kernel), List.mem_of_getElem? (i := 1599) (by decide +kernel)⟩
theorem lw_p89 : lw_okq (⟨"WordFolderModel", "differs", "(II)I"⟩, 68) := ⟨⟨by decide +kernel, by decide +kernel⟩, List.mem_of_getElem? (i := 1056) (by decide +kernel), List.mem_of_getElem? (i := 1602) (by decide +kernel), List.mem_of_getElem? (i := 1603) (by decide +kernel)⟩
theorem lw_p90 : lw_okq (⟨"WordFolderModel", "beginPairs", "()V"⟩, 68) := ⟨⟨by decide +kernel, by decide +kernel⟩, List.mem_of_getElem? (i := 1056) (by decide +kernel), List.mem_of_getElem? (i := 1606) (by decide +kernel), List.mem_of_getElem? (i := 1607) (by decide +kernel)⟩
theorem lw_p91 : lw_okq (⟨"WordFolderModel", "comeTo", "(IIII)I"⟩, 68) := ⟨⟨by decide +kernel, by decide +kernel⟩, List.mem_of_getElem? (i := 1056) (by decide +kernel), List.mem_of_getElem? (i := 1610) (by decide +kernel), List.mem_of_getElem? (i := 1611) (by decide +kernel)⟩
theorem lw_p92 : lw_okq (⟨"WordFolderModel", "isMarked", "(II)Z"⟩, 68) := ⟨⟨by decide +kernel, by decide +kernel⟩, List.mem_of_getElem? (i := 1056) (by decide +kernel), List.mem_of_getElem? (i := 1614) (by decide +kernel), List.mem_of_getElem? (i := 1615) (by decide +kernel)⟩
theorem lw_p93 : lw_okq (⟨"WordFolderModel", "laySorts", "(I)I"⟩, 68) := ⟨⟨by decide +kernel, by decide +kernel⟩, List.mem_of_getElem? (i := 1056) (by decide +kernel), List.mem_of_getElem? (i := 1626) (by decide +kernel), List.mem_of_getElem? (i := 1627) (by decide +kernel)⟩
theorem lw_p94 : lw_okq (⟨"WordFolderModel", "layCome", "(I)V"⟩, 68) := ⟨⟨by decide +kernel, by decide +kernel⟩, List.mem_of_getElem? (i := 1056) (by decide +kernel), List.mem_of_getElem? (i := 1630) (by decide +kernel), List.mem_of_getElem? (i := 1631) (by decide +kernel)⟩
theorem lw_p95 : lw_okq (⟨"WordFolderModel", "stepOf", "(III)I"⟩, 68) := ⟨⟨by decide +kernel, by decide +kernel⟩, List.mem_of_getElem? (i := 1056) (by decide +kernel), List.mem_of_getElem? (i := 1634) (by decide +kernel), List.mem_of_getElem? (i := 1635) (by decide +kernel)⟩
def lw_privs_6 : List (MethodName × Nat) := [(⟨"WordFolderModel", "takeOut", "(I)V"⟩, 68), (⟨"WordFolderModel", "isForced", "(I)Z"⟩, 68), (⟨"WordFolderModel", "puts", "(II)Z"⟩, 68), (⟨"WordFolderModel", "readMachine", "()Z"⟩, 68), (⟨"WordFolderModel", "readState", "(I)Z"⟩, 68), (⟨"WordFolderModel", "here", "()I"⟩, 68), (⟨"WordFolderModel", "fails", "(I)Z"⟩, 68), (⟨"WordFolderModel", "readArrow", "(II)Z"⟩, 68), (⟨"WordFolderModel", "areMachines", "(II)Z"⟩, 68), (⟨"WordFolderModel", "differs", "(II)I"⟩, 68), (⟨"WordFolderModel", "beginPairs", "()V"⟩, 68), (⟨"WordFolderModel", "comeTo", "(IIII)I"⟩, 68), (⟨"WordFolderModel", "isMarked", "(II)Z"⟩, 68), (⟨"WordFolderModel", "laySorts", "(I)I"⟩, 68), (⟨"WordFolderModel", "layCome", "(I)V"⟩, 68), (⟨"WordFolderModel", "stepOf", "(III)I"⟩, 68)]
theorem lw_r6 : ∀ q ∈ lw_privs_6, lw_okq q := List.forall_mem_cons.mpr ⟨lw_p80, List.forall_mem_cons.mpr ⟨lw_p81, List.forall_mem_cons.mpr ⟨lw_p82, List.forall_mem_cons.mpr ⟨lw_p83, List.forall_mem_cons.mpr ⟨lw_p84, List.forall_mem_cons.mpr ⟨lw_p85, List.forall_mem_cons.mpr ⟨lw_p86, List.forall_mem_cons.mpr ⟨lw_p87, List.forall_mem_cons.mpr ⟨lw_p88, List.forall_mem_cons.mpr ⟨lw_p89, List.forall_mem_cons.mpr ⟨lw_p90, List.forall_mem_cons.mpr ⟨lw_p91, List.forall_mem_cons.mpr ⟨lw_p92, List.forall_mem_cons.mpr ⟨lw_p93, List.forall_mem_cons.mpr ⟨lw_p94, List.forall_mem_cons.mpr ⟨lw_p95, fun _ h => absurd h List.not_mem_nil⟩⟩⟩⟩⟩⟩⟩⟩⟩⟩⟩⟩⟩⟩⟩⟩
theorem lw_p96 : lw_okq (⟨"WordFolderModel", "areAlike", "(III)Z"⟩, 68) := ⟨⟨by decide +kernel, by decide +kernel⟩, List.mem_of_getElem? (i := 1056) (by decide +kernel), List.mem_of_getElem? (i := 1638) (by decide +kernel), List.mem_of_getElem? (i := 1639) (by decide +kernel)⟩
theorem lw_p97 : lw_okq (⟨"WordFolderModel", "numberSort", "(II)I"⟩, 68) := ⟨⟨by decide +kernel, by decide +kernel⟩, List.mem_of_getElem? (i := 1056) (by decide +kernel), List.mem_of_getElem? (i := 1646) (by decide +kernel), List.mem_of_getElem? (i := 1647) (by decide +kernel)⟩
theorem lw_p98 : lw_okq (⟨"WordFolderModel", "layTaken", "(I)V"⟩, 68) := ⟨⟨by decide +kernel, by decide +kernel⟩, List.mem_of_getElem? (i := 1056) (by decide +kernel), List.mem_of_getElem? (i := 1654) (by decide +kernel), List.mem_of_getElem? (i := 1655) (by decide +kernel)⟩
theorem lw_p99 : lw_okq (⟨"WordFolderModel", "layUseful", "(I)I"⟩, 68) := ⟨⟨by decide +kernel, by decide +kernel⟩, List.mem_of_getElem? (i := 1056) (by decide +kernel), List.mem_of_getElem? (i := 1666) (by decide +kernel), List.mem_of_getElem? (i := 1667) (by decide +kernel)⟩
theorem lw_p100 : lw_okq (⟨"WordFolderModel", "putNumber", "(I)V"⟩, 68) := ⟨⟨by decide +kernel, by decide +kernel⟩, List.mem_of_getElem? (i := 1056) (by decide +kernel), List.mem_of_getElem? (i := 1678) (by decide +kernel), List.mem_of_getElem? (i := 1679) (by decide +kernel)⟩
theorem lw_p101 : lw_okq (⟨"WordFolderModel", "codeOf", "(II)I"⟩, 68) := ⟨⟨by decide +kernel, by decide +kernel⟩, List.mem_of_getElem? (i := 1056) (by decide +kernel), List.mem_of_getElem? (i := 1690) (by decide +kernel), List.mem_of_getElem? (i := 1691) (by decide +kernel)⟩
theorem lw_p102 : lw_okq (⟨"WordFolderModel", "putAside", "()V"⟩, 68) := ⟨⟨by decide +kernel, by decide +kernel⟩, List.mem_of_getElem? (i := 1056) (by decide +kernel), List.mem_of_getElem? (i := 1698) (by decide +kernel), List.mem_of_getElem? (i := 1699) (by decide +kernel)⟩
theorem lw_p103 : lw_okq (⟨"WordFolderModel", "learnWithout", "(II)V"⟩, 68) := ⟨⟨by decide +kernel, by decide +kernel⟩, List.mem_of_getElem? (i := 1056) (by decide +kernel), List.mem_of_getElem? (i := 1702) (by decide +kernel), List.mem_of_getElem? (i := 1703) (by decide +kernel)⟩
theorem lw_p104 : lw_okq (⟨"WordFolderModel", "bringIn", "(I)V"⟩, 68) := ⟨⟨by decide +kernel, by decide +kernel⟩, List.mem_of_getElem? (i := 1056) (by decide +kernel), List.mem_of_getElem? (i := 1706) (by decide +kernel), List.mem_of_getElem? (i := 1707) (by decide +kernel)⟩
theorem lw_p105 : lw_okq (⟨"WordFolderModel", "bringBack", "()V"⟩, 68) := ⟨⟨by decide +kernel, by decide +kernel⟩, List.mem_of_getElem? (i := 1056) (by decide +kernel), List.mem_of_getElem? (i := 1710) (by decide +kernel), List.mem_of_getElem? (i := 1711) (by decide +kernel)⟩
theorem lw_p106 : lw_okq (⟨"WordFolderModel", "isTakenNow", "(II)Z"⟩, 68) := ⟨⟨by decide +kernel, by decide +kernel⟩, List.mem_of_getElem? (i := 1056) (by decide +kernel), List.mem_of_getElem? (i := 1718) (by decide +kernel), List.mem_of_getElem? (i := 1719) (by decide +kernel)⟩
def lw_privs_7 : List (MethodName × Nat) := [(⟨"WordFolderModel", "areAlike", "(III)Z"⟩, 68), (⟨"WordFolderModel", "numberSort", "(II)I"⟩, 68), (⟨"WordFolderModel", "layTaken", "(I)V"⟩, 68), (⟨"WordFolderModel", "layUseful", "(I)I"⟩, 68), (⟨"WordFolderModel", "putNumber", "(I)V"⟩, 68), (⟨"WordFolderModel", "codeOf", "(II)I"⟩, 68), (⟨"WordFolderModel", "putAside", "()V"⟩, 68), (⟨"WordFolderModel", "learnWithout", "(II)V"⟩, 68), (⟨"WordFolderModel", "bringIn", "(I)V"⟩, 68), (⟨"WordFolderModel", "bringBack", "()V"⟩, 68), (⟨"WordFolderModel", "isTakenNow", "(II)Z"⟩, 68)]
theorem lw_r7 : ∀ q ∈ lw_privs_7, lw_okq q := List.forall_mem_cons.mpr ⟨lw_p96, List.forall_mem_cons.mpr ⟨lw_p97, List.forall_mem_cons.mpr ⟨lw_p98, List.forall_mem_cons.mpr ⟨lw_p99, List.forall_mem_cons.mpr ⟨lw_p100, List.forall_mem_cons.mpr ⟨lw_p101, List.forall_mem_cons.mpr ⟨lw_p102, List.forall_mem_cons.mpr ⟨lw_p103, List.forall_mem_cons.mpr ⟨lw_p104, List.forall_mem_cons.mpr ⟨lw_p105, List.forall_mem_cons.mpr ⟨lw_p106, fun _ h => absurd h List.not_mem_nil⟩⟩⟩⟩⟩⟩⟩⟩⟩⟩⟩
def lw_privs : List (MethodName × Nat) := lw_privs_1 ++ (lw_privs_2 ++ (lw_privs_3 ++ (lw_privs_4 ++ (lw_privs_5 ++ (lw_privs_6 ++ (lw_privs_7))))))
def lw_tbl : List Cond := k2_sels lw_privs ++ tables_1
theorem lw_privs_ok : ∀ q ∈ lw_privs, lw_okq q := by
  show ∀ q ∈ lw_privs_1 ++ (lw_privs_2 ++ (lw_privs_3 ++ (lw_privs_4 ++ (lw_privs_5 ++ (lw_privs_6 ++ (lw_privs_7)))))), lw_okq q
  exact List.forall_mem_append.mpr ⟨lw_r1, List.forall_mem_append.mpr ⟨lw_r2, List.forall_mem_append.mpr ⟨lw_r3, List.forall_mem_append.mpr ⟨lw_r4, List.forall_mem_append.mpr ⟨lw_r5, List.forall_mem_append.mpr ⟨lw_r6, lw_r7⟩⟩⟩⟩⟩⟩
def RX0 : String := "WordFolder$Fold"
def TX0 : u_T := fun k => match k with
  | 0 => ("WordFolder$Fold", "up", "[I", true)
  | 1 => ("WordFolder$Fold", "mark", "[I", true)
  | 2 => ("WordFolder$Fold", "red", "[Z", true)
  | 3 => ("WordFolder$Fold", "arrow", "[I", true)
  | 4 => ("WordFolder$Fold", "joined", "[I", true)
  | 5 => ("WordFolder$Fold", "change", "[I", true)
  | 6 => ("WordFolder$Fold", "waitingOne", "[I", true)
  | 7 => ("WordFolder$Fold", "waitingOther", "[I", true)
  | 8 => ("WordFolder$Fold", "number", "[I", true)
  | 9 => ("WordFolder$Fold", "nodes", "I", false)
  | 10 => ("WordFolder$Fold", "count", "I", false)
  | 11 => ("WordFolder$Fold", "marked", "I", false)
  | 12 => ("WordFolder$Fold", "joins", "I", false)
  | _ => ("WordFolder$Fold", "waiting", "I", false)
def tyX0 : Nat → FieldType := fun k => match k with
  | 0 => .array .int
  | 1 => .array .int
  | 2 => .array .boolean
  | 3 => .array .int
  | 4 => .array .int
  | 5 => .array .int
  | 6 => .array .int
  | 7 => .array .int
  | 8 => .array .int
  | 9 => .int
  | 10 => .int
  | 11 => .int
  | 12 => .int
  | _ => .int
theorem nmX0 : ∀ a, a < 14 → ∀ b, b < 14 → a ≠ b → (TX0 a).2.1 ≠ (TX0 b).2.1 := by decide +kernel
theorem tyX0_ok : ∀ k, k < 14 → parseFieldDescriptor (TX0 k).2.2.1 = some (tyX0 k) := by decide +kernel
def RX1 : String := "WordFolder$Learner"
def TX1 : u_T := fun k => match k with
  | 0 => ("WordFolder$Learner", "fold", "LWordFolder$Fold;", true)
  | 1 => ("WordFolder$Learner", "reds", "[I", true)
  | 2 => ("WordFolder$Learner", "blues", "[I", true)
  | 3 => ("WordFolder$Learner", "behindRed", "[Z", true)
  | 4 => ("WordFolder$Learner", "deedBlue", "[I", true)
  | 5 => ("WordFolder$Learner", "deedRed", "[I", true)
  | 6 => ("WordFolder$Learner", "deedScore", "[I", true)
  | 7 => ("WordFolder$Learner", "joinsAhead", "[I", true)
  | 8 => ("WordFolder$Learner", "redCount", "I", false)
  | 9 => ("WordFolder$Learner", "blueCount", "I", false)
  | _ => ("WordFolder$Learner", "deedCount", "I", false)
def tyX1 : Nat → FieldType := fun k => match k with
  | 0 => .object "WordFolder$Fold"
  | 1 => .array .int
  | 2 => .array .int
  | 3 => .array .boolean
  | 4 => .array .int
  | 5 => .array .int
  | 6 => .array .int
  | 7 => .array .int
  | 8 => .int
  | 9 => .int
  | _ => .int
theorem nmX1 : ∀ a, a < 11 → ∀ b, b < 11 → a ≠ b → (TX1 a).2.1 ≠ (TX1 b).2.1 := by decide +kernel
theorem tyX1_ok : ∀ k, k < 11 → parseFieldDescriptor (TX1 k).2.2.1 = some (tyX1 k) := by decide +kernel
def RX2 : String := "WordFolder$Machine"
def TX2 : u_T := fun k => match k with
  | 0 => ("WordFolder$Machine", "mark", "[I", true)
  | 1 => ("WordFolder$Machine", "arrow", "[I", true)
  | _ => ("WordFolder$Machine", "count", "I", false)
def tyX2 : Nat → FieldType := fun k => match k with
  | 0 => .array .int
  | 1 => .array .int
  | _ => .int
theorem nmX2 : ∀ a, a < 3 → ∀ b, b < 3 → a ≠ b → (TX2 a).2.1 ≠ (TX2 b).2.1 := by decide +kernel
theorem tyX2_ok : ∀ k, k < 3 → parseFieldDescriptor (TX2 k).2.2.1 = some (tyX2 k) := by decide +kernel
def RX3 : String := "WordFolder$Meter"
def TX3 : u_T := fun k => match k with
  | 0 => ("WordFolder$Meter", "ways", "[I", true)
  | 1 => ("WordFolder$Meter", "isReached", "[Z", true)
  | 2 => ("WordFolder$Meter", "isUseful", "[Z", true)
  | 3 => ("WordFolder$Meter", "row", "[I", true)
  | 4 => ("WordFolder$Meter", "isHere", "[Z", true)
  | _ => ("WordFolder$Meter", "isNext", "[Z", true)
def tyX3 : Nat → FieldType := fun k => match k with
  | 0 => .array .int
  | 1 => .array .boolean
  | 2 => .array .boolean
  | 3 => .array .int
  | 4 => .array .boolean
  | _ => .array .boolean
theorem nmX3 : ∀ a, a < 6 → ∀ b, b < 6 → a ≠ b → (TX3 a).2.1 ≠ (TX3 b).2.1 := by decide +kernel
theorem tyX3_ok : ∀ k, k < 6 → parseFieldDescriptor (TX3 k).2.2.1 = some (tyX3 k) := by decide +kernel
def RX4 : String := "WordFolder$Mill"
def TX4 : u_T := fun k => match k with
  | 0 => ("WordFolder$Mill", "made", "LWordFolder$Machine;", true)
  | 1 => ("WordFolder$Mill", "first", "[I", true)
  | 2 => ("WordFolder$Mill", "second", "[I", true)
  | 3 => ("WordFolder$Mill", "way", "[I", true)
  | 4 => ("WordFolder$Mill", "earlier", "[I", true)
  | 5 => ("WordFolder$Mill", "latest", "[I", true)
  | 6 => ("WordFolder$Mill", "lead", "[I", true)
  | 7 => ("WordFolder$Mill", "kind", "[I", true)
  | 8 => ("WordFolder$Mill", "newKind", "[I", true)
  | 9 => ("WordFolder$Mill", "pairs", "I", false)
  | _ => ("WordFolder$Mill", "kinds", "I", false)
def tyX4 : Nat → FieldType := fun k => match k with
  | 0 => .object "WordFolder$Machine"
  | 1 => .array .int
  | 2 => .array .int
  | 3 => .array .int
  | 4 => .array .int
  | 5 => .array .int
  | 6 => .array .int
  | 7 => .array .int
  | 8 => .array .int
  | 9 => .int
  | _ => .int
theorem nmX4 : ∀ a, a < 11 → ∀ b, b < 11 → a ≠ b → (TX4 a).2.1 ≠ (TX4 b).2.1 := by decide +kernel
theorem tyX4_ok : ∀ k, k < 11 → parseFieldDescriptor (TX4 k).2.2.1 = some (tyX4 k) := by decide +kernel
def RX5 : String := "WordFolder$Octets"
def TX5 : u_T := fun k => match k with
  | 0 => ("WordFolder$Octets", "row", "[I", true)
  | _ => ("WordFolder$Octets", "count", "I", false)
def tyX5 : Nat → FieldType := fun k => match k with
  | 0 => .array .int
  | _ => .int
theorem nmX5 : ∀ a, a < 2 → ∀ b, b < 2 → a ≠ b → (TX5 a).2.1 ≠ (TX5 b).2.1 := by decide +kernel
theorem tyX5_ok : ∀ k, k < 2 → parseFieldDescriptor (TX5 k).2.2.1 = some (tyX5 k) := by decide +kernel
def RX6 : String := "WordFolder$Reader"
def TX6 : u_T := fun k => match k with
  | 0 => ("WordFolder$Reader", "told", "LWordFolder$Machine;", true)
  | 1 => ("WordFolder$Reader", "digitAt", "[I", true)
  | _ => ("WordFolder$Reader", "place", "I", false)
def tyX6 : Nat → FieldType := fun k => match k with
  | 0 => .object "WordFolder$Machine"
  | 1 => .array .int
  | _ => .int
theorem nmX6 : ∀ a, a < 3 → ∀ b, b < 3 → a ≠ b → (TX6 a).2.1 ≠ (TX6 b).2.1 := by decide +kernel
theorem tyX6_ok : ∀ k, k < 3 → parseFieldDescriptor (TX6 k).2.2.1 = some (tyX6 k) := by decide +kernel
def RX7 : String := "WordFolder$Sample"
def TX7 : u_T := fun k => match k with
  | 0 => ("WordFolder$Sample", "code", "[I", true)
  | 1 => ("WordFolder$Sample", "in", "[Z", true)
  | _ => ("WordFolder$Sample", "count", "I", false)
def tyX7 : Nat → FieldType := fun k => match k with
  | 0 => .array .int
  | 1 => .array .boolean
  | _ => .int
theorem nmX7 : ∀ a, a < 3 → ∀ b, b < 3 → a ≠ b → (TX7 a).2.1 ≠ (TX7 b).2.1 := by decide +kernel
theorem tyX7_ok : ∀ k, k < 3 → parseFieldDescriptor (TX7 k).2.2.1 = some (tyX7 k) := by decide +kernel
def RX8 : String := "WordFolder$Search"
def TX8 : u_T := fun k => match k with
  | 0 => ("WordFolder$Search", "put", "[I", true)
  | 1 => ("WordFolder$Search", "next", "[I", true)
  | 2 => ("WordFolder$Search", "last", "[I", true)
  | 3 => ("WordFolder$Search", "gaveMark", "[Z", true)
  | 4 => ("WordFolder$Search", "gaveArrow", "[Z", true)
  | 5 => ("WordFolder$Search", "gaveState", "[Z", true)
  | 6 => ("WordFolder$Search", "mark", "[I", true)
  | 7 => ("WordFolder$Search", "arrow", "[I", true)
  | 8 => ("WordFolder$Search", "used", "I", false)
  | _ => ("WordFolder$Search", "tryCount", "I", false)
def tyX8 : Nat → FieldType := fun k => match k with
  | 0 => .array .int
  | 1 => .array .int
  | 2 => .array .int
  | 3 => .array .boolean
  | 4 => .array .boolean
  | 5 => .array .boolean
  | 6 => .array .int
  | 7 => .array .int
  | 8 => .int
  | _ => .int
theorem nmX8 : ∀ a, a < 10 → ∀ b, b < 10 → a ≠ b → (TX8 a).2.1 ≠ (TX8 b).2.1 := by decide +kernel
theorem tyX8_ok : ∀ k, k < 10 → parseFieldDescriptor (TX8 k).2.2.1 = some (tyX8 k) := by decide +kernel
def RX9 : String := "WordFolder$Tree"
def TX9 : u_T := fun k => match k with
  | 0 => ("WordFolder$Tree", "code", "[I", true)
  | 1 => ("WordFolder$Tree", "mark", "[I", true)
  | 2 => ("WordFolder$Tree", "parent", "[I", true)
  | 3 => ("WordFolder$Tree", "child", "[I", true)
  | _ => ("WordFolder$Tree", "count", "I", false)
def tyX9 : Nat → FieldType := fun k => match k with
  | 0 => .array .int
  | 1 => .array .int
  | 2 => .array .int
  | 3 => .array .int
  | _ => .int
theorem nmX9 : ∀ a, a < 5 → ∀ b, b < 5 → a ≠ b → (TX9 a).2.1 ≠ (TX9 b).2.1 := by decide +kernel
theorem tyX9_ok : ∀ k, k < 5 → parseFieldDescriptor (TX9 k).2.2.1 = some (tyX9 k) := by decide +kernel
def RX10 : String := "WordFolder$Word"
def TX10 : u_T := fun k => match k with
  | _ => ("", "", "", false)
def tyX10 : Nat → FieldType := fun k => match k with
  | _ => .int
theorem nmX10 : ∀ a, a < 0 → ∀ b, b < 0 → a ≠ b → (TX10 a).2.1 ≠ (TX10 b).2.1 := by decide +kernel
theorem tyX10_ok : ∀ k, k < 0 → parseFieldDescriptor (TX10 k).2.2.1 = some (tyX10 k) := by decide +kernel
def RX11 : String := "WordFolder"
def TX11 : u_T := fun k => match k with
  | 0 => ("WordFolder", "tape", "LWordFolder$Octets;", true)
  | 1 => ("WordFolder", "written", "LWordFolder$Octets;", true)
  | 2 => ("WordFolder", "sample", "LWordFolder$Sample;", true)
  | 3 => ("WordFolder", "tree", "LWordFolder$Tree;", true)
  | 4 => ("WordFolder", "learner", "LWordFolder$Learner;", true)
  | 5 => ("WordFolder", "otherTree", "LWordFolder$Tree;", true)
  | 6 => ("WordFolder", "otherLearner", "LWordFolder$Learner;", true)
  | 7 => ("WordFolder", "present", "LWordFolder$Machine;", true)
  | 8 => ("WordFolder", "smallest", "LWordFolder$Machine;", true)
  | 9 => ("WordFolder", "aim", "LWordFolder$Machine;", true)
  | 10 => ("WordFolder", "stored", "LWordFolder$Machine;", true)
  | 11 => ("WordFolder", "search", "LWordFolder$Search;", true)
  | 12 => ("WordFolder", "reader", "LWordFolder$Reader;", true)
  | 13 => ("WordFolder", "meter", "LWordFolder$Meter;", true)
  | 14 => ("WordFolder", "mill", "LWordFolder$Mill;", true)
  | 15 => ("WordFolder", "alphabet", "I", false)
  | _ => ("WordFolder", "faultPlace", "I", false)
def tyX11 : Nat → FieldType := fun k => match k with
  | 0 => .object "WordFolder$Octets"
  | 1 => .object "WordFolder$Octets"
  | 2 => .object "WordFolder$Sample"
  | 3 => .object "WordFolder$Tree"
  | 4 => .object "WordFolder$Learner"
  | 5 => .object "WordFolder$Tree"
  | 6 => .object "WordFolder$Learner"
  | 7 => .object "WordFolder$Machine"
  | 8 => .object "WordFolder$Machine"
  | 9 => .object "WordFolder$Machine"
  | 10 => .object "WordFolder$Machine"
  | 11 => .object "WordFolder$Search"
  | 12 => .object "WordFolder$Reader"
  | 13 => .object "WordFolder$Meter"
  | 14 => .object "WordFolder$Mill"
  | 15 => .int
  | _ => .int
theorem nmX11 : ∀ a, a < 17 → ∀ b, b < 17 → a ≠ b → (TX11 a).2.1 ≠ (TX11 b).2.1 := by decide +kernel
theorem tyX11_ok : ∀ k, k < 17 → parseFieldDescriptor (TX11 k).2.2.1 = some (tyX11 k) := by decide +kernel
def RX12 : String := "WordFolderModel"
def TX12 : u_T := fun k => match k with
  | 0 => ("WordFolderModel", "tape", "[B", true)
  | 1 => ("WordFolderModel", "taped", "I", false)
  | 2 => ("WordFolderModel", "letters", "I", false)
  | 3 => ("WordFolderModel", "wordLong", "I", false)
  | 4 => ("WordFolderModel", "wordCode", "I", false)
  | 5 => ("WordFolderModel", "exLong", "[I", true)
  | 6 => ("WordFolderModel", "exCode", "[I", true)
  | 7 => ("WordFolderModel", "exIn", "[Z", true)
  | 8 => ("WordFolderModel", "examples", "I", false)
  | 9 => ("WordFolderModel", "nodeLong", "[I", true)
  | 10 => ("WordFolderModel", "nodeCode", "[I", true)
  | 11 => ("WordFolderModel", "nodeMark", "[I", true)
  | 12 => ("WordFolderModel", "nodeUp", "[I", true)
  | 13 => ("WordFolderModel", "nodeKid", "[I", true)
  | 14 => ("WordFolderModel", "nodes", "I", false)
  | 15 => ("WordFolderModel", "tie", "[I", true)
  | 16 => ("WordFolderModel", "mark", "[I", true)
  | 17 => ("WordFolderModel", "red", "[Z", true)
  | 18 => ("WordFolderModel", "kid", "[I", true)
  | 19 => ("WordFolderModel", "states", "I", false)
  | 20 => ("WordFolderModel", "tied", "[I", true)
  | 21 => ("WordFolderModel", "wasMark", "[I", true)
  | 22 => ("WordFolderModel", "wasRed", "[Z", true)
  | 23 => ("WordFolderModel", "wasKid", "[I", true)
  | 24 => ("WordFolderModel", "tiedMany", "I", false)
  | 25 => ("WordFolderModel", "marksFewer", "I", false)
  | 26 => ("WordFolderModel", "pairs", "[I", true)
  | 27 => ("WordFolderModel", "paired", "I", false)
  | 28 => ("WordFolderModel", "deeds", "[I", true)
  | 29 => ("WordFolderModel", "done", "I", false)
  | 30 => ("WordFolderModel", "many", "[I", true)
  | 31 => ("WordFolderModel", "machineMark", "[I", true)
  | 32 => ("WordFolderModel", "arrow", "[I", true)
  | 33 => ("WordFolderModel", "rank", "[I", true)
  | 34 => ("WordFolderModel", "ways", "[I", true)
  | 35 => ("WordFolderModel", "waysThen", "[I", true)
  | 36 => ("WordFolderModel", "putTo", "[I", true)
  | 37 => ("WordFolderModel", "newArrow", "[Z", true)
  | 38 => ("WordFolderModel", "there", "[I", true)
  | 39 => ("WordFolderModel", "ofMark", "[I", true)
  | 40 => ("WordFolderModel", "tries", "I", false)
  | 41 => ("WordFolderModel", "at", "I", false)
  | 42 => ("WordFolderModel", "faultPlace", "I", false)
  | 43 => ("WordFolderModel", "textLong", "I", false)
  | 44 => ("WordFolderModel", "toldTo", "[I", true)
  | 45 => ("WordFolderModel", "toldAt", "[I", true)
  | 46 => ("WordFolderModel", "told", "I", false)
  | 47 => ("WordFolderModel", "first", "[I", true)
  | 48 => ("WordFolderModel", "second", "[I", true)
  | 49 => ("WordFolderModel", "back", "[I", true)
  | 50 => ("WordFolderModel", "by", "[I", true)
  | 51 => ("WordFolderModel", "numberOf", "[I", true)
  | 52 => ("WordFolderModel", "come", "I", false)
  | 53 => ("WordFolderModel", "isCome", "[Z", true)
  | 54 => ("WordFolderModel", "sort", "[I", true)
  | 55 => ("WordFolderModel", "sortThen", "[I", true)
  | 56 => ("WordFolderModel", "oneOf", "[I", true)
  | 57 => ("WordFolderModel", "numbered", "[I", true)
  | 58 => ("WordFolderModel", "takenFrom", "[I", true)
  | 59 => ("WordFolderModel", "isUseful", "[Z", true)
  | 60 => ("WordFolderModel", "far", "[I", true)
  | 61 => ("WordFolderModel", "written", "[B", true)
  | 62 => ("WordFolderModel", "writtenLong", "I", false)
  | 63 => ("WordFolderModel", "asideDeeds", "[I", true)
  | 64 => ("WordFolderModel", "asideDone", "I", false)
  | 65 => ("WordFolderModel", "outLong", "I", false)
  | 66 => ("WordFolderModel", "outCode", "I", false)
  | _ => ("WordFolderModel", "outIn", "Z", false)
def tyX12 : Nat → FieldType := fun k => match k with
  | 0 => .array .byte
  | 1 => .int
  | 2 => .int
  | 3 => .int
  | 4 => .int
  | 5 => .array .int
  | 6 => .array .int
  | 7 => .array .boolean
  | 8 => .int
  | 9 => .array .int
  | 10 => .array .int
  | 11 => .array .int
  | 12 => .array .int
  | 13 => .array .int
  | 14 => .int
  | 15 => .array .int
  | 16 => .array .int
  | 17 => .array .boolean
  | 18 => .array .int
  | 19 => .int
  | 20 => .array .int
  | 21 => .array .int
  | 22 => .array .boolean
  | 23 => .array .int
  | 24 => .int
  | 25 => .int
  | 26 => .array .int
  | 27 => .int
  | 28 => .array .int
  | 29 => .int
  | 30 => .array .int
  | 31 => .array .int
  | 32 => .array .int
  | 33 => .array .int
  | 34 => .array .int
  | 35 => .array .int
  | 36 => .array .int
  | 37 => .array .boolean
  | 38 => .array .int
  | 39 => .array .int
  | 40 => .int
  | 41 => .int
  | 42 => .int
  | 43 => .int
  | 44 => .array .int
  | 45 => .array .int
  | 46 => .int
  | 47 => .array .int
  | 48 => .array .int
  | 49 => .array .int
  | 50 => .array .int
  | 51 => .array .int
  | 52 => .int
  | 53 => .array .boolean
  | 54 => .array .int
  | 55 => .array .int
  | 56 => .array .int
  | 57 => .array .int
  | 58 => .array .int
  | 59 => .array .boolean
  | 60 => .array .int
  | 61 => .array .byte
  | 62 => .int
  | 63 => .array .int
  | 64 => .int
  | 65 => .int
  | 66 => .int
  | _ => .boolean
theorem nmX12 : ∀ a, a < 68 → ∀ b, b < 68 → a ≠ b → (TX12 a).2.1 ≠ (TX12 b).2.1 := by decide +kernel
theorem tyX12_ok : ∀ k, k < 68 → parseFieldDescriptor (TX12 k).2.2.1 = some (tyX12 k) := by decide +kernel
def classes : List vw_C := [(RX0, TX0, 14), (RX1, TX1, 11), (RX2, TX2, 3), (RX3, TX3, 6), (RX4, TX4, 11), (RX5, TX5, 2), (RX6, TX6, 3), (RX7, TX7, 3), (RX8, TX8, 10), (RX9, TX9, 5), (RX10, TX10, 0), (RX11, TX11, 17), (RX12, TX12, 68)]
def cN (c : Nat) : String := [RX0, RX1, RX2, RX3, RX4, RX5, RX6, RX7, RX8, RX9, RX10, RX11, RX12, "WordFolderLaw"].getD c ""
def cT (c : Nat) : u_T := [TX0, TX1, TX2, TX3, TX4, TX5, TX6, TX7, TX8, TX9, TX10, TX11, TX12].getD c TX0
def cTy (c : Nat) : Nat → FieldType := [tyX0, tyX1, tyX2, tyX3, tyX4, tyX5, tyX6, tyX7, tyX8, tyX9, tyX10, tyX11, tyX12].getD c tyX0
def nf (c : Nat) : Nat := [14, 11, 3, 6, 11, 2, 3, 3, 10, 5, 0, 17, 68].getD c 0
def fkL : List (List Nat) := [[1, 2, 3, 4, 5, 6, 7, 8, 9, 0, 0, 0, 0, 0], [1, 11, 12, 13, 14, 15, 16, 17, 0, 0, 0], [1, 2, 0], [1, 2, 3, 4, 5, 6], [1, 4, 5, 6, 7, 8, 9, 10, 11, 0, 0], [1, 0], [1, 4, 0], [1, 2, 0], [1, 2, 3, 4, 5, 6, 7, 8, 0, 0], [1, 2, 3, 4, 0], [], [1, 3, 5, 8, 13, 31, 36, 54, 57, 60, 63, 66, 75, 80, 87, 0, 0], [1, 0, 0, 0, 0, 2, 3, 4, 0, 5, 6, 7, 8, 9, 0, 10, 11, 12, 13, 0, 14, 15, 16, 17, 0, 0, 18, 0, 19, 0, 20, 21, 22, 23, 24, 25, 26, 27, 28, 29, 0, 0, 0, 0, 30, 31, 0, 32, 33, 34, 35, 36, 0, 37, 38, 39, 40, 41, 42, 43, 44, 45, 0, 46, 0, 0, 0, 0]]
def fk (c k : Nat) : Nat := (fkL.getD c []).getD k 0
def NO : Nat := 146
def klL : List Nat := [11, 5, 50, 5, 50, 7, 50, 52, 9, 50, 50, 50, 50, 1, 0, 50, 50, 52, 50, 50, 50, 50, 50, 50, 50, 50, 52, 50, 50, 50, 50, 9, 50, 50, 50, 50, 1, 0, 50, 50, 52, 50, 50, 50, 50, 50, 50, 50, 50, 52, 50, 50, 50, 50, 2, 50, 50, 2, 50, 50, 2, 50, 50, 2, 50, 50, 8, 50, 50, 50, 52, 52, 52, 50, 50, 6, 2, 50, 50, 50, 3, 50, 52, 52, 50, 52, 52, 4, 2, 50, 50, 50, 50, 50, 50, 50, 50, 50, 50, 12, 51, 50, 50, 52, 50, 50, 50, 50, 50, 50, 50, 52, 50, 50, 50, 52, 50, 50, 50, 50, 50, 50, 50, 50, 50, 50, 52, 50, 50, 50, 50, 50, 50, 50, 50, 50, 52, 50, 50, 50, 50, 50, 52, 50, 51, 50]
def lenL : List Nat := [0, 0, 800, 0, 3618, 0, 40, 40, 0, 120, 120, 120, 480, 0, 0, 120, 120, 120, 480, 120, 120, 481, 481, 120, 120, 120, 120, 200, 200, 200, 200, 0, 120, 120, 120, 480, 0, 0, 120, 120, 120, 480, 120, 120, 481, 481, 120, 120, 120, 120, 200, 200, 200, 200, 0, 120, 480, 0, 8, 32, 0, 40, 160, 0, 201, 804, 0, 120, 120, 120, 120, 120, 120, 8, 32, 0, 0, 40, 160, 160, 0, 2211, 201, 201, 201, 201, 201, 0, 0, 201, 804, 404, 404, 404, 404, 202, 404, 201, 201, 0, 800, 40, 40, 40, 161, 161, 161, 161, 644, 161, 161, 161, 644, 161, 161, 161, 644, 1400, 800, 5, 1000, 4000, 161, 200, 200, 120, 120, 120, 24, 160, 160, 40401, 40401, 40401, 40401, 40401, 201, 201, 201, 201, 201, 2211, 201, 201, 8000, 800]
def kl (k : Nat) : Nat := klL.getD k 99
def len (k : Nat) : Nat := lenL.getD k 0
/-- a word stands there in the tables, and it is one that lasts -/
def tb (j : Nat) : List Cond := match j with
  | 0 => k2_sels lw_privs
  | 1 => tables_1_1
  | 2 => tables_1_2
  | 3 => tables_1_3
  | 4 => tables_1_4
  | 5 => tables_1_5
  | 6 => tables_1_6
  | 7 => tables_1_7
  | 8 => tables_1_8
  | _ => []
def atq (pos : Nat) (w : Cond) : Bool := decide ((tb (pos / 1000))[pos % 1000]? = some w)
def atp (pos : Nat) (w : Cond) : Bool := atq pos w && goodWord w
def lyL : List (List Nat) := [[1125, 1127, 1129, 1131, 1133, 1135, 1137, 1139, 1141, 1143, 1145, 1147, 1149, 1151], [1169, 1171, 1173, 1175, 1177, 1179, 1181, 1183, 1185, 1187, 1189], [1210, 1212, 1214], [2046, 2048, 2050, 2052, 2054, 2056], [2079, 2081, 2083, 2085, 2087, 2089, 2091, 2093, 2095, 2097, 2099], [1037, 1039], [2027, 2029, 2031], [1054, 1056, 1058], [1234, 1236, 1238, 2000, 2002, 2004, 2006, 2008, 2010, 2012], [1084, 1086, 1088, 1090, 1092], [], [2185, 2187, 2189, 2191, 2193, 2195, 2197, 2199, 2201, 2203, 2205, 2207, 2209, 2211, 2213, 2215, 2217], [5202, 5204, 5206, 5208, 5210, 5212, 5214, 5216, 5218, 5220, 5222, 5224, 5226, 5228, 5230, 5232, 5234, 5236, 5238, 6000, 6002, 6004, 6006, 6008, 6010, 6012, 6014, 6016, 6018, 6020, 6022, 6024, 6026, 6028, 6030, 6032, 6034, 6036, 6038, 6040, 6042, 6044, 6046, 6048, 6050, 6052, 6054, 6056, 6058, 6060, 6062, 6064, 6066, 6068, 6070, 6072, 6074, 6076, 6078, 6080, 6082, 6084, 6086, 6088, 6090, 6092, 6094, 6096]]
def okLay (c : Nat) : Bool := (List.range (nf c)).all (fun k => atp ((lyL.getD c []).getD k 0) (u_lay (cN c) (cT c) k))
theorem okLay_0 : okLay 0 = true := by decide +kernel
theorem okLay_1 : okLay 1 = true := by decide +kernel
theorem okLay_2 : okLay 2 = true := by decide +kernel
theorem okLay_3 : okLay 3 = true := by decide +kernel
theorem okLay_4 : okLay 4 = true := by decide +kernel
theorem okLay_5 : okLay 5 = true := by decide +kernel
theorem okLay_6 : okLay 6 = true := by decide +kernel
theorem okLay_7 : okLay 7 = true := by decide +kernel
theorem okLay_8 : okLay 8 = true := by decide +kernel
theorem okLay_9 : okLay 9 = true := by decide +kernel
theorem okLay_10 : okLay 10 = true := by decide +kernel
theorem okLay_11 : okLay 11 = true := by decide +kernel
theorem okLay_12 : okLay 12 = true := by decide +kernel
theorem okLays : ∀ c, c < 13 → okLay c = true := by
  intro c hc
  match c, hc with
  | 0, _ => exact okLay_0
  | 1, _ => exact okLay_1
  | 2, _ => exact okLay_2
  | 3, _ => exact okLay_3
  | 4, _ => exact okLay_4
  | 5, _ => exact okLay_5
  | 6, _ => exact okLay_6
  | 7, _ => exact okLay_7
  | 8, _ => exact okLay_8
  | 9, _ => exact okLay_9
  | 10, _ => exact okLay_10
  | 11, _ => exact okLay_11
  | 12, _ => exact okLay_12
theorem nms : ∀ c, c < 13 → ∀ a, a < nf c → ∀ b, b < nf c → a ≠ b → ((cT c) a).2.1 ≠ ((cT c) b).2.1 := by
  intro c hc
  match c, hc with
  | 0, _ => exact nmX0
  | 1, _ => exact nmX1
  | 2, _ => exact nmX2
  | 3, _ => exact nmX3
  | 4, _ => exact nmX4
  | 5, _ => exact nmX5
  | 6, _ => exact nmX6
  | 7, _ => exact nmX7
  | 8, _ => exact nmX8
  | 9, _ => exact nmX9
  | 10, _ => exact nmX10
  | 11, _ => exact nmX11
  | 12, _ => exact nmX12
theorem tys : ∀ c, c < 13 → ∀ k, k < nf c → parseFieldDescriptor ((cT c) k).2.2.1 = some ((cTy c) k) := by
  intro c hc
  match c, hc with
  | 0, _ => exact tyX0_ok
  | 1, _ => exact tyX1_ok
  | 2, _ => exact tyX2_ok
  | 3, _ => exact tyX3_ok
  | 4, _ => exact tyX4_ok
  | 5, _ => exact tyX5_ok
  | 6, _ => exact tyX6_ok
  | 7, _ => exact tyX7_ok
  | 8, _ => exact tyX8_ok
  | 9, _ => exact tyX9_ok
  | 10, _ => exact tyX10_ok
  | 11, _ => exact tyX11_ok
  | 12, _ => exact tyX12_ok
end
section
/-! the abstract machine: values (none: not set, or void), states (a number for each place of each cell), instructions as numbers -/
abbrev V := Option (Int ⊕ Nat)
abbrev St := Nat → Nat → Int
abbrev Ai := Nat × Nat × Nat × Nat
abbrev Kn := List V → List V → St → Prop
abbrev Rn := V → St → Prop
abbrev Cn := Nat → List V → St → Rn → Prop
def wr (x : Int) : Int := Int.bmod x 4294967296
def w8 (x : Int) : Int := Int.bmod x 256
def bx (f : Int32 → Int32 → Int32) (x y : Int) : Int := (f (Int32.ofInt x) (Int32.ofInt y)).toInt
def band (x y : Int) : Int := bx (fun a b => a &&& b) x y
def bor (x y : Int) : Int := bx (fun a b => a ||| b) x y
def bshl (x y : Int) : Int := bx (fun a b => a <<< (b &&& 31)) x y
def bshr (x y : Int) : Int := bx (fun a b => a >>> (b &&& 31)) x y
def brem (x y : Int) : Int := wr (x - wr (wr (x.tdiv y) * y))
def upf (f : Nat → Int) (i : Nat) (v : Int) : Nat → Int := fun j => if j = i then v else f j
def up2 (st : St) (k i : Nat) (v : Int) : St := fun j => if j = k then upf (st k) i v else st j
def cpf (f g : Nat → Int) (sp dp n : Nat) : Nat → Int := fun k => if dp ≤ k ∧ k < dp + n then f (sp + (k - dp)) else g k
def up1 (st : St) (k : Nat) (f : Nat → Int) : St := fun j => if j = k then f else st j
def lg : List V → Nat → V
  | [], _ => none
  | v :: _, 0 => v
  | _ :: l, n + 1 => lg l n
def lp : List V → Nat → V → List V
  | [], _, _ => []
  | _ :: l, 0, v => v :: l
  | a :: l, n + 1, v => a :: lp l n v
def pn : Nat → List V → List V → Option (List V × List V)
  | 0, acc, s => some (acc, s)
  | n + 1, acc, v :: s => pn n (v :: acc) s
  | _ + 1, _, [] => none
def bop (t : Nat) (x y : Int) : Int := match t with
  | 17 => wr (x + y)
  | 18 => wr (x - y)
  | 19 => wr (x * y)
  | 20 => wr (x.tdiv y)
  | 21 => brem x y
  | 22 => band x y
  | 23 => bor x y
  | 24 => bshl x y
  | _ => bshr x y
def cnd (t : Nat) (x y : Int) : Prop := match t with
  | 0 => x = y
  | 1 => ¬ x = y
  | 2 => x < y
  | 3 => y ≤ x
  | 4 => y < x
  | _ => x ≤ y
def ok01 (x : Int) : Prop := x = 0 ∨ x = 1
section SEM
variable (J : Nat → Kn) (R : Rn) (C : Cn) (L : Nat) (sx : Nat → Int)
def i_get (k : Kn) (a b : Nat) (ls stk : List V) (st : St) : Prop := match stk with
  | some (.inr o) :: s => kl o = a ∧ k ls (some (.inl (st o b)) :: s) st
  | _ => False
def i_getR (k : Kn) (a b : Nat) (ls stk : List V) (st : St) : Prop := match stk with
  | some (.inr o) :: s => kl o = a ∧ k ls (some (.inr (o + b)) :: s) st
  | _ => False
def i_put (k : Kn) (a b : Nat) (ls stk : List V) (st : St) : Prop := match stk with
  | some (.inl v) :: some (.inr o) :: s => kl o = a ∧ k ls s (up2 st o b v)
  | _ => False
def i_putZ (k : Kn) (a b : Nat) (ls stk : List V) (st : St) : Prop := match stk with
  | some (.inl v) :: some (.inr o) :: s => kl o = a ∧ ok01 v ∧ k ls s (up2 st o b v)
  | _ => False
def i_ald (k : Kn) (ty : Nat) (ls stk : List V) (st : St) : Prop := match stk with
  | some (.inl i) :: some (.inr o) :: s => kl o = ty ∧ (0 ≤ i ∧ i < len o) ∧ k ls (some (.inl (st o i.toNat)) :: s) st
  | _ => False
def i_ast (k : Kn) (ls stk : List V) (st : St) : Prop := match stk with
  | some (.inl v) :: some (.inl i) :: some (.inr o) :: s => kl o = 50 ∧ (0 ≤ i ∧ i < len o) ∧ k ls s (up2 st o i.toNat v)
  | _ => False
def i_astB (k : Kn) (ls stk : List V) (st : St) : Prop := match stk with
  | some (.inl v) :: some (.inl i) :: some (.inr o) :: s => kl o = 51 ∧ (0 ≤ i ∧ i < len o) ∧ k ls s (up2 st o i.toNat (w8 v))
  | _ => False
def i_astZ (k : Kn) (ls stk : List V) (st : St) : Prop := match stk with
  | some (.inl v) :: some (.inl i) :: some (.inr o) :: s => kl o = 52 ∧ (0 ≤ i ∧ i < len o) ∧ ok01 v ∧ k ls s (up2 st o i.toNat v)
  | _ => False
def i_alen (k : Kn) (ls stk : List V) (st : St) : Prop := match stk with
  | some (.inr o) :: s => (kl o = 50 ∨ kl o = 51 ∨ kl o = 52) ∧ k ls (some (.inl (len o)) :: s) st
  | _ => False
def i_bin (k : Kn) (t : Nat) (ls stk : List V) (st : St) : Prop := match stk with
  | some (.inl y) :: some (.inl x) :: s => k ls (some (.inl (bop t x y)) :: s) st
  | _ => False
def i_div (k : Kn) (t : Nat) (ls stk : List V) (st : St) : Prop := match stk with
  | some (.inl y) :: some (.inl x) :: s => ¬ y = 0 ∧ k ls (some (.inl (bop t x y)) :: s) st
  | _ => False
def i_i2b (k : Kn) (ls stk : List V) (st : St) : Prop := match stk with
  | some (.inl x) :: s => k ls (some (.inl (w8 x)) :: s) st
  | _ => False
def i_load (k : Kn) (a : Nat) (ls stk : List V) (st : St) : Prop := match lg ls a with
  | some (.inl x) => k ls (some (.inl x) :: stk) st
  | _ => False
def i_loadR (k : Kn) (a : Nat) (ls stk : List V) (st : St) : Prop := match lg ls a with
  | some (.inr x) => k ls (some (.inr x) :: stk) st
  | _ => False
def i_store (k : Kn) (a : Nat) (ls stk : List V) (st : St) : Prop := match stk with
  | some (.inl x) :: s => k (lp ls a (some (.inl x))) s st
  | _ => False
def i_storeR (k : Kn) (a : Nat) (ls stk : List V) (st : St) : Prop := match stk with
  | some (.inr x) :: s => k (lp ls a (some (.inr x))) s st
  | _ => False
def i_sld (k : Kn) (ls stk : List V) (st : St) : Prop := match stk with
  | some (.inl i) :: some (.inr o) :: s => o = 500 ∧ (0 ≤ i ∧ i + 1 < L) ∧ k ls (some (.inl (sx i.toNat)) :: s) st
  | _ => False
def i_sln (k : Kn) (ls stk : List V) (st : St) : Prop := match stk with
  | some (.inr o) :: s => o = 500 ∧ 0 < L ∧ k ls (some (.inl ((L : Int) - 1)) :: s) st
  | _ => False
def i_inc (k : Kn) (a : Nat) (n : Int) (ls stk : List V) (st : St) : Prop := match lg ls a with
  | some (.inl x) => k (lp ls a (some (.inl (wr (x + n))))) stk st
  | _ => False
def i_dup (k : Kn) (ls stk : List V) (st : St) : Prop := match stk with
  | some v :: s => k ls (some v :: some v :: s) st
  | _ => False
def i_pop (k : Kn) (ls stk : List V) (st : St) : Prop := match stk with
  | some _ :: s => k ls s st
  | _ => False
def i_dup2 (k : Kn) (ls stk : List V) (st : St) : Prop := match stk with
  | some v :: some w :: s => k ls (some v :: some w :: some v :: some w :: s) st
  | _ => False
def i_call (k : Kn) (a n : Nat) (ls stk : List V) (st : St) : Prop := match pn n [] stk with
  | some (as, s) => s.length ≤ 8 ∧ C a as st (fun v st' => match v with | none => k ls s st' | some _ => False)
  | none => False
def i_callI (k : Kn) (a n : Nat) (ls stk : List V) (st : St) : Prop := match pn n [] stk with
  | some (as, s) => s.length ≤ 8 ∧ C a as st (fun v st' => match v with | some x => k ls (some x :: s) st' | none => False)
  | none => False
def i_min (k : Kn) (ls stk : List V) (st : St) : Prop := match stk with
  | some (.inl y) :: some (.inl x) :: s => s.length ≤ 8 ∧ k ls (some (.inl (if x ≤ y then x else y)) :: s) st
  | _ => False
def i_max (k : Kn) (ls stk : List V) (st : St) : Prop := match stk with
  | some (.inl y) :: some (.inl x) :: s => s.length ≤ 8 ∧ k ls (some (.inl (if y ≤ x then x else y)) :: s) st
  | _ => False
def i_copy (k : Kn) (ls stk : List V) (st : St) : Prop := match stk with
  | some (.inl n) :: some (.inl dp) :: some (.inr d) :: some (.inl sp) :: some (.inr o) :: s => s.length ≤ 8 ∧ ¬ o = d ∧ kl o = 50 ∧ kl d = 50 ∧ (0 ≤ n ∧ 0 ≤ dp ∧ 0 ≤ sp ∧ sp + n ≤ len o ∧ dp + n ≤ len d) ∧ k ls s (up1 st d (cpf (st o) (st d) sp.toNat dp.toNat n.toNat))
  | _ => False
def s1 (t a b : Nat) (k : Kn) (ls stk : List V) (st : St) : Prop := match t with
  | 0 => k ls (some (.inl (a : Int)) :: stk) st
  | 1 => k ls (some (.inl (-(a : Int))) :: stk) st
  | 2 => i_load k a ls stk st
  | 3 => i_store k a ls stk st
  | 4 => i_inc k a b ls stk st
  | 5 => i_inc k a (-(b : Int)) ls stk st
  | 6 => i_get k a b ls stk st
  | 7 => i_getR k a b ls stk st
  | 8 => i_put k a b ls stk st
  | 9 => i_putZ k a b ls stk st
  | 10 => i_ald k 50 ls stk st
  | 11 => i_ald k 51 ls stk st
  | 15 => i_ald k 52 ls stk st
  | 12 => i_ast k ls stk st
  | 13 => i_astB k ls stk st
  | 14 => i_astZ k ls stk st
  | 16 => i_alen k ls stk st
  | 20 => i_div k 20 ls stk st
  | 21 => i_div k 21 ls stk st
  | 17 => i_bin k 17 ls stk st
  | 18 => i_bin k 18 ls stk st
  | 19 => i_bin k 19 ls stk st
  | 22 => i_bin k 22 ls stk st
  | 23 => i_bin k 23 ls stk st
  | 24 => i_bin k 24 ls stk st
  | 25 => i_bin k 25 ls stk st
  | 26 => i_i2b k ls stk st
  | 27 => i_dup k ls stk st
  | 28 => i_pop k ls stk st
  | 29 => i_dup2 k ls stk st
  | 30 => i_call C k a b ls stk st
  | 31 => i_callI C k a b ls stk st
  | 32 => i_min k ls stk st
  | 33 => i_max k ls stk st
  | 34 => i_copy k ls stk st
  | 35 => i_sld L sx k ls stk st
  | 36 => i_sln L k ls stk st
  | 37 => i_loadR k a ls stk st
  | 38 => i_storeR k a ls stk st
  | _ => False
def t_cmp (t a b : Nat) (ls stk : List V) (st : St) : Prop := match stk with
  | some (.inl y) :: some (.inl x) :: s => (cnd t x y → J a ls s st) ∧ (¬ cnd t x y → J b ls s st)
  | _ => False
def t_if (t a b : Nat) (ls stk : List V) (st : St) : Prop := match stk with
  | some (.inl x) :: s => (cnd t x 0 → J a ls s st) ∧ (¬ cnd t x 0 → J b ls s st)
  | _ => False
def t_sw (x : Int) (d : Nat) (ls s : List V) (st : St) : List Ai → Prop
  | [] => J d ls s st
  | (key, tgt, _, _) :: r => (x = (key : Int) → J tgt ls s st) ∧ (¬ x = (key : Int) → t_sw x d ls s st r)
def tm (t a b : Nat) (r : List Ai) (ls stk : List V) (st : St) : Prop := match t with
  | 50 => J a ls stk st
  | 51 => J a ls stk st
  | 52 => t_cmp J 0 a b ls stk st
  | 53 => t_cmp J 1 a b ls stk st
  | 54 => t_cmp J 2 a b ls stk st
  | 55 => t_cmp J 3 a b ls stk st
  | 56 => t_cmp J 4 a b ls stk st
  | 57 => t_cmp J 5 a b ls stk st
  | 58 => t_if J 0 a b ls stk st
  | 59 => t_if J 1 a b ls stk st
  | 60 => t_if J 2 a b ls stk st
  | 61 => t_if J 3 a b ls stk st
  | 62 => t_if J 4 a b ls stk st
  | 63 => t_if J 5 a b ls stk st
  | 64 => match stk with | [some (.inl x)] => R (some (.inl x)) st | _ => False
  | 65 => match stk with | [some (.inl x)] => ok01 x ∧ R (some (.inl x)) st | _ => False
  | 66 => match stk with | [some (.inr x)] => R (some (.inr x)) st | _ => False
  | 67 => match stk with | [] => R none st | _ => False
  | 68 => match stk with | some (.inl x) :: s => t_sw J x a ls s st r | _ => False
  | _ => False
def ex : List Ai → Kn
  | [], _, _, _ => False
  | (t, a, b, _) :: r, ls, stk, st => if t < 50 then s1 C L sx t a b (ex r) ls stk st else tm J R t a b r ls stk st
end SEM
section MONO
variable {J J' : Nat → Kn} {R R' : Rn} {C C' : Cn} {L : Nat} {sx : Nat → Int}
theorem s1_mono (hC : ∀ k a st Q Q', (∀ v t, Q v t → Q' v t) → C k a st Q → C' k a st Q') {k k' : Kn} (hk : ∀ ls stk st, k ls stk st → k' ls stk st) (t a b : Nat) (ls stk : List V) (st : St) (h : s1 C L sx t a b k ls stk st) : s1 C' L sx t a b k' ls stk st := by
  unfold s1 at h ⊢
  split at h <;> first
    | exact hk _ _ _ h
    | (simp only [i_load, i_loadR, i_store, i_storeR, i_inc, i_get, i_getR, i_put, i_putZ, i_ald, i_ast, i_astB, i_astZ, i_alen, i_bin, i_div, i_i2b, i_dup, i_pop, i_dup2, i_min, i_max, i_copy, i_sld, i_sln] at h ⊢
       split at h <;> first
         | exact hk _ _ _ h
         | exact h.elim
         | exact ⟨h.1, hk _ _ _ h.2⟩
         | exact ⟨h.1, h.2.1, hk _ _ _ h.2.2⟩
         | exact ⟨h.1, h.2.1, h.2.2.1, hk _ _ _ h.2.2.2⟩
         | exact ⟨h.1, h.2.1, h.2.2.1, h.2.2.2.1, h.2.2.2.2.1, hk _ _ _ h.2.2.2.2.2⟩)
    | (simp only [i_call] at h ⊢
       split at h
       · refine ⟨h.1, hC _ _ _ _ _ ?_ h.2⟩
         intro v t hv
         split at hv
         · exact hk _ _ _ hv
         · exact hv
       · exact h)
    | (simp only [i_callI] at h ⊢
       split at h
       · refine ⟨h.1, hC _ _ _ _ _ ?_ h.2⟩
         intro v t hv
         split at hv
         · exact hk _ _ _ hv
         · exact hv
       · exact h)
    | exact h
theorem sw_mono (hJ : ∀ b ls stk st, J b ls stk st → J' b ls stk st) (x : Int) (d : Nat) (ls s : List V) (st : St) : ∀ r, t_sw J x d ls s st r → t_sw J' x d ls s st r
  | [], h => hJ _ _ _ _ h
  | (_, _, _, _) :: r, h => ⟨fun e => hJ _ _ _ _ (h.1 e), fun e => sw_mono hJ x d ls s st r (h.2 e)⟩
theorem tm_mono (hJ : ∀ b ls stk st, J b ls stk st → J' b ls stk st) (hR : ∀ v st, R v st → R' v st) (t a b : Nat) (r : List Ai) (ls stk : List V) (st : St) (h : tm J R t a b r ls stk st) : tm J' R' t a b r ls stk st := by
  unfold tm at h ⊢
  split at h <;> first
    | exact hJ _ _ _ _ h
    | (simp only [t_cmp, t_if] at h ⊢
       split at h <;> first
         | exact ⟨fun e => hJ _ _ _ _ (h.1 e), fun e => hJ _ _ _ _ (h.2 e)⟩
         | exact h)
    | (split at h <;> first
         | exact hR _ _ h
         | exact ⟨h.1, hR _ _ h.2⟩
         | exact sw_mono hJ _ _ _ _ _ _ h
         | exact h)
    | exact h
theorem ex_mono (hJ : ∀ b ls stk st, J b ls stk st → J' b ls stk st) (hR : ∀ v st, R v st → R' v st) (hC : ∀ k a st Q Q', (∀ v t, Q v t → Q' v t) → C k a st Q → C' k a st Q') : ∀ is ls stk st, ex J R C L sx is ls stk st → ex J' R' C' L sx is ls stk st
  | [], _, _, _, h => h
  | (t, a, b, _) :: r, ls, stk, st, h => by
    unfold ex at h ⊢
    split at h
    · rename_i ht
      rw [if_pos ht]
      exact s1_mono hC (ex_mono hJ hR hC r) _ _ _ _ _ _ h
    · rename_i ht
      rw [if_neg ht]
      exact tm_mono hJ hR _ _ _ _ _ _ _ h
end MONO
/-- from this block on it comes to an end, with R -/
def AW (B : Nat → List Ai) (R : Rn) (C : Cn) (L : Nat) (sx : Nat → Int) (b : Nat) (ls stk : List V) (st : St) : Prop :=
  ∀ X : Nat → Kn, (∀ b ls stk st, ex X R C L sx (B b) ls stk st → X b ls stk st) → X b ls stk st
def Cm (C : Cn) : Prop := ∀ k a st Q Q', (∀ v t, Q v t → Q' v t) → C k a st Q → C k a st Q'
theorem AW.step {B : Nat → List Ai} {R : Rn} {C : Cn} {L : Nat} {sx : Nat → Int} {b : Nat} {ls stk : List V} {st : St} (hC : Cm C) (h : ex (AW B R C L sx) R C L sx (B b) ls stk st) : AW B R C L sx b ls stk st := by
  intro X hX
  exact hX _ _ _ _ (ex_mono (fun b ls stk st h => h X hX) (fun _ _ h => h) hC _ _ _ _ h)
theorem AW.mono {B : Nat → List Ai} {R R' : Rn} {C C' : Cn} {L : Nat} {sx : Nat → Int} {b : Nat} {ls stk : List V} {st : St} (hR : ∀ v st, R v st → R' v st) (hC : ∀ k a st Q Q', (∀ v t, Q v t → Q' v t) → C k a st Q → C' k a st Q') (h : AW B R C L sx b ls stk st) : AW B R' C' L sx b ls stk st := by
  intro X hX
  exact h X (fun b ls stk st h => hX _ _ _ _ (ex_mono (fun _ _ _ _ h => h) hR hC _ _ _ _ h))
end
section
/-! the methods: names, bytes, blocks -/
abbrev MT := MethodName × ByteArray × Nat × Option FieldType × Nat × Bool
def mt0 : MT := (⟨"WordFolder", "letters", "(I)Z"⟩, prog_1_method_2_code, 2, some FieldType.boolean, 11, false)
def b0 : List (List Ai) := [[(2, 1, 0, 0), (0, 1, 0, 0), (54, 2, 1, 0)], [(2, 1, 0, 0), (0, 4, 0, 0), (57, 3, 2, 0)], [(0, 0, 0, 0), (65, 0, 0, 0)], [(37, 0, 0, 0), (2, 1, 0, 0), (8, 11, 15, 92), (37, 0, 0, 0), (7, 11, 5, 24), (30, 234, 1, 107), (37, 0, 0, 0), (7, 11, 57, 55), (30, 186, 1, 110), (37, 0, 0, 0), (7, 11, 60, 58), (30, 186, 1, 110), (37, 0, 0, 0), (7, 11, 63, 61), (30, 186, 1, 110), (37, 0, 0, 0), (7, 11, 8, 31), (37, 0, 0, 0), (7, 11, 5, 24), (1, 1, 0, 0), (30, 252, 3, 99), (37, 0, 0, 0), (7, 11, 13, 38), (37, 0, 0, 0), (7, 11, 8, 31), (30, 173, 2, 103), (0, 1, 0, 0), (65, 0, 0, 0)]]
def p0 : List Nat := [0, 5, 10, 12]
def mt1 : MT := (⟨"WordFolder", "feed", "(IIIII)I"⟩, prog_1_method_3_code, 6, some FieldType.int, 11, false)
def b1 : List (List Ai) := [[(37, 0, 0, 0), (7, 11, 1, 14), (6, 5, 1, 111), (0, 20, 0, 0), (17, 0, 0, 0), (0, 800, 0, 0), (57, 2, 1, 0)], [(1, 1, 0, 0), (64, 0, 0, 0)], [(37, 0, 0, 0), (7, 11, 1, 14), (2, 1, 0, 0), (30, 223, 2, 114), (37, 0, 0, 0), (7, 11, 1, 14), (2, 2, 0, 0), (30, 223, 2, 114), (37, 0, 0, 0), (7, 11, 1, 14), (2, 3, 0, 0), (30, 223, 2, 114), (37, 0, 0, 0), (7, 11, 1, 14), (2, 4, 0, 0), (30, 223, 2, 114), (37, 0, 0, 0), (7, 11, 1, 14), (2, 5, 0, 0), (30, 223, 2, 114), (37, 0, 0, 0), (7, 11, 1, 14), (6, 5, 1, 111), (64, 0, 0, 0)]]
def p1 : List Nat := [0, 16, 18]
def mt2 : MT := (⟨"WordFolder", "end", "(I)I"⟩, prog_1_method_4_code, 2, some FieldType.int, 11, false)
def b2 : List (List Ai) := [[(2, 1, 0, 0), (60, 2, 1, 0)], [(2, 1, 0, 0), (37, 0, 0, 0), (7, 11, 1, 14), (6, 5, 1, 111), (57, 3, 2, 0)], [(1, 1, 0, 0), (64, 0, 0, 0)], [(37, 0, 0, 0), (7, 11, 1, 14), (2, 1, 0, 0), (30, 221, 2, 117), (2, 1, 0, 0), (64, 0, 0, 0)]]
def p2 : List Nat := [0, 4, 15, 17]
def mt3 : MT := (⟨"WordFolder", "example", "(Z)I"⟩, prog_1_method_5_code, 3, some FieldType.int, 11, false)
def b3 : List (List Ai) := [[(37, 0, 0, 0), (31, 6, 1, 120), (3, 2, 0, 0), (2, 2, 0, 0), (1, 1, 0, 0), (53, 2, 1, 0)], [(1, 2, 0, 0), (51, 3, 0, 0)], [(37, 0, 0, 0), (2, 2, 0, 0), (2, 1, 0, 0), (31, 7, 3, 124), (50, 3, 0, 0)], [(64, 0, 0, 0)]]
def p3 : List Nat := [0, 10, 15, 21]
def mt4 : MT := (⟨"WordFolder", "drop", "(I)I"⟩, prog_1_method_6_code, 2, some FieldType.int, 11, false)
def b4 : List (List Ai) := [[(37, 0, 0, 0), (7, 11, 5, 24), (2, 1, 0, 0), (31, 235, 2, 128), (59, 2, 1, 0)], [(1, 1, 0, 0), (64, 0, 0, 0)], [(37, 0, 0, 0), (7, 11, 5, 24), (2, 1, 0, 0), (30, 242, 2, 132), (37, 0, 0, 0), (7, 11, 8, 31), (37, 0, 0, 0), (7, 11, 5, 24), (1, 1, 0, 0), (30, 252, 3, 99), (37, 0, 0, 0), (7, 11, 13, 38), (37, 0, 0, 0), (7, 11, 8, 31), (30, 173, 2, 103), (37, 0, 0, 0), (7, 11, 5, 24), (6, 7, 2, 135), (64, 0, 0, 0)]]
def p4 : List Nat := [0, 11, 13]
def mt5 : MT := (⟨"WordFolder", "teach", "(I)I"⟩, prog_1_method_7_code, 7, some FieldType.int, 11, false)
def b5 : List (List Ai) := [[(2, 1, 0, 0), (60, 3, 1, 0)], [(2, 1, 0, 0), (0, 5, 0, 0), (56, 3, 2, 0)], [(37, 0, 0, 0), (7, 11, 60, 58), (6, 2, 2, 136), (59, 4, 3, 0)], [(1, 1, 0, 0), (64, 0, 0, 0)], [(37, 0, 0, 0), (7, 11, 5, 24), (6, 7, 2, 135), (3, 2, 0, 0), (0, 1, 0, 0), (3, 3, 0, 0), (0, 0, 0, 0), (3, 4, 0, 0), (50, 5, 0, 0)], [(2, 4, 0, 0), (2, 1, 0, 0), (56, 13, 6, 0)], [(0, 0, 0, 0), (3, 5, 0, 0), (50, 7, 0, 0)], [(2, 5, 0, 0), (2, 3, 0, 0), (55, 12, 8, 0)], [(2, 5, 0, 0), (2, 4, 0, 0), (37, 0, 0, 0), (6, 11, 15, 92), (31, 264, 3, 137), (3, 6, 0, 0), (37, 0, 0, 0), (7, 11, 5, 24), (2, 6, 0, 0), (31, 240, 2, 143), (59, 11, 9, 0)], [(37, 0, 0, 0), (2, 6, 0, 0), (37, 0, 0, 0), (7, 11, 60, 58), (2, 6, 0, 0), (31, 193, 2, 146), (31, 7, 3, 124), (61, 11, 10, 0)], [(37, 0, 0, 0), (7, 11, 5, 24), (6, 7, 2, 135), (2, 2, 0, 0), (18, 0, 0, 0), (64, 0, 0, 0)], [(4, 5, 1, 0), (51, 7, 0, 0)], [(2, 3, 0, 0), (37, 0, 0, 0), (6, 11, 15, 92), (19, 0, 0, 0), (3, 3, 0, 0), (4, 4, 1, 0), (51, 5, 0, 0)], [(37, 0, 0, 0), (7, 11, 5, 24), (6, 7, 2, 135), (2, 2, 0, 0), (18, 0, 0, 0), (64, 0, 0, 0)]]
def p5 : List Nat := [0, 4, 9, 19, 21, 34, 40, 43, 49, 74, 92, 102, 108, 121]
def mt6 : MT := (⟨"WordFolder", "wordOfTape", "()I"⟩, prog_1_method_8_code, 2, some FieldType.int, 11, false)
def b6 : List (List Ai) := [[(37, 0, 0, 0), (7, 11, 1, 14), (37, 0, 0, 0), (6, 11, 15, 92), (31, 227, 2, 149), (3, 1, 0, 0), (37, 0, 0, 0), (7, 11, 1, 14), (0, 0, 0, 0), (30, 221, 2, 117), (2, 1, 0, 0), (64, 0, 0, 0)]]
def p6 : List Nat := [0]
def mt7 : MT := (⟨"WordFolder", "addExample", "(IZ)I"⟩, prog_1_method_9_code, 4, some FieldType.int, 11, false)
def b7 : List (List Ai) := [[(37, 0, 0, 0), (7, 11, 5, 24), (2, 1, 0, 0), (31, 239, 2, 153), (3, 3, 0, 0), (37, 0, 0, 0), (7, 11, 5, 24), (2, 1, 0, 0), (31, 240, 2, 143), (58, 5, 1, 0)], [(37, 0, 0, 0), (7, 11, 5, 24), (2, 3, 0, 0), (31, 237, 2, 156), (2, 2, 0, 0), (53, 3, 2, 0)], [(37, 0, 0, 0), (7, 11, 8, 31), (6, 9, 4, 159), (51, 4, 0, 0)], [(1, 3, 0, 0), (50, 4, 0, 0)], [(64, 0, 0, 0)], [(37, 0, 0, 0), (7, 11, 5, 24), (6, 7, 2, 135), (0, 40, 0, 0), (54, 7, 6, 0)], [(1, 4, 0, 0), (64, 0, 0, 0)], [(37, 0, 0, 0), (7, 11, 8, 31), (6, 9, 4, 159), (37, 0, 0, 0), (7, 11, 8, 31), (2, 1, 0, 0), (31, 257, 2, 160), (17, 0, 0, 0), (0, 120, 0, 0), (57, 9, 8, 0)], [(1, 5, 0, 0), (64, 0, 0, 0)], [(37, 0, 0, 0), (7, 11, 5, 24), (2, 3, 0, 0), (2, 1, 0, 0), (2, 2, 0, 0), (30, 241, 4, 163), (37, 0, 0, 0), (7, 11, 8, 31), (2, 1, 0, 0), (30, 253, 2, 167), (37, 0, 0, 0), (7, 11, 8, 31), (37, 0, 0, 0), (7, 11, 5, 24), (1, 1, 0, 0), (30, 258, 3, 170), (37, 0, 0, 0), (7, 11, 13, 38), (37, 0, 0, 0), (7, 11, 8, 31), (30, 173, 2, 103), (37, 0, 0, 0), (7, 11, 8, 31), (6, 9, 4, 159), (64, 0, 0, 0)]]
def p7 : List Nat := [0, 20, 32, 42, 44, 45, 57, 60, 81, 84]
def mt8 : MT := (⟨"WordFolder", "which", "(II)I"⟩, prog_1_method_10_code, 4, some FieldType.int, 11, false)
def b8 : List (List Ai) := [[(37, 0, 0, 0), (7, 11, 5, 24), (2, 1, 0, 0), (31, 235, 2, 128), (59, 2, 1, 0)], [(1, 2, 0, 0), (64, 0, 0, 0)], [(37, 0, 0, 0), (7, 11, 5, 24), (2, 1, 0, 0), (31, 236, 2, 173), (3, 3, 0, 0), (2, 2, 0, 0), (68, 10, 0, 0), (0, 3, 0, 0), (1, 4, 0, 0), (2, 8, 0, 0), (3, 9, 0, 0)], [(37, 0, 0, 0), (7, 11, 8, 31), (2, 3, 0, 0), (31, 256, 2, 176), (64, 0, 0, 0)], [(37, 0, 0, 0), (7, 11, 5, 24), (2, 1, 0, 0), (31, 237, 2, 156), (58, 6, 5, 0)], [(0, 1, 0, 0), (51, 7, 0, 0)], [(0, 0, 0, 0), (50, 7, 0, 0)], [(64, 0, 0, 0)], [(2, 3, 0, 0), (31, 259, 1, 179), (64, 0, 0, 0)], [(37, 0, 0, 0), (7, 11, 13, 38), (7, 1, 1, 182), (37, 0, 0, 0), (7, 11, 8, 31), (2, 3, 0, 0), (31, 256, 2, 176), (31, 163, 2, 186), (64, 0, 0, 0)], [(1, 2, 0, 0), (64, 0, 0, 0)]]
def p8 : List Nat := [0, 11, 14, 56, 65, 76, 80, 81, 82, 87, 106]
def mt9 : MT := (⟨"WordFolder", "is", "(I)I"⟩, prog_1_method_11_code, 2, some FieldType.int, 11, false)
def b9 : List (List Ai) := [[(2, 1, 0, 0), (68, 10, 0, 0), (0, 1, 0, 0), (1, 2, 0, 0), (2, 3, 0, 0), (3, 4, 0, 0), (4, 5, 0, 0), (5, 6, 0, 0), (6, 7, 0, 0), (7, 8, 0, 0), (8, 9, 0, 0)], [(37, 0, 0, 0), (6, 11, 15, 92), (64, 0, 0, 0)], [(37, 0, 0, 0), (7, 11, 5, 24), (6, 7, 2, 135), (64, 0, 0, 0)], [(37, 0, 0, 0), (7, 11, 5, 24), (31, 238, 1, 191), (64, 0, 0, 0)], [(37, 0, 0, 0), (7, 11, 8, 31), (6, 9, 4, 159), (64, 0, 0, 0)], [(37, 0, 0, 0), (7, 11, 13, 38), (7, 1, 1, 182), (6, 0, 10, 194), (64, 0, 0, 0)], [(37, 0, 0, 0), (7, 11, 13, 38), (30, 174, 1, 195), (37, 0, 0, 0), (7, 11, 13, 38), (6, 1, 8, 198), (64, 0, 0, 0)], [(37, 0, 0, 0), (7, 11, 13, 38), (30, 174, 1, 195), (37, 0, 0, 0), (7, 11, 13, 38), (6, 1, 9, 201), (64, 0, 0, 0)], [(37, 0, 0, 0), (7, 11, 13, 38), (6, 1, 10, 204), (64, 0, 0, 0)], [(37, 0, 0, 0), (7, 11, 1, 14), (6, 5, 1, 111), (64, 0, 0, 0)], [(1, 1, 0, 0), (64, 0, 0, 0)]]
def p9 : List Nat := [0, 52, 57, 65, 73, 81, 92, 107, 122, 130, 138]
def mt10 : MT := (⟨"WordFolder", "node", "(II)I"⟩, prog_1_method_12_code, 3, some FieldType.int, 11, false)
def b10 : List (List Ai) := [[(37, 0, 0, 0), (7, 11, 8, 31), (2, 1, 0, 0), (31, 251, 2, 207), (59, 2, 1, 0)], [(1, 2, 0, 0), (64, 0, 0, 0)], [(2, 2, 0, 0), (68, 12, 0, 0), (0, 3, 0, 0), (1, 4, 0, 0), (2, 5, 0, 0), (3, 9, 0, 0), (4, 10, 0, 0), (5, 11, 0, 0)], [(37, 0, 0, 0), (7, 11, 8, 31), (7, 9, 2, 208), (2, 1, 0, 0), (10, 0, 0, 0), (64, 0, 0, 0)], [(37, 0, 0, 0), (7, 11, 8, 31), (7, 9, 3, 212), (2, 1, 0, 0), (10, 0, 0, 0), (64, 0, 0, 0)], [(2, 1, 0, 0), (59, 7, 6, 0)], [(1, 1, 0, 0), (51, 8, 0, 0)], [(37, 0, 0, 0), (7, 11, 8, 31), (7, 9, 1, 215), (2, 1, 0, 0), (10, 0, 0, 0), (31, 261, 1, 218), (50, 8, 0, 0)], [(64, 0, 0, 0)], [(37, 0, 0, 0), (7, 11, 8, 31), (7, 9, 1, 215), (2, 1, 0, 0), (10, 0, 0, 0), (31, 259, 1, 179), (64, 0, 0, 0)], [(37, 0, 0, 0), (7, 11, 13, 38), (7, 1, 1, 182), (2, 1, 0, 0), (31, 163, 2, 186), (64, 0, 0, 0)], [(37, 0, 0, 0), (7, 11, 13, 38), (2, 1, 0, 0), (31, 176, 2, 221), (64, 0, 0, 0)], [(1, 2, 0, 0), (64, 0, 0, 0)]]
def p10 : List Nat := [0, 11, 14, 52, 62, 72, 76, 80, 92, 93, 106, 118, 127]
def mt11 : MT := (⟨"WordFolder", "writeNode", "(I)I"⟩, prog_1_method_13_code, 2, some FieldType.int, 11, false)
def b11 : List (List Ai) := [[(37, 0, 0, 0), (7, 11, 8, 31), (2, 1, 0, 0), (31, 251, 2, 207), (59, 2, 1, 0)], [(1, 1, 0, 0), (64, 0, 0, 0)], [(37, 0, 0, 0), (7, 11, 3, 18), (0, 0, 0, 0), (30, 221, 2, 117), (37, 0, 0, 0), (7, 11, 3, 18), (37, 0, 0, 0), (7, 11, 8, 31), (7, 9, 1, 215), (2, 1, 0, 0), (10, 0, 0, 0), (30, 225, 2, 224), (37, 0, 0, 0), (7, 11, 3, 18), (6, 5, 1, 111), (64, 0, 0, 0)]]
def p11 : List Nat := [0, 11, 13]
def mt12 : MT := (⟨"WordFolder", "score", "(III)I"⟩, prog_1_method_14_code, 4, some FieldType.int, 11, false)
def b12 : List (List Ai) := [[(2, 1, 0, 0), (31, 18, 1, 227), (58, 2, 1, 0)], [(37, 0, 0, 0), (7, 11, 13, 38), (7, 1, 1, 182), (2, 2, 0, 0), (2, 3, 0, 0), (31, 162, 3, 230), (59, 3, 2, 0)], [(1, 2, 0, 0), (64, 0, 0, 0)], [(37, 0, 0, 0), (7, 11, 13, 38), (7, 1, 1, 182), (2, 1, 0, 0), (2, 2, 0, 0), (2, 3, 0, 0), (31, 170, 4, 234), (64, 0, 0, 0)]]
def p12 : List Nat := [0, 7, 22, 25]
def mt13 : MT := (⟨"WordFolder", "merge", "(II)I"⟩, prog_1_method_15_code, 3, some FieldType.int, 11, false)
def b13 : List (List Ai) := [[(37, 0, 0, 0), (7, 11, 13, 38), (7, 1, 1, 182), (2, 1, 0, 0), (2, 2, 0, 0), (31, 162, 3, 230), (59, 2, 1, 0)], [(1, 2, 0, 0), (64, 0, 0, 0)], [(37, 0, 0, 0), (7, 11, 13, 38), (6, 1, 10, 204), (0, 200, 0, 0), (54, 4, 3, 0)], [(1, 3, 0, 0), (64, 0, 0, 0)], [(37, 0, 0, 0), (7, 11, 13, 38), (2, 1, 0, 0), (2, 2, 0, 0), (0, 0, 0, 0), (31, 181, 4, 237), (58, 6, 5, 0)], [(37, 0, 0, 0), (7, 11, 13, 38), (7, 1, 1, 182), (6, 0, 10, 194), (51, 7, 0, 0)], [(1, 1, 0, 0), (50, 7, 0, 0)], [(64, 0, 0, 0)]]
def p13 : List Nat := [0, 15, 18, 31, 34, 47, 60, 61]
def mt14 : MT := (⟨"WordFolder", "step", "(I)I"⟩, prog_1_method_16_code, 2, some FieldType.int, 11, false)
def b14 : List (List Ai) := [[(2, 1, 0, 0), (31, 18, 1, 227), (59, 2, 1, 0)], [(1, 2, 0, 0), (64, 0, 0, 0)], [(37, 0, 0, 0), (7, 11, 13, 38), (30, 174, 1, 195), (37, 0, 0, 0), (7, 11, 13, 38), (6, 1, 9, 201), (59, 4, 3, 0)], [(1, 1, 0, 0), (64, 0, 0, 0)], [(37, 0, 0, 0), (7, 11, 13, 38), (6, 1, 10, 204), (0, 200, 0, 0), (54, 6, 5, 0)], [(1, 3, 0, 0), (64, 0, 0, 0)], [(37, 0, 0, 0), (7, 11, 13, 38), (2, 1, 0, 0), (30, 178, 2, 241), (37, 0, 0, 0), (7, 11, 13, 38), (7, 1, 1, 182), (6, 0, 10, 194), (64, 0, 0, 0)]]
def p14 : List Nat := [0, 7, 10, 27, 29, 42, 45]
def mt15 : MT := (⟨"WordFolder", "learn", "(I)I"⟩, prog_1_method_17_code, 2, some FieldType.int, 11, false)
def b15 : List (List Ai) := [[(2, 1, 0, 0), (31, 18, 1, 227), (58, 2, 1, 0)], [(37, 0, 0, 0), (7, 11, 13, 38), (37, 0, 0, 0), (7, 11, 8, 31), (2, 1, 0, 0), (31, 177, 3, 244), (51, 3, 0, 0)], [(1, 2, 0, 0), (50, 3, 0, 0)], [(64, 0, 0, 0)]]
def p15 : List Nat := [0, 7, 22, 24]
def mt16 : MT := (⟨"WordFolder", "undo", "()I"⟩, prog_1_method_18_code, 1, some FieldType.int, 11, false)
def b16 : List (List Ai) := [[(37, 0, 0, 0), (7, 11, 13, 38), (31, 184, 1, 248), (58, 2, 1, 0)], [(37, 0, 0, 0), (7, 11, 13, 38), (6, 1, 10, 204), (51, 3, 0, 0)], [(1, 1, 0, 0), (50, 3, 0, 0)], [(64, 0, 0, 0)]]
def p16 : List Nat := [0, 10, 20, 21]
def mt17 : MT := (⟨"WordFolder", "deed", "(II)I"⟩, prog_1_method_19_code, 3, some FieldType.int, 11, false)
def b17 : List (List Ai) := [[(37, 0, 0, 0), (7, 11, 13, 38), (2, 1, 0, 0), (2, 2, 0, 0), (31, 185, 3, 252), (64, 0, 0, 0)]]
def p17 : List Nat := [0]
def mt18 : MT := (⟨"WordFolder", "isWay", "(I)Z"⟩, prog_1_method_20_code, 1, some FieldType.boolean, 11, true)
def b18 : List (List Ai) := [[(2, 0, 0, 0), (60, 3, 1, 0)], [(2, 0, 0, 0), (0, 2, 0, 0), (56, 3, 2, 0)], [(0, 1, 0, 0), (51, 4, 0, 0)], [(0, 0, 0, 0), (50, 4, 0, 0)], [(65, 0, 0, 0)]]
def p18 : List Nat := [0, 4, 9, 13, 14]
def mt19 : MT := (⟨"WordFolder", "without", "(II)I"⟩, prog_1_method_21_code, 3, some FieldType.int, 11, false)
def b19 : List (List Ai) := [[(2, 1, 0, 0), (31, 18, 1, 227), (58, 2, 1, 0)], [(37, 0, 0, 0), (7, 11, 5, 24), (2, 2, 0, 0), (31, 235, 2, 128), (59, 3, 2, 0)], [(1, 2, 0, 0), (64, 0, 0, 0)], [(37, 0, 0, 0), (7, 11, 31, 42), (37, 0, 0, 0), (7, 11, 5, 24), (2, 2, 0, 0), (30, 252, 3, 99), (37, 0, 0, 0), (7, 11, 36, 45), (37, 0, 0, 0), (7, 11, 31, 42), (2, 1, 0, 0), (31, 177, 3, 244), (64, 0, 0, 0)]]
def p19 : List Nat := [0, 7, 18, 21]
def mt20 : MT := (⟨"WordFolder", "guess", "()I"⟩, prog_1_method_22_code, 4, some FieldType.int, 11, false)
def b20 : List (List Ai) := [[(37, 0, 0, 0), (31, 6, 1, 120), (3, 1, 0, 0), (2, 1, 0, 0), (1, 1, 0, 0), (53, 2, 1, 0)], [(1, 2, 0, 0), (64, 0, 0, 0)], [(0, 0, 0, 0), (3, 2, 0, 0), (0, 0, 0, 0), (3, 3, 0, 0), (50, 3, 0, 0)], [(2, 3, 0, 0), (0, 2, 0, 0), (56, 7, 4, 0)], [(37, 0, 0, 0), (7, 11, 36, 45), (37, 0, 0, 0), (7, 11, 8, 31), (2, 3, 0, 0), (31, 177, 3, 244), (28, 0, 0, 0), (37, 0, 0, 0), (7, 11, 36, 45), (7, 1, 1, 182), (2, 1, 0, 0), (31, 171, 2, 256), (58, 6, 5, 0)], [(2, 2, 0, 0), (0, 1, 0, 0), (2, 3, 0, 0), (24, 0, 0, 0), (23, 0, 0, 0), (3, 2, 0, 0), (50, 6, 0, 0)], [(4, 3, 1, 0), (51, 3, 0, 0)], [(2, 2, 0, 0), (64, 0, 0, 0)]]
def p20 : List Nat := [0, 10, 13, 17, 22, 49, 55, 61]
def mt21 : MT := (⟨"WordFolder", "blind", "(I)I"⟩, prog_1_method_23_code, 4, some FieldType.int, 11, false)
def b21 : List (List Ai) := [[(2, 1, 0, 0), (31, 18, 1, 227), (59, 2, 1, 0)], [(1, 2, 0, 0), (64, 0, 0, 0)], [(0, 0, 0, 0), (3, 2, 0, 0), (0, 0, 0, 0), (3, 3, 0, 0), (50, 3, 0, 0)], [(2, 3, 0, 0), (37, 0, 0, 0), (7, 11, 5, 24), (6, 7, 2, 135), (55, 7, 4, 0)], [(37, 0, 0, 0), (7, 11, 31, 42), (37, 0, 0, 0), (7, 11, 5, 24), (2, 3, 0, 0), (30, 252, 3, 99), (37, 0, 0, 0), (7, 11, 36, 45), (37, 0, 0, 0), (7, 11, 31, 42), (2, 1, 0, 0), (31, 177, 3, 244), (28, 0, 0, 0), (37, 0, 0, 0), (7, 11, 36, 45), (7, 1, 1, 182), (37, 0, 0, 0), (7, 11, 5, 24), (2, 3, 0, 0), (31, 236, 2, 173), (31, 171, 2, 256), (37, 0, 0, 0), (7, 11, 5, 24), (2, 3, 0, 0), (31, 237, 2, 156), (53, 6, 5, 0)], [(4, 2, 1, 0), (50, 6, 0, 0)], [(4, 3, 1, 0), (51, 3, 0, 0)], [(2, 2, 0, 0), (64, 0, 0, 0)]]
def p21 : List Nat := [0, 7, 10, 14, 25, 79, 82, 88]
def mt22 : MT := (⟨"WordFolder", "least", "()I"⟩, prog_1_method_24_code, 2, some FieldType.int, 11, false)
def b22 : List (List Ai) := [[(37, 0, 0, 0), (7, 11, 66, 67), (37, 0, 0, 0), (7, 11, 8, 31), (31, 243, 2, 257), (3, 1, 0, 0), (2, 1, 0, 0), (63, 2, 1, 0)], [(37, 0, 0, 0), (7, 11, 66, 67), (37, 0, 0, 0), (7, 11, 57, 55), (30, 250, 2, 261), (50, 2, 0, 0)], [(2, 1, 0, 0), (64, 0, 0, 0)]]
def p22 : List Nat := [0, 16, 27]
def mt23 : MT := (⟨"WordFolder", "tries", "()I"⟩, prog_1_method_25_code, 1, some FieldType.int, 11, false)
def b23 : List (List Ai) := [[(37, 0, 0, 0), (7, 11, 66, 67), (6, 8, 9, 265), (64, 0, 0, 0)]]
def p23 : List Nat := [0]
def mt24 : MT := (⟨"WordFolder", "target", "()I"⟩, prog_1_method_26_code, 1, some FieldType.int, 11, false)
def b24 : List (List Ai) := [[(37, 0, 0, 0), (37, 0, 0, 0), (7, 11, 75, 74), (37, 0, 0, 0), (7, 11, 1, 14), (37, 0, 0, 0), (6, 11, 15, 92), (31, 228, 3, 268), (8, 11, 16, 96), (37, 0, 0, 0), (7, 11, 1, 14), (0, 0, 0, 0), (30, 221, 2, 117), (37, 0, 0, 0), (6, 11, 16, 96), (1, 1, 0, 0), (52, 2, 1, 0)], [(1, 1, 0, 0), (64, 0, 0, 0)], [(37, 0, 0, 0), (7, 11, 60, 58), (37, 0, 0, 0), (7, 11, 75, 74), (7, 6, 1, 272), (30, 188, 2, 275), (37, 0, 0, 0), (7, 11, 60, 58), (6, 2, 2, 136), (64, 0, 0, 0)]]
def p24 : List Nat := [0, 35, 37]
def mt25 : MT := (⟨"WordFolder", "fault", "()I"⟩, prog_1_method_27_code, 1, some FieldType.int, 11, false)
def b25 : List (List Ai) := [[(37, 0, 0, 0), (6, 11, 16, 96), (64, 0, 0, 0)]]
def p25 : List Nat := [0]
def mt26 : MT := (⟨"WordFolder", "keep", "(I)I"⟩, prog_1_method_28_code, 2, some FieldType.int, 11, false)
def b26 : List (List Ai) := [[(2, 1, 0, 0), (0, 3, 0, 0), (52, 2, 1, 0)], [(37, 0, 0, 0), (2, 1, 0, 0), (31, 41, 2, 278), (59, 3, 2, 0)], [(1, 1, 0, 0), (64, 0, 0, 0)], [(37, 0, 0, 0), (7, 11, 63, 61), (37, 0, 0, 0), (2, 1, 0, 0), (31, 42, 2, 281), (30, 188, 2, 275), (37, 0, 0, 0), (7, 11, 63, 61), (6, 2, 2, 136), (64, 0, 0, 0)]]
def p26 : List Nat := [0, 5, 13, 15]
def mt27 : MT := (⟨"WordFolder", "state", "(III)I"⟩, prog_1_method_29_code, 5, some FieldType.int, 11, false)
def b27 : List (List Ai) := [[(37, 0, 0, 0), (2, 1, 0, 0), (31, 41, 2, 278), (59, 2, 1, 0)], [(1, 2, 0, 0), (64, 0, 0, 0)], [(37, 0, 0, 0), (2, 1, 0, 0), (31, 42, 2, 281), (38, 4, 0, 0), (37, 4, 0, 0), (2, 2, 0, 0), (31, 187, 2, 285), (58, 5, 3, 0)], [(2, 3, 0, 0), (60, 5, 4, 0)], [(2, 3, 0, 0), (37, 0, 0, 0), (6, 11, 15, 92), (57, 6, 5, 0)], [(1, 2, 0, 0), (64, 0, 0, 0)], [(2, 3, 0, 0), (59, 8, 7, 0)], [(37, 4, 0, 0), (7, 2, 1, 286), (2, 2, 0, 0), (10, 0, 0, 0), (51, 9, 0, 0)], [(37, 4, 0, 0), (2, 2, 0, 0), (2, 3, 0, 0), (0, 1, 0, 0), (18, 0, 0, 0), (31, 191, 3, 287), (50, 9, 0, 0)], [(64, 0, 0, 0)]]
def p27 : List Nat := [0, 8, 11, 27, 31, 39, 42, 46, 56, 65]
def mt28 : MT := (⟨"WordFolder", "states", "(I)I"⟩, prog_1_method_30_code, 2, some FieldType.int, 11, false)
def b28 : List (List Ai) := [[(37, 0, 0, 0), (2, 1, 0, 0), (31, 41, 2, 278), (58, 2, 1, 0)], [(37, 0, 0, 0), (2, 1, 0, 0), (31, 42, 2, 281), (6, 2, 2, 136), (51, 3, 0, 0)], [(1, 1, 0, 0), (50, 3, 0, 0)], [(64, 0, 0, 0)]]
def p28 : List Nat := [0, 8, 19, 20]
def mt29 : MT := (⟨"WordFolder", "takes", "(I)I"⟩, prog_1_method_31_code, 3, some FieldType.int, 11, false)
def b29 : List (List Ai) := [[(37, 0, 0, 0), (31, 6, 1, 120), (3, 2, 0, 0), (37, 0, 0, 0), (2, 1, 0, 0), (31, 41, 2, 278), (59, 2, 1, 0)], [(1, 1, 0, 0), (64, 0, 0, 0)], [(2, 2, 0, 0), (1, 1, 0, 0), (53, 4, 3, 0)], [(1, 2, 0, 0), (64, 0, 0, 0)], [(37, 0, 0, 0), (2, 1, 0, 0), (31, 42, 2, 281), (2, 2, 0, 0), (31, 193, 2, 146), (58, 6, 5, 0)], [(0, 1, 0, 0), (51, 7, 0, 0)], [(0, 0, 0, 0), (50, 7, 0, 0)], [(64, 0, 0, 0)]]
def p29 : List Nat := [0, 13, 15, 20, 23, 35, 39, 40]
def mt30 : MT := (⟨"WordFolder", "words", "(II)I"⟩, prog_1_method_32_code, 3, some FieldType.int, 11, false)
def b30 : List (List Ai) := [[(37, 0, 0, 0), (2, 1, 0, 0), (31, 41, 2, 278), (58, 3, 1, 0)], [(2, 2, 0, 0), (60, 3, 2, 0)], [(2, 2, 0, 0), (0, 10, 0, 0), (57, 4, 3, 0)], [(1, 1, 0, 0), (64, 0, 0, 0)], [(37, 0, 0, 0), (7, 11, 80, 81), (37, 0, 0, 0), (2, 1, 0, 0), (31, 42, 2, 281), (37, 0, 0, 0), (6, 11, 15, 92), (2, 2, 0, 0), (30, 196, 4, 290), (37, 0, 0, 0), (7, 11, 80, 81), (0, 0, 0, 0), (2, 2, 0, 0), (31, 197, 3, 294), (64, 0, 0, 0)]]
def p30 : List Nat := [0, 8, 12, 18, 20]
def mt31 : MT := (⟨"WordFolder", "taken", "(II)I"⟩, prog_1_method_33_code, 4, some FieldType.int, 11, false)
def b31 : List (List Ai) := [[(37, 0, 0, 0), (2, 1, 0, 0), (31, 41, 2, 278), (58, 2, 1, 0)], [(2, 2, 0, 0), (61, 3, 2, 0)], [(1, 1, 0, 0), (64, 0, 0, 0)], [(37, 0, 0, 0), (7, 11, 80, 81), (37, 0, 0, 0), (2, 1, 0, 0), (31, 42, 2, 281), (37, 0, 0, 0), (6, 11, 15, 92), (2, 2, 0, 0), (31, 198, 4, 297), (3, 3, 0, 0), (2, 3, 0, 0), (1, 1, 0, 0), (53, 5, 4, 0)], [(1, 2, 0, 0), (64, 0, 0, 0)], [(37, 0, 0, 0), (7, 11, 3, 18), (0, 0, 0, 0), (30, 221, 2, 117), (37, 0, 0, 0), (7, 11, 3, 18), (2, 3, 0, 0), (30, 225, 2, 224), (37, 0, 0, 0), (7, 11, 3, 18), (6, 5, 1, 111), (64, 0, 0, 0)]]
def p31 : List Nat := [0, 8, 12, 14, 37, 40]
def mt32 : MT := (⟨"WordFolder", "wrong", "(I)I"⟩, prog_1_method_34_code, 5, some FieldType.int, 11, false)
def b32 : List (List Ai) := [[(37, 0, 0, 0), (2, 1, 0, 0), (31, 41, 2, 278), (59, 2, 1, 0)], [(1, 1, 0, 0), (64, 0, 0, 0)], [(37, 0, 0, 0), (2, 1, 0, 0), (31, 42, 2, 281), (38, 2, 0, 0), (0, 0, 0, 0), (3, 3, 0, 0), (0, 0, 0, 0), (3, 4, 0, 0), (50, 3, 0, 0)], [(2, 4, 0, 0), (37, 0, 0, 0), (7, 11, 5, 24), (6, 7, 2, 135), (55, 7, 4, 0)], [(37, 2, 0, 0), (37, 0, 0, 0), (7, 11, 5, 24), (2, 4, 0, 0), (31, 236, 2, 173), (31, 193, 2, 146), (37, 0, 0, 0), (7, 11, 5, 24), (2, 4, 0, 0), (31, 237, 2, 156), (52, 6, 5, 0)], [(4, 3, 1, 0), (50, 6, 0, 0)], [(4, 4, 1, 0), (51, 3, 0, 0)], [(2, 3, 0, 0), (64, 0, 0, 0)]]
def p32 : List Nat := [0, 8, 10, 21, 33, 58, 61, 67]
def mt33 : MT := (⟨"WordFolder", "useful", "(I)I"⟩, prog_1_method_35_code, 2, some FieldType.int, 11, false)
def b33 : List (List Ai) := [[(37, 0, 0, 0), (2, 1, 0, 0), (31, 41, 2, 278), (58, 2, 1, 0)], [(37, 0, 0, 0), (7, 11, 80, 81), (37, 0, 0, 0), (2, 1, 0, 0), (31, 42, 2, 281), (37, 0, 0, 0), (6, 11, 15, 92), (31, 200, 3, 301), (51, 3, 0, 0)], [(1, 1, 0, 0), (50, 3, 0, 0)], [(64, 0, 0, 0)]]
def p33 : List Nat := [0, 8, 27, 28]
def mt34 : MT := (⟨"WordFolder", "longest", "(I)I"⟩, prog_1_method_36_code, 2, some FieldType.int, 11, false)
def b34 : List (List Ai) := [[(37, 0, 0, 0), (2, 1, 0, 0), (31, 41, 2, 278), (58, 2, 1, 0)], [(37, 0, 0, 0), (7, 11, 80, 81), (37, 0, 0, 0), (2, 1, 0, 0), (31, 42, 2, 281), (37, 0, 0, 0), (6, 11, 15, 92), (31, 203, 3, 305), (51, 3, 0, 0)], [(1, 1, 0, 0), (50, 3, 0, 0)], [(64, 0, 0, 0)]]
def p34 : List Nat := [0, 8, 27, 28]
def mt35 : MT := (⟨"WordFolder", "text", "(I)I"⟩, prog_1_method_37_code, 2, some FieldType.int, 11, false)
def b35 : List (List Ai) := [[(37, 0, 0, 0), (2, 1, 0, 0), (31, 41, 2, 278), (59, 2, 1, 0)], [(1, 1, 0, 0), (64, 0, 0, 0)], [(37, 0, 0, 0), (7, 11, 3, 18), (0, 0, 0, 0), (30, 221, 2, 117), (37, 0, 0, 0), (2, 1, 0, 0), (31, 42, 2, 281), (37, 0, 0, 0), (7, 11, 3, 18), (37, 0, 0, 0), (6, 11, 15, 92), (30, 194, 3, 308), (37, 0, 0, 0), (7, 11, 3, 18), (6, 5, 1, 111), (64, 0, 0, 0)]]
def p35 : List Nat := [0, 8, 10]
def mt36 : MT := (⟨"WordFolder", "octet", "(I)I"⟩, prog_1_method_38_code, 2, some FieldType.int, 11, false)
def b36 : List (List Ai) := [[(37, 0, 0, 0), (7, 11, 3, 18), (2, 1, 0, 0), (31, 220, 2, 312), (64, 0, 0, 0)]]
def p36 : List Nat := [0]
def mt37 : MT := (⟨"WordFolder", "apart", "(II)I"⟩, prog_1_method_39_code, 4, some FieldType.int, 11, false)
def b37 : List (List Ai) := [[(37, 0, 0, 0), (2, 1, 0, 0), (31, 41, 2, 278), (58, 2, 1, 0)], [(37, 0, 0, 0), (2, 2, 0, 0), (31, 41, 2, 278), (59, 3, 2, 0)], [(1, 1, 0, 0), (64, 0, 0, 0)], [(37, 0, 0, 0), (7, 11, 87, 88), (37, 0, 0, 0), (2, 1, 0, 0), (31, 42, 2, 281), (37, 0, 0, 0), (2, 2, 0, 0), (31, 42, 2, 281), (37, 0, 0, 0), (6, 11, 15, 92), (31, 210, 4, 315), (3, 3, 0, 0), (2, 3, 0, 0), (1, 1, 0, 0), (53, 5, 4, 0)], [(1, 2, 0, 0), (64, 0, 0, 0)], [(37, 0, 0, 0), (7, 11, 87, 88), (2, 3, 0, 0), (37, 0, 0, 0), (7, 11, 3, 18), (30, 213, 3, 319), (37, 0, 0, 0), (7, 11, 3, 18), (6, 5, 1, 111), (64, 0, 0, 0)]]
def p37 : List Nat := [0, 8, 16, 18, 45, 48]
def mt38 : MT := (⟨"WordFolder", "small", "(I)I"⟩, prog_1_method_40_code, 2, some FieldType.int, 11, false)
def b38 : List (List Ai) := [[(37, 0, 0, 0), (2, 1, 0, 0), (31, 41, 2, 278), (58, 2, 1, 0)], [(37, 0, 0, 0), (7, 11, 87, 88), (37, 0, 0, 0), (2, 1, 0, 0), (31, 42, 2, 281), (37, 0, 0, 0), (6, 11, 15, 92), (31, 214, 3, 323), (51, 3, 0, 0)], [(1, 1, 0, 0), (50, 3, 0, 0)], [(64, 0, 0, 0)]]
def p38 : List Nat := [0, 8, 27, 28]
def mt39 : MT := (⟨"WordFolder", "tight", "(I)I"⟩, prog_1_method_41_code, 2, some FieldType.int, 11, false)
def b39 : List (List Ai) := [[(37, 0, 0, 0), (2, 1, 0, 0), (31, 41, 2, 278), (59, 2, 1, 0)], [(1, 1, 0, 0), (64, 0, 0, 0)], [(37, 0, 0, 0), (7, 11, 87, 88), (37, 0, 0, 0), (2, 1, 0, 0), (31, 42, 2, 281), (37, 0, 0, 0), (6, 11, 15, 92), (31, 214, 3, 323), (28, 0, 0, 0), (37, 0, 0, 0), (7, 11, 87, 88), (37, 0, 0, 0), (7, 11, 63, 61), (37, 0, 0, 0), (6, 11, 15, 92), (30, 219, 3, 326), (37, 0, 0, 0), (7, 11, 63, 61), (6, 2, 2, 136), (64, 0, 0, 0)]]
def p39 : List Nat := [0, 8, 10]
def mt40 : MT := (⟨"WordFolder", "both", "(III)I"⟩, prog_1_method_42_code, 4, some FieldType.int, 11, false)
def b40 : List (List Ai) := [[(37, 0, 0, 0), (2, 1, 0, 0), (31, 41, 2, 278), (58, 4, 1, 0)], [(37, 0, 0, 0), (2, 2, 0, 0), (31, 41, 2, 278), (58, 4, 2, 0)], [(2, 3, 0, 0), (60, 4, 3, 0)], [(2, 3, 0, 0), (0, 2, 0, 0), (57, 5, 4, 0)], [(1, 1, 0, 0), (64, 0, 0, 0)], [(37, 0, 0, 0), (7, 11, 87, 88), (37, 0, 0, 0), (2, 1, 0, 0), (31, 42, 2, 281), (37, 0, 0, 0), (2, 2, 0, 0), (31, 42, 2, 281), (2, 3, 0, 0), (37, 0, 0, 0), (6, 11, 15, 92), (0, 200, 0, 0), (31, 208, 6, 330), (59, 7, 6, 0)], [(1, 3, 0, 0), (64, 0, 0, 0)], [(37, 0, 0, 0), (7, 11, 63, 61), (37, 0, 0, 0), (7, 11, 87, 88), (7, 4, 1, 334), (30, 188, 2, 275), (37, 0, 0, 0), (7, 11, 63, 61), (6, 2, 2, 136), (64, 0, 0, 0)]]
def p40 : List Nat := [0, 8, 16, 20, 25, 27, 55, 58]
def mt41 : MT := (⟨"WordFolder", "isThere", "(I)Z"⟩, prog_1_method_43_code, 2, some FieldType.boolean, 11, false)
def b41 : List (List Ai) := [[(2, 1, 0, 0), (68, 14, 0, 0), (0, 1, 0, 0), (1, 2, 0, 0), (2, 6, 0, 0), (3, 10, 0, 0)], [(0, 1, 0, 0), (65, 0, 0, 0)], [(37, 0, 0, 0), (7, 11, 57, 55), (6, 2, 2, 136), (63, 4, 3, 0)], [(0, 1, 0, 0), (51, 5, 0, 0)], [(0, 0, 0, 0), (50, 5, 0, 0)], [(65, 0, 0, 0)], [(37, 0, 0, 0), (7, 11, 60, 58), (6, 2, 2, 136), (63, 8, 7, 0)], [(0, 1, 0, 0), (51, 9, 0, 0)], [(0, 0, 0, 0), (50, 9, 0, 0)], [(65, 0, 0, 0)], [(37, 0, 0, 0), (7, 11, 63, 61), (6, 2, 2, 136), (63, 12, 11, 0)], [(0, 1, 0, 0), (51, 13, 0, 0)], [(0, 0, 0, 0), (50, 13, 0, 0)], [(65, 0, 0, 0)], [(0, 0, 0, 0), (65, 0, 0, 0)]]
def p41 : List Nat := [0, 32, 34, 44, 48, 49, 50, 60, 64, 65, 66, 76, 80, 81, 82]
def mt42 : MT := (⟨"WordFolder", "machine", "(I)LWordFolder$Machine;"⟩, prog_1_method_44_code, 2, some (FieldType.object "WordFolder$Machine"), 11, false)
def b42 : List (List Ai) := [[(2, 1, 0, 0), (68, 4, 0, 0), (1, 1, 0, 0), (2, 2, 0, 0), (3, 3, 0, 0)], [(37, 0, 0, 0), (7, 11, 57, 55), (66, 0, 0, 0)], [(37, 0, 0, 0), (7, 11, 60, 58), (66, 0, 0, 0)], [(37, 0, 0, 0), (7, 11, 63, 61), (66, 0, 0, 0)], [(37, 0, 0, 0), (7, 11, 13, 38), (7, 1, 1, 182), (37, 0, 0, 0), (7, 11, 54, 51), (30, 172, 2, 337), (37, 0, 0, 0), (7, 11, 54, 51), (66, 0, 0, 0)]]
def p42 : List Nat := [0, 28, 33, 38, 43]
def mt43 : MT := (⟨"WordFolderModel", "isIn", "(III)Z"⟩, prog_14_method_1_code, 3, some FieldType.boolean, 12, true)
def b43 : List (List Ai) := [[(2, 0, 0, 0), (2, 1, 0, 0), (54, 3, 1, 0)], [(2, 0, 0, 0), (2, 2, 0, 0), (56, 3, 2, 0)], [(0, 1, 0, 0), (51, 4, 0, 0)], [(0, 0, 0, 0), (50, 4, 0, 0)], [(65, 0, 0, 0)]]
def p43 : List Nat := [0, 5, 10, 14, 15]
def mt44 : MT := (⟨"WordFolderModel", "four", "(I)V"⟩, prog_14_method_2_code, 3, none, 12, false)
def b44 : List (List Ai) := [[(0, 24, 0, 0), (3, 2, 0, 0), (50, 1, 0, 0)], [(2, 2, 0, 0), (60, 3, 2, 0)], [(37, 0, 0, 0), (7, 12, 1, 1), (37, 0, 0, 0), (6, 12, 1, 7), (2, 1, 0, 0), (2, 2, 0, 0), (25, 0, 0, 0), (26, 0, 0, 0), (13, 0, 0, 0), (37, 0, 0, 0), (27, 0, 0, 0), (6, 12, 1, 7), (0, 1, 0, 0), (17, 0, 0, 0), (8, 12, 1, 7), (5, 2, 8, 0), (51, 1, 0, 0)], [(67, 0, 0, 0)]]
def p44 : List Nat := [0, 3, 7, 36]
def mt45 : MT := (⟨"WordFolderModel", "feed", "(IIIII)I"⟩, prog_14_method_3_code, 6, some FieldType.int, 12, false)
def b45 : List (List Ai) := [[(37, 0, 0, 0), (6, 12, 1, 7), (0, 20, 0, 0), (17, 0, 0, 0), (0, 800, 0, 0), (57, 2, 1, 0)], [(1, 1, 0, 0), (64, 0, 0, 0)], [(37, 0, 0, 0), (2, 1, 0, 0), (30, 44, 2, 11), (37, 0, 0, 0), (2, 2, 0, 0), (30, 44, 2, 11), (37, 0, 0, 0), (2, 3, 0, 0), (30, 44, 2, 11), (37, 0, 0, 0), (2, 4, 0, 0), (30, 44, 2, 11), (37, 0, 0, 0), (2, 5, 0, 0), (30, 44, 2, 11), (37, 0, 0, 0), (6, 12, 1, 7), (64, 0, 0, 0)]]
def p45 : List Nat := [0, 13, 15]
def mt46 : MT := (⟨"WordFolderModel", "end", "(I)I"⟩, prog_14_method_4_code, 2, some FieldType.int, 12, false)
def b46 : List (List Ai) := [[(2, 1, 0, 0), (0, 0, 0, 0), (37, 0, 0, 0), (6, 12, 1, 7), (31, 43, 3, 15), (59, 2, 1, 0)], [(1, 1, 0, 0), (64, 0, 0, 0)], [(37, 0, 0, 0), (2, 1, 0, 0), (8, 12, 1, 7), (2, 1, 0, 0), (64, 0, 0, 0)]]
def p46 : List Nat := [0, 12, 14]
def mt47 : MT := (⟨"WordFolderModel", "readWord", "()Z"⟩, prog_14_method_5_code, 4, some FieldType.boolean, 12, false)
def b47 : List (List Ai) := [[(37, 0, 0, 0), (6, 12, 1, 7), (3, 1, 0, 0), (37, 0, 0, 0), (0, 0, 0, 0), (8, 12, 1, 7), (37, 0, 0, 0), (2, 1, 0, 0), (8, 12, 3, 19), (37, 0, 0, 0), (0, 0, 0, 0), (8, 12, 4, 22), (2, 1, 0, 0), (0, 10, 0, 0), (57, 2, 1, 0)], [(0, 0, 0, 0), (65, 0, 0, 0)], [(0, 0, 0, 0), (3, 2, 0, 0), (50, 3, 0, 0)], [(2, 2, 0, 0), (2, 1, 0, 0), (55, 7, 4, 0)], [(37, 0, 0, 0), (7, 12, 1, 1), (2, 2, 0, 0), (11, 0, 0, 0), (0, 97, 0, 0), (18, 0, 0, 0), (3, 3, 0, 0), (2, 3, 0, 0), (0, 0, 0, 0), (37, 0, 0, 0), (6, 12, 2, 25), (0, 1, 0, 0), (18, 0, 0, 0), (31, 43, 3, 15), (59, 6, 5, 0)], [(0, 0, 0, 0), (65, 0, 0, 0)], [(37, 0, 0, 0), (0, 4, 0, 0), (37, 0, 0, 0), (6, 12, 4, 22), (19, 0, 0, 0), (2, 3, 0, 0), (17, 0, 0, 0), (8, 12, 4, 22), (4, 2, 1, 0), (51, 3, 0, 0)], [(0, 1, 0, 0), (65, 0, 0, 0)]]
def p47 : List Nat := [0, 26, 28, 30, 35, 59, 61, 79]
def mt48 : MT := (⟨"WordFolderModel", "letterAt", "(III)I"⟩, prog_14_method_6_code, 3, some FieldType.int, 12, true)
def b48 : List (List Ai) := [[(2, 1, 0, 0), (0, 2, 0, 0), (2, 0, 0, 0), (0, 1, 0, 0), (18, 0, 0, 0), (2, 2, 0, 0), (18, 0, 0, 0), (19, 0, 0, 0), (25, 0, 0, 0), (0, 3, 0, 0), (22, 0, 0, 0), (64, 0, 0, 0)]]
def p48 : List Nat := [0]
def mt49 : MT := (⟨"WordFolderModel", "isAhead", "(IIII)Z"⟩, prog_14_method_7_code, 4, some FieldType.boolean, 12, true)
def b49 : List (List Ai) := [[(2, 0, 0, 0), (2, 2, 0, 0), (54, 3, 1, 0)], [(2, 0, 0, 0), (2, 2, 0, 0), (53, 4, 2, 0)], [(2, 1, 0, 0), (2, 3, 0, 0), (55, 4, 3, 0)], [(0, 1, 0, 0), (51, 5, 0, 0)], [(0, 0, 0, 0), (50, 5, 0, 0)], [(65, 0, 0, 0)]]
def p49 : List Nat := [0, 5, 10, 15, 19, 20]
def mt50 : MT := (⟨"WordFolderModel", "placeOf", "(II)I"⟩, prog_14_method_8_code, 4, some FieldType.int, 12, false)
def b50 : List (List Ai) := [[(0, 0, 0, 0), (3, 3, 0, 0), (50, 1, 0, 0)], [(2, 3, 0, 0), (37, 0, 0, 0), (6, 12, 8, 28), (55, 4, 2, 0)], [(37, 0, 0, 0), (7, 12, 2, 31), (2, 3, 0, 0), (10, 0, 0, 0), (37, 0, 0, 0), (7, 12, 3, 35), (2, 3, 0, 0), (10, 0, 0, 0), (2, 1, 0, 0), (2, 2, 0, 0), (31, 49, 4, 38), (58, 4, 3, 0)], [(4, 3, 1, 0), (51, 1, 0, 0)], [(2, 3, 0, 0), (64, 0, 0, 0)]]
def p50 : List Nat := [0, 2, 10, 30, 36]
def mt51 : MT := (⟨"WordFolderModel", "isThere", "(III)Z"⟩, prog_14_method_9_code, 4, some FieldType.boolean, 12, false)
def b51 : List (List Ai) := [[(2, 1, 0, 0), (37, 0, 0, 0), (6, 12, 8, 28), (55, 4, 1, 0)], [(37, 0, 0, 0), (7, 12, 2, 31), (2, 1, 0, 0), (10, 0, 0, 0), (2, 2, 0, 0), (53, 4, 2, 0)], [(37, 0, 0, 0), (7, 12, 3, 35), (2, 1, 0, 0), (10, 0, 0, 0), (2, 3, 0, 0), (53, 4, 3, 0)], [(0, 1, 0, 0), (51, 5, 0, 0)], [(0, 0, 0, 0), (50, 5, 0, 0)], [(65, 0, 0, 0)]]
def p51 : List Nat := [0, 8, 18, 28, 32, 33]
def mt52 : MT := (⟨"WordFolderModel", "insert", "(IIIZ)V"⟩, prog_14_method_10_code, 6, none, 12, false)
def b52 : List (List Ai) := [[(37, 0, 0, 0), (6, 12, 8, 28), (3, 5, 0, 0), (50, 1, 0, 0)], [(2, 5, 0, 0), (2, 1, 0, 0), (57, 3, 2, 0)], [(37, 0, 0, 0), (2, 5, 0, 0), (0, 1, 0, 0), (18, 0, 0, 0), (2, 5, 0, 0), (30, 53, 3, 42), (5, 5, 1, 0), (51, 1, 0, 0)], [(37, 0, 0, 0), (7, 12, 2, 31), (2, 1, 0, 0), (2, 2, 0, 0), (12, 0, 0, 0), (37, 0, 0, 0), (7, 12, 3, 35), (2, 1, 0, 0), (2, 3, 0, 0), (12, 0, 0, 0), (37, 0, 0, 0), (7, 12, 4, 46), (2, 1, 0, 0), (2, 4, 0, 0), (14, 0, 0, 0), (37, 0, 0, 0), (27, 0, 0, 0), (6, 12, 8, 28), (0, 1, 0, 0), (17, 0, 0, 0), (8, 12, 8, 28), (67, 0, 0, 0)]]
def p52 : List Nat := [0, 6, 12, 28]
def mt53 : MT := (⟨"WordFolderModel", "move", "(II)V"⟩, prog_14_method_11_code, 3, none, 12, false)
def b53 : List (List Ai) := [[(37, 0, 0, 0), (7, 12, 2, 31), (2, 2, 0, 0), (37, 0, 0, 0), (7, 12, 2, 31), (2, 1, 0, 0), (10, 0, 0, 0), (12, 0, 0, 0), (37, 0, 0, 0), (7, 12, 3, 35), (2, 2, 0, 0), (37, 0, 0, 0), (7, 12, 3, 35), (2, 1, 0, 0), (10, 0, 0, 0), (12, 0, 0, 0), (37, 0, 0, 0), (7, 12, 4, 46), (2, 2, 0, 0), (37, 0, 0, 0), (7, 12, 4, 46), (2, 1, 0, 0), (15, 0, 0, 0), (14, 0, 0, 0), (67, 0, 0, 0)]]
def p53 : List Nat := [0]
def mt54 : MT := (⟨"WordFolderModel", "remove", "(I)V"⟩, prog_14_method_12_code, 3, none, 12, false)
def b54 : List (List Ai) := [[(37, 0, 0, 0), (27, 0, 0, 0), (6, 12, 8, 28), (0, 1, 0, 0), (18, 0, 0, 0), (8, 12, 8, 28), (2, 1, 0, 0), (3, 2, 0, 0), (50, 1, 0, 0)], [(2, 2, 0, 0), (37, 0, 0, 0), (6, 12, 8, 28), (55, 3, 2, 0)], [(37, 0, 0, 0), (2, 2, 0, 0), (0, 1, 0, 0), (17, 0, 0, 0), (2, 2, 0, 0), (30, 53, 3, 42), (4, 2, 1, 0), (51, 1, 0, 0)], [(67, 0, 0, 0)]]
def p54 : List Nat := [0, 12, 20, 34]
def mt55 : MT := (⟨"WordFolderModel", "nodeOf", "(II)I"⟩, prog_14_method_13_code, 4, some FieldType.int, 12, false)
def b55 : List (List Ai) := [[(0, 0, 0, 0), (3, 3, 0, 0), (50, 1, 0, 0)], [(2, 3, 0, 0), (37, 0, 0, 0), (6, 12, 14, 50), (55, 4, 2, 0)], [(37, 0, 0, 0), (7, 12, 5, 53), (2, 3, 0, 0), (10, 0, 0, 0), (37, 0, 0, 0), (7, 12, 6, 56), (2, 3, 0, 0), (10, 0, 0, 0), (2, 1, 0, 0), (2, 2, 0, 0), (31, 49, 4, 38), (58, 4, 3, 0)], [(4, 3, 1, 0), (51, 1, 0, 0)], [(2, 3, 0, 0), (64, 0, 0, 0)]]
def p55 : List Nat := [0, 2, 10, 30, 36]
def mt56 : MT := (⟨"WordFolderModel", "isNode", "(III)Z"⟩, prog_14_method_14_code, 4, some FieldType.boolean, 12, false)
def b56 : List (List Ai) := [[(2, 1, 0, 0), (37, 0, 0, 0), (6, 12, 14, 50), (55, 4, 1, 0)], [(37, 0, 0, 0), (7, 12, 5, 53), (2, 1, 0, 0), (10, 0, 0, 0), (2, 2, 0, 0), (53, 4, 2, 0)], [(37, 0, 0, 0), (7, 12, 6, 56), (2, 1, 0, 0), (10, 0, 0, 0), (2, 3, 0, 0), (53, 4, 3, 0)], [(0, 1, 0, 0), (51, 5, 0, 0)], [(0, 0, 0, 0), (50, 5, 0, 0)], [(65, 0, 0, 0)]]
def p56 : List Nat := [0, 8, 18, 28, 32, 33]
def mt57 : MT := (⟨"WordFolderModel", "addNode", "(II)V"⟩, prog_14_method_15_code, 5, none, 12, false)
def b57 : List (List Ai) := [[(37, 0, 0, 0), (2, 1, 0, 0), (2, 2, 0, 0), (31, 55, 3, 59), (3, 3, 0, 0), (37, 0, 0, 0), (2, 3, 0, 0), (2, 1, 0, 0), (2, 2, 0, 0), (31, 56, 4, 63), (58, 2, 1, 0)], [(67, 0, 0, 0)], [(37, 0, 0, 0), (6, 12, 14, 50), (3, 4, 0, 0), (50, 3, 0, 0)], [(2, 4, 0, 0), (2, 3, 0, 0), (57, 5, 4, 0)], [(37, 0, 0, 0), (7, 12, 5, 53), (2, 4, 0, 0), (37, 0, 0, 0), (7, 12, 5, 53), (2, 4, 0, 0), (0, 1, 0, 0), (18, 0, 0, 0), (10, 0, 0, 0), (12, 0, 0, 0), (37, 0, 0, 0), (7, 12, 6, 56), (2, 4, 0, 0), (37, 0, 0, 0), (7, 12, 6, 56), (2, 4, 0, 0), (0, 1, 0, 0), (18, 0, 0, 0), (10, 0, 0, 0), (12, 0, 0, 0), (5, 4, 1, 0), (51, 3, 0, 0)], [(37, 0, 0, 0), (7, 12, 5, 53), (2, 3, 0, 0), (2, 1, 0, 0), (12, 0, 0, 0), (37, 0, 0, 0), (7, 12, 6, 56), (2, 3, 0, 0), (2, 2, 0, 0), (12, 0, 0, 0), (37, 0, 0, 0), (27, 0, 0, 0), (6, 12, 14, 50), (0, 1, 0, 0), (17, 0, 0, 0), (8, 12, 14, 50), (67, 0, 0, 0)]]
def p57 : List Nat := [0, 17, 18, 24, 30, 68]
def mt58 : MT := (⟨"WordFolderModel", "moreNodes", "(II)I"⟩, prog_14_method_16_code, 5, some FieldType.int, 12, false)
def b58 : List (List Ai) := [[(0, 0, 0, 0), (3, 3, 0, 0), (0, 0, 0, 0), (3, 4, 0, 0), (50, 1, 0, 0)], [(2, 4, 0, 0), (2, 1, 0, 0), (56, 6, 2, 0)], [(2, 3, 0, 0), (37, 0, 0, 0), (37, 0, 0, 0), (2, 4, 0, 0), (2, 2, 0, 0), (0, 2, 0, 0), (2, 1, 0, 0), (2, 4, 0, 0), (18, 0, 0, 0), (19, 0, 0, 0), (25, 0, 0, 0), (31, 55, 3, 59), (2, 4, 0, 0), (2, 2, 0, 0), (0, 2, 0, 0), (2, 1, 0, 0), (2, 4, 0, 0), (18, 0, 0, 0), (19, 0, 0, 0), (25, 0, 0, 0), (31, 56, 4, 63), (58, 4, 3, 0)], [(0, 0, 0, 0), (51, 5, 0, 0)], [(0, 1, 0, 0), (50, 5, 0, 0)], [(17, 0, 0, 0), (3, 3, 0, 0), (4, 4, 1, 0), (51, 1, 0, 0)], [(2, 3, 0, 0), (64, 0, 0, 0)]]
def p58 : List Nat := [0, 5, 11, 43, 47, 48, 56]
def mt59 : MT := (⟨"WordFolderModel", "layTree", "()V"⟩, prog_14_method_17_code, 3, none, 12, false)
def b59 : List (List Ai) := [[(37, 0, 0, 0), (0, 0, 0, 0), (8, 12, 14, 50), (37, 0, 0, 0), (0, 0, 0, 0), (0, 0, 0, 0), (30, 57, 3, 66), (0, 0, 0, 0), (3, 1, 0, 0), (50, 1, 0, 0)], [(2, 1, 0, 0), (37, 0, 0, 0), (6, 12, 8, 28), (55, 6, 2, 0)], [(0, 1, 0, 0), (3, 2, 0, 0), (50, 3, 0, 0)], [(2, 2, 0, 0), (37, 0, 0, 0), (7, 12, 2, 31), (2, 1, 0, 0), (10, 0, 0, 0), (56, 5, 4, 0)], [(37, 0, 0, 0), (2, 2, 0, 0), (37, 0, 0, 0), (7, 12, 3, 35), (2, 1, 0, 0), (10, 0, 0, 0), (0, 2, 0, 0), (37, 0, 0, 0), (7, 12, 2, 31), (2, 1, 0, 0), (10, 0, 0, 0), (2, 2, 0, 0), (18, 0, 0, 0), (19, 0, 0, 0), (25, 0, 0, 0), (30, 57, 3, 66), (4, 2, 1, 0), (51, 3, 0, 0)], [(4, 1, 1, 0), (51, 1, 0, 0)], [(0, 0, 0, 0), (3, 1, 0, 0), (50, 7, 0, 0)], [(2, 1, 0, 0), (37, 0, 0, 0), (6, 12, 14, 50), (55, 9, 8, 0)], [(37, 0, 0, 0), (7, 12, 7, 69), (2, 1, 0, 0), (0, 0, 0, 0), (12, 0, 0, 0), (4, 1, 1, 0), (51, 7, 0, 0)], [(0, 0, 0, 0), (3, 1, 0, 0), (50, 10, 0, 0)], [(2, 1, 0, 0), (0, 4, 0, 0), (37, 0, 0, 0), (6, 12, 14, 50), (19, 0, 0, 0), (55, 12, 11, 0)], [(37, 0, 0, 0), (7, 12, 9, 72), (2, 1, 0, 0), (1, 1, 0, 0), (12, 0, 0, 0), (4, 1, 1, 0), (51, 10, 0, 0)], [(37, 0, 0, 0), (7, 12, 8, 75), (0, 0, 0, 0), (1, 1, 0, 0), (12, 0, 0, 0), (0, 1, 0, 0), (3, 1, 0, 0), (50, 13, 0, 0)], [(2, 1, 0, 0), (37, 0, 0, 0), (6, 12, 14, 50), (55, 15, 14, 0)], [(37, 0, 0, 0), (7, 12, 8, 75), (2, 1, 0, 0), (37, 0, 0, 0), (37, 0, 0, 0), (7, 12, 5, 53), (2, 1, 0, 0), (10, 0, 0, 0), (0, 1, 0, 0), (18, 0, 0, 0), (37, 0, 0, 0), (7, 12, 6, 56), (2, 1, 0, 0), (10, 0, 0, 0), (0, 2, 0, 0), (25, 0, 0, 0), (31, 55, 3, 59), (12, 0, 0, 0), (37, 0, 0, 0), (7, 12, 9, 72), (0, 4, 0, 0), (37, 0, 0, 0), (7, 12, 8, 75), (2, 1, 0, 0), (10, 0, 0, 0), (19, 0, 0, 0), (37, 0, 0, 0), (7, 12, 6, 56), (2, 1, 0, 0), (10, 0, 0, 0), (0, 3, 0, 0), (22, 0, 0, 0), (17, 0, 0, 0), (2, 1, 0, 0), (12, 0, 0, 0), (4, 1, 1, 0), (51, 13, 0, 0)], [(0, 0, 0, 0), (3, 1, 0, 0), (50, 16, 0, 0)], [(2, 1, 0, 0), (37, 0, 0, 0), (6, 12, 8, 28), (55, 21, 17, 0)], [(37, 0, 0, 0), (7, 12, 7, 69), (37, 0, 0, 0), (37, 0, 0, 0), (7, 12, 2, 31), (2, 1, 0, 0), (10, 0, 0, 0), (37, 0, 0, 0), (7, 12, 3, 35), (2, 1, 0, 0), (10, 0, 0, 0), (31, 55, 3, 59), (37, 0, 0, 0), (7, 12, 4, 46), (2, 1, 0, 0), (15, 0, 0, 0), (58, 19, 18, 0)], [(0, 1, 0, 0), (51, 20, 0, 0)], [(0, 2, 0, 0), (50, 20, 0, 0)], [(12, 0, 0, 0), (4, 1, 1, 0), (51, 16, 0, 0)], [(37, 0, 0, 0), (30, 60, 1, 78), (67, 0, 0, 0)]]
def p59 : List Nat := [0, 13, 21, 23, 33, 61, 67, 69, 77, 90, 92, 102, 115, 124, 132, 187, 189, 197, 226, 230, 231, 238]
def mt60 : MT := (⟨"WordFolderModel", "layStates", "()V"⟩, prog_14_method_18_code, 2, none, 12, false)
def b60 : List (List Ai) := [[(0, 0, 0, 0), (3, 1, 0, 0), (50, 1, 0, 0)], [(2, 1, 0, 0), (37, 0, 0, 0), (6, 12, 14, 50), (55, 6, 2, 0)], [(37, 0, 0, 0), (7, 12, 10, 82), (2, 1, 0, 0), (1, 1, 0, 0), (12, 0, 0, 0), (37, 0, 0, 0), (7, 12, 11, 85), (2, 1, 0, 0), (37, 0, 0, 0), (7, 12, 7, 69), (2, 1, 0, 0), (10, 0, 0, 0), (12, 0, 0, 0), (37, 0, 0, 0), (7, 12, 12, 88), (2, 1, 0, 0), (2, 1, 0, 0), (59, 4, 3, 0)], [(0, 1, 0, 0), (51, 5, 0, 0)], [(0, 0, 0, 0), (50, 5, 0, 0)], [(14, 0, 0, 0), (4, 1, 1, 0), (51, 1, 0, 0)], [(0, 0, 0, 0), (3, 1, 0, 0), (50, 7, 0, 0)], [(2, 1, 0, 0), (0, 4, 0, 0), (37, 0, 0, 0), (6, 12, 14, 50), (19, 0, 0, 0), (55, 9, 8, 0)], [(37, 0, 0, 0), (7, 12, 13, 91), (2, 1, 0, 0), (37, 0, 0, 0), (7, 12, 9, 72), (2, 1, 0, 0), (10, 0, 0, 0), (12, 0, 0, 0), (4, 1, 1, 0), (51, 7, 0, 0)], [(37, 0, 0, 0), (37, 0, 0, 0), (6, 12, 14, 50), (8, 12, 19, 94), (37, 0, 0, 0), (0, 0, 0, 0), (8, 12, 24, 97), (67, 0, 0, 0)]]
def p60 : List Nat := [0, 2, 10, 38, 42, 43, 50, 52, 62, 80]
def mt61 : MT := (⟨"WordFolderModel", "nameOf", "(I)I"⟩, prog_14_method_19_code, 3, some FieldType.int, 12, false)
def b61 : List (List Ai) := [[(2, 1, 0, 0), (3, 2, 0, 0), (50, 1, 0, 0)], [(37, 0, 0, 0), (7, 12, 10, 82), (2, 2, 0, 0), (10, 0, 0, 0), (1, 1, 0, 0), (52, 3, 2, 0)], [(37, 0, 0, 0), (7, 12, 10, 82), (2, 2, 0, 0), (10, 0, 0, 0), (3, 2, 0, 0), (51, 1, 0, 0)], [(2, 2, 0, 0), (64, 0, 0, 0)]]
def p61 : List Nat := [0, 2, 12, 22]
def mt62 : MT := (⟨"WordFolderModel", "isName", "(I)Z"⟩, prog_14_method_20_code, 2, some FieldType.boolean, 12, false)
def b62 : List (List Ai) := [[(2, 1, 0, 0), (0, 0, 0, 0), (37, 0, 0, 0), (6, 12, 14, 50), (0, 1, 0, 0), (18, 0, 0, 0), (31, 43, 3, 15), (58, 3, 1, 0)], [(37, 0, 0, 0), (7, 12, 10, 82), (2, 1, 0, 0), (10, 0, 0, 0), (1, 1, 0, 0), (53, 3, 2, 0)], [(0, 1, 0, 0), (51, 4, 0, 0)], [(0, 0, 0, 0), (50, 4, 0, 0)], [(65, 0, 0, 0)]]
def p62 : List Nat := [0, 14, 24, 28, 29]
def mt63 : MT := (⟨"WordFolderModel", "pair", "(II)V"⟩, prog_14_method_21_code, 3, none, 12, false)
def b63 : List (List Ai) := [[(37, 0, 0, 0), (7, 12, 18, 100), (37, 0, 0, 0), (6, 12, 27, 103), (2, 1, 0, 0), (12, 0, 0, 0), (37, 0, 0, 0), (7, 12, 18, 100), (37, 0, 0, 0), (6, 12, 27, 103), (0, 1, 0, 0), (17, 0, 0, 0), (2, 2, 0, 0), (12, 0, 0, 0), (37, 0, 0, 0), (27, 0, 0, 0), (6, 12, 27, 103), (0, 2, 0, 0), (17, 0, 0, 0), (8, 12, 27, 103), (67, 0, 0, 0)]]
def p63 : List Nat := [0]
def mt64 : MT := (⟨"WordFolderModel", "tieNow", "(II)V"⟩, prog_14_method_22_code, 7, none, 12, false)
def b64 : List (List Ai) := [[(37, 0, 0, 0), (6, 12, 24, 97), (3, 3, 0, 0), (37, 0, 0, 0), (7, 12, 14, 106), (2, 3, 0, 0), (2, 2, 0, 0), (12, 0, 0, 0), (37, 0, 0, 0), (7, 12, 15, 109), (2, 3, 0, 0), (37, 0, 0, 0), (7, 12, 11, 85), (2, 1, 0, 0), (10, 0, 0, 0), (12, 0, 0, 0), (37, 0, 0, 0), (7, 12, 16, 112), (2, 3, 0, 0), (37, 0, 0, 0), (7, 12, 12, 88), (2, 1, 0, 0), (15, 0, 0, 0), (14, 0, 0, 0), (0, 0, 0, 0), (3, 4, 0, 0), (50, 1, 0, 0)], [(2, 4, 0, 0), (37, 0, 0, 0), (6, 12, 2, 25), (55, 7, 2, 0)], [(37, 0, 0, 0), (7, 12, 17, 115), (0, 4, 0, 0), (2, 3, 0, 0), (19, 0, 0, 0), (2, 4, 0, 0), (17, 0, 0, 0), (37, 0, 0, 0), (7, 12, 13, 91), (0, 4, 0, 0), (2, 1, 0, 0), (19, 0, 0, 0), (2, 4, 0, 0), (17, 0, 0, 0), (10, 0, 0, 0), (12, 0, 0, 0), (37, 0, 0, 0), (7, 12, 13, 91), (0, 4, 0, 0), (2, 1, 0, 0), (19, 0, 0, 0), (2, 4, 0, 0), (17, 0, 0, 0), (10, 0, 0, 0), (3, 5, 0, 0), (37, 0, 0, 0), (7, 12, 13, 91), (0, 4, 0, 0), (2, 2, 0, 0), (19, 0, 0, 0), (2, 4, 0, 0), (17, 0, 0, 0), (10, 0, 0, 0), (3, 6, 0, 0), (2, 5, 0, 0), (1, 1, 0, 0), (53, 4, 3, 0)], [(37, 0, 0, 0), (7, 12, 13, 91), (0, 4, 0, 0), (2, 1, 0, 0), (19, 0, 0, 0), (2, 4, 0, 0), (17, 0, 0, 0), (2, 6, 0, 0), (12, 0, 0, 0), (51, 6, 0, 0)], [(2, 6, 0, 0), (1, 1, 0, 0), (52, 6, 5, 0)], [(37, 0, 0, 0), (2, 5, 0, 0), (2, 6, 0, 0), (30, 63, 3, 118), (50, 6, 0, 0)], [(4, 4, 1, 0), (51, 1, 0, 0)], [(37, 0, 0, 0), (27, 0, 0, 0), (6, 12, 24, 97), (0, 1, 0, 0), (17, 0, 0, 0), (8, 12, 24, 97), (37, 0, 0, 0), (7, 12, 10, 82), (2, 2, 0, 0), (2, 1, 0, 0), (12, 0, 0, 0), (37, 0, 0, 0), (27, 0, 0, 0), (6, 12, 25, 121), (37, 0, 0, 0), (7, 12, 11, 85), (2, 1, 0, 0), (10, 0, 0, 0), (58, 10, 8, 0)], [(37, 0, 0, 0), (7, 12, 11, 85), (2, 2, 0, 0), (10, 0, 0, 0), (58, 10, 9, 0)], [(0, 1, 0, 0), (51, 11, 0, 0)], [(0, 0, 0, 0), (50, 11, 0, 0)], [(17, 0, 0, 0), (8, 12, 25, 121), (37, 0, 0, 0), (7, 12, 11, 85), (2, 1, 0, 0), (37, 0, 0, 0), (7, 12, 11, 85), (2, 1, 0, 0), (10, 0, 0, 0), (59, 13, 12, 0)], [(37, 0, 0, 0), (7, 12, 11, 85), (2, 2, 0, 0), (10, 0, 0, 0), (51, 14, 0, 0)], [(37, 0, 0, 0), (7, 12, 11, 85), (2, 1, 0, 0), (10, 0, 0, 0), (50, 14, 0, 0)], [(12, 0, 0, 0), (37, 0, 0, 0), (7, 12, 12, 88), (2, 1, 0, 0), (37, 0, 0, 0), (7, 12, 12, 88), (2, 1, 0, 0), (15, 0, 0, 0), (59, 16, 15, 0)], [(37, 0, 0, 0), (7, 12, 12, 88), (2, 2, 0, 0), (15, 0, 0, 0), (58, 17, 16, 0)], [(0, 1, 0, 0), (51, 18, 0, 0)], [(0, 0, 0, 0), (50, 18, 0, 0)], [(14, 0, 0, 0), (37, 0, 0, 0), (27, 0, 0, 0), (6, 12, 19, 94), (0, 1, 0, 0), (18, 0, 0, 0), (8, 12, 19, 94), (67, 0, 0, 0)]]
def p64 : List Nat := [0, 39, 48, 102, 118, 124, 132, 138, 169, 178, 182, 183, 201, 210, 216, 231, 240, 244, 245]
def mt65 : MT := (⟨"WordFolderModel", "untie", "(I)V"⟩, prog_14_method_23_code, 5, none, 12, false)
def b65 : List (List Ai) := [[(37, 0, 0, 0), (6, 12, 24, 97), (2, 1, 0, 0), (57, 5, 1, 0)], [(37, 0, 0, 0), (27, 0, 0, 0), (6, 12, 24, 97), (0, 1, 0, 0), (18, 0, 0, 0), (8, 12, 24, 97), (37, 0, 0, 0), (7, 12, 14, 106), (37, 0, 0, 0), (6, 12, 24, 97), (10, 0, 0, 0), (3, 2, 0, 0), (37, 0, 0, 0), (7, 12, 10, 82), (2, 2, 0, 0), (10, 0, 0, 0), (3, 3, 0, 0), (37, 0, 0, 0), (7, 12, 10, 82), (2, 2, 0, 0), (1, 1, 0, 0), (12, 0, 0, 0), (37, 0, 0, 0), (7, 12, 11, 85), (2, 3, 0, 0), (37, 0, 0, 0), (7, 12, 15, 109), (37, 0, 0, 0), (6, 12, 24, 97), (10, 0, 0, 0), (12, 0, 0, 0), (37, 0, 0, 0), (7, 12, 12, 88), (2, 3, 0, 0), (37, 0, 0, 0), (7, 12, 16, 112), (37, 0, 0, 0), (6, 12, 24, 97), (15, 0, 0, 0), (14, 0, 0, 0), (0, 0, 0, 0), (3, 4, 0, 0), (50, 2, 0, 0)], [(2, 4, 0, 0), (37, 0, 0, 0), (6, 12, 2, 25), (55, 4, 3, 0)], [(37, 0, 0, 0), (7, 12, 13, 91), (0, 4, 0, 0), (2, 3, 0, 0), (19, 0, 0, 0), (2, 4, 0, 0), (17, 0, 0, 0), (37, 0, 0, 0), (7, 12, 17, 115), (0, 4, 0, 0), (37, 0, 0, 0), (6, 12, 24, 97), (19, 0, 0, 0), (2, 4, 0, 0), (17, 0, 0, 0), (10, 0, 0, 0), (12, 0, 0, 0), (4, 4, 1, 0), (51, 2, 0, 0)], [(37, 0, 0, 0), (27, 0, 0, 0), (6, 12, 19, 94), (0, 1, 0, 0), (17, 0, 0, 0), (8, 12, 19, 94), (51, 0, 0, 0)], [(67, 0, 0, 0)]]
def p65 : List Nat := [0, 8, 75, 84, 115, 128]
def mt66 : MT := (⟨"WordFolderModel", "merges", "(II)Z"⟩, prog_14_method_24_code, 8, some FieldType.boolean, 12, false)
def b66 : List (List Ai) := [[(37, 0, 0, 0), (6, 12, 24, 97), (3, 3, 0, 0), (37, 0, 0, 0), (0, 0, 0, 0), (8, 12, 25, 121), (37, 0, 0, 0), (0, 0, 0, 0), (8, 12, 27, 103), (37, 0, 0, 0), (2, 1, 0, 0), (2, 2, 0, 0), (30, 63, 3, 118), (50, 1, 0, 0)], [(37, 0, 0, 0), (6, 12, 27, 103), (63, 15, 2, 0)], [(37, 0, 0, 0), (27, 0, 0, 0), (6, 12, 27, 103), (0, 2, 0, 0), (18, 0, 0, 0), (8, 12, 27, 103), (37, 0, 0, 0), (37, 0, 0, 0), (7, 12, 18, 100), (37, 0, 0, 0), (6, 12, 27, 103), (10, 0, 0, 0), (31, 61, 2, 124), (3, 4, 0, 0), (37, 0, 0, 0), (37, 0, 0, 0), (7, 12, 18, 100), (37, 0, 0, 0), (6, 12, 27, 103), (0, 1, 0, 0), (17, 0, 0, 0), (10, 0, 0, 0), (31, 61, 2, 124), (3, 5, 0, 0), (2, 4, 0, 0), (2, 5, 0, 0), (53, 4, 3, 0)], [(51, 1, 0, 0)], [(2, 4, 0, 0), (2, 5, 0, 0), (55, 6, 5, 0)], [(2, 4, 0, 0), (51, 7, 0, 0)], [(2, 5, 0, 0), (50, 7, 0, 0)], [(3, 6, 0, 0), (2, 4, 0, 0), (2, 5, 0, 0), (55, 9, 8, 0)], [(2, 5, 0, 0), (51, 10, 0, 0)], [(2, 4, 0, 0), (50, 10, 0, 0)], [(3, 7, 0, 0), (37, 0, 0, 0), (7, 12, 11, 85), (2, 6, 0, 0), (10, 0, 0, 0), (37, 0, 0, 0), (7, 12, 11, 85), (2, 7, 0, 0), (10, 0, 0, 0), (17, 0, 0, 0), (0, 3, 0, 0), (53, 14, 11, 0)], [(37, 0, 0, 0), (7, 12, 11, 85), (2, 6, 0, 0), (10, 0, 0, 0), (58, 14, 12, 0)], [(37, 0, 0, 0), (7, 12, 11, 85), (2, 7, 0, 0), (10, 0, 0, 0), (58, 14, 13, 0)], [(37, 0, 0, 0), (2, 3, 0, 0), (30, 65, 2, 128), (0, 0, 0, 0), (65, 0, 0, 0)], [(37, 0, 0, 0), (2, 6, 0, 0), (2, 7, 0, 0), (30, 64, 3, 131), (51, 1, 0, 0)], [(0, 1, 0, 0), (65, 0, 0, 0)]]
def p66 : List Nat := [0, 21, 28, 77, 80, 87, 92, 94, 103, 108, 110, 131, 141, 151, 158, 169]
def mt67 : MT := (⟨"WordFolderModel", "scoreOf", "(III)I"⟩, prog_14_method_25_code, 7, some FieldType.int, 12, false)
def b67 : List (List Ai) := [[(37, 0, 0, 0), (6, 12, 24, 97), (3, 4, 0, 0), (37, 0, 0, 0), (6, 12, 19, 94), (3, 5, 0, 0), (37, 0, 0, 0), (2, 2, 0, 0), (2, 3, 0, 0), (31, 66, 3, 134), (59, 2, 1, 0)], [(1, 1, 0, 0), (64, 0, 0, 0)], [(2, 1, 0, 0), (59, 4, 3, 0)], [(0, 0, 0, 0), (51, 7, 0, 0)], [(2, 1, 0, 0), (0, 1, 0, 0), (53, 6, 5, 0)], [(37, 0, 0, 0), (6, 12, 25, 121), (51, 7, 0, 0)], [(2, 5, 0, 0), (37, 0, 0, 0), (6, 12, 19, 94), (18, 0, 0, 0), (50, 7, 0, 0)], [(3, 6, 0, 0), (37, 0, 0, 0), (2, 4, 0, 0), (30, 65, 2, 128), (2, 6, 0, 0), (64, 0, 0, 0)]]
def p67 : List Nat := [0, 21, 23, 27, 31, 36, 43, 50]
def mt68 : MT := (⟨"WordFolderModel", "isBlue", "(I)Z"⟩, prog_14_method_26_code, 4, some FieldType.boolean, 12, false)
def b68 : List (List Ai) := [[(37, 0, 0, 0), (2, 1, 0, 0), (31, 62, 2, 138), (58, 2, 1, 0)], [(37, 0, 0, 0), (7, 12, 12, 88), (2, 1, 0, 0), (15, 0, 0, 0), (58, 3, 2, 0)], [(0, 0, 0, 0), (65, 0, 0, 0)], [(0, 0, 0, 0), (3, 2, 0, 0), (50, 4, 0, 0)], [(2, 2, 0, 0), (37, 0, 0, 0), (6, 12, 14, 50), (55, 15, 5, 0)], [(37, 0, 0, 0), (2, 2, 0, 0), (31, 62, 2, 138), (58, 14, 6, 0)], [(37, 0, 0, 0), (7, 12, 12, 88), (2, 2, 0, 0), (15, 0, 0, 0), (59, 8, 7, 0)], [(51, 14, 0, 0)], [(0, 0, 0, 0), (3, 3, 0, 0), (50, 9, 0, 0)], [(2, 3, 0, 0), (37, 0, 0, 0), (6, 12, 2, 25), (55, 14, 10, 0)], [(37, 0, 0, 0), (7, 12, 13, 91), (0, 4, 0, 0), (2, 2, 0, 0), (19, 0, 0, 0), (2, 3, 0, 0), (17, 0, 0, 0), (10, 0, 0, 0), (1, 1, 0, 0), (52, 13, 11, 0)], [(37, 0, 0, 0), (37, 0, 0, 0), (7, 12, 13, 91), (0, 4, 0, 0), (2, 2, 0, 0), (19, 0, 0, 0), (2, 3, 0, 0), (17, 0, 0, 0), (10, 0, 0, 0), (31, 61, 2, 124), (2, 1, 0, 0), (53, 13, 12, 0)], [(0, 1, 0, 0), (65, 0, 0, 0)], [(4, 3, 1, 0), (51, 9, 0, 0)], [(4, 2, 1, 0), (51, 4, 0, 0)], [(0, 0, 0, 0), (65, 0, 0, 0)]]
def p68 : List Nat := [0, 8, 17, 19, 21, 29, 37, 46, 49, 51, 59, 73, 91, 93, 99, 105]
def mt69 : MT := (⟨"WordFolderModel", "leastBlue", "(I)I"⟩, prog_14_method_27_code, 3, some FieldType.int, 12, false)
def b69 : List (List Ai) := [[(2, 1, 0, 0), (3, 2, 0, 0), (50, 1, 0, 0)], [(2, 2, 0, 0), (37, 0, 0, 0), (6, 12, 14, 50), (55, 5, 2, 0)], [(37, 0, 0, 0), (2, 2, 0, 0), (31, 68, 2, 142), (58, 4, 3, 0)], [(2, 2, 0, 0), (64, 0, 0, 0)], [(4, 2, 1, 0), (51, 1, 0, 0)], [(1, 1, 0, 0), (64, 0, 0, 0)]]
def p69 : List Nat := [0, 2, 10, 18, 20, 26]
def mt70 : MT := (⟨"WordFolderModel", "write", "(IIII)V"⟩, prog_14_method_28_code, 5, none, 12, false)
def b70 : List (List Ai) := [[(37, 0, 0, 0), (7, 12, 19, 145), (0, 4, 0, 0), (37, 0, 0, 0), (6, 12, 29, 148), (19, 0, 0, 0), (2, 1, 0, 0), (12, 0, 0, 0), (37, 0, 0, 0), (7, 12, 19, 145), (0, 4, 0, 0), (37, 0, 0, 0), (6, 12, 29, 148), (19, 0, 0, 0), (0, 1, 0, 0), (17, 0, 0, 0), (2, 2, 0, 0), (12, 0, 0, 0), (37, 0, 0, 0), (7, 12, 19, 145), (0, 4, 0, 0), (37, 0, 0, 0), (6, 12, 29, 148), (19, 0, 0, 0), (0, 2, 0, 0), (17, 0, 0, 0), (2, 3, 0, 0), (12, 0, 0, 0), (37, 0, 0, 0), (7, 12, 19, 145), (0, 4, 0, 0), (37, 0, 0, 0), (6, 12, 29, 148), (19, 0, 0, 0), (0, 3, 0, 0), (17, 0, 0, 0), (2, 4, 0, 0), (12, 0, 0, 0), (37, 0, 0, 0), (27, 0, 0, 0), (6, 12, 29, 148), (0, 1, 0, 0), (17, 0, 0, 0), (8, 12, 29, 148), (67, 0, 0, 0)]]
def p70 : List Nat := [0]
def mt71 : MT := (⟨"WordFolderModel", "mergeNow", "(III)I"⟩, prog_14_method_29_code, 5, some FieldType.int, 12, false)
def b71 : List (List Ai) := [[(37, 0, 0, 0), (2, 1, 0, 0), (2, 2, 0, 0), (31, 66, 3, 134), (3, 4, 0, 0), (37, 0, 0, 0), (0, 1, 0, 0), (2, 1, 0, 0), (2, 2, 0, 0), (2, 3, 0, 0), (30, 70, 5, 151), (37, 0, 0, 0), (6, 12, 19, 94), (64, 0, 0, 0)]]
def p71 : List Nat := [0]
def mt72 : MT := (⟨"WordFolderModel", "redden", "(I)I"⟩, prog_14_method_30_code, 2, some FieldType.int, 12, false)
def b72 : List (List Ai) := [[(37, 0, 0, 0), (7, 12, 12, 88), (2, 1, 0, 0), (0, 1, 0, 0), (14, 0, 0, 0), (37, 0, 0, 0), (0, 0, 0, 0), (2, 1, 0, 0), (1, 1, 0, 0), (0, 0, 0, 0), (30, 70, 5, 151), (37, 0, 0, 0), (6, 12, 19, 94), (64, 0, 0, 0)]]
def p72 : List Nat := [0]
def mt73 : MT := (⟨"WordFolderModel", "stepFirst", "()I"⟩, prog_14_method_31_code, 3, some FieldType.int, 12, false)
def b73 : List (List Ai) := [[(37, 0, 0, 0), (0, 0, 0, 0), (31, 69, 2, 155), (3, 1, 0, 0), (0, 0, 0, 0), (3, 2, 0, 0), (50, 1, 0, 0)], [(2, 2, 0, 0), (37, 0, 0, 0), (6, 12, 14, 50), (55, 7, 2, 0)], [(37, 0, 0, 0), (2, 2, 0, 0), (31, 62, 2, 138), (58, 6, 3, 0)], [(37, 0, 0, 0), (7, 12, 12, 88), (2, 2, 0, 0), (15, 0, 0, 0), (58, 6, 4, 0)], [(37, 0, 0, 0), (0, 0, 0, 0), (2, 1, 0, 0), (2, 2, 0, 0), (31, 67, 4, 158), (1, 1, 0, 0), (52, 6, 5, 0)], [(37, 0, 0, 0), (2, 1, 0, 0), (2, 2, 0, 0), (0, 0, 0, 0), (31, 71, 4, 162), (64, 0, 0, 0)], [(4, 2, 1, 0), (51, 1, 0, 0)], [(37, 0, 0, 0), (2, 1, 0, 0), (31, 72, 2, 165), (64, 0, 0, 0)]]
def p73 : List Nat := [0, 8, 16, 24, 33, 44, 52, 58]
def mt74 : MT := (⟨"WordFolderModel", "stepBest", "(I)I"⟩, prog_14_method_32_code, 10, some FieldType.int, 12, false)
def b74 : List (List Ai) := [[(1, 1, 0, 0), (3, 2, 0, 0), (1, 1, 0, 0), (3, 3, 0, 0), (1, 1, 0, 0), (3, 4, 0, 0), (37, 0, 0, 0), (0, 0, 0, 0), (31, 69, 2, 155), (3, 5, 0, 0), (50, 1, 0, 0)], [(2, 5, 0, 0), (1, 1, 0, 0), (52, 18, 2, 0)], [(1, 1, 0, 0), (3, 6, 0, 0), (1, 1, 0, 0), (3, 7, 0, 0), (0, 0, 0, 0), (3, 8, 0, 0), (50, 3, 0, 0)], [(2, 8, 0, 0), (37, 0, 0, 0), (6, 12, 14, 50), (55, 12, 4, 0)], [(37, 0, 0, 0), (2, 8, 0, 0), (31, 62, 2, 138), (58, 7, 5, 0)], [(37, 0, 0, 0), (7, 12, 12, 88), (2, 8, 0, 0), (15, 0, 0, 0), (58, 7, 6, 0)], [(37, 0, 0, 0), (2, 1, 0, 0), (2, 5, 0, 0), (2, 8, 0, 0), (31, 67, 4, 158), (51, 8, 0, 0)], [(1, 1, 0, 0), (50, 8, 0, 0)], [(3, 9, 0, 0), (2, 9, 0, 0), (2, 6, 0, 0), (56, 10, 9, 0)], [(51, 11, 0, 0)], [(2, 9, 0, 0), (3, 6, 0, 0), (2, 8, 0, 0), (3, 7, 0, 0), (50, 11, 0, 0)], [(4, 8, 1, 0), (51, 3, 0, 0)], [(2, 6, 0, 0), (1, 1, 0, 0), (53, 14, 13, 0)], [(37, 0, 0, 0), (2, 5, 0, 0), (31, 72, 2, 165), (64, 0, 0, 0)], [(2, 6, 0, 0), (2, 2, 0, 0), (56, 16, 15, 0)], [(51, 17, 0, 0)], [(2, 6, 0, 0), (3, 2, 0, 0), (2, 5, 0, 0), (3, 3, 0, 0), (2, 7, 0, 0), (3, 4, 0, 0), (50, 17, 0, 0)], [(37, 0, 0, 0), (2, 5, 0, 0), (0, 1, 0, 0), (17, 0, 0, 0), (31, 69, 2, 155), (3, 5, 0, 0), (51, 1, 0, 0)], [(37, 0, 0, 0), (2, 3, 0, 0), (2, 4, 0, 0), (2, 2, 0, 0), (31, 71, 4, 162), (64, 0, 0, 0)]]
def p74 : List Nat := [0, 14, 20, 29, 38, 47, 57, 69, 70, 79, 82, 90, 96, 102, 109, 115, 118, 128, 141]
def mt75 : MT := (⟨"WordFolderModel", "stepNow", "(I)I"⟩, prog_14_method_33_code, 2, some FieldType.int, 12, false)
def b75 : List (List Ai) := [[(2, 1, 0, 0), (59, 2, 1, 0)], [(37, 0, 0, 0), (31, 73, 1, 168), (51, 3, 0, 0)], [(37, 0, 0, 0), (2, 1, 0, 0), (31, 74, 2, 172), (50, 3, 0, 0)], [(64, 0, 0, 0)]]
def p75 : List Nat := [0, 4, 11, 16]
def mt76 : MT := (⟨"WordFolderModel", "learnNow", "(I)V"⟩, prog_14_method_34_code, 3, none, 12, false)
def b76 : List (List Ai) := [[(37, 0, 0, 0), (30, 60, 1, 78), (37, 0, 0, 0), (0, 0, 0, 0), (8, 12, 29, 148), (37, 0, 0, 0), (6, 12, 19, 94), (3, 2, 0, 0), (50, 1, 0, 0)], [(37, 0, 0, 0), (0, 0, 0, 0), (31, 69, 2, 155), (1, 1, 0, 0), (52, 3, 2, 0)], [(37, 0, 0, 0), (2, 1, 0, 0), (31, 75, 2, 175), (3, 2, 0, 0), (51, 1, 0, 0)], [(67, 0, 0, 0)]]
def p76 : List Nat := [0, 14, 23, 32]
def mt77 : MT := (⟨"WordFolderModel", "redo", "(I)V"⟩, prog_14_method_35_code, 4, none, 12, false)
def b77 : List (List Ai) := [[(37, 0, 0, 0), (30, 60, 1, 78), (0, 0, 0, 0), (3, 2, 0, 0), (50, 1, 0, 0)], [(2, 2, 0, 0), (2, 1, 0, 0), (55, 6, 2, 0)], [(37, 0, 0, 0), (7, 12, 19, 145), (0, 4, 0, 0), (2, 2, 0, 0), (19, 0, 0, 0), (10, 0, 0, 0), (0, 1, 0, 0), (53, 4, 3, 0)], [(37, 0, 0, 0), (37, 0, 0, 0), (7, 12, 19, 145), (0, 4, 0, 0), (2, 2, 0, 0), (19, 0, 0, 0), (0, 1, 0, 0), (17, 0, 0, 0), (10, 0, 0, 0), (37, 0, 0, 0), (7, 12, 19, 145), (0, 4, 0, 0), (2, 2, 0, 0), (19, 0, 0, 0), (0, 2, 0, 0), (17, 0, 0, 0), (10, 0, 0, 0), (31, 66, 3, 134), (3, 3, 0, 0), (51, 5, 0, 0)], [(37, 0, 0, 0), (7, 12, 12, 88), (37, 0, 0, 0), (7, 12, 19, 145), (0, 4, 0, 0), (2, 2, 0, 0), (19, 0, 0, 0), (0, 1, 0, 0), (17, 0, 0, 0), (10, 0, 0, 0), (0, 1, 0, 0), (14, 0, 0, 0), (50, 5, 0, 0)], [(4, 2, 1, 0), (51, 1, 0, 0)], [(37, 0, 0, 0), (2, 1, 0, 0), (8, 12, 29, 148), (67, 0, 0, 0)]]
def p77 : List Nat := [0, 6, 11, 23, 51, 67, 73]
def mt78 : MT := (⟨"WordFolderModel", "fresh", "()V"⟩, prog_14_method_36_code, 1, none, 12, false)
def b78 : List (List Ai) := [[(37, 0, 0, 0), (30, 59, 1, 178), (37, 0, 0, 0), (0, 0, 0, 0), (8, 12, 29, 148), (67, 0, 0, 0)]]
def p78 : List Nat := [0]
def mt79 : MT := (⟨"WordFolderModel", "isHow", "(I)Z"⟩, prog_14_method_37_code, 1, some FieldType.boolean, 12, true)
def b79 : List (List Ai) := [[(2, 0, 0, 0), (0, 0, 0, 0), (0, 2, 0, 0), (31, 43, 3, 15), (65, 0, 0, 0)]]
def p79 : List Nat := [0]
def mt80 : MT := (⟨"WordFolderModel", "letters", "(I)Z"⟩, prog_14_method_39_code, 3, some FieldType.boolean, 12, false)
def b80 : List (List Ai) := [[(2, 1, 0, 0), (0, 1, 0, 0), (0, 4, 0, 0), (31, 43, 3, 15), (59, 2, 1, 0)], [(0, 0, 0, 0), (65, 0, 0, 0)], [(37, 0, 0, 0), (2, 1, 0, 0), (8, 12, 2, 25), (37, 0, 0, 0), (0, 0, 0, 0), (8, 12, 8, 28), (0, 1, 0, 0), (3, 2, 0, 0), (50, 3, 0, 0)], [(2, 2, 0, 0), (0, 4, 0, 0), (55, 5, 4, 0)], [(37, 0, 0, 0), (7, 12, 20, 186), (2, 2, 0, 0), (0, 0, 0, 0), (12, 0, 0, 0), (4, 2, 1, 0), (51, 3, 0, 0)], [(37, 0, 0, 0), (30, 78, 1, 271), (0, 1, 0, 0), (65, 0, 0, 0)]]
def p80 : List Nat := [0, 9, 11, 23, 28, 41]
def mt81 : MT := (⟨"WordFolderModel", "exampleNow", "(IIZ)I"⟩, prog_14_method_40_code, 5, some FieldType.int, 12, false)
def b81 : List (List Ai) := [[(37, 0, 0, 0), (2, 1, 0, 0), (2, 2, 0, 0), (31, 50, 3, 274), (3, 4, 0, 0), (37, 0, 0, 0), (2, 4, 0, 0), (2, 1, 0, 0), (2, 2, 0, 0), (31, 51, 4, 277), (58, 5, 1, 0)], [(37, 0, 0, 0), (7, 12, 4, 46), (2, 4, 0, 0), (15, 0, 0, 0), (2, 3, 0, 0), (53, 3, 2, 0)], [(37, 0, 0, 0), (6, 12, 14, 50), (51, 4, 0, 0)], [(1, 3, 0, 0), (50, 4, 0, 0)], [(64, 0, 0, 0)], [(37, 0, 0, 0), (6, 12, 8, 28), (0, 40, 0, 0), (53, 7, 6, 0)], [(1, 4, 0, 0), (64, 0, 0, 0)], [(37, 0, 0, 0), (6, 12, 14, 50), (37, 0, 0, 0), (2, 1, 0, 0), (2, 2, 0, 0), (31, 58, 3, 280), (17, 0, 0, 0), (0, 120, 0, 0), (57, 9, 8, 0)], [(1, 5, 0, 0), (64, 0, 0, 0)], [(37, 0, 0, 0), (2, 4, 0, 0), (2, 1, 0, 0), (2, 2, 0, 0), (2, 3, 0, 0), (30, 52, 5, 283), (37, 0, 0, 0), (30, 78, 1, 271), (37, 0, 0, 0), (6, 12, 14, 50), (64, 0, 0, 0)]]
def p81 : List Nat := [0, 19, 30, 37, 39, 40, 49, 52, 68, 71]
def mt82 : MT := (⟨"WordFolderModel", "example", "(Z)I"⟩, prog_14_method_41_code, 2, some FieldType.int, 12, false)
def b82 : List (List Ai) := [[(37, 0, 0, 0), (31, 47, 1, 287), (58, 2, 1, 0)], [(37, 0, 0, 0), (37, 0, 0, 0), (6, 12, 3, 19), (37, 0, 0, 0), (6, 12, 4, 22), (2, 1, 0, 0), (31, 81, 4, 291), (51, 3, 0, 0)], [(1, 2, 0, 0), (50, 3, 0, 0)], [(64, 0, 0, 0)]]
def p82 : List Nat := [0, 7, 23, 25]
def mt83 : MT := (⟨"WordFolderModel", "drop", "(I)I"⟩, prog_14_method_42_code, 2, some FieldType.int, 12, false)
def b83 : List (List Ai) := [[(2, 1, 0, 0), (0, 0, 0, 0), (37, 0, 0, 0), (6, 12, 8, 28), (0, 1, 0, 0), (18, 0, 0, 0), (31, 43, 3, 15), (59, 2, 1, 0)], [(1, 1, 0, 0), (64, 0, 0, 0)], [(37, 0, 0, 0), (2, 1, 0, 0), (30, 54, 2, 295), (37, 0, 0, 0), (30, 78, 1, 271), (37, 0, 0, 0), (6, 12, 8, 28), (64, 0, 0, 0)]]
def p83 : List Nat := [0, 14, 16]
def mt84 : MT := (⟨"WordFolderModel", "which", "(II)I"⟩, prog_14_method_43_code, 4, some FieldType.int, 12, false)
def b84 : List (List Ai) := [[(2, 1, 0, 0), (0, 0, 0, 0), (37, 0, 0, 0), (6, 12, 8, 28), (0, 1, 0, 0), (18, 0, 0, 0), (31, 43, 3, 15), (59, 2, 1, 0)], [(1, 2, 0, 0), (64, 0, 0, 0)], [(37, 0, 0, 0), (37, 0, 0, 0), (7, 12, 2, 31), (2, 1, 0, 0), (10, 0, 0, 0), (37, 0, 0, 0), (7, 12, 3, 35), (2, 1, 0, 0), (10, 0, 0, 0), (31, 55, 3, 59), (3, 3, 0, 0), (2, 2, 0, 0), (68, 10, 0, 0), (0, 3, 0, 0), (1, 4, 0, 0), (2, 8, 0, 0), (3, 9, 0, 0)], [(2, 3, 0, 0), (64, 0, 0, 0)], [(37, 0, 0, 0), (7, 12, 4, 46), (2, 1, 0, 0), (15, 0, 0, 0), (58, 6, 5, 0)], [(0, 1, 0, 0), (51, 7, 0, 0)], [(0, 0, 0, 0), (50, 7, 0, 0)], [(64, 0, 0, 0)], [(37, 0, 0, 0), (7, 12, 2, 31), (2, 1, 0, 0), (10, 0, 0, 0), (64, 0, 0, 0)], [(37, 0, 0, 0), (2, 3, 0, 0), (31, 61, 2, 124), (64, 0, 0, 0)], [(1, 2, 0, 0), (64, 0, 0, 0)]]
def p84 : List Nat := [0, 14, 17, 64, 66, 75, 79, 80, 81, 88, 94]
def mt85 : MT := (⟨"WordFolderModel", "inMany", "()I"⟩, prog_14_method_44_code, 3, some FieldType.int, 12, false)
def b85 : List (List Ai) := [[(0, 0, 0, 0), (3, 1, 0, 0), (0, 0, 0, 0), (3, 2, 0, 0), (50, 1, 0, 0)], [(2, 2, 0, 0), (37, 0, 0, 0), (6, 12, 8, 28), (55, 6, 2, 0)], [(2, 1, 0, 0), (37, 0, 0, 0), (7, 12, 4, 46), (2, 2, 0, 0), (15, 0, 0, 0), (58, 4, 3, 0)], [(0, 1, 0, 0), (51, 5, 0, 0)], [(0, 0, 0, 0), (50, 5, 0, 0)], [(17, 0, 0, 0), (3, 1, 0, 0), (4, 2, 1, 0), (51, 1, 0, 0)], [(2, 1, 0, 0), (64, 0, 0, 0)]]
def p85 : List Nat := [0, 4, 12, 22, 26, 27, 35]
def mt86 : MT := (⟨"WordFolderModel", "redMany", "()I"⟩, prog_14_method_45_code, 3, some FieldType.int, 12, false)
def b86 : List (List Ai) := [[(0, 0, 0, 0), (3, 1, 0, 0), (0, 0, 0, 0), (3, 2, 0, 0), (50, 1, 0, 0)], [(2, 2, 0, 0), (37, 0, 0, 0), (6, 12, 14, 50), (55, 7, 2, 0)], [(2, 1, 0, 0), (37, 0, 0, 0), (2, 2, 0, 0), (31, 62, 2, 138), (58, 5, 3, 0)], [(37, 0, 0, 0), (7, 12, 12, 88), (2, 2, 0, 0), (15, 0, 0, 0), (58, 5, 4, 0)], [(0, 1, 0, 0), (51, 6, 0, 0)], [(0, 0, 0, 0), (50, 6, 0, 0)], [(17, 0, 0, 0), (3, 1, 0, 0), (4, 2, 1, 0), (51, 1, 0, 0)], [(2, 1, 0, 0), (64, 0, 0, 0)]]
def p86 : List Nat := [0, 4, 12, 21, 30, 34, 35, 43]
def mt87 : MT := (⟨"WordFolderModel", "blueMany", "()I"⟩, prog_14_method_46_code, 3, some FieldType.int, 12, false)
def b87 : List (List Ai) := [[(0, 0, 0, 0), (3, 1, 0, 0), (0, 0, 0, 0), (3, 2, 0, 0), (50, 1, 0, 0)], [(2, 2, 0, 0), (37, 0, 0, 0), (6, 12, 14, 50), (55, 6, 2, 0)], [(2, 1, 0, 0), (37, 0, 0, 0), (2, 2, 0, 0), (31, 68, 2, 142), (58, 4, 3, 0)], [(0, 1, 0, 0), (51, 5, 0, 0)], [(0, 0, 0, 0), (50, 5, 0, 0)], [(17, 0, 0, 0), (3, 1, 0, 0), (4, 2, 1, 0), (51, 1, 0, 0)], [(2, 1, 0, 0), (64, 0, 0, 0)]]
def p87 : List Nat := [0, 4, 12, 21, 25, 26, 34]
def mt88 : MT := (⟨"WordFolderModel", "is", "(I)I"⟩, prog_14_method_47_code, 2, some FieldType.int, 12, false)
def b88 : List (List Ai) := [[(2, 1, 0, 0), (68, 10, 0, 0), (0, 1, 0, 0), (1, 2, 0, 0), (2, 3, 0, 0), (3, 4, 0, 0), (4, 5, 0, 0), (5, 6, 0, 0), (6, 7, 0, 0), (7, 8, 0, 0), (8, 9, 0, 0)], [(37, 0, 0, 0), (6, 12, 2, 25), (64, 0, 0, 0)], [(37, 0, 0, 0), (6, 12, 8, 28), (64, 0, 0, 0)], [(37, 0, 0, 0), (31, 85, 1, 298), (64, 0, 0, 0)], [(37, 0, 0, 0), (6, 12, 14, 50), (64, 0, 0, 0)], [(37, 0, 0, 0), (6, 12, 19, 94), (64, 0, 0, 0)], [(37, 0, 0, 0), (31, 86, 1, 301), (64, 0, 0, 0)], [(37, 0, 0, 0), (31, 87, 1, 304), (64, 0, 0, 0)], [(37, 0, 0, 0), (6, 12, 29, 148), (64, 0, 0, 0)], [(37, 0, 0, 0), (6, 12, 1, 7), (64, 0, 0, 0)], [(1, 1, 0, 0), (64, 0, 0, 0)]]
def p88 : List Nat := [0, 52, 57, 62, 67, 72, 77, 82, 87, 92, 97]
def mt89 : MT := (⟨"WordFolderModel", "node", "(II)I"⟩, prog_14_method_48_code, 4, some FieldType.int, 12, false)
def b89 : List (List Ai) := [[(2, 1, 0, 0), (0, 0, 0, 0), (37, 0, 0, 0), (6, 12, 14, 50), (0, 1, 0, 0), (18, 0, 0, 0), (31, 43, 3, 15), (59, 2, 1, 0)], [(1, 2, 0, 0), (64, 0, 0, 0)], [(37, 0, 0, 0), (2, 1, 0, 0), (31, 61, 2, 124), (3, 3, 0, 0), (2, 2, 0, 0), (68, 17, 0, 0), (0, 3, 0, 0), (1, 4, 0, 0), (2, 5, 0, 0), (3, 9, 0, 0), (4, 10, 0, 0), (5, 11, 0, 0)], [(37, 0, 0, 0), (7, 12, 7, 69), (2, 1, 0, 0), (10, 0, 0, 0), (64, 0, 0, 0)], [(37, 0, 0, 0), (7, 12, 8, 75), (2, 1, 0, 0), (10, 0, 0, 0), (64, 0, 0, 0)], [(2, 1, 0, 0), (59, 7, 6, 0)], [(1, 1, 0, 0), (51, 8, 0, 0)], [(37, 0, 0, 0), (7, 12, 6, 56), (2, 1, 0, 0), (10, 0, 0, 0), (0, 3, 0, 0), (22, 0, 0, 0), (50, 8, 0, 0)], [(64, 0, 0, 0)], [(37, 0, 0, 0), (7, 12, 5, 53), (2, 1, 0, 0), (10, 0, 0, 0), (64, 0, 0, 0)], [(2, 3, 0, 0), (64, 0, 0, 0)], [(37, 0, 0, 0), (7, 12, 12, 88), (2, 3, 0, 0), (15, 0, 0, 0), (58, 13, 12, 0)], [(0, 1, 0, 0), (51, 16, 0, 0)], [(37, 0, 0, 0), (2, 3, 0, 0), (31, 68, 2, 142), (58, 15, 14, 0)], [(0, 2, 0, 0), (51, 16, 0, 0)], [(0, 0, 0, 0), (50, 16, 0, 0)], [(64, 0, 0, 0)], [(1, 2, 0, 0), (64, 0, 0, 0)]]
def p89 : List Nat := [0, 14, 17, 64, 71, 78, 82, 86, 94, 95, 102, 104, 113, 117, 125, 129, 130, 131]
def mt90 : MT := (⟨"WordFolderModel", "writeNode", "(I)I"⟩, prog_14_method_49_code, 3, some FieldType.int, 12, false)
def b90 : List (List Ai) := [[(2, 1, 0, 0), (0, 0, 0, 0), (37, 0, 0, 0), (6, 12, 14, 50), (0, 1, 0, 0), (18, 0, 0, 0), (31, 43, 3, 15), (59, 2, 1, 0)], [(1, 1, 0, 0), (64, 0, 0, 0)], [(37, 0, 0, 0), (0, 0, 0, 0), (8, 12, 62, 307), (0, 0, 0, 0), (3, 2, 0, 0), (50, 3, 0, 0)], [(2, 2, 0, 0), (37, 0, 0, 0), (7, 12, 5, 53), (2, 1, 0, 0), (10, 0, 0, 0), (55, 5, 4, 0)], [(37, 0, 0, 0), (0, 97, 0, 0), (37, 0, 0, 0), (7, 12, 5, 53), (2, 1, 0, 0), (10, 0, 0, 0), (37, 0, 0, 0), (7, 12, 6, 56), (2, 1, 0, 0), (10, 0, 0, 0), (2, 2, 0, 0), (31, 48, 3, 310), (17, 0, 0, 0), (30, 146, 2, 313), (4, 2, 1, 0), (51, 3, 0, 0)], [(37, 0, 0, 0), (6, 12, 62, 307), (64, 0, 0, 0)]]
def p90 : List Nat := [0, 14, 16, 23, 33, 62]
def mt91 : MT := (⟨"WordFolderModel", "areTwo", "(II)Z"⟩, prog_14_method_50_code, 3, some FieldType.boolean, 12, false)
def b91 : List (List Ai) := [[(37, 0, 0, 0), (2, 1, 0, 0), (31, 62, 2, 138), (58, 4, 1, 0)], [(37, 0, 0, 0), (2, 2, 0, 0), (31, 62, 2, 138), (58, 4, 2, 0)], [(2, 1, 0, 0), (2, 2, 0, 0), (52, 4, 3, 0)], [(0, 1, 0, 0), (51, 5, 0, 0)], [(0, 0, 0, 0), (50, 5, 0, 0)], [(65, 0, 0, 0)]]
def p91 : List Nat := [0, 8, 16, 21, 25, 26]
def mt92 : MT := (⟨"WordFolderModel", "score", "(III)I"⟩, prog_14_method_51_code, 4, some FieldType.int, 12, false)
def b92 : List (List Ai) := [[(2, 1, 0, 0), (31, 79, 1, 316), (58, 3, 1, 0)], [(37, 0, 0, 0), (2, 2, 0, 0), (2, 3, 0, 0), (31, 91, 3, 319), (58, 3, 2, 0)], [(37, 0, 0, 0), (2, 1, 0, 0), (2, 2, 0, 0), (2, 3, 0, 0), (31, 67, 4, 158), (51, 4, 0, 0)], [(1, 2, 0, 0), (50, 4, 0, 0)], [(64, 0, 0, 0)]]
def p92 : List Nat := [0, 7, 16, 26, 28]
def mt93 : MT := (⟨"WordFolderModel", "merge", "(II)I"⟩, prog_14_method_52_code, 3, some FieldType.int, 12, false)
def b93 : List (List Ai) := [[(37, 0, 0, 0), (2, 1, 0, 0), (2, 2, 0, 0), (31, 91, 3, 319), (59, 2, 1, 0)], [(1, 2, 0, 0), (64, 0, 0, 0)], [(37, 0, 0, 0), (6, 12, 29, 148), (0, 200, 0, 0), (53, 4, 3, 0)], [(1, 3, 0, 0), (64, 0, 0, 0)], [(37, 0, 0, 0), (0, 0, 0, 0), (2, 1, 0, 0), (2, 2, 0, 0), (31, 67, 4, 158), (1, 1, 0, 0), (53, 6, 5, 0)], [(1, 1, 0, 0), (51, 7, 0, 0)], [(37, 0, 0, 0), (2, 1, 0, 0), (2, 2, 0, 0), (0, 0, 0, 0), (31, 71, 4, 162), (50, 7, 0, 0)], [(64, 0, 0, 0)]]
def p93 : List Nat := [0, 9, 12, 22, 25, 36, 40, 47]
def mt94 : MT := (⟨"WordFolderModel", "step", "(I)I"⟩, prog_14_method_53_code, 2, some FieldType.int, 12, false)
def b94 : List (List Ai) := [[(2, 1, 0, 0), (31, 79, 1, 316), (59, 2, 1, 0)], [(1, 2, 0, 0), (64, 0, 0, 0)], [(37, 0, 0, 0), (0, 0, 0, 0), (31, 69, 2, 155), (1, 1, 0, 0), (53, 4, 3, 0)], [(1, 1, 0, 0), (64, 0, 0, 0)], [(37, 0, 0, 0), (6, 12, 29, 148), (0, 200, 0, 0), (53, 6, 5, 0)], [(1, 3, 0, 0), (51, 7, 0, 0)], [(37, 0, 0, 0), (2, 1, 0, 0), (31, 75, 2, 175), (50, 7, 0, 0)], [(64, 0, 0, 0)]]
def p94 : List Nat := [0, 7, 10, 19, 21, 31, 36, 41]
def mt95 : MT := (⟨"WordFolderModel", "learn", "(I)I"⟩, prog_14_method_54_code, 2, some FieldType.int, 12, false)
def b95 : List (List Ai) := [[(2, 1, 0, 0), (31, 79, 1, 316), (59, 2, 1, 0)], [(1, 2, 0, 0), (64, 0, 0, 0)], [(37, 0, 0, 0), (2, 1, 0, 0), (30, 76, 2, 322), (37, 0, 0, 0), (6, 12, 19, 94), (64, 0, 0, 0)]]
def p95 : List Nat := [0, 7, 10]
def mt96 : MT := (⟨"WordFolderModel", "undo", "()I"⟩, prog_14_method_55_code, 1, some FieldType.int, 12, false)
def b96 : List (List Ai) := [[(37, 0, 0, 0), (6, 12, 29, 148), (59, 2, 1, 0)], [(1, 1, 0, 0), (64, 0, 0, 0)], [(37, 0, 0, 0), (37, 0, 0, 0), (6, 12, 29, 148), (0, 1, 0, 0), (18, 0, 0, 0), (30, 77, 2, 325), (37, 0, 0, 0), (6, 12, 29, 148), (64, 0, 0, 0)]]
def p96 : List Nat := [0, 7, 9]
def mt97 : MT := (⟨"WordFolderModel", "deed", "(II)I"⟩, prog_14_method_56_code, 3, some FieldType.int, 12, false)
def b97 : List (List Ai) := [[(2, 1, 0, 0), (0, 0, 0, 0), (37, 0, 0, 0), (6, 12, 29, 148), (0, 1, 0, 0), (18, 0, 0, 0), (31, 43, 3, 15), (58, 3, 1, 0)], [(2, 2, 0, 0), (0, 0, 0, 0), (0, 3, 0, 0), (31, 43, 3, 15), (58, 3, 2, 0)], [(37, 0, 0, 0), (7, 12, 19, 145), (0, 4, 0, 0), (2, 1, 0, 0), (19, 0, 0, 0), (2, 2, 0, 0), (17, 0, 0, 0), (10, 0, 0, 0), (51, 4, 0, 0)], [(1, 2, 0, 0), (50, 4, 0, 0)], [(64, 0, 0, 0)]]
def p97 : List Nat := [0, 14, 23, 36, 38]
def mt98 : MT := (⟨"WordFolderModel", "markOf", "(II)I"⟩, prog_14_method_57_code, 3, some FieldType.int, 12, false)
def b98 : List (List Ai) := [[(37, 0, 0, 0), (7, 12, 21, 189), (0, 200, 0, 0), (2, 1, 0, 0), (19, 0, 0, 0), (2, 2, 0, 0), (17, 0, 0, 0), (10, 0, 0, 0), (64, 0, 0, 0)]]
def p98 : List Nat := [0]
def mt99 : MT := (⟨"WordFolderModel", "arrowOf", "(III)I"⟩, prog_14_method_58_code, 4, some FieldType.int, 12, false)
def b99 : List (List Ai) := [[(2, 2, 0, 0), (1, 1, 0, 0), (53, 2, 1, 0)], [(1, 1, 0, 0), (51, 3, 0, 0)], [(37, 0, 0, 0), (7, 12, 22, 192), (0, 4, 0, 0), (0, 200, 0, 0), (2, 1, 0, 0), (19, 0, 0, 0), (2, 2, 0, 0), (17, 0, 0, 0), (19, 0, 0, 0), (2, 3, 0, 0), (17, 0, 0, 0), (10, 0, 0, 0), (50, 3, 0, 0)], [(64, 0, 0, 0)]]
def p99 : List Nat := [0, 5, 9, 25]
def mt100 : MT := (⟨"WordFolderModel", "putArrow", "(IIII)V"⟩, prog_14_method_59_code, 5, none, 12, false)
def b100 : List (List Ai) := [[(37, 0, 0, 0), (7, 12, 22, 192), (0, 4, 0, 0), (0, 200, 0, 0), (2, 1, 0, 0), (19, 0, 0, 0), (2, 2, 0, 0), (17, 0, 0, 0), (19, 0, 0, 0), (2, 3, 0, 0), (17, 0, 0, 0), (2, 4, 0, 0), (12, 0, 0, 0), (67, 0, 0, 0)]]
def p100 : List Nat := [0]
def mt101 : MT := (⟨"WordFolderModel", "layNow", "()V"⟩, prog_14_method_60_code, 4, none, 12, false)
def b101 : List (List Ai) := [[(0, 0, 0, 0), (3, 1, 0, 0), (0, 0, 0, 0), (3, 2, 0, 0), (50, 1, 0, 0)], [(2, 2, 0, 0), (37, 0, 0, 0), (6, 12, 14, 50), (55, 6, 2, 0)], [(37, 0, 0, 0), (7, 12, 10, 82), (2, 2, 0, 0), (10, 0, 0, 0), (1, 1, 0, 0), (52, 4, 3, 0)], [(51, 5, 0, 0)], [(37, 0, 0, 0), (7, 12, 23, 195), (2, 2, 0, 0), (2, 1, 0, 0), (12, 0, 0, 0), (4, 1, 1, 0), (50, 5, 0, 0)], [(4, 2, 1, 0), (51, 1, 0, 0)], [(37, 0, 0, 0), (7, 12, 20, 186), (0, 0, 0, 0), (2, 1, 0, 0), (12, 0, 0, 0), (0, 0, 0, 0), (3, 2, 0, 0), (50, 7, 0, 0)], [(2, 2, 0, 0), (37, 0, 0, 0), (6, 12, 14, 50), (55, 18, 8, 0)], [(37, 0, 0, 0), (7, 12, 10, 82), (2, 2, 0, 0), (10, 0, 0, 0), (1, 1, 0, 0), (52, 10, 9, 0)], [(51, 17, 0, 0)], [(37, 0, 0, 0), (7, 12, 21, 189), (37, 0, 0, 0), (7, 12, 23, 195), (2, 2, 0, 0), (10, 0, 0, 0), (37, 0, 0, 0), (7, 12, 11, 85), (2, 2, 0, 0), (10, 0, 0, 0), (12, 0, 0, 0), (0, 0, 0, 0), (3, 3, 0, 0), (50, 11, 0, 0)], [(2, 3, 0, 0), (0, 4, 0, 0), (55, 17, 12, 0)], [(37, 0, 0, 0), (0, 0, 0, 0), (37, 0, 0, 0), (7, 12, 23, 195), (2, 2, 0, 0), (10, 0, 0, 0), (2, 3, 0, 0), (2, 3, 0, 0), (37, 0, 0, 0), (6, 12, 2, 25), (55, 15, 13, 0)], [(37, 0, 0, 0), (7, 12, 13, 91), (0, 4, 0, 0), (2, 2, 0, 0), (19, 0, 0, 0), (2, 3, 0, 0), (17, 0, 0, 0), (10, 0, 0, 0), (1, 1, 0, 0), (52, 15, 14, 0)], [(37, 0, 0, 0), (7, 12, 23, 195), (37, 0, 0, 0), (37, 0, 0, 0), (7, 12, 13, 91), (0, 4, 0, 0), (2, 2, 0, 0), (19, 0, 0, 0), (2, 3, 0, 0), (17, 0, 0, 0), (10, 0, 0, 0), (31, 61, 2, 124), (10, 0, 0, 0), (51, 16, 0, 0)], [(1, 1, 0, 0), (50, 16, 0, 0)], [(30, 100, 5, 328), (4, 3, 1, 0), (51, 11, 0, 0)], [(4, 2, 1, 0), (51, 7, 0, 0)], [(67, 0, 0, 0)]]
def p101 : List Nat := [0, 4, 12, 22, 25, 35, 41, 50, 58, 68, 71, 90, 95, 112, 126, 148, 149, 158, 164]
def mt102 : MT := (⟨"WordFolderModel", "isMachine", "(I)Z"⟩, prog_14_method_61_code, 2, some FieldType.boolean, 12, false)
def b102 : List (List Ai) := [[(2, 1, 0, 0), (59, 2, 1, 0)], [(37, 0, 0, 0), (30, 101, 1, 331), (50, 2, 0, 0)], [(2, 1, 0, 0), (0, 0, 0, 0), (0, 3, 0, 0), (31, 43, 3, 15), (58, 5, 3, 0)], [(37, 0, 0, 0), (7, 12, 20, 186), (2, 1, 0, 0), (10, 0, 0, 0), (63, 5, 4, 0)], [(0, 1, 0, 0), (51, 6, 0, 0)], [(0, 0, 0, 0), (50, 6, 0, 0)], [(65, 0, 0, 0)]]
def p102 : List Nat := [0, 4, 8, 17, 26, 30, 31]
def mt103 : MT := (⟨"WordFolderModel", "copyMachine", "(II)V"⟩, prog_14_method_62_code, 4, none, 12, false)
def b103 : List (List Ai) := [[(37, 0, 0, 0), (7, 12, 20, 186), (2, 2, 0, 0), (37, 0, 0, 0), (7, 12, 20, 186), (2, 1, 0, 0), (10, 0, 0, 0), (12, 0, 0, 0), (0, 0, 0, 0), (3, 3, 0, 0), (50, 1, 0, 0)], [(2, 3, 0, 0), (0, 200, 0, 0), (55, 3, 2, 0)], [(37, 0, 0, 0), (7, 12, 21, 189), (0, 200, 0, 0), (2, 2, 0, 0), (19, 0, 0, 0), (2, 3, 0, 0), (17, 0, 0, 0), (37, 0, 0, 0), (7, 12, 21, 189), (0, 200, 0, 0), (2, 1, 0, 0), (19, 0, 0, 0), (2, 3, 0, 0), (17, 0, 0, 0), (10, 0, 0, 0), (12, 0, 0, 0), (4, 3, 1, 0), (51, 1, 0, 0)], [(0, 0, 0, 0), (3, 3, 0, 0), (50, 4, 0, 0)], [(2, 3, 0, 0), (0, 800, 0, 0), (55, 6, 5, 0)], [(37, 0, 0, 0), (7, 12, 22, 192), (0, 800, 0, 0), (2, 2, 0, 0), (19, 0, 0, 0), (2, 3, 0, 0), (17, 0, 0, 0), (37, 0, 0, 0), (7, 12, 22, 192), (0, 800, 0, 0), (2, 1, 0, 0), (19, 0, 0, 0), (2, 3, 0, 0), (17, 0, 0, 0), (10, 0, 0, 0), (12, 0, 0, 0), (4, 3, 1, 0), (51, 4, 0, 0)], [(67, 0, 0, 0)]]
def p103 : List Nat := [0, 14, 21, 51, 53, 60, 90]
def mt104 : MT := (⟨"WordFolderModel", "keep", "(I)I"⟩, prog_14_method_63_code, 2, some FieldType.int, 12, false)
def b104 : List (List Ai) := [[(2, 1, 0, 0), (0, 0, 0, 0), (0, 2, 0, 0), (31, 43, 3, 15), (58, 2, 1, 0)], [(37, 0, 0, 0), (2, 1, 0, 0), (31, 102, 2, 334), (59, 3, 2, 0)], [(1, 1, 0, 0), (64, 0, 0, 0)], [(37, 0, 0, 0), (2, 1, 0, 0), (0, 3, 0, 0), (30, 103, 3, 337), (37, 0, 0, 0), (7, 12, 20, 186), (0, 3, 0, 0), (10, 0, 0, 0), (64, 0, 0, 0)]]
def p104 : List Nat := [0, 9, 17, 19]
def mt105 : MT := (⟨"WordFolderModel", "states", "(I)I"⟩, prog_14_method_64_code, 2, some FieldType.int, 12, false)
def b105 : List (List Ai) := [[(37, 0, 0, 0), (2, 1, 0, 0), (31, 102, 2, 334), (58, 2, 1, 0)], [(37, 0, 0, 0), (7, 12, 20, 186), (2, 1, 0, 0), (10, 0, 0, 0), (51, 3, 0, 0)], [(1, 1, 0, 0), (50, 3, 0, 0)], [(64, 0, 0, 0)]]
def p105 : List Nat := [0, 8, 17, 18]
def mt106 : MT := (⟨"WordFolderModel", "state", "(III)I"⟩, prog_14_method_65_code, 4, some FieldType.int, 12, false)
def b106 : List (List Ai) := [[(37, 0, 0, 0), (2, 1, 0, 0), (31, 102, 2, 334), (58, 3, 1, 0)], [(2, 2, 0, 0), (0, 0, 0, 0), (37, 0, 0, 0), (7, 12, 20, 186), (2, 1, 0, 0), (10, 0, 0, 0), (0, 1, 0, 0), (18, 0, 0, 0), (31, 43, 3, 15), (58, 3, 2, 0)], [(2, 3, 0, 0), (0, 0, 0, 0), (37, 0, 0, 0), (6, 12, 2, 25), (31, 43, 3, 15), (59, 4, 3, 0)], [(1, 2, 0, 0), (64, 0, 0, 0)], [(2, 3, 0, 0), (59, 6, 5, 0)], [(37, 0, 0, 0), (2, 1, 0, 0), (2, 2, 0, 0), (31, 98, 3, 340), (51, 7, 0, 0)], [(37, 0, 0, 0), (2, 1, 0, 0), (2, 2, 0, 0), (2, 3, 0, 0), (0, 1, 0, 0), (18, 0, 0, 0), (31, 99, 4, 343), (50, 7, 0, 0)], [(64, 0, 0, 0)]]
def p106 : List Nat := [0, 8, 24, 36, 39, 43, 52, 61]
def mt107 : MT := (⟨"WordFolderModel", "isTaken", "(III)Z"⟩, prog_14_method_66_code, 6, some FieldType.boolean, 12, false)
def b107 : List (List Ai) := [[(0, 0, 0, 0), (3, 4, 0, 0), (0, 0, 0, 0), (3, 5, 0, 0), (50, 1, 0, 0)], [(2, 5, 0, 0), (2, 2, 0, 0), (55, 4, 2, 0)], [(2, 4, 0, 0), (1, 1, 0, 0), (52, 4, 3, 0)], [(37, 0, 0, 0), (2, 1, 0, 0), (2, 4, 0, 0), (2, 2, 0, 0), (2, 3, 0, 0), (2, 5, 0, 0), (31, 48, 3, 310), (31, 99, 4, 343), (3, 4, 0, 0), (4, 5, 1, 0), (51, 1, 0, 0)], [(2, 4, 0, 0), (1, 1, 0, 0), (52, 7, 5, 0)], [(37, 0, 0, 0), (2, 1, 0, 0), (2, 4, 0, 0), (31, 98, 3, 340), (0, 1, 0, 0), (53, 7, 6, 0)], [(0, 1, 0, 0), (51, 8, 0, 0)], [(0, 0, 0, 0), (50, 8, 0, 0)], [(65, 0, 0, 0)]]
def p107 : List Nat := [0, 6, 12, 18, 40, 46, 57, 61, 62]
def mt108 : MT := (⟨"WordFolderModel", "takes", "(I)I"⟩, prog_14_method_67_code, 3, some FieldType.int, 12, false)
def b108 : List (List Ai) := [[(37, 0, 0, 0), (31, 47, 1, 287), (3, 2, 0, 0), (37, 0, 0, 0), (2, 1, 0, 0), (31, 102, 2, 334), (59, 2, 1, 0)], [(1, 1, 0, 0), (64, 0, 0, 0)], [(2, 2, 0, 0), (58, 6, 3, 0)], [(37, 0, 0, 0), (2, 1, 0, 0), (37, 0, 0, 0), (6, 12, 3, 19), (37, 0, 0, 0), (6, 12, 4, 22), (31, 107, 4, 346), (58, 5, 4, 0)], [(0, 1, 0, 0), (51, 7, 0, 0)], [(0, 0, 0, 0), (51, 7, 0, 0)], [(1, 2, 0, 0), (50, 7, 0, 0)], [(64, 0, 0, 0)]]
def p108 : List Nat := [0, 13, 15, 19, 35, 39, 43, 45]
def mt109 : MT := (⟨"WordFolderModel", "words", "(II)I"⟩, prog_14_method_68_code, 6, some FieldType.int, 12, false)
def b109 : List (List Ai) := [[(37, 0, 0, 0), (2, 1, 0, 0), (31, 102, 2, 334), (58, 2, 1, 0)], [(2, 2, 0, 0), (0, 0, 0, 0), (0, 10, 0, 0), (31, 43, 3, 15), (59, 3, 2, 0)], [(1, 1, 0, 0), (64, 0, 0, 0)], [(0, 0, 0, 0), (3, 3, 0, 0), (50, 4, 0, 0)], [(2, 3, 0, 0), (37, 0, 0, 0), (7, 12, 20, 186), (2, 1, 0, 0), (10, 0, 0, 0), (55, 9, 5, 0)], [(37, 0, 0, 0), (7, 12, 24, 198), (2, 3, 0, 0), (2, 3, 0, 0), (59, 7, 6, 0)], [(0, 1, 0, 0), (51, 8, 0, 0)], [(0, 0, 0, 0), (50, 8, 0, 0)], [(12, 0, 0, 0), (4, 3, 1, 0), (51, 4, 0, 0)], [(0, 0, 0, 0), (3, 3, 0, 0), (50, 10, 0, 0)], [(2, 3, 0, 0), (2, 2, 0, 0), (55, 26, 11, 0)], [(0, 0, 0, 0), (3, 4, 0, 0), (50, 12, 0, 0)], [(2, 4, 0, 0), (37, 0, 0, 0), (7, 12, 20, 186), (2, 1, 0, 0), (10, 0, 0, 0), (55, 14, 13, 0)], [(37, 0, 0, 0), (7, 12, 25, 201), (2, 4, 0, 0), (0, 0, 0, 0), (12, 0, 0, 0), (4, 4, 1, 0), (51, 12, 0, 0)], [(0, 0, 0, 0), (3, 4, 0, 0), (50, 15, 0, 0)], [(2, 4, 0, 0), (37, 0, 0, 0), (7, 12, 20, 186), (2, 1, 0, 0), (10, 0, 0, 0), (55, 22, 16, 0)], [(0, 0, 0, 0), (3, 5, 0, 0), (50, 17, 0, 0)], [(2, 5, 0, 0), (37, 0, 0, 0), (6, 12, 2, 25), (55, 21, 18, 0)], [(37, 0, 0, 0), (2, 1, 0, 0), (2, 4, 0, 0), (2, 5, 0, 0), (31, 99, 4, 343), (1, 1, 0, 0), (52, 20, 19, 0)], [(37, 0, 0, 0), (7, 12, 25, 201), (37, 0, 0, 0), (2, 1, 0, 0), (2, 4, 0, 0), (2, 5, 0, 0), (31, 99, 4, 343), (29, 0, 0, 0), (10, 0, 0, 0), (37, 0, 0, 0), (7, 12, 24, 198), (2, 4, 0, 0), (10, 0, 0, 0), (17, 0, 0, 0), (12, 0, 0, 0), (50, 20, 0, 0)], [(4, 5, 1, 0), (51, 17, 0, 0)], [(4, 4, 1, 0), (51, 15, 0, 0)], [(0, 0, 0, 0), (3, 4, 0, 0), (50, 23, 0, 0)], [(2, 4, 0, 0), (37, 0, 0, 0), (7, 12, 20, 186), (2, 1, 0, 0), (10, 0, 0, 0), (55, 25, 24, 0)], [(37, 0, 0, 0), (7, 12, 24, 198), (2, 4, 0, 0), (37, 0, 0, 0), (7, 12, 25, 201), (2, 4, 0, 0), (10, 0, 0, 0), (12, 0, 0, 0), (4, 4, 1, 0), (51, 23, 0, 0)], [(4, 3, 1, 0), (51, 10, 0, 0)], [(0, 0, 0, 0), (3, 3, 0, 0), (0, 0, 0, 0), (3, 4, 0, 0), (50, 27, 0, 0)], [(2, 4, 0, 0), (37, 0, 0, 0), (7, 12, 20, 186), (2, 1, 0, 0), (10, 0, 0, 0), (55, 32, 28, 0)], [(2, 3, 0, 0), (37, 0, 0, 0), (2, 1, 0, 0), (2, 4, 0, 0), (31, 98, 3, 340), (0, 1, 0, 0), (53, 30, 29, 0)], [(37, 0, 0, 0), (7, 12, 24, 198), (2, 4, 0, 0), (10, 0, 0, 0), (51, 31, 0, 0)], [(0, 0, 0, 0), (50, 31, 0, 0)], [(17, 0, 0, 0), (3, 3, 0, 0), (4, 4, 1, 0), (51, 27, 0, 0)], [(2, 3, 0, 0), (64, 0, 0, 0)]]
def p109 : List Nat := [0, 8, 18, 20, 22, 32, 41, 45, 46, 53, 55, 60, 63, 74, 88, 91, 102, 105, 114, 127, 151, 157, 163, 166, 177, 197, 203, 208, 219, 231, 241, 242, 250]
def mt110 : MT := (⟨"WordFolderModel", "puts", "(II)Z"⟩, prog_14_method_69_code, 6, some FieldType.boolean, 12, false)
def b110 : List (List Ai) := [[(37, 0, 0, 0), (7, 12, 7, 69), (2, 1, 0, 0), (10, 0, 0, 0), (3, 3, 0, 0), (2, 3, 0, 0), (58, 3, 1, 0)], [(37, 0, 0, 0), (7, 12, 29, 213), (0, 3, 0, 0), (2, 2, 0, 0), (19, 0, 0, 0), (0, 3, 0, 0), (17, 0, 0, 0), (2, 3, 0, 0), (18, 0, 0, 0), (10, 0, 0, 0), (63, 3, 2, 0)], [(0, 0, 0, 0), (65, 0, 0, 0)], [(37, 0, 0, 0), (7, 12, 29, 213), (0, 3, 0, 0), (2, 2, 0, 0), (19, 0, 0, 0), (2, 3, 0, 0), (17, 0, 0, 0), (29, 0, 0, 0), (10, 0, 0, 0), (0, 1, 0, 0), (17, 0, 0, 0), (12, 0, 0, 0), (37, 0, 0, 0), (7, 12, 26, 204), (2, 1, 0, 0), (2, 2, 0, 0), (12, 0, 0, 0), (37, 0, 0, 0), (7, 12, 27, 207), (2, 1, 0, 0), (0, 0, 0, 0), (14, 0, 0, 0), (2, 1, 0, 0), (59, 5, 4, 0)], [(0, 1, 0, 0), (65, 0, 0, 0)], [(37, 0, 0, 0), (7, 12, 26, 204), (37, 0, 0, 0), (7, 12, 8, 75), (2, 1, 0, 0), (10, 0, 0, 0), (10, 0, 0, 0), (3, 4, 0, 0), (37, 0, 0, 0), (7, 12, 6, 56), (2, 1, 0, 0), (10, 0, 0, 0), (0, 3, 0, 0), (22, 0, 0, 0), (3, 5, 0, 0), (37, 0, 0, 0), (7, 12, 27, 207), (2, 1, 0, 0), (37, 0, 0, 0), (0, 4, 0, 0), (2, 4, 0, 0), (2, 5, 0, 0), (31, 99, 4, 343), (1, 1, 0, 0), (53, 7, 6, 0)], [(0, 1, 0, 0), (51, 8, 0, 0)], [(0, 0, 0, 0), (50, 8, 0, 0)], [(14, 0, 0, 0), (37, 0, 0, 0), (0, 4, 0, 0), (2, 4, 0, 0), (2, 5, 0, 0), (2, 2, 0, 0), (30, 100, 5, 328), (0, 1, 0, 0), (65, 0, 0, 0)]]
def p110 : List Nat := [0, 11, 26, 28, 60, 62, 103, 107, 108]
def mt111 : MT := (⟨"WordFolderModel", "takeOut", "(I)V"⟩, prog_14_method_70_code, 2, none, 12, false)
def b111 : List (List Ai) := [[(37, 0, 0, 0), (7, 12, 29, 213), (0, 3, 0, 0), (37, 0, 0, 0), (7, 12, 26, 204), (2, 1, 0, 0), (10, 0, 0, 0), (19, 0, 0, 0), (37, 0, 0, 0), (7, 12, 7, 69), (2, 1, 0, 0), (10, 0, 0, 0), (17, 0, 0, 0), (29, 0, 0, 0), (10, 0, 0, 0), (0, 1, 0, 0), (18, 0, 0, 0), (12, 0, 0, 0), (37, 0, 0, 0), (7, 12, 27, 207), (2, 1, 0, 0), (15, 0, 0, 0), (58, 2, 1, 0)], [(37, 0, 0, 0), (0, 4, 0, 0), (37, 0, 0, 0), (7, 12, 26, 204), (37, 0, 0, 0), (7, 12, 8, 75), (2, 1, 0, 0), (10, 0, 0, 0), (10, 0, 0, 0), (37, 0, 0, 0), (7, 12, 6, 56), (2, 1, 0, 0), (10, 0, 0, 0), (0, 3, 0, 0), (22, 0, 0, 0), (1, 1, 0, 0), (30, 100, 5, 328), (50, 2, 0, 0)], [(67, 0, 0, 0)]]
def p111 : List Nat := [0, 33, 58]
def mt112 : MT := (⟨"WordFolderModel", "nextTry", "(III)I"⟩, prog_14_method_71_code, 6, some FieldType.int, 12, false)
def b112 : List (List Ai) := [[(2, 1, 0, 0), (59, 5, 1, 0)], [(2, 2, 0, 0), (59, 3, 2, 0)], [(0, 0, 0, 0), (51, 4, 0, 0)], [(1, 1, 0, 0), (50, 4, 0, 0)], [(64, 0, 0, 0)], [(37, 0, 0, 0), (0, 4, 0, 0), (37, 0, 0, 0), (7, 12, 26, 204), (37, 0, 0, 0), (7, 12, 8, 75), (2, 1, 0, 0), (10, 0, 0, 0), (10, 0, 0, 0), (37, 0, 0, 0), (7, 12, 6, 56), (2, 1, 0, 0), (10, 0, 0, 0), (0, 3, 0, 0), (22, 0, 0, 0), (31, 99, 4, 343), (3, 4, 0, 0), (2, 4, 0, 0), (1, 1, 0, 0), (52, 10, 6, 0)], [(2, 2, 0, 0), (2, 4, 0, 0), (56, 8, 7, 0)], [(2, 4, 0, 0), (51, 9, 0, 0)], [(1, 1, 0, 0), (50, 9, 0, 0)], [(64, 0, 0, 0)], [(37, 0, 0, 0), (7, 12, 28, 210), (2, 1, 0, 0), (0, 1, 0, 0), (18, 0, 0, 0), (10, 0, 0, 0), (2, 3, 0, 0), (55, 12, 11, 0)], [(37, 0, 0, 0), (7, 12, 28, 210), (2, 1, 0, 0), (0, 1, 0, 0), (18, 0, 0, 0), (10, 0, 0, 0), (51, 13, 0, 0)], [(2, 3, 0, 0), (0, 1, 0, 0), (18, 0, 0, 0), (50, 13, 0, 0)], [(3, 5, 0, 0), (2, 2, 0, 0), (2, 5, 0, 0), (56, 15, 14, 0)], [(2, 2, 0, 0), (51, 16, 0, 0)], [(1, 1, 0, 0), (50, 16, 0, 0)], [(64, 0, 0, 0)]]
def p112 : List Nat := [0, 4, 8, 12, 13, 14, 46, 52, 57, 58, 59, 71, 82, 85, 93, 97, 98]
def mt113 : MT := (⟨"WordFolderModel", "findWith", "(I)I"⟩, prog_14_method_72_code, 5, some FieldType.int, 12, false)
def b113 : List (List Ai) := [[(0, 0, 0, 0), (3, 2, 0, 0), (50, 1, 0, 0)], [(2, 2, 0, 0), (0, 24, 0, 0), (55, 3, 2, 0)], [(37, 0, 0, 0), (7, 12, 29, 213), (2, 2, 0, 0), (0, 0, 0, 0), (12, 0, 0, 0), (4, 2, 1, 0), (51, 1, 0, 0)], [(0, 0, 0, 0), (3, 2, 0, 0), (50, 4, 0, 0)], [(2, 2, 0, 0), (0, 8, 0, 0), (55, 9, 5, 0)], [(0, 0, 0, 0), (3, 3, 0, 0), (50, 6, 0, 0)], [(2, 3, 0, 0), (0, 4, 0, 0), (55, 8, 7, 0)], [(37, 0, 0, 0), (0, 4, 0, 0), (2, 2, 0, 0), (2, 3, 0, 0), (1, 1, 0, 0), (30, 100, 5, 328), (4, 3, 1, 0), (51, 6, 0, 0)], [(4, 2, 1, 0), (51, 4, 0, 0)], [(0, 0, 0, 0), (3, 2, 0, 0), (0, 0, 0, 0), (3, 3, 0, 0), (50, 10, 0, 0)], [(2, 2, 0, 0), (60, 32, 11, 0)], [(2, 2, 0, 0), (37, 0, 0, 0), (6, 12, 14, 50), (55, 32, 12, 0)], [(37, 0, 0, 0), (2, 2, 0, 0), (2, 3, 0, 0), (2, 1, 0, 0), (31, 112, 4, 349), (3, 4, 0, 0), (2, 4, 0, 0), (1, 1, 0, 0), (53, 19, 13, 0)], [(5, 2, 1, 0), (2, 2, 0, 0), (61, 15, 14, 0)], [(0, 0, 0, 0), (64, 0, 0, 0)], [(37, 0, 0, 0), (2, 2, 0, 0), (30, 111, 2, 352), (37, 0, 0, 0), (2, 2, 0, 0), (31, 114, 2, 355), (58, 17, 16, 0)], [(0, 8, 0, 0), (51, 18, 0, 0)], [(37, 0, 0, 0), (7, 12, 26, 204), (2, 2, 0, 0), (10, 0, 0, 0), (0, 1, 0, 0), (17, 0, 0, 0), (50, 18, 0, 0)], [(3, 3, 0, 0), (51, 10, 0, 0)], [(37, 0, 0, 0), (6, 12, 40, 358), (0, 50000, 0, 361), (53, 21, 20, 0)], [(1, 1, 0, 0), (64, 0, 0, 0)], [(37, 0, 0, 0), (27, 0, 0, 0), (6, 12, 40, 358), (0, 1, 0, 0), (17, 0, 0, 0), (8, 12, 40, 358), (37, 0, 0, 0), (2, 2, 0, 0), (2, 4, 0, 0), (31, 110, 3, 362), (59, 26, 22, 0)], [(37, 0, 0, 0), (2, 2, 0, 0), (31, 114, 2, 355), (58, 24, 23, 0)], [(0, 8, 0, 0), (51, 25, 0, 0)], [(2, 4, 0, 0), (0, 1, 0, 0), (17, 0, 0, 0), (50, 25, 0, 0)], [(3, 3, 0, 0), (51, 10, 0, 0)], [(37, 0, 0, 0), (7, 12, 28, 210), (2, 2, 0, 0), (2, 2, 0, 0), (59, 28, 27, 0)], [(0, 1, 0, 0), (51, 31, 0, 0)], [(2, 4, 0, 0), (37, 0, 0, 0), (7, 12, 28, 210), (2, 2, 0, 0), (0, 1, 0, 0), (18, 0, 0, 0), (10, 0, 0, 0), (53, 30, 29, 0)], [(2, 4, 0, 0), (0, 1, 0, 0), (17, 0, 0, 0), (51, 31, 0, 0)], [(37, 0, 0, 0), (7, 12, 28, 210), (2, 2, 0, 0), (0, 1, 0, 0), (18, 0, 0, 0), (10, 0, 0, 0), (50, 31, 0, 0)], [(12, 0, 0, 0), (4, 2, 1, 0), (0, 0, 0, 0), (3, 3, 0, 0), (51, 10, 0, 0)], [(0, 1, 0, 0), (64, 0, 0, 0)]]
def p113 : List Nat := [0, 2, 8, 21, 23, 29, 31, 36, 50, 56, 60, 64, 72, 87, 94, 96, 109, 114, 122, 126, 136, 138, 158, 166, 171, 175, 179, 188, 192, 205, 212, 220, 229]
def mt114 : MT := (⟨"WordFolderModel", "isForced", "(I)Z"⟩, prog_14_method_73_code, 2, some FieldType.boolean, 12, false)
def b114 : List (List Ai) := [[(2, 1, 0, 0), (63, 3, 1, 0)], [(37, 0, 0, 0), (0, 4, 0, 0), (37, 0, 0, 0), (7, 12, 26, 204), (37, 0, 0, 0), (7, 12, 8, 75), (2, 1, 0, 0), (10, 0, 0, 0), (10, 0, 0, 0), (37, 0, 0, 0), (7, 12, 6, 56), (2, 1, 0, 0), (10, 0, 0, 0), (0, 3, 0, 0), (22, 0, 0, 0), (31, 99, 4, 343), (1, 1, 0, 0), (52, 3, 2, 0)], [(0, 1, 0, 0), (51, 4, 0, 0)], [(0, 0, 0, 0), (50, 4, 0, 0)], [(65, 0, 0, 0)]]
def p114 : List Nat := [0, 4, 32, 36, 37]
def mt115 : MT := (⟨"WordFolderModel", "least", "()I"⟩, prog_14_method_74_code, 4, some FieldType.int, 12, false)
def b115 : List (List Ai) := [[(37, 0, 0, 0), (0, 0, 0, 0), (8, 12, 40, 358), (0, 1, 0, 0), (3, 1, 0, 0), (50, 1, 0, 0)], [(2, 1, 0, 0), (0, 8, 0, 0), (56, 16, 2, 0)], [(37, 0, 0, 0), (2, 1, 0, 0), (31, 113, 2, 365), (3, 2, 0, 0), (2, 2, 0, 0), (1, 1, 0, 0), (53, 4, 3, 0)], [(1, 3, 0, 0), (64, 0, 0, 0)], [(2, 2, 0, 0), (59, 6, 5, 0)], [(51, 15, 0, 0)], [(37, 0, 0, 0), (7, 12, 20, 186), (0, 4, 0, 0), (37, 0, 0, 0), (7, 12, 28, 210), (37, 0, 0, 0), (6, 12, 14, 50), (0, 1, 0, 0), (18, 0, 0, 0), (10, 0, 0, 0), (12, 0, 0, 0), (0, 0, 0, 0), (3, 3, 0, 0), (50, 7, 0, 0)], [(2, 3, 0, 0), (37, 0, 0, 0), (7, 12, 20, 186), (0, 4, 0, 0), (10, 0, 0, 0), (55, 14, 8, 0)], [(37, 0, 0, 0), (7, 12, 21, 189), (0, 800, 0, 0), (2, 3, 0, 0), (17, 0, 0, 0), (37, 0, 0, 0), (7, 12, 29, 213), (0, 3, 0, 0), (2, 3, 0, 0), (19, 0, 0, 0), (0, 1, 0, 0), (17, 0, 0, 0), (10, 0, 0, 0), (63, 10, 9, 0)], [(0, 1, 0, 0), (51, 13, 0, 0)], [(37, 0, 0, 0), (7, 12, 29, 213), (0, 3, 0, 0), (2, 3, 0, 0), (19, 0, 0, 0), (0, 2, 0, 0), (17, 0, 0, 0), (10, 0, 0, 0), (63, 12, 11, 0)], [(0, 2, 0, 0), (51, 13, 0, 0)], [(0, 0, 0, 0), (50, 13, 0, 0)], [(12, 0, 0, 0), (4, 3, 1, 0), (51, 7, 0, 0)], [(37, 0, 0, 0), (0, 4, 0, 0), (0, 1, 0, 0), (30, 103, 3, 337), (37, 0, 0, 0), (7, 12, 20, 186), (0, 1, 0, 0), (10, 0, 0, 0), (64, 0, 0, 0)], [(4, 1, 1, 0), (51, 1, 0, 0)], [(1, 2, 0, 0), (64, 0, 0, 0)]]
def p115 : List Nat := [0, 7, 13, 24, 27, 31, 34, 53, 63, 85, 89, 102, 106, 107, 114, 127, 133]
def mt116 : MT := (⟨"WordFolderModel", "tries", "()I"⟩, prog_14_method_75_code, 1, some FieldType.int, 12, false)
def b116 : List (List Ai) := [[(37, 0, 0, 0), (6, 12, 40, 358), (64, 0, 0, 0)]]
def p116 : List Nat := [0]
def mt117 : MT := (⟨"WordFolderModel", "here", "()I"⟩, prog_14_method_76_code, 1, some FieldType.int, 12, false)
def b117 : List (List Ai) := [[(37, 0, 0, 0), (6, 12, 41, 368), (37, 0, 0, 0), (6, 12, 43, 371), (55, 2, 1, 0)], [(37, 0, 0, 0), (7, 12, 1, 1), (37, 0, 0, 0), (6, 12, 41, 368), (11, 0, 0, 0), (0, 255, 0, 0), (22, 0, 0, 0), (51, 3, 0, 0)], [(1, 1, 0, 0), (50, 3, 0, 0)], [(64, 0, 0, 0)]]
def p117 : List Nat := [0, 11, 27, 28]
def mt118 : MT := (⟨"WordFolderModel", "isFigure", "(I)Z"⟩, prog_14_method_77_code, 1, some FieldType.boolean, 12, true)
def b118 : List (List Ai) := [[(2, 0, 0, 0), (0, 48, 0, 0), (54, 3, 1, 0)], [(2, 0, 0, 0), (0, 57, 0, 0), (56, 3, 2, 0)], [(0, 1, 0, 0), (51, 4, 0, 0)], [(0, 0, 0, 0), (50, 4, 0, 0)], [(65, 0, 0, 0)]]
def p118 : List Nat := [0, 6, 12, 16, 17]
def mt119 : MT := (⟨"WordFolderModel", "fails", "(I)Z"⟩, prog_14_method_78_code, 2, some FieldType.boolean, 12, false)
def b119 : List (List Ai) := [[(37, 0, 0, 0), (2, 1, 0, 0), (8, 12, 42, 216), (0, 0, 0, 0), (65, 0, 0, 0)]]
def p119 : List Nat := [0]
def mt120 : MT := (⟨"WordFolderModel", "markOfSign", "(I)I"⟩, prog_14_method_79_code, 1, some FieldType.int, 12, true)
def b120 : List (List Ai) := [[(2, 0, 0, 0), (0, 63, 0, 0), (53, 2, 1, 0)], [(0, 0, 0, 0), (51, 7, 0, 0)], [(2, 0, 0, 0), (0, 43, 0, 0), (53, 4, 3, 0)], [(0, 1, 0, 0), (51, 7, 0, 0)], [(2, 0, 0, 0), (0, 45, 0, 0), (53, 6, 5, 0)], [(0, 2, 0, 0), (51, 7, 0, 0)], [(1, 1, 0, 0), (50, 7, 0, 0)], [(64, 0, 0, 0)]]
def p120 : List Nat := [0, 6, 10, 16, 20, 26, 30, 31]
def mt121 : MT := (⟨"WordFolderModel", "readArrow", "(II)Z"⟩, prog_14_method_80_code, 5, some FieldType.boolean, 12, false)
def b121 : List (List Ai) := [[(37, 0, 0, 0), (27, 0, 0, 0), (6, 12, 41, 368), (0, 1, 0, 0), (17, 0, 0, 0), (8, 12, 41, 368), (37, 0, 0, 0), (6, 12, 41, 368), (3, 3, 0, 0), (37, 0, 0, 0), (31, 117, 1, 374), (31, 118, 1, 377), (59, 2, 1, 0)], [(37, 0, 0, 0), (37, 0, 0, 0), (6, 12, 41, 368), (31, 119, 2, 380), (65, 0, 0, 0)], [(37, 0, 0, 0), (31, 117, 1, 374), (0, 48, 0, 0), (18, 0, 0, 0), (3, 4, 0, 0), (37, 0, 0, 0), (27, 0, 0, 0), (6, 12, 41, 368), (0, 1, 0, 0), (17, 0, 0, 0), (8, 12, 41, 368), (2, 4, 0, 0), (63, 5, 3, 0)], [(37, 0, 0, 0), (31, 117, 1, 374), (31, 118, 1, 377), (58, 5, 4, 0)], [(0, 10, 0, 0), (2, 4, 0, 0), (19, 0, 0, 0), (37, 0, 0, 0), (31, 117, 1, 374), (17, 0, 0, 0), (0, 48, 0, 0), (18, 0, 0, 0), (3, 4, 0, 0), (37, 0, 0, 0), (27, 0, 0, 0), (6, 12, 41, 368), (0, 1, 0, 0), (17, 0, 0, 0), (8, 12, 41, 368), (50, 5, 0, 0)], [(37, 0, 0, 0), (0, 4, 0, 0), (2, 1, 0, 0), (2, 2, 0, 0), (2, 4, 0, 0), (30, 100, 5, 328), (37, 0, 0, 0), (7, 12, 30, 219), (37, 0, 0, 0), (6, 12, 46, 383), (2, 4, 0, 0), (12, 0, 0, 0), (37, 0, 0, 0), (7, 12, 31, 222), (37, 0, 0, 0), (6, 12, 46, 383), (2, 3, 0, 0), (12, 0, 0, 0), (37, 0, 0, 0), (27, 0, 0, 0), (6, 12, 46, 383), (0, 1, 0, 0), (17, 0, 0, 0), (8, 12, 46, 383), (0, 1, 0, 0), (65, 0, 0, 0)]]
def p121 : List Nat := [0, 25, 34, 58, 68, 93]
def mt122 : MT := (⟨"WordFolderModel", "readState", "(I)Z"⟩, prog_14_method_81_code, 5, some FieldType.boolean, 12, false)
def b122 : List (List Ai) := [[(37, 0, 0, 0), (31, 117, 1, 374), (31, 120, 1, 386), (3, 2, 0, 0), (2, 2, 0, 0), (1, 1, 0, 0), (52, 2, 1, 0)], [(2, 1, 0, 0), (0, 40, 0, 0), (53, 3, 2, 0)], [(37, 0, 0, 0), (37, 0, 0, 0), (6, 12, 41, 368), (31, 119, 2, 380), (65, 0, 0, 0)], [(37, 0, 0, 0), (7, 12, 21, 189), (0, 800, 0, 0), (2, 1, 0, 0), (17, 0, 0, 0), (2, 2, 0, 0), (12, 0, 0, 0), (0, 0, 0, 0), (3, 3, 0, 0), (50, 4, 0, 0)], [(2, 3, 0, 0), (0, 4, 0, 0), (55, 6, 5, 0)], [(37, 0, 0, 0), (0, 4, 0, 0), (2, 1, 0, 0), (2, 3, 0, 0), (1, 1, 0, 0), (30, 100, 5, 328), (4, 3, 1, 0), (51, 4, 0, 0)], [(37, 0, 0, 0), (27, 0, 0, 0), (6, 12, 41, 368), (0, 1, 0, 0), (17, 0, 0, 0), (8, 12, 41, 368), (0, 0, 0, 0), (3, 3, 0, 0), (50, 7, 0, 0)], [(37, 0, 0, 0), (31, 117, 1, 374), (0, 97, 0, 0), (18, 0, 0, 0), (2, 3, 0, 0), (37, 0, 0, 0), (6, 12, 2, 25), (0, 1, 0, 0), (18, 0, 0, 0), (31, 43, 3, 15), (58, 11, 8, 0)], [(37, 0, 0, 0), (31, 117, 1, 374), (0, 97, 0, 0), (18, 0, 0, 0), (3, 4, 0, 0), (37, 0, 0, 0), (2, 1, 0, 0), (2, 4, 0, 0), (31, 121, 3, 389), (59, 10, 9, 0)], [(0, 0, 0, 0), (65, 0, 0, 0)], [(2, 4, 0, 0), (0, 1, 0, 0), (17, 0, 0, 0), (3, 3, 0, 0), (51, 7, 0, 0)], [(37, 0, 0, 0), (31, 117, 1, 374), (0, 59, 0, 0), (52, 13, 12, 0)], [(37, 0, 0, 0), (37, 0, 0, 0), (6, 12, 41, 368), (31, 119, 2, 380), (65, 0, 0, 0)], [(37, 0, 0, 0), (27, 0, 0, 0), (6, 12, 41, 368), (0, 1, 0, 0), (17, 0, 0, 0), (8, 12, 41, 368), (0, 1, 0, 0), (65, 0, 0, 0)]]
def p122 : List Nat := [0, 13, 19, 28, 41, 46, 60, 72, 92, 111, 113, 121, 130, 139]
def mt123 : MT := (⟨"WordFolderModel", "readMachine", "()Z"⟩, prog_14_method_82_code, 3, some FieldType.boolean, 12, false)
def b123 : List (List Ai) := [[(37, 0, 0, 0), (0, 0, 0, 0), (8, 12, 41, 368), (37, 0, 0, 0), (1, 1, 0, 0), (8, 12, 42, 216), (37, 0, 0, 0), (0, 0, 0, 0), (8, 12, 46, 383), (0, 0, 0, 0), (3, 1, 0, 0), (50, 1, 0, 0)], [(2, 1, 0, 0), (58, 3, 2, 0)], [(37, 0, 0, 0), (6, 12, 41, 368), (37, 0, 0, 0), (6, 12, 43, 371), (55, 6, 3, 0)], [(37, 0, 0, 0), (2, 1, 0, 0), (31, 122, 2, 392), (59, 5, 4, 0)], [(0, 0, 0, 0), (65, 0, 0, 0)], [(4, 1, 1, 0), (51, 1, 0, 0)], [(37, 0, 0, 0), (7, 12, 20, 186), (0, 4, 0, 0), (2, 1, 0, 0), (12, 0, 0, 0), (0, 0, 0, 0), (3, 2, 0, 0), (50, 7, 0, 0)], [(2, 2, 0, 0), (37, 0, 0, 0), (6, 12, 46, 383), (55, 11, 8, 0)], [(37, 0, 0, 0), (7, 12, 30, 219), (2, 2, 0, 0), (10, 0, 0, 0), (2, 1, 0, 0), (54, 10, 9, 0)], [(37, 0, 0, 0), (37, 0, 0, 0), (7, 12, 31, 222), (2, 2, 0, 0), (10, 0, 0, 0), (31, 119, 2, 380), (65, 0, 0, 0)], [(4, 2, 1, 0), (51, 7, 0, 0)], [(0, 1, 0, 0), (65, 0, 0, 0)]]
def p123 : List Nat := [0, 17, 21, 32, 40, 42, 48, 57, 65, 75, 86, 92]
def mt124 : MT := (⟨"WordFolderModel", "target", "()I"⟩, prog_14_method_83_code, 2, some FieldType.int, 12, false)
def b124 : List (List Ai) := [[(37, 0, 0, 0), (37, 0, 0, 0), (6, 12, 1, 7), (8, 12, 43, 371), (37, 0, 0, 0), (31, 123, 1, 395), (3, 1, 0, 0), (37, 0, 0, 0), (0, 0, 0, 0), (8, 12, 1, 7), (2, 1, 0, 0), (59, 2, 1, 0)], [(1, 1, 0, 0), (64, 0, 0, 0)], [(37, 0, 0, 0), (0, 4, 0, 0), (0, 2, 0, 0), (30, 103, 3, 337), (37, 0, 0, 0), (7, 12, 20, 186), (0, 2, 0, 0), (10, 0, 0, 0), (64, 0, 0, 0)]]
def p124 : List Nat := [0, 22, 24]
def mt125 : MT := (⟨"WordFolderModel", "fault", "()I"⟩, prog_14_method_84_code, 1, some FieldType.int, 12, false)
def b125 : List (List Ai) := [[(37, 0, 0, 0), (6, 12, 42, 216), (64, 0, 0, 0)]]
def p125 : List Nat := [0]
def mt126 : MT := (⟨"WordFolderModel", "beginPairs", "()V"⟩, prog_14_method_85_code, 2, none, 12, false)
def b126 : List (List Ai) := [[(0, 0, 0, 0), (3, 1, 0, 0), (50, 1, 0, 0)], [(2, 1, 0, 0), (0, 40401, 0, 225), (55, 3, 2, 0)], [(37, 0, 0, 0), (7, 12, 36, 238), (2, 1, 0, 0), (1, 1, 0, 0), (12, 0, 0, 0), (4, 1, 1, 0), (51, 1, 0, 0)], [(37, 0, 0, 0), (0, 0, 0, 0), (8, 12, 52, 398), (37, 0, 0, 0), (0, 0, 0, 0), (0, 0, 0, 0), (1, 1, 0, 0), (1, 1, 0, 0), (31, 127, 5, 401), (28, 0, 0, 0), (67, 0, 0, 0)]]
def p126 : List Nat := [0, 2, 8, 21]
def mt127 : MT := (⟨"WordFolderModel", "comeTo", "(IIII)I"⟩, prog_14_method_86_code, 6, some FieldType.int, 12, false)
def b127 : List (List Ai) := [[(0, 201, 0, 0), (2, 1, 0, 0), (0, 1, 0, 0), (17, 0, 0, 0), (19, 0, 0, 0), (2, 2, 0, 0), (17, 0, 0, 0), (0, 1, 0, 0), (17, 0, 0, 0), (3, 5, 0, 0), (37, 0, 0, 0), (7, 12, 36, 238), (2, 5, 0, 0), (10, 0, 0, 0), (1, 1, 0, 0), (52, 2, 1, 0)], [(37, 0, 0, 0), (7, 12, 36, 238), (2, 5, 0, 0), (10, 0, 0, 0), (64, 0, 0, 0)], [(37, 0, 0, 0), (7, 12, 36, 238), (2, 5, 0, 0), (37, 0, 0, 0), (6, 12, 52, 398), (12, 0, 0, 0), (37, 0, 0, 0), (7, 12, 32, 226), (37, 0, 0, 0), (6, 12, 52, 398), (2, 1, 0, 0), (12, 0, 0, 0), (37, 0, 0, 0), (7, 12, 33, 229), (37, 0, 0, 0), (6, 12, 52, 398), (2, 2, 0, 0), (12, 0, 0, 0), (37, 0, 0, 0), (7, 12, 34, 232), (37, 0, 0, 0), (6, 12, 52, 398), (2, 3, 0, 0), (12, 0, 0, 0), (37, 0, 0, 0), (7, 12, 35, 235), (37, 0, 0, 0), (6, 12, 52, 398), (2, 4, 0, 0), (12, 0, 0, 0), (37, 0, 0, 0), (27, 0, 0, 0), (6, 12, 52, 398), (0, 1, 0, 0), (17, 0, 0, 0), (8, 12, 52, 398), (37, 0, 0, 0), (6, 12, 52, 398), (0, 1, 0, 0), (18, 0, 0, 0), (64, 0, 0, 0)]]
def p127 : List Nat := [0, 24, 32]
def mt128 : MT := (⟨"WordFolderModel", "isMarked", "(II)Z"⟩, prog_14_method_87_code, 3, some FieldType.boolean, 12, false)
def b128 : List (List Ai) := [[(2, 2, 0, 0), (1, 1, 0, 0), (52, 3, 1, 0)], [(37, 0, 0, 0), (2, 1, 0, 0), (2, 2, 0, 0), (31, 98, 3, 340), (0, 1, 0, 0), (53, 3, 2, 0)], [(0, 1, 0, 0), (51, 4, 0, 0)], [(0, 0, 0, 0), (50, 4, 0, 0)], [(65, 0, 0, 0)]]
def p128 : List Nat := [0, 5, 15, 19, 20]
def mt129 : MT := (⟨"WordFolderModel", "differs", "(II)I"⟩, prog_14_method_88_code, 6, some FieldType.int, 12, false)
def b129 : List (List Ai) := [[(37, 0, 0, 0), (30, 126, 1, 405), (0, 0, 0, 0), (3, 3, 0, 0), (50, 1, 0, 0)], [(2, 3, 0, 0), (37, 0, 0, 0), (6, 12, 52, 398), (55, 8, 2, 0)], [(37, 0, 0, 0), (2, 1, 0, 0), (37, 0, 0, 0), (7, 12, 32, 226), (2, 3, 0, 0), (10, 0, 0, 0), (31, 128, 3, 408), (37, 0, 0, 0), (2, 2, 0, 0), (37, 0, 0, 0), (7, 12, 33, 229), (2, 3, 0, 0), (10, 0, 0, 0), (31, 128, 3, 408), (52, 4, 3, 0)], [(2, 3, 0, 0), (64, 0, 0, 0)], [(0, 0, 0, 0), (3, 4, 0, 0), (50, 5, 0, 0)], [(2, 4, 0, 0), (37, 0, 0, 0), (6, 12, 2, 25), (55, 7, 6, 0)], [(37, 0, 0, 0), (37, 0, 0, 0), (2, 1, 0, 0), (37, 0, 0, 0), (7, 12, 32, 226), (2, 3, 0, 0), (10, 0, 0, 0), (2, 4, 0, 0), (31, 99, 4, 343), (37, 0, 0, 0), (2, 2, 0, 0), (37, 0, 0, 0), (7, 12, 33, 229), (2, 3, 0, 0), (10, 0, 0, 0), (2, 4, 0, 0), (31, 99, 4, 343), (2, 3, 0, 0), (2, 4, 0, 0), (31, 127, 5, 401), (3, 5, 0, 0), (4, 4, 1, 0), (51, 5, 0, 0)], [(4, 3, 1, 0), (51, 1, 0, 0)], [(1, 1, 0, 0), (64, 0, 0, 0)]]
def p129 : List Nat := [0, 6, 14, 39, 41, 44, 53, 94, 100]
def mt130 : MT := (⟨"WordFolderModel", "areMachines", "(II)Z"⟩, prog_14_method_89_code, 3, some FieldType.boolean, 12, false)
def b130 : List (List Ai) := [[(37, 0, 0, 0), (2, 1, 0, 0), (31, 102, 2, 334), (58, 3, 1, 0)], [(37, 0, 0, 0), (2, 2, 0, 0), (31, 102, 2, 334), (58, 3, 2, 0)], [(0, 1, 0, 0), (51, 4, 0, 0)], [(0, 0, 0, 0), (50, 4, 0, 0)], [(65, 0, 0, 0)]]
def p130 : List Nat := [0, 8, 16, 20, 21]
def mt131 : MT := (⟨"WordFolderModel", "apart", "(II)I"⟩, prog_14_method_90_code, 6, some FieldType.int, 12, false)
def b131 : List (List Ai) := [[(37, 0, 0, 0), (2, 1, 0, 0), (2, 2, 0, 0), (31, 130, 3, 411), (59, 2, 1, 0)], [(1, 1, 0, 0), (64, 0, 0, 0)], [(37, 0, 0, 0), (2, 1, 0, 0), (2, 2, 0, 0), (31, 129, 3, 414), (3, 3, 0, 0), (2, 3, 0, 0), (1, 1, 0, 0), (53, 4, 3, 0)], [(1, 2, 0, 0), (64, 0, 0, 0)], [(0, 0, 0, 0), (3, 4, 0, 0), (2, 3, 0, 0), (3, 5, 0, 0), (50, 5, 0, 0)], [(37, 0, 0, 0), (7, 12, 34, 232), (2, 5, 0, 0), (10, 0, 0, 0), (1, 1, 0, 0), (52, 7, 6, 0)], [(4, 4, 1, 0), (37, 0, 0, 0), (7, 12, 34, 232), (2, 5, 0, 0), (10, 0, 0, 0), (3, 5, 0, 0), (51, 5, 0, 0)], [(37, 0, 0, 0), (2, 4, 0, 0), (8, 12, 62, 307), (2, 3, 0, 0), (3, 5, 0, 0), (50, 8, 0, 0)], [(37, 0, 0, 0), (7, 12, 34, 232), (2, 5, 0, 0), (10, 0, 0, 0), (1, 1, 0, 0), (52, 10, 9, 0)], [(5, 4, 1, 0), (37, 0, 0, 0), (7, 12, 45, 265), (2, 4, 0, 0), (0, 97, 0, 0), (37, 0, 0, 0), (7, 12, 35, 235), (2, 5, 0, 0), (10, 0, 0, 0), (17, 0, 0, 0), (26, 0, 0, 0), (13, 0, 0, 0), (37, 0, 0, 0), (7, 12, 34, 232), (2, 5, 0, 0), (10, 0, 0, 0), (3, 5, 0, 0), (51, 8, 0, 0)], [(37, 0, 0, 0), (6, 12, 62, 307), (64, 0, 0, 0)]]
def p131 : List Nat := [0, 9, 11, 23, 26, 32, 43, 58, 67, 78, 111]
def mt132 : MT := (⟨"WordFolderModel", "both", "(III)I"⟩, prog_14_method_91_code, 8, some FieldType.int, 12, false)
def b132 : List (List Ai) := [[(37, 0, 0, 0), (2, 1, 0, 0), (2, 2, 0, 0), (31, 130, 3, 411), (58, 2, 1, 0)], [(2, 3, 0, 0), (0, 0, 0, 0), (0, 2, 0, 0), (31, 43, 3, 15), (59, 3, 2, 0)], [(1, 1, 0, 0), (64, 0, 0, 0)], [(37, 0, 0, 0), (30, 126, 1, 405), (0, 0, 0, 0), (3, 4, 0, 0), (50, 4, 0, 0)], [(2, 4, 0, 0), (37, 0, 0, 0), (6, 12, 52, 398), (55, 26, 5, 0)], [(37, 0, 0, 0), (6, 12, 52, 398), (0, 200, 0, 0), (57, 7, 6, 0)], [(1, 3, 0, 0), (64, 0, 0, 0)], [(37, 0, 0, 0), (2, 1, 0, 0), (37, 0, 0, 0), (7, 12, 32, 226), (2, 4, 0, 0), (10, 0, 0, 0), (31, 128, 3, 408), (3, 5, 0, 0), (37, 0, 0, 0), (2, 2, 0, 0), (37, 0, 0, 0), (7, 12, 33, 229), (2, 4, 0, 0), (10, 0, 0, 0), (31, 128, 3, 408), (3, 6, 0, 0), (37, 0, 0, 0), (7, 12, 21, 189), (0, 800, 0, 0), (2, 4, 0, 0), (17, 0, 0, 0), (2, 3, 0, 0), (59, 11, 8, 0)], [(2, 5, 0, 0), (58, 18, 9, 0)], [(2, 6, 0, 0), (58, 18, 10, 0)], [(51, 17, 0, 0)], [(2, 3, 0, 0), (0, 1, 0, 0), (53, 15, 12, 0)], [(2, 5, 0, 0), (59, 17, 13, 0)], [(2, 6, 0, 0), (58, 18, 14, 0)], [(51, 17, 0, 0)], [(2, 5, 0, 0), (58, 18, 16, 0)], [(2, 6, 0, 0), (59, 18, 17, 0)], [(0, 1, 0, 0), (51, 19, 0, 0)], [(0, 2, 0, 0), (50, 19, 0, 0)], [(12, 0, 0, 0), (0, 0, 0, 0), (3, 7, 0, 0), (50, 20, 0, 0)], [(2, 7, 0, 0), (0, 4, 0, 0), (55, 25, 21, 0)], [(37, 0, 0, 0), (0, 4, 0, 0), (2, 4, 0, 0), (2, 7, 0, 0), (2, 7, 0, 0), (37, 0, 0, 0), (6, 12, 2, 25), (55, 23, 22, 0)], [(37, 0, 0, 0), (37, 0, 0, 0), (2, 1, 0, 0), (37, 0, 0, 0), (7, 12, 32, 226), (2, 4, 0, 0), (10, 0, 0, 0), (2, 7, 0, 0), (31, 99, 4, 343), (37, 0, 0, 0), (2, 2, 0, 0), (37, 0, 0, 0), (7, 12, 33, 229), (2, 4, 0, 0), (10, 0, 0, 0), (2, 7, 0, 0), (31, 99, 4, 343), (2, 4, 0, 0), (2, 7, 0, 0), (31, 127, 5, 401), (51, 24, 0, 0)], [(1, 1, 0, 0), (50, 24, 0, 0)], [(30, 100, 5, 328), (4, 7, 1, 0), (51, 20, 0, 0)], [(4, 4, 1, 0), (51, 4, 0, 0)], [(37, 0, 0, 0), (7, 12, 20, 186), (0, 4, 0, 0), (37, 0, 0, 0), (6, 12, 52, 398), (12, 0, 0, 0), (37, 0, 0, 0), (0, 4, 0, 0), (0, 3, 0, 0), (30, 103, 3, 337), (37, 0, 0, 0), (7, 12, 20, 186), (0, 3, 0, 0), (10, 0, 0, 0), (64, 0, 0, 0)]]
def p132 : List Nat := [0, 9, 18, 20, 27, 36, 46, 49, 91, 96, 101, 104, 109, 114, 119, 122, 127, 132, 136, 137, 141, 147, 162, 201, 202, 211, 217]
def mt133 : MT := (⟨"WordFolderModel", "stepOf", "(III)I"⟩, prog_14_method_92_code, 5, some FieldType.int, 12, false)
def b133 : List (List Ai) := [[(2, 2, 0, 0), (37, 0, 0, 0), (7, 12, 20, 186), (2, 1, 0, 0), (10, 0, 0, 0), (53, 2, 1, 0)], [(1, 1, 0, 0), (51, 3, 0, 0)], [(37, 0, 0, 0), (2, 1, 0, 0), (2, 2, 0, 0), (2, 3, 0, 0), (31, 99, 4, 343), (50, 3, 0, 0)], [(3, 4, 0, 0), (2, 4, 0, 0), (1, 1, 0, 0), (53, 5, 4, 0)], [(37, 0, 0, 0), (7, 12, 20, 186), (2, 1, 0, 0), (10, 0, 0, 0), (51, 6, 0, 0)], [(2, 4, 0, 0), (50, 6, 0, 0)], [(64, 0, 0, 0)]]
def p133 : List Nat := [0, 10, 14, 21, 29, 38, 40]
def mt134 : MT := (⟨"WordFolderModel", "layCome", "(I)V"⟩, prog_14_method_93_code, 6, none, 12, false)
def b134 : List (List Ai) := [[(37, 0, 0, 0), (7, 12, 20, 186), (2, 1, 0, 0), (10, 0, 0, 0), (3, 2, 0, 0), (0, 0, 0, 0), (3, 3, 0, 0), (50, 1, 0, 0)], [(2, 3, 0, 0), (2, 2, 0, 0), (56, 6, 2, 0)], [(37, 0, 0, 0), (7, 12, 37, 241), (2, 3, 0, 0), (2, 3, 0, 0), (59, 4, 3, 0)], [(0, 1, 0, 0), (51, 5, 0, 0)], [(0, 0, 0, 0), (50, 5, 0, 0)], [(14, 0, 0, 0), (4, 3, 1, 0), (51, 1, 0, 0)], [(0, 1, 0, 0), (3, 3, 0, 0), (50, 7, 0, 0)], [(2, 3, 0, 0), (58, 20, 8, 0)], [(0, 0, 0, 0), (3, 3, 0, 0), (0, 0, 0, 0), (3, 4, 0, 0), (50, 9, 0, 0)], [(2, 4, 0, 0), (2, 2, 0, 0), (56, 19, 10, 0)], [(0, 0, 0, 0), (3, 5, 0, 0), (50, 11, 0, 0)], [(2, 5, 0, 0), (37, 0, 0, 0), (6, 12, 2, 25), (55, 18, 12, 0)], [(37, 0, 0, 0), (7, 12, 37, 241), (2, 4, 0, 0), (15, 0, 0, 0), (58, 18, 13, 0)], [(2, 3, 0, 0), (59, 15, 14, 0)], [(37, 0, 0, 0), (7, 12, 37, 241), (37, 0, 0, 0), (2, 1, 0, 0), (2, 4, 0, 0), (2, 5, 0, 0), (31, 133, 4, 417), (15, 0, 0, 0), (59, 16, 15, 0)], [(0, 1, 0, 0), (51, 17, 0, 0)], [(0, 0, 0, 0), (50, 17, 0, 0)], [(3, 3, 0, 0), (37, 0, 0, 0), (7, 12, 37, 241), (37, 0, 0, 0), (2, 1, 0, 0), (2, 4, 0, 0), (2, 5, 0, 0), (31, 133, 4, 417), (0, 1, 0, 0), (14, 0, 0, 0), (4, 5, 1, 0), (51, 11, 0, 0)], [(4, 4, 1, 0), (51, 9, 0, 0)], [(51, 7, 0, 0)], [(67, 0, 0, 0)]]
def p134 : List Nat := [0, 9, 14, 23, 27, 28, 35, 37, 41, 46, 52, 55, 64, 74, 78, 95, 99, 100, 122, 128, 131]
def mt135 : MT := (⟨"WordFolderModel", "areAlike", "(III)Z"⟩, prog_14_method_94_code, 5, some FieldType.boolean, 12, false)
def b135 : List (List Ai) := [[(37, 0, 0, 0), (7, 12, 38, 244), (2, 2, 0, 0), (10, 0, 0, 0), (37, 0, 0, 0), (7, 12, 38, 244), (2, 3, 0, 0), (10, 0, 0, 0), (52, 2, 1, 0)], [(0, 0, 0, 0), (65, 0, 0, 0)], [(0, 0, 0, 0), (3, 4, 0, 0), (50, 3, 0, 0)], [(2, 4, 0, 0), (37, 0, 0, 0), (6, 12, 2, 25), (55, 7, 4, 0)], [(37, 0, 0, 0), (7, 12, 38, 244), (37, 0, 0, 0), (2, 1, 0, 0), (2, 2, 0, 0), (2, 4, 0, 0), (31, 133, 4, 417), (10, 0, 0, 0), (37, 0, 0, 0), (7, 12, 38, 244), (37, 0, 0, 0), (2, 1, 0, 0), (2, 3, 0, 0), (2, 4, 0, 0), (31, 133, 4, 417), (10, 0, 0, 0), (52, 6, 5, 0)], [(0, 0, 0, 0), (65, 0, 0, 0)], [(4, 4, 1, 0), (51, 3, 0, 0)], [(0, 1, 0, 0), (65, 0, 0, 0)]]
def p135 : List Nat := [0, 15, 17, 20, 29, 58, 60, 66]
def mt136 : MT := (⟨"WordFolderModel", "laySorts", "(I)I"⟩, prog_14_method_95_code, 7, some FieldType.int, 12, false)
def b136 : List (List Ai) := [[(37, 0, 0, 0), (2, 1, 0, 0), (30, 134, 2, 420), (37, 0, 0, 0), (7, 12, 20, 186), (2, 1, 0, 0), (10, 0, 0, 0), (3, 2, 0, 0), (0, 0, 0, 0), (3, 3, 0, 0), (50, 1, 0, 0)], [(2, 3, 0, 0), (2, 2, 0, 0), (56, 7, 2, 0)], [(37, 0, 0, 0), (7, 12, 38, 244), (2, 3, 0, 0), (2, 3, 0, 0), (2, 2, 0, 0), (55, 5, 3, 0)], [(37, 0, 0, 0), (2, 1, 0, 0), (2, 3, 0, 0), (31, 98, 3, 340), (0, 1, 0, 0), (53, 5, 4, 0)], [(0, 1, 0, 0), (51, 6, 0, 0)], [(0, 0, 0, 0), (50, 6, 0, 0)], [(12, 0, 0, 0), (4, 3, 1, 0), (51, 1, 0, 0)], [(0, 0, 0, 0), (3, 3, 0, 0), (0, 1, 0, 0), (3, 4, 0, 0), (50, 8, 0, 0)], [(2, 4, 0, 0), (2, 3, 0, 0), (52, 30, 9, 0)], [(2, 4, 0, 0), (3, 3, 0, 0), (0, 0, 0, 0), (3, 4, 0, 0), (0, 0, 0, 0), (3, 5, 0, 0), (50, 10, 0, 0)], [(2, 5, 0, 0), (2, 2, 0, 0), (56, 24, 11, 0)], [(37, 0, 0, 0), (7, 12, 37, 241), (2, 5, 0, 0), (15, 0, 0, 0), (59, 13, 12, 0)], [(51, 23, 0, 0)], [(0, 0, 0, 0), (3, 6, 0, 0), (50, 14, 0, 0)], [(2, 6, 0, 0), (2, 5, 0, 0), (55, 18, 15, 0)], [(37, 0, 0, 0), (7, 12, 37, 241), (2, 6, 0, 0), (15, 0, 0, 0), (58, 17, 16, 0)], [(37, 0, 0, 0), (2, 1, 0, 0), (2, 5, 0, 0), (2, 6, 0, 0), (31, 135, 4, 423), (59, 18, 17, 0)], [(4, 6, 1, 0), (51, 14, 0, 0)], [(37, 0, 0, 0), (7, 12, 39, 247), (2, 5, 0, 0), (2, 6, 0, 0), (2, 5, 0, 0), (55, 20, 19, 0)], [(37, 0, 0, 0), (7, 12, 39, 247), (2, 6, 0, 0), (10, 0, 0, 0), (51, 21, 0, 0)], [(2, 4, 0, 0), (50, 21, 0, 0)], [(12, 0, 0, 0), (2, 6, 0, 0), (2, 5, 0, 0), (53, 23, 22, 0)], [(4, 4, 1, 0), (50, 23, 0, 0)], [(4, 5, 1, 0), (51, 10, 0, 0)], [(0, 0, 0, 0), (3, 5, 0, 0), (50, 25, 0, 0)], [(2, 5, 0, 0), (2, 2, 0, 0), (56, 29, 26, 0)], [(37, 0, 0, 0), (7, 12, 37, 241), (2, 5, 0, 0), (15, 0, 0, 0), (58, 28, 27, 0)], [(37, 0, 0, 0), (7, 12, 38, 244), (2, 5, 0, 0), (37, 0, 0, 0), (7, 12, 39, 247), (2, 5, 0, 0), (10, 0, 0, 0), (12, 0, 0, 0), (50, 28, 0, 0)], [(4, 5, 1, 0), (51, 25, 0, 0)], [(51, 8, 0, 0)], [(2, 4, 0, 0), (64, 0, 0, 0)]]
def p136 : List Nat := [0, 14, 19, 29, 39, 43, 44, 51, 56, 62, 71, 77, 87, 90, 93, 100, 110, 122, 128, 141, 151, 153, 161, 164, 170, 173, 179, 189, 203, 209, 212]
def mt137 : MT := (⟨"WordFolderModel", "small", "(I)I"⟩, prog_14_method_96_code, 2, some FieldType.int, 12, false)
def b137 : List (List Ai) := [[(37, 0, 0, 0), (2, 1, 0, 0), (31, 102, 2, 334), (58, 2, 1, 0)], [(37, 0, 0, 0), (2, 1, 0, 0), (31, 136, 2, 426), (51, 3, 0, 0)], [(1, 1, 0, 0), (50, 3, 0, 0)], [(64, 0, 0, 0)]]
def p137 : List Nat := [0, 8, 16, 17]
def mt138 : MT := (⟨"WordFolderModel", "numberSort", "(II)I"⟩, prog_14_method_97_code, 3, some FieldType.int, 12, false)
def b138 : List (List Ai) := [[(37, 0, 0, 0), (7, 12, 41, 253), (37, 0, 0, 0), (7, 12, 38, 244), (2, 1, 0, 0), (10, 0, 0, 0), (10, 0, 0, 0), (1, 1, 0, 0), (52, 2, 1, 0)], [(2, 2, 0, 0), (64, 0, 0, 0)], [(37, 0, 0, 0), (7, 12, 41, 253), (37, 0, 0, 0), (7, 12, 38, 244), (2, 1, 0, 0), (10, 0, 0, 0), (2, 2, 0, 0), (12, 0, 0, 0), (37, 0, 0, 0), (7, 12, 40, 250), (2, 2, 0, 0), (2, 1, 0, 0), (12, 0, 0, 0), (2, 2, 0, 0), (0, 1, 0, 0), (17, 0, 0, 0), (64, 0, 0, 0)]]
def p138 : List Nat := [0, 15, 17]
def mt139 : MT := (⟨"WordFolderModel", "tight", "(I)I"⟩, prog_14_method_98_code, 7, some FieldType.int, 12, false)
def b139 : List (List Ai) := [[(37, 0, 0, 0), (2, 1, 0, 0), (31, 102, 2, 334), (59, 2, 1, 0)], [(1, 1, 0, 0), (64, 0, 0, 0)], [(37, 0, 0, 0), (2, 1, 0, 0), (31, 136, 2, 426), (3, 2, 0, 0), (0, 0, 0, 0), (3, 3, 0, 0), (50, 3, 0, 0)], [(2, 3, 0, 0), (2, 2, 0, 0), (55, 5, 4, 0)], [(37, 0, 0, 0), (7, 12, 41, 253), (2, 3, 0, 0), (1, 1, 0, 0), (12, 0, 0, 0), (4, 3, 1, 0), (51, 3, 0, 0)], [(37, 0, 0, 0), (0, 0, 0, 0), (0, 0, 0, 0), (31, 138, 3, 429), (3, 3, 0, 0), (0, 0, 0, 0), (3, 4, 0, 0), (50, 6, 0, 0)], [(2, 4, 0, 0), (2, 3, 0, 0), (55, 20, 7, 0)], [(37, 0, 0, 0), (7, 12, 40, 250), (2, 4, 0, 0), (10, 0, 0, 0), (3, 5, 0, 0), (37, 0, 0, 0), (7, 12, 21, 189), (0, 800, 0, 0), (2, 4, 0, 0), (17, 0, 0, 0), (2, 5, 0, 0), (37, 0, 0, 0), (7, 12, 20, 186), (2, 1, 0, 0), (10, 0, 0, 0), (55, 10, 8, 0)], [(37, 0, 0, 0), (2, 1, 0, 0), (2, 5, 0, 0), (31, 98, 3, 340), (0, 1, 0, 0), (53, 10, 9, 0)], [(0, 1, 0, 0), (51, 11, 0, 0)], [(0, 2, 0, 0), (50, 11, 0, 0)], [(12, 0, 0, 0), (0, 0, 0, 0), (3, 6, 0, 0), (50, 12, 0, 0)], [(2, 6, 0, 0), (0, 4, 0, 0), (55, 19, 13, 0)], [(2, 6, 0, 0), (37, 0, 0, 0), (6, 12, 2, 25), (55, 15, 14, 0)], [(37, 0, 0, 0), (37, 0, 0, 0), (2, 1, 0, 0), (2, 5, 0, 0), (2, 6, 0, 0), (31, 133, 4, 417), (2, 3, 0, 0), (31, 138, 3, 429), (3, 3, 0, 0), (50, 15, 0, 0)], [(37, 0, 0, 0), (0, 4, 0, 0), (2, 4, 0, 0), (2, 6, 0, 0), (2, 6, 0, 0), (37, 0, 0, 0), (6, 12, 2, 25), (55, 17, 16, 0)], [(37, 0, 0, 0), (7, 12, 41, 253), (37, 0, 0, 0), (7, 12, 38, 244), (37, 0, 0, 0), (2, 1, 0, 0), (2, 5, 0, 0), (2, 6, 0, 0), (31, 133, 4, 417), (10, 0, 0, 0), (10, 0, 0, 0), (51, 18, 0, 0)], [(1, 1, 0, 0), (50, 18, 0, 0)], [(30, 100, 5, 328), (4, 6, 1, 0), (51, 12, 0, 0)], [(4, 4, 1, 0), (51, 6, 0, 0)], [(37, 0, 0, 0), (7, 12, 20, 186), (0, 4, 0, 0), (2, 3, 0, 0), (12, 0, 0, 0), (37, 0, 0, 0), (0, 4, 0, 0), (0, 3, 0, 0), (30, 103, 3, 337), (2, 3, 0, 0), (64, 0, 0, 0)]]
def p139 : List Nat := [0, 8, 10, 18, 23, 36, 46, 52, 82, 93, 97, 98, 102, 108, 117, 132, 147, 169, 170, 179, 185]
def mt140 : MT := (⟨"WordFolderModel", "layTaken", "(I)V"⟩, prog_14_method_99_code, 7, none, 12, false)
def b140 : List (List Ai) := [[(37, 0, 0, 0), (7, 12, 20, 186), (2, 1, 0, 0), (10, 0, 0, 0), (3, 2, 0, 0), (0, 0, 0, 0), (3, 3, 0, 0), (50, 1, 0, 0)], [(2, 3, 0, 0), (2, 2, 0, 0), (56, 7, 2, 0)], [(37, 0, 0, 0), (7, 12, 42, 256), (2, 3, 0, 0), (2, 3, 0, 0), (2, 2, 0, 0), (55, 5, 3, 0)], [(37, 0, 0, 0), (2, 1, 0, 0), (2, 3, 0, 0), (31, 98, 3, 340), (0, 1, 0, 0), (53, 5, 4, 0)], [(0, 1, 0, 0), (51, 6, 0, 0)], [(0, 0, 0, 0), (50, 6, 0, 0)], [(12, 0, 0, 0), (4, 3, 1, 0), (51, 1, 0, 0)], [(0, 1, 0, 0), (3, 3, 0, 0), (50, 8, 0, 0)], [(2, 3, 0, 0), (0, 10, 0, 0), (56, 16, 9, 0)], [(0, 0, 0, 0), (3, 4, 0, 0), (50, 10, 0, 0)], [(2, 4, 0, 0), (2, 2, 0, 0), (56, 15, 11, 0)], [(0, 0, 0, 0), (3, 5, 0, 0), (0, 0, 0, 0), (3, 6, 0, 0), (50, 12, 0, 0)], [(2, 6, 0, 0), (37, 0, 0, 0), (6, 12, 2, 25), (55, 14, 13, 0)], [(2, 5, 0, 0), (37, 0, 0, 0), (7, 12, 42, 256), (0, 201, 0, 0), (2, 3, 0, 0), (0, 1, 0, 0), (18, 0, 0, 0), (19, 0, 0, 0), (37, 0, 0, 0), (2, 1, 0, 0), (2, 4, 0, 0), (2, 6, 0, 0), (31, 133, 4, 417), (17, 0, 0, 0), (10, 0, 0, 0), (17, 0, 0, 0), (3, 5, 0, 0), (4, 6, 1, 0), (51, 12, 0, 0)], [(37, 0, 0, 0), (7, 12, 42, 256), (0, 201, 0, 0), (2, 3, 0, 0), (19, 0, 0, 0), (2, 4, 0, 0), (17, 0, 0, 0), (2, 5, 0, 0), (12, 0, 0, 0), (4, 4, 1, 0), (51, 10, 0, 0)], [(4, 3, 1, 0), (51, 8, 0, 0)], [(67, 0, 0, 0)]]
def p140 : List Nat := [0, 9, 14, 24, 34, 38, 39, 46, 48, 54, 57, 63, 69, 78, 111, 132, 138]
def mt141 : MT := (⟨"WordFolderModel", "taken", "(II)I"⟩, prog_14_method_100_code, 8, some FieldType.int, 12, false)
def b141 : List (List Ai) := [[(37, 0, 0, 0), (2, 1, 0, 0), (31, 102, 2, 334), (58, 2, 1, 0)], [(2, 2, 0, 0), (61, 3, 2, 0)], [(1, 1, 0, 0), (64, 0, 0, 0)], [(37, 0, 0, 0), (2, 1, 0, 0), (30, 140, 2, 432), (2, 2, 0, 0), (3, 3, 0, 0), (0, 0, 0, 0), (3, 4, 0, 0), (50, 4, 0, 0)], [(2, 4, 0, 0), (0, 10, 0, 0), (56, 7, 5, 0)], [(2, 3, 0, 0), (37, 0, 0, 0), (7, 12, 42, 256), (0, 201, 0, 0), (2, 4, 0, 0), (19, 0, 0, 0), (10, 0, 0, 0), (54, 7, 6, 0)], [(2, 3, 0, 0), (37, 0, 0, 0), (7, 12, 42, 256), (0, 201, 0, 0), (2, 4, 0, 0), (19, 0, 0, 0), (10, 0, 0, 0), (18, 0, 0, 0), (3, 3, 0, 0), (4, 4, 1, 0), (51, 4, 0, 0)], [(2, 4, 0, 0), (0, 10, 0, 0), (57, 9, 8, 0)], [(1, 2, 0, 0), (64, 0, 0, 0)], [(37, 0, 0, 0), (0, 0, 0, 0), (8, 12, 62, 307), (0, 0, 0, 0), (3, 5, 0, 0), (2, 4, 0, 0), (0, 1, 0, 0), (18, 0, 0, 0), (3, 6, 0, 0), (50, 10, 0, 0)], [(2, 6, 0, 0), (60, 15, 11, 0)], [(0, 0, 0, 0), (3, 7, 0, 0), (50, 12, 0, 0)], [(2, 3, 0, 0), (37, 0, 0, 0), (7, 12, 42, 256), (0, 201, 0, 0), (2, 6, 0, 0), (19, 0, 0, 0), (37, 0, 0, 0), (2, 1, 0, 0), (2, 5, 0, 0), (2, 7, 0, 0), (31, 133, 4, 417), (17, 0, 0, 0), (10, 0, 0, 0), (54, 14, 13, 0)], [(2, 3, 0, 0), (37, 0, 0, 0), (7, 12, 42, 256), (0, 201, 0, 0), (2, 6, 0, 0), (19, 0, 0, 0), (37, 0, 0, 0), (2, 1, 0, 0), (2, 5, 0, 0), (2, 7, 0, 0), (31, 133, 4, 417), (17, 0, 0, 0), (10, 0, 0, 0), (18, 0, 0, 0), (3, 3, 0, 0), (4, 7, 1, 0), (51, 12, 0, 0)], [(37, 0, 0, 0), (0, 97, 0, 0), (2, 7, 0, 0), (17, 0, 0, 0), (30, 146, 2, 313), (37, 0, 0, 0), (2, 1, 0, 0), (2, 5, 0, 0), (2, 7, 0, 0), (31, 133, 4, 417), (3, 5, 0, 0), (5, 6, 1, 0), (51, 10, 0, 0)], [(37, 0, 0, 0), (6, 12, 62, 307), (64, 0, 0, 0)]]
def p141 : List Nat := [0, 8, 12, 14, 24, 31, 46, 66, 73, 76, 90, 95, 98, 123, 153, 179]
def mt142 : MT := (⟨"WordFolderModel", "wrong", "(I)I"⟩, prog_14_method_101_code, 4, some FieldType.int, 12, false)
def b142 : List (List Ai) := [[(37, 0, 0, 0), (2, 1, 0, 0), (31, 102, 2, 334), (59, 2, 1, 0)], [(1, 1, 0, 0), (64, 0, 0, 0)], [(0, 0, 0, 0), (3, 2, 0, 0), (0, 0, 0, 0), (3, 3, 0, 0), (50, 3, 0, 0)], [(2, 3, 0, 0), (37, 0, 0, 0), (6, 12, 8, 28), (55, 8, 4, 0)], [(2, 2, 0, 0), (37, 0, 0, 0), (2, 1, 0, 0), (37, 0, 0, 0), (7, 12, 2, 31), (2, 3, 0, 0), (10, 0, 0, 0), (37, 0, 0, 0), (7, 12, 3, 35), (2, 3, 0, 0), (10, 0, 0, 0), (31, 107, 4, 346), (37, 0, 0, 0), (7, 12, 4, 46), (2, 3, 0, 0), (15, 0, 0, 0), (52, 6, 5, 0)], [(0, 1, 0, 0), (51, 7, 0, 0)], [(0, 0, 0, 0), (50, 7, 0, 0)], [(17, 0, 0, 0), (3, 2, 0, 0), (4, 3, 1, 0), (51, 3, 0, 0)], [(2, 2, 0, 0), (64, 0, 0, 0)]]
def p142 : List Nat := [0, 8, 10, 14, 22, 49, 53, 54, 62]
def mt143 : MT := (⟨"WordFolderModel", "layUseful", "(I)I"⟩, prog_14_method_102_code, 7, some FieldType.int, 12, false)
def b143 : List (List Ai) := [[(37, 0, 0, 0), (2, 1, 0, 0), (30, 134, 2, 420), (37, 0, 0, 0), (7, 12, 20, 186), (2, 1, 0, 0), (10, 0, 0, 0), (3, 2, 0, 0), (0, 0, 0, 0), (3, 3, 0, 0), (50, 1, 0, 0)], [(2, 3, 0, 0), (2, 2, 0, 0), (56, 7, 2, 0)], [(37, 0, 0, 0), (7, 12, 43, 259), (2, 3, 0, 0), (2, 3, 0, 0), (2, 2, 0, 0), (55, 5, 3, 0)], [(37, 0, 0, 0), (2, 1, 0, 0), (2, 3, 0, 0), (31, 98, 3, 340), (0, 1, 0, 0), (53, 5, 4, 0)], [(0, 1, 0, 0), (51, 6, 0, 0)], [(0, 0, 0, 0), (50, 6, 0, 0)], [(14, 0, 0, 0), (4, 3, 1, 0), (51, 1, 0, 0)], [(0, 1, 0, 0), (3, 3, 0, 0), (50, 8, 0, 0)], [(2, 3, 0, 0), (58, 21, 9, 0)], [(0, 0, 0, 0), (3, 3, 0, 0), (0, 0, 0, 0), (3, 4, 0, 0), (50, 10, 0, 0)], [(2, 4, 0, 0), (2, 2, 0, 0), (55, 20, 11, 0)], [(37, 0, 0, 0), (7, 12, 43, 259), (2, 4, 0, 0), (15, 0, 0, 0), (3, 5, 0, 0), (0, 0, 0, 0), (3, 6, 0, 0), (50, 12, 0, 0)], [(2, 6, 0, 0), (37, 0, 0, 0), (6, 12, 2, 25), (55, 15, 13, 0)], [(2, 5, 0, 0), (59, 15, 14, 0)], [(37, 0, 0, 0), (7, 12, 43, 259), (37, 0, 0, 0), (2, 1, 0, 0), (2, 4, 0, 0), (2, 6, 0, 0), (31, 133, 4, 417), (15, 0, 0, 0), (3, 5, 0, 0), (4, 6, 1, 0), (51, 12, 0, 0)], [(2, 3, 0, 0), (59, 17, 16, 0)], [(2, 5, 0, 0), (37, 0, 0, 0), (7, 12, 43, 259), (2, 4, 0, 0), (15, 0, 0, 0), (52, 18, 17, 0)], [(0, 1, 0, 0), (51, 19, 0, 0)], [(0, 0, 0, 0), (50, 19, 0, 0)], [(3, 3, 0, 0), (37, 0, 0, 0), (7, 12, 43, 259), (2, 4, 0, 0), (2, 5, 0, 0), (14, 0, 0, 0), (4, 4, 1, 0), (51, 10, 0, 0)], [(51, 8, 0, 0)], [(0, 0, 0, 0), (3, 4, 0, 0), (0, 0, 0, 0), (3, 5, 0, 0), (50, 22, 0, 0)], [(2, 5, 0, 0), (2, 2, 0, 0), (55, 31, 23, 0)], [(37, 0, 0, 0), (7, 12, 43, 259), (2, 5, 0, 0), (37, 0, 0, 0), (7, 12, 43, 259), (2, 5, 0, 0), (15, 0, 0, 0), (58, 26, 24, 0)], [(37, 0, 0, 0), (7, 12, 37, 241), (2, 5, 0, 0), (15, 0, 0, 0), (58, 26, 25, 0)], [(0, 1, 0, 0), (51, 27, 0, 0)], [(0, 0, 0, 0), (50, 27, 0, 0)], [(14, 0, 0, 0), (2, 4, 0, 0), (37, 0, 0, 0), (7, 12, 43, 259), (2, 5, 0, 0), (15, 0, 0, 0), (58, 29, 28, 0)], [(0, 1, 0, 0), (51, 30, 0, 0)], [(0, 0, 0, 0), (50, 30, 0, 0)], [(17, 0, 0, 0), (3, 4, 0, 0), (4, 5, 1, 0), (51, 22, 0, 0)], [(2, 4, 0, 0), (64, 0, 0, 0)]]
def p143 : List Nat := [0, 14, 19, 29, 39, 43, 44, 51, 53, 57, 62, 68, 80, 89, 94, 116, 120, 132, 136, 137, 153, 156, 162, 168, 184, 194, 198, 199, 212, 216, 217, 226]
def mt144 : MT := (⟨"WordFolderModel", "useful", "(I)I"⟩, prog_14_method_103_code, 2, some FieldType.int, 12, false)
def b144 : List (List Ai) := [[(37, 0, 0, 0), (2, 1, 0, 0), (31, 102, 2, 334), (58, 2, 1, 0)], [(37, 0, 0, 0), (2, 1, 0, 0), (31, 143, 2, 435), (51, 3, 0, 0)], [(1, 1, 0, 0), (50, 3, 0, 0)], [(64, 0, 0, 0)]]
def p144 : List Nat := [0, 8, 16, 17]
def mt145 : MT := (⟨"WordFolderModel", "longest", "(I)I"⟩, prog_14_method_104_code, 9, some FieldType.int, 12, false)
def b145 : List (List Ai) := [[(37, 0, 0, 0), (2, 1, 0, 0), (31, 102, 2, 334), (59, 2, 1, 0)], [(1, 1, 0, 0), (64, 0, 0, 0)], [(37, 0, 0, 0), (2, 1, 0, 0), (31, 143, 2, 435), (3, 2, 0, 0), (2, 2, 0, 0), (59, 4, 3, 0)], [(1, 2, 0, 0), (64, 0, 0, 0)], [(37, 0, 0, 0), (7, 12, 20, 186), (2, 1, 0, 0), (10, 0, 0, 0), (3, 3, 0, 0), (0, 0, 0, 0), (3, 4, 0, 0), (50, 5, 0, 0)], [(2, 4, 0, 0), (2, 3, 0, 0), (55, 7, 6, 0)], [(37, 0, 0, 0), (7, 12, 44, 262), (2, 4, 0, 0), (0, 0, 0, 0), (12, 0, 0, 0), (4, 4, 1, 0), (51, 5, 0, 0)], [(0, 1, 0, 0), (3, 4, 0, 0), (0, 0, 0, 0), (3, 5, 0, 0), (50, 8, 0, 0)], [(2, 5, 0, 0), (2, 2, 0, 0), (56, 22, 9, 0)], [(2, 4, 0, 0), (58, 22, 10, 0)], [(0, 0, 0, 0), (3, 4, 0, 0), (0, 0, 0, 0), (3, 6, 0, 0), (50, 11, 0, 0)], [(2, 6, 0, 0), (2, 3, 0, 0), (55, 21, 12, 0)], [(0, 0, 0, 0), (3, 7, 0, 0), (50, 13, 0, 0)], [(2, 7, 0, 0), (37, 0, 0, 0), (6, 12, 2, 25), (55, 20, 14, 0)], [(37, 0, 0, 0), (7, 12, 43, 259), (2, 6, 0, 0), (15, 0, 0, 0), (58, 20, 15, 0)], [(37, 0, 0, 0), (2, 1, 0, 0), (2, 6, 0, 0), (2, 7, 0, 0), (31, 133, 4, 417), (3, 8, 0, 0), (37, 0, 0, 0), (7, 12, 43, 259), (2, 8, 0, 0), (15, 0, 0, 0), (58, 19, 16, 0)], [(37, 0, 0, 0), (7, 12, 44, 262), (2, 8, 0, 0), (10, 0, 0, 0), (0, 1, 0, 0), (17, 0, 0, 0), (37, 0, 0, 0), (7, 12, 44, 262), (2, 6, 0, 0), (10, 0, 0, 0), (56, 18, 17, 0)], [(51, 19, 0, 0)], [(37, 0, 0, 0), (7, 12, 44, 262), (2, 6, 0, 0), (37, 0, 0, 0), (7, 12, 44, 262), (2, 8, 0, 0), (10, 0, 0, 0), (0, 1, 0, 0), (17, 0, 0, 0), (12, 0, 0, 0), (0, 1, 0, 0), (3, 4, 0, 0), (50, 19, 0, 0)], [(4, 7, 1, 0), (51, 13, 0, 0)], [(4, 6, 1, 0), (51, 11, 0, 0)], [(4, 5, 1, 0), (51, 8, 0, 0)], [(2, 4, 0, 0), (58, 24, 23, 0)], [(1, 3, 0, 0), (51, 25, 0, 0)], [(37, 0, 0, 0), (7, 12, 44, 262), (0, 0, 0, 0), (10, 0, 0, 0), (50, 25, 0, 0)], [(64, 0, 0, 0)]]
def p145 : List Nat := [0, 8, 10, 20, 23, 33, 39, 53, 59, 65, 70, 76, 82, 85, 94, 104, 125, 144, 147, 166, 172, 178, 184, 189, 194, 200]
def mt146 : MT := (⟨"WordFolderModel", "put", "(I)V"⟩, prog_14_method_105_code, 2, none, 12, false)
def b146 : List (List Ai) := [[(37, 0, 0, 0), (7, 12, 45, 265), (37, 0, 0, 0), (6, 12, 62, 307), (2, 1, 0, 0), (26, 0, 0, 0), (13, 0, 0, 0), (37, 0, 0, 0), (27, 0, 0, 0), (6, 12, 62, 307), (0, 1, 0, 0), (17, 0, 0, 0), (8, 12, 62, 307), (67, 0, 0, 0)]]
def p146 : List Nat := [0]
def mt147 : MT := (⟨"WordFolderModel", "putNumber", "(I)V"⟩, prog_14_method_106_code, 2, none, 12, false)
def b147 : List (List Ai) := [[(2, 1, 0, 0), (0, 99, 0, 0), (57, 2, 1, 0)], [(37, 0, 0, 0), (0, 48, 0, 0), (2, 1, 0, 0), (0, 100, 0, 0), (20, 0, 0, 0), (17, 0, 0, 0), (30, 146, 2, 313), (50, 2, 0, 0)], [(2, 1, 0, 0), (0, 9, 0, 0), (57, 4, 3, 0)], [(37, 0, 0, 0), (0, 48, 0, 0), (2, 1, 0, 0), (0, 10, 0, 0), (20, 0, 0, 0), (0, 10, 0, 0), (21, 0, 0, 0), (17, 0, 0, 0), (30, 146, 2, 313), (50, 4, 0, 0)], [(37, 0, 0, 0), (0, 48, 0, 0), (2, 1, 0, 0), (0, 10, 0, 0), (21, 0, 0, 0), (17, 0, 0, 0), (30, 146, 2, 313), (67, 0, 0, 0)]]
def p147 : List Nat := [0, 6, 17, 23, 37]
def mt148 : MT := (⟨"WordFolderModel", "text", "(I)I"⟩, prog_14_method_107_code, 4, some FieldType.int, 12, false)
def b148 : List (List Ai) := [[(37, 0, 0, 0), (2, 1, 0, 0), (31, 102, 2, 334), (59, 2, 1, 0)], [(1, 1, 0, 0), (64, 0, 0, 0)], [(37, 0, 0, 0), (0, 0, 0, 0), (8, 12, 62, 307), (0, 0, 0, 0), (3, 2, 0, 0), (50, 3, 0, 0)], [(2, 2, 0, 0), (37, 0, 0, 0), (7, 12, 20, 186), (2, 1, 0, 0), (10, 0, 0, 0), (55, 16, 4, 0)], [(37, 0, 0, 0), (37, 0, 0, 0), (2, 1, 0, 0), (2, 2, 0, 0), (31, 98, 3, 340), (59, 6, 5, 0)], [(0, 63, 0, 0), (51, 9, 0, 0)], [(37, 0, 0, 0), (2, 1, 0, 0), (2, 2, 0, 0), (31, 98, 3, 340), (0, 1, 0, 0), (53, 8, 7, 0)], [(0, 43, 0, 0), (51, 9, 0, 0)], [(0, 45, 0, 0), (50, 9, 0, 0)], [(30, 146, 2, 313), (0, 0, 0, 0), (3, 3, 0, 0), (50, 10, 0, 0)], [(2, 3, 0, 0), (37, 0, 0, 0), (6, 12, 2, 25), (55, 15, 11, 0)], [(37, 0, 0, 0), (2, 1, 0, 0), (2, 2, 0, 0), (2, 3, 0, 0), (31, 99, 4, 343), (1, 1, 0, 0), (53, 13, 12, 0)], [(51, 14, 0, 0)], [(37, 0, 0, 0), (0, 97, 0, 0), (2, 3, 0, 0), (17, 0, 0, 0), (30, 146, 2, 313), (37, 0, 0, 0), (37, 0, 0, 0), (2, 1, 0, 0), (2, 2, 0, 0), (2, 3, 0, 0), (31, 99, 4, 343), (30, 147, 2, 438), (50, 14, 0, 0)], [(4, 3, 1, 0), (51, 10, 0, 0)], [(37, 0, 0, 0), (0, 59, 0, 0), (30, 146, 2, 313), (4, 2, 1, 0), (51, 3, 0, 0)], [(37, 0, 0, 0), (6, 12, 62, 307), (64, 0, 0, 0)]]
def p148 : List Nat := [0, 8, 10, 17, 27, 37, 42, 52, 57, 59, 64, 72, 83, 86, 105, 111, 123]
def mt149 : MT := (⟨"WordFolderModel", "octet", "(I)I"⟩, prog_14_method_108_code, 2, some FieldType.int, 12, false)
def b149 : List (List Ai) := [[(2, 1, 0, 0), (0, 0, 0, 0), (37, 0, 0, 0), (6, 12, 62, 307), (0, 1, 0, 0), (18, 0, 0, 0), (31, 43, 3, 15), (58, 2, 1, 0)], [(37, 0, 0, 0), (7, 12, 45, 265), (2, 1, 0, 0), (11, 0, 0, 0), (51, 3, 0, 0)], [(1, 1, 0, 0), (50, 3, 0, 0)], [(64, 0, 0, 0)]]
def p149 : List Nat := [0, 14, 23, 24]
def mt150 : MT := (⟨"WordFolderModel", "teach", "(I)I"⟩, prog_14_method_109_code, 7, some FieldType.int, 12, false)
def b150 : List (List Ai) := [[(2, 1, 0, 0), (0, 0, 0, 0), (0, 5, 0, 0), (31, 43, 3, 15), (58, 2, 1, 0)], [(37, 0, 0, 0), (7, 12, 20, 186), (0, 2, 0, 0), (10, 0, 0, 0), (59, 3, 2, 0)], [(1, 1, 0, 0), (64, 0, 0, 0)], [(0, 0, 0, 0), (3, 2, 0, 0), (0, 0, 0, 0), (3, 3, 0, 0), (50, 4, 0, 0)], [(2, 3, 0, 0), (2, 1, 0, 0), (56, 17, 5, 0)], [(0, 1, 0, 0), (3, 4, 0, 0), (0, 0, 0, 0), (3, 5, 0, 0), (50, 6, 0, 0)], [(2, 5, 0, 0), (2, 3, 0, 0), (55, 8, 7, 0)], [(2, 4, 0, 0), (37, 0, 0, 0), (6, 12, 2, 25), (19, 0, 0, 0), (3, 4, 0, 0), (4, 5, 1, 0), (51, 6, 0, 0)], [(0, 0, 0, 0), (3, 5, 0, 0), (50, 9, 0, 0)], [(2, 5, 0, 0), (2, 4, 0, 0), (55, 16, 10, 0)], [(37, 0, 0, 0), (2, 3, 0, 0), (2, 5, 0, 0), (31, 151, 3, 441), (3, 6, 0, 0), (37, 0, 0, 0), (37, 0, 0, 0), (2, 3, 0, 0), (2, 6, 0, 0), (31, 50, 3, 274), (2, 3, 0, 0), (2, 6, 0, 0), (31, 51, 4, 277), (58, 12, 11, 0)], [(51, 15, 0, 0)], [(37, 0, 0, 0), (2, 3, 0, 0), (2, 6, 0, 0), (37, 0, 0, 0), (0, 2, 0, 0), (2, 3, 0, 0), (2, 6, 0, 0), (31, 107, 4, 346), (31, 81, 4, 291), (61, 14, 13, 0)], [(2, 2, 0, 0), (64, 0, 0, 0)], [(4, 2, 1, 0), (50, 15, 0, 0)], [(4, 5, 1, 0), (51, 9, 0, 0)], [(4, 3, 1, 0), (51, 4, 0, 0)], [(2, 2, 0, 0), (64, 0, 0, 0)]]
def p150 : List Nat := [0, 9, 18, 20, 24, 29, 35, 41, 56, 59, 66, 92, 95, 113, 115, 118, 124, 130]
def mt151 : MT := (⟨"WordFolderModel", "codeOf", "(II)I"⟩, prog_14_method_110_code, 6, some FieldType.int, 12, false)
def b151 : List (List Ai) := [[(0, 0, 0, 0), (3, 3, 0, 0), (2, 2, 0, 0), (3, 4, 0, 0), (0, 0, 0, 0), (3, 5, 0, 0), (50, 1, 0, 0)], [(2, 5, 0, 0), (2, 1, 0, 0), (55, 3, 2, 0)], [(2, 3, 0, 0), (2, 4, 0, 0), (37, 0, 0, 0), (6, 12, 2, 25), (21, 0, 0, 0), (0, 2, 0, 0), (2, 5, 0, 0), (19, 0, 0, 0), (24, 0, 0, 0), (23, 0, 0, 0), (3, 3, 0, 0), (2, 4, 0, 0), (37, 0, 0, 0), (6, 12, 2, 25), (20, 0, 0, 0), (3, 4, 0, 0), (4, 5, 1, 0), (51, 1, 0, 0)], [(2, 3, 0, 0), (64, 0, 0, 0)]]
def p151 : List Nat := [0, 8, 14, 44]
def mt152 : MT := (⟨"WordFolderModel", "putAside", "()V"⟩, prog_14_method_111_code, 2, none, 12, false)
def b152 : List (List Ai) := [[(37, 0, 0, 0), (37, 0, 0, 0), (6, 12, 29, 148), (8, 12, 64, 444), (0, 0, 0, 0), (3, 1, 0, 0), (50, 1, 0, 0)], [(2, 1, 0, 0), (0, 4, 0, 0), (37, 0, 0, 0), (6, 12, 29, 148), (19, 0, 0, 0), (55, 3, 2, 0)], [(37, 0, 0, 0), (7, 12, 46, 268), (2, 1, 0, 0), (37, 0, 0, 0), (7, 12, 19, 145), (2, 1, 0, 0), (10, 0, 0, 0), (12, 0, 0, 0), (4, 1, 1, 0), (51, 1, 0, 0)], [(67, 0, 0, 0)]]
def p152 : List Nat := [0, 10, 20, 38]
def mt153 : MT := (⟨"WordFolderModel", "bringBack", "()V"⟩, prog_14_method_112_code, 2, none, 12, false)
def b153 : List (List Ai) := [[(37, 0, 0, 0), (30, 59, 1, 178), (0, 0, 0, 0), (3, 1, 0, 0), (50, 1, 0, 0)], [(2, 1, 0, 0), (0, 4, 0, 0), (37, 0, 0, 0), (6, 12, 64, 444), (19, 0, 0, 0), (55, 3, 2, 0)], [(37, 0, 0, 0), (7, 12, 19, 145), (2, 1, 0, 0), (37, 0, 0, 0), (7, 12, 46, 268), (2, 1, 0, 0), (10, 0, 0, 0), (12, 0, 0, 0), (4, 1, 1, 0), (51, 1, 0, 0)], [(37, 0, 0, 0), (37, 0, 0, 0), (6, 12, 64, 444), (30, 77, 2, 325), (67, 0, 0, 0)]]
def p153 : List Nat := [0, 6, 16, 34]
def mt154 : MT := (⟨"WordFolderModel", "learnWithout", "(II)V"⟩, prog_14_method_113_code, 3, none, 12, false)
def b154 : List (List Ai) := [[(37, 0, 0, 0), (37, 0, 0, 0), (7, 12, 2, 31), (2, 2, 0, 0), (10, 0, 0, 0), (8, 12, 65, 447), (37, 0, 0, 0), (37, 0, 0, 0), (7, 12, 3, 35), (2, 2, 0, 0), (10, 0, 0, 0), (8, 12, 66, 450), (37, 0, 0, 0), (37, 0, 0, 0), (7, 12, 4, 46), (2, 2, 0, 0), (15, 0, 0, 0), (9, 12, 67, 453), (37, 0, 0, 0), (2, 2, 0, 0), (30, 54, 2, 295), (37, 0, 0, 0), (30, 59, 1, 178), (37, 0, 0, 0), (2, 1, 0, 0), (30, 76, 2, 322), (67, 0, 0, 0)]]
def p154 : List Nat := [0]
def mt155 : MT := (⟨"WordFolderModel", "bringIn", "(I)V"⟩, prog_14_method_114_code, 2, none, 12, false)
def b155 : List (List Ai) := [[(37, 0, 0, 0), (2, 1, 0, 0), (37, 0, 0, 0), (6, 12, 65, 447), (37, 0, 0, 0), (6, 12, 66, 450), (37, 0, 0, 0), (6, 12, 67, 453), (30, 52, 5, 283), (67, 0, 0, 0)]]
def p155 : List Nat := [0]
def mt156 : MT := (⟨"WordFolderModel", "isTakenNow", "(II)Z"⟩, prog_14_method_115_code, 6, some FieldType.boolean, 12, false)
def b156 : List (List Ai) := [[(0, 0, 0, 0), (3, 3, 0, 0), (0, 0, 0, 0), (3, 4, 0, 0), (50, 1, 0, 0)], [(2, 4, 0, 0), (2, 1, 0, 0), (55, 7, 2, 0)], [(2, 3, 0, 0), (1, 1, 0, 0), (52, 7, 3, 0)], [(37, 0, 0, 0), (7, 12, 13, 91), (0, 4, 0, 0), (2, 3, 0, 0), (19, 0, 0, 0), (2, 1, 0, 0), (2, 2, 0, 0), (2, 4, 0, 0), (31, 48, 3, 310), (17, 0, 0, 0), (10, 0, 0, 0), (3, 5, 0, 0), (2, 5, 0, 0), (1, 1, 0, 0), (53, 5, 4, 0)], [(1, 1, 0, 0), (51, 6, 0, 0)], [(37, 0, 0, 0), (2, 5, 0, 0), (31, 61, 2, 124), (50, 6, 0, 0)], [(3, 3, 0, 0), (4, 4, 1, 0), (51, 1, 0, 0)], [(2, 3, 0, 0), (1, 1, 0, 0), (52, 10, 8, 0)], [(37, 0, 0, 0), (7, 12, 11, 85), (2, 3, 0, 0), (10, 0, 0, 0), (0, 1, 0, 0), (53, 10, 9, 0)], [(0, 1, 0, 0), (51, 11, 0, 0)], [(0, 0, 0, 0), (50, 11, 0, 0)], [(65, 0, 0, 0)]]
def p156 : List Nat := [0, 5, 11, 16, 40, 44, 50, 57, 62, 72, 76, 77]
def mt157 : MT := (⟨"WordFolderModel", "without", "(II)I"⟩, prog_14_method_116_code, 4, some FieldType.int, 12, false)
def b157 : List (List Ai) := [[(2, 1, 0, 0), (31, 79, 1, 316), (58, 2, 1, 0)], [(2, 2, 0, 0), (0, 0, 0, 0), (37, 0, 0, 0), (6, 12, 8, 28), (0, 1, 0, 0), (18, 0, 0, 0), (31, 43, 3, 15), (59, 3, 2, 0)], [(1, 2, 0, 0), (64, 0, 0, 0)], [(37, 0, 0, 0), (30, 152, 1, 457), (37, 0, 0, 0), (2, 1, 0, 0), (2, 2, 0, 0), (30, 154, 3, 460), (37, 0, 0, 0), (6, 12, 19, 94), (3, 3, 0, 0), (37, 0, 0, 0), (2, 2, 0, 0), (30, 155, 2, 463), (37, 0, 0, 0), (30, 153, 1, 466), (2, 3, 0, 0), (64, 0, 0, 0)]]
def p157 : List Nat := [0, 7, 21, 24]
def mt158 : MT := (⟨"WordFolderModel", "guess", "()I"⟩, prog_14_method_117_code, 3, some FieldType.int, 12, false)
def b158 : List (List Ai) := [[(37, 0, 0, 0), (31, 47, 1, 287), (59, 2, 1, 0)], [(1, 2, 0, 0), (64, 0, 0, 0)], [(37, 0, 0, 0), (30, 152, 1, 457), (0, 0, 0, 0), (3, 1, 0, 0), (0, 0, 0, 0), (3, 2, 0, 0), (50, 3, 0, 0)], [(2, 2, 0, 0), (0, 3, 0, 0), (55, 8, 4, 0)], [(37, 0, 0, 0), (2, 2, 0, 0), (30, 76, 2, 322), (2, 1, 0, 0), (37, 0, 0, 0), (37, 0, 0, 0), (6, 12, 3, 19), (37, 0, 0, 0), (6, 12, 4, 22), (31, 156, 3, 469), (58, 6, 5, 0)], [(0, 1, 0, 0), (2, 2, 0, 0), (24, 0, 0, 0), (51, 7, 0, 0)], [(0, 0, 0, 0), (50, 7, 0, 0)], [(23, 0, 0, 0), (3, 1, 0, 0), (4, 2, 1, 0), (51, 3, 0, 0)], [(37, 0, 0, 0), (30, 153, 1, 466), (2, 1, 0, 0), (64, 0, 0, 0)]]
def p158 : List Nat := [0, 7, 10, 18, 23, 44, 50, 51, 59]
def mt159 : MT := (⟨"WordFolderModel", "blind", "(I)I"⟩, prog_14_method_118_code, 4, some FieldType.int, 12, false)
def b159 : List (List Ai) := [[(2, 1, 0, 0), (31, 79, 1, 316), (59, 2, 1, 0)], [(1, 2, 0, 0), (64, 0, 0, 0)], [(37, 0, 0, 0), (30, 152, 1, 457), (0, 0, 0, 0), (3, 2, 0, 0), (0, 0, 0, 0), (3, 3, 0, 0), (50, 3, 0, 0)], [(2, 3, 0, 0), (37, 0, 0, 0), (6, 12, 8, 28), (55, 8, 4, 0)], [(37, 0, 0, 0), (2, 1, 0, 0), (2, 3, 0, 0), (30, 154, 3, 460), (2, 2, 0, 0), (37, 0, 0, 0), (37, 0, 0, 0), (6, 12, 65, 447), (37, 0, 0, 0), (6, 12, 66, 450), (31, 156, 3, 469), (37, 0, 0, 0), (6, 12, 67, 453), (53, 6, 5, 0)], [(0, 1, 0, 0), (51, 7, 0, 0)], [(0, 0, 0, 0), (50, 7, 0, 0)], [(17, 0, 0, 0), (3, 2, 0, 0), (37, 0, 0, 0), (2, 3, 0, 0), (30, 155, 2, 463), (4, 3, 1, 0), (51, 3, 0, 0)], [(37, 0, 0, 0), (30, 153, 1, 466), (2, 2, 0, 0), (64, 0, 0, 0)]]
def p159 : List Nat := [0, 7, 10, 18, 26, 52, 56, 57, 70]
def mt160 : MT := (⟨"WordFolder$Fold", "begin", "(LWordFolder$Tree;)V"⟩, prog_2_method_2_code, 3, none, 0, false)
def b160 : List (List Ai) := [[(37, 0, 0, 0), (37, 1, 0, 0), (6, 9, 4, 40), (0, 120, 0, 0), (32, 0, 0, 46), (8, 0, 9, 52), (37, 0, 0, 0), (37, 0, 0, 0), (6, 0, 9, 52), (8, 0, 10, 55), (37, 0, 0, 0), (0, 0, 0, 0), (8, 0, 11, 56), (37, 0, 0, 0), (0, 0, 0, 0), (8, 0, 12, 59), (0, 0, 0, 0), (3, 2, 0, 0), (50, 1, 0, 0)], [(2, 2, 0, 0), (37, 0, 0, 0), (6, 0, 9, 52), (55, 8, 2, 0)], [(37, 0, 0, 0), (7, 0, 1, 9), (2, 2, 0, 0), (2, 2, 0, 0), (12, 0, 0, 0), (37, 0, 0, 0), (7, 0, 2, 15), (2, 2, 0, 0), (37, 1, 0, 0), (7, 9, 2, 62), (2, 2, 0, 0), (10, 0, 0, 0), (12, 0, 0, 0), (37, 0, 0, 0), (7, 0, 3, 18), (2, 2, 0, 0), (2, 2, 0, 0), (59, 4, 3, 0)], [(0, 1, 0, 0), (51, 5, 0, 0)], [(0, 0, 0, 0), (50, 5, 0, 0)], [(14, 0, 0, 0), (37, 0, 0, 0), (7, 0, 2, 15), (2, 2, 0, 0), (10, 0, 0, 0), (58, 7, 6, 0)], [(37, 0, 0, 0), (27, 0, 0, 0), (6, 0, 11, 56), (0, 1, 0, 0), (17, 0, 0, 0), (8, 0, 11, 56), (50, 7, 0, 0)], [(4, 2, 1, 0), (51, 1, 0, 0)], [(37, 1, 0, 0), (7, 9, 4, 63), (0, 0, 0, 0), (37, 0, 0, 0), (7, 0, 4, 22), (0, 0, 0, 0), (37, 0, 0, 0), (6, 0, 9, 52), (0, 4, 0, 0), (19, 0, 0, 0), (34, 0, 0, 66), (67, 0, 0, 0)]]
def p160 : List Nat := [0, 33, 41, 69, 73, 74, 84, 94, 100]
def mt161 : MT := (⟨"WordFolder$Fold", "isName", "(I)Z"⟩, prog_2_method_3_code, 2, some FieldType.boolean, 0, false)
def b161 : List (List Ai) := [[(2, 1, 0, 0), (60, 4, 1, 0)], [(2, 1, 0, 0), (37, 0, 0, 0), (6, 0, 9, 52), (55, 4, 2, 0)], [(37, 0, 0, 0), (7, 0, 1, 9), (2, 1, 0, 0), (10, 0, 0, 0), (2, 1, 0, 0), (53, 4, 3, 0)], [(0, 1, 0, 0), (51, 5, 0, 0)], [(0, 0, 0, 0), (50, 5, 0, 0)], [(65, 0, 0, 0)]]
def p161 : List Nat := [0, 4, 12, 22, 26, 27]
def mt162 : MT := (⟨"WordFolder$Fold", "areUnlike", "(II)Z"⟩, prog_2_method_4_code, 3, some FieldType.boolean, 0, false)
def b162 : List (List Ai) := [[(2, 1, 0, 0), (2, 2, 0, 0), (52, 4, 1, 0)], [(37, 0, 0, 0), (2, 1, 0, 0), (31, 161, 2, 72), (58, 4, 2, 0)], [(37, 0, 0, 0), (2, 2, 0, 0), (31, 161, 2, 72), (58, 4, 3, 0)], [(0, 1, 0, 0), (51, 5, 0, 0)], [(0, 0, 0, 0), (50, 5, 0, 0)], [(65, 0, 0, 0)]]
def p162 : List Nat := [0, 5, 13, 21, 25, 26]
def mt163 : MT := (⟨"WordFolder$Fold", "nameOf", "(I)I"⟩, prog_2_method_5_code, 4, some FieldType.int, 0, false)
def b163 : List (List Ai) := [[(2, 1, 0, 0), (3, 2, 0, 0), (0, 0, 0, 0), (3, 3, 0, 0), (50, 1, 0, 0)], [(2, 3, 0, 0), (0, 120, 0, 0), (55, 6, 2, 0)], [(2, 2, 0, 0), (60, 6, 3, 0)], [(2, 2, 0, 0), (37, 0, 0, 0), (6, 0, 9, 52), (55, 6, 4, 0)], [(37, 0, 0, 0), (7, 0, 1, 9), (2, 2, 0, 0), (10, 0, 0, 0), (2, 2, 0, 0), (52, 6, 5, 0)], [(37, 0, 0, 0), (7, 0, 1, 9), (2, 2, 0, 0), (10, 0, 0, 0), (3, 2, 0, 0), (4, 3, 1, 0), (51, 1, 0, 0)], [(2, 2, 0, 0), (64, 0, 0, 0)]]
def p163 : List Nat := [0, 4, 10, 14, 22, 32, 45]
def mt164 : MT := (⟨"WordFolder$Fold", "isRed", "(I)Z"⟩, prog_2_method_6_code, 2, some FieldType.boolean, 0, false)
def b164 : List (List Ai) := [[(37, 0, 0, 0), (2, 1, 0, 0), (31, 161, 2, 72), (58, 3, 1, 0)], [(37, 0, 0, 0), (7, 0, 3, 18), (2, 1, 0, 0), (15, 0, 0, 0), (58, 3, 2, 0)], [(0, 1, 0, 0), (51, 4, 0, 0)], [(0, 0, 0, 0), (50, 4, 0, 0)], [(65, 0, 0, 0)]]
def p164 : List Nat := [0, 8, 17, 21, 22]
def mt165 : MT := (⟨"WordFolder$Fold", "redden", "(IZ)V"⟩, prog_2_method_7_code, 3, none, 0, false)
def b165 : List (List Ai) := [[(37, 0, 0, 0), (2, 1, 0, 0), (31, 161, 2, 72), (58, 2, 1, 0)], [(37, 0, 0, 0), (7, 0, 3, 18), (2, 1, 0, 0), (2, 2, 0, 0), (14, 0, 0, 0), (50, 2, 0, 0)], [(67, 0, 0, 0)]]
def p165 : List Nat := [0, 8, 15]
def mt166 : MT := (⟨"WordFolder$Fold", "follow", "(II)I"⟩, prog_2_method_8_code, 3, some FieldType.int, 0, false)
def b166 : List (List Ai) := [[(37, 0, 0, 0), (2, 1, 0, 0), (31, 161, 2, 72), (58, 3, 1, 0)], [(2, 2, 0, 0), (60, 3, 2, 0)], [(2, 2, 0, 0), (0, 4, 0, 0), (54, 4, 3, 0)], [(1, 1, 0, 0), (64, 0, 0, 0)], [(37, 0, 0, 0), (37, 0, 0, 0), (7, 0, 4, 22), (2, 1, 0, 0), (0, 4, 0, 0), (19, 0, 0, 0), (2, 2, 0, 0), (17, 0, 0, 0), (10, 0, 0, 0), (31, 163, 2, 76), (64, 0, 0, 0)]]
def p166 : List Nat := [0, 8, 12, 17, 19]
def mt167 : MT := (⟨"WordFolder$Fold", "join", "(II)Z"⟩, prog_2_method_9_code, 7, some FieldType.boolean, 0, false)
def b167 : List (List Ai) := [[(2, 1, 0, 0), (60, 4, 1, 0)], [(2, 1, 0, 0), (37, 0, 0, 0), (6, 0, 9, 52), (55, 4, 2, 0)], [(2, 2, 0, 0), (60, 4, 3, 0)], [(2, 2, 0, 0), (37, 0, 0, 0), (6, 0, 9, 52), (54, 5, 4, 0)], [(0, 0, 0, 0), (65, 0, 0, 0)], [(37, 0, 0, 0), (6, 0, 12, 59), (3, 3, 0, 0), (37, 0, 0, 0), (7, 0, 7, 31), (0, 0, 0, 0), (2, 1, 0, 0), (12, 0, 0, 0), (37, 0, 0, 0), (7, 0, 8, 34), (0, 0, 0, 0), (2, 2, 0, 0), (12, 0, 0, 0), (37, 0, 0, 0), (0, 1, 0, 0), (8, 0, 13, 80), (0, 0, 0, 0), (3, 4, 0, 0), (50, 6, 0, 0)], [(2, 4, 0, 0), (0, 481, 0, 0), (55, 14, 7, 0)], [(37, 0, 0, 0), (6, 0, 13, 80), (63, 14, 8, 0)], [(37, 0, 0, 0), (27, 0, 0, 0), (6, 0, 13, 80), (0, 1, 0, 0), (18, 0, 0, 0), (8, 0, 13, 80), (37, 0, 0, 0), (37, 0, 0, 0), (7, 0, 7, 31), (37, 0, 0, 0), (6, 0, 13, 80), (10, 0, 0, 0), (31, 163, 2, 76), (3, 5, 0, 0), (37, 0, 0, 0), (37, 0, 0, 0), (7, 0, 8, 34), (37, 0, 0, 0), (6, 0, 13, 80), (10, 0, 0, 0), (31, 163, 2, 76), (3, 6, 0, 0), (2, 5, 0, 0), (2, 6, 0, 0), (53, 10, 9, 0)], [(51, 13, 0, 0)], [(37, 0, 0, 0), (7, 0, 2, 15), (2, 5, 0, 0), (10, 0, 0, 0), (37, 0, 0, 0), (7, 0, 2, 15), (2, 6, 0, 0), (10, 0, 0, 0), (23, 0, 0, 0), (0, 3, 0, 0), (53, 12, 11, 0)], [(37, 0, 0, 0), (2, 3, 0, 0), (30, 169, 2, 83), (0, 0, 0, 0), (65, 0, 0, 0)], [(37, 0, 0, 0), (2, 5, 0, 0), (2, 6, 0, 0), (32, 0, 0, 46), (2, 5, 0, 0), (2, 6, 0, 0), (33, 0, 0, 87), (30, 168, 3, 90), (50, 13, 0, 0)], [(4, 4, 1, 0), (51, 6, 0, 0)], [(0, 1, 0, 0), (65, 0, 0, 0)]]
def p167 : List Nat := [0, 4, 12, 16, 24, 26, 53, 61, 68, 115, 118, 137, 144, 162, 168]
def mt168 : MT := (⟨"WordFolder$Fold", "absorb", "(II)V"⟩, prog_2_method_10_code, 7, none, 0, false)
def b168 : List (List Ai) := [[(37, 0, 0, 0), (6, 0, 12, 59), (60, 2, 1, 0)], [(37, 0, 0, 0), (6, 0, 12, 59), (0, 120, 0, 0), (54, 3, 2, 0)], [(67, 0, 0, 0)], [(37, 0, 0, 0), (7, 0, 2, 15), (2, 1, 0, 0), (10, 0, 0, 0), (37, 0, 0, 0), (7, 0, 3, 18), (2, 1, 0, 0), (15, 0, 0, 0), (58, 5, 4, 0)], [(0, 4, 0, 0), (51, 6, 0, 0)], [(0, 0, 0, 0), (50, 6, 0, 0)], [(23, 0, 0, 0), (3, 3, 0, 0), (37, 0, 0, 0), (7, 0, 2, 15), (2, 1, 0, 0), (10, 0, 0, 0), (59, 8, 7, 0)], [(37, 0, 0, 0), (7, 0, 2, 15), (2, 1, 0, 0), (37, 0, 0, 0), (7, 0, 2, 15), (2, 2, 0, 0), (10, 0, 0, 0), (12, 0, 0, 0), (51, 10, 0, 0)], [(37, 0, 0, 0), (7, 0, 2, 15), (2, 2, 0, 0), (10, 0, 0, 0), (58, 10, 9, 0)], [(37, 0, 0, 0), (27, 0, 0, 0), (6, 0, 11, 56), (0, 1, 0, 0), (18, 0, 0, 0), (8, 0, 11, 56), (50, 10, 0, 0)], [(37, 0, 0, 0), (7, 0, 3, 18), (2, 1, 0, 0), (37, 0, 0, 0), (7, 0, 3, 18), (2, 1, 0, 0), (15, 0, 0, 0), (59, 12, 11, 0)], [(37, 0, 0, 0), (7, 0, 3, 18), (2, 2, 0, 0), (15, 0, 0, 0), (58, 13, 12, 0)], [(0, 1, 0, 0), (51, 14, 0, 0)], [(0, 0, 0, 0), (50, 14, 0, 0)], [(14, 0, 0, 0), (0, 0, 0, 0), (3, 4, 0, 0), (50, 15, 0, 0)], [(2, 4, 0, 0), (0, 4, 0, 0), (55, 23, 16, 0)], [(2, 1, 0, 0), (0, 4, 0, 0), (19, 0, 0, 0), (2, 4, 0, 0), (17, 0, 0, 0), (3, 5, 0, 0), (37, 0, 0, 0), (7, 0, 4, 22), (2, 2, 0, 0), (0, 4, 0, 0), (19, 0, 0, 0), (2, 4, 0, 0), (17, 0, 0, 0), (10, 0, 0, 0), (3, 6, 0, 0), (2, 6, 0, 0), (1, 1, 0, 0), (53, 18, 17, 0)], [(51, 22, 0, 0)], [(37, 0, 0, 0), (7, 0, 4, 22), (2, 5, 0, 0), (10, 0, 0, 0), (1, 1, 0, 0), (53, 20, 19, 0)], [(37, 0, 0, 0), (7, 0, 4, 22), (2, 5, 0, 0), (2, 6, 0, 0), (12, 0, 0, 0), (2, 3, 0, 0), (0, 8, 0, 0), (2, 4, 0, 0), (24, 0, 0, 0), (23, 0, 0, 0), (3, 3, 0, 0), (51, 22, 0, 0)], [(37, 0, 0, 0), (6, 0, 13, 80), (0, 481, 0, 0), (55, 22, 21, 0)], [(37, 0, 0, 0), (7, 0, 7, 31), (37, 0, 0, 0), (6, 0, 13, 80), (37, 0, 0, 0), (7, 0, 4, 22), (2, 5, 0, 0), (10, 0, 0, 0), (12, 0, 0, 0), (37, 0, 0, 0), (7, 0, 8, 34), (37, 0, 0, 0), (6, 0, 13, 80), (2, 6, 0, 0), (12, 0, 0, 0), (37, 0, 0, 0), (27, 0, 0, 0), (6, 0, 13, 80), (0, 1, 0, 0), (17, 0, 0, 0), (8, 0, 13, 80), (50, 22, 0, 0)], [(4, 4, 1, 0), (51, 15, 0, 0)], [(37, 0, 0, 0), (7, 0, 1, 9), (2, 2, 0, 0), (2, 1, 0, 0), (12, 0, 0, 0), (37, 0, 0, 0), (7, 0, 5, 25), (37, 0, 0, 0), (6, 0, 12, 59), (2, 2, 0, 0), (12, 0, 0, 0), (37, 0, 0, 0), (7, 0, 6, 28), (37, 0, 0, 0), (6, 0, 12, 59), (2, 3, 0, 0), (12, 0, 0, 0), (37, 0, 0, 0), (27, 0, 0, 0), (6, 0, 12, 59), (0, 1, 0, 0), (17, 0, 0, 0), (8, 0, 12, 59), (37, 0, 0, 0), (27, 0, 0, 0), (6, 0, 10, 55), (0, 1, 0, 0), (18, 0, 0, 0), (8, 0, 10, 55), (67, 0, 0, 0)]]
def p168 : List Nat := [0, 7, 16, 17, 32, 36, 37, 48, 63, 72, 82, 96, 105, 109, 110, 114, 120, 147, 150, 161, 181, 191, 228, 234]
def mt169 : MT := (⟨"WordFolder$Fold", "takeBack", "(I)V"⟩, prog_2_method_11_code, 7, none, 0, false)
def b169 : List (List Ai) := [[(37, 0, 0, 0), (6, 0, 12, 59), (0, 120, 0, 0), (32, 0, 0, 46), (0, 1, 0, 0), (18, 0, 0, 0), (3, 2, 0, 0), (50, 1, 0, 0)], [(2, 2, 0, 0), (60, 15, 2, 0)], [(2, 2, 0, 0), (2, 1, 0, 0), (54, 15, 3, 0)], [(37, 0, 0, 0), (7, 0, 5, 25), (2, 2, 0, 0), (10, 0, 0, 0), (3, 3, 0, 0), (37, 0, 0, 0), (7, 0, 1, 9), (2, 3, 0, 0), (10, 0, 0, 0), (3, 4, 0, 0), (37, 0, 0, 0), (7, 0, 6, 28), (2, 2, 0, 0), (10, 0, 0, 0), (3, 5, 0, 0), (37, 0, 0, 0), (7, 0, 2, 15), (2, 4, 0, 0), (2, 5, 0, 0), (0, 3, 0, 0), (22, 0, 0, 0), (12, 0, 0, 0), (37, 0, 0, 0), (7, 0, 3, 18), (2, 4, 0, 0), (2, 5, 0, 0), (0, 4, 0, 0), (22, 0, 0, 0), (58, 5, 4, 0)], [(0, 1, 0, 0), (51, 6, 0, 0)], [(0, 0, 0, 0), (50, 6, 0, 0)], [(14, 0, 0, 0), (0, 0, 0, 0), (3, 6, 0, 0), (50, 7, 0, 0)], [(2, 6, 0, 0), (0, 4, 0, 0), (55, 11, 8, 0)], [(2, 5, 0, 0), (0, 8, 0, 0), (2, 6, 0, 0), (24, 0, 0, 0), (22, 0, 0, 0), (58, 10, 9, 0)], [(37, 0, 0, 0), (7, 0, 4, 22), (2, 4, 0, 0), (0, 4, 0, 0), (19, 0, 0, 0), (2, 6, 0, 0), (17, 0, 0, 0), (1, 1, 0, 0), (12, 0, 0, 0), (50, 10, 0, 0)], [(4, 6, 1, 0), (51, 7, 0, 0)], [(37, 0, 0, 0), (7, 0, 2, 15), (2, 4, 0, 0), (10, 0, 0, 0), (58, 14, 12, 0)], [(37, 0, 0, 0), (7, 0, 2, 15), (2, 3, 0, 0), (10, 0, 0, 0), (58, 14, 13, 0)], [(37, 0, 0, 0), (27, 0, 0, 0), (6, 0, 11, 56), (0, 1, 0, 0), (17, 0, 0, 0), (8, 0, 11, 56), (50, 14, 0, 0)], [(37, 0, 0, 0), (7, 0, 1, 9), (2, 3, 0, 0), (2, 3, 0, 0), (12, 0, 0, 0), (37, 0, 0, 0), (27, 0, 0, 0), (6, 0, 10, 55), (0, 1, 0, 0), (17, 0, 0, 0), (8, 0, 10, 55), (37, 0, 0, 0), (2, 2, 0, 0), (8, 0, 12, 59), (5, 2, 1, 0), (51, 1, 0, 0)], [(67, 0, 0, 0)]]
def p169 : List Nat := [0, 12, 16, 21, 68, 72, 73, 77, 83, 94, 107, 113, 123, 132, 142, 170]
def mt170 : MT := (⟨"WordFolder$Fold", "worth", "(III)I"⟩, prog_2_method_12_code, 8, some FieldType.int, 0, false)
def b170 : List (List Ai) := [[(37, 0, 0, 0), (6, 0, 12, 59), (3, 4, 0, 0), (37, 0, 0, 0), (6, 0, 10, 55), (3, 5, 0, 0), (37, 0, 0, 0), (6, 0, 11, 56), (3, 6, 0, 0), (37, 0, 0, 0), (2, 2, 0, 0), (2, 3, 0, 0), (31, 167, 3, 94), (59, 2, 1, 0)], [(1, 1, 0, 0), (64, 0, 0, 0)], [(0, 0, 0, 0), (3, 7, 0, 0), (2, 1, 0, 0), (0, 1, 0, 0), (53, 4, 3, 0)], [(2, 6, 0, 0), (37, 0, 0, 0), (6, 0, 11, 56), (18, 0, 0, 0), (3, 7, 0, 0), (51, 6, 0, 0)], [(2, 1, 0, 0), (0, 2, 0, 0), (53, 6, 5, 0)], [(2, 5, 0, 0), (37, 0, 0, 0), (6, 0, 10, 55), (18, 0, 0, 0), (3, 7, 0, 0), (50, 6, 0, 0)], [(37, 0, 0, 0), (2, 4, 0, 0), (30, 169, 2, 83), (2, 7, 0, 0), (64, 0, 0, 0)]]
def p170 : List Nat := [0, 27, 29, 37, 49, 54, 63]
def mt171 : MT := (⟨"WordFolder$Fold", "accepts", "(I)Z"⟩, prog_2_method_13_code, 5, some FieldType.boolean, 0, false)
def b171 : List (List Ai) := [[(2, 1, 0, 0), (31, 259, 1, 98), (3, 2, 0, 0), (0, 0, 0, 0), (3, 3, 0, 0), (0, 0, 0, 0), (3, 4, 0, 0), (50, 1, 0, 0)], [(2, 4, 0, 0), (2, 2, 0, 0), (55, 4, 2, 0)], [(2, 3, 0, 0), (1, 1, 0, 0), (52, 4, 3, 0)], [(37, 0, 0, 0), (2, 3, 0, 0), (2, 1, 0, 0), (2, 4, 0, 0), (31, 260, 2, 103), (31, 166, 3, 106), (3, 3, 0, 0), (4, 4, 1, 0), (51, 1, 0, 0)], [(37, 0, 0, 0), (2, 3, 0, 0), (31, 161, 2, 72), (58, 7, 5, 0)], [(37, 0, 0, 0), (7, 0, 2, 15), (2, 3, 0, 0), (10, 0, 0, 0), (0, 1, 0, 0), (53, 7, 6, 0)], [(0, 1, 0, 0), (51, 8, 0, 0)], [(0, 0, 0, 0), (50, 8, 0, 0)], [(65, 0, 0, 0)]]
def p171 : List Nat := [0, 10, 16, 21, 39, 47, 57, 61, 62]
def mt172 : MT := (⟨"WordFolder$Fold", "tell", "(LWordFolder$Machine;)V"⟩, prog_2_method_14_code, 5, none, 0, false)
def b172 : List (List Ai) := [[(37, 1, 0, 0), (30, 186, 1, 109), (0, 0, 0, 0), (3, 2, 0, 0), (50, 1, 0, 0)], [(2, 2, 0, 0), (37, 0, 0, 0), (6, 0, 9, 52), (55, 5, 2, 0)], [(37, 0, 0, 0), (7, 0, 1, 9), (2, 2, 0, 0), (10, 0, 0, 0), (2, 2, 0, 0), (53, 4, 3, 0)], [(37, 0, 0, 0), (7, 0, 9, 37), (2, 2, 0, 0), (37, 1, 0, 0), (6, 2, 2, 114), (12, 0, 0, 0), (37, 1, 0, 0), (37, 0, 0, 0), (7, 0, 2, 15), (2, 2, 0, 0), (10, 0, 0, 0), (30, 189, 2, 115), (50, 4, 0, 0)], [(4, 2, 1, 0), (51, 1, 0, 0)], [(0, 0, 0, 0), (3, 2, 0, 0), (50, 6, 0, 0)], [(2, 2, 0, 0), (37, 0, 0, 0), (6, 0, 9, 52), (55, 15, 7, 0)], [(0, 0, 0, 0), (3, 3, 0, 0), (50, 8, 0, 0)], [(2, 3, 0, 0), (0, 4, 0, 0), (55, 14, 9, 0)], [(37, 0, 0, 0), (7, 0, 1, 9), (2, 2, 0, 0), (10, 0, 0, 0), (2, 2, 0, 0), (53, 14, 10, 0)], [(37, 0, 0, 0), (2, 2, 0, 0), (2, 3, 0, 0), (31, 166, 3, 106), (3, 4, 0, 0), (37, 1, 0, 0), (37, 0, 0, 0), (7, 0, 9, 37), (2, 2, 0, 0), (10, 0, 0, 0), (2, 3, 0, 0), (37, 0, 0, 0), (2, 4, 0, 0), (31, 161, 2, 72), (58, 12, 11, 0)], [(37, 0, 0, 0), (7, 0, 9, 37), (2, 4, 0, 0), (10, 0, 0, 0), (51, 13, 0, 0)], [(1, 1, 0, 0), (50, 13, 0, 0)], [(30, 190, 4, 118), (4, 3, 1, 0), (51, 8, 0, 0)], [(4, 2, 1, 0), (51, 6, 0, 0)], [(67, 0, 0, 0)]]
def p172 : List Nat := [0, 6, 14, 24, 44, 50, 52, 60, 62, 67, 77, 102, 112, 113, 122, 128]
def mt173 : MT := (⟨"WordFolder$Learner", "begin", "(LWordFolder$Tree;)V"⟩, prog_3_method_2_code, 2, none, 1, false)
def b173 : List (List Ai) := [[(37, 0, 0, 0), (7, 1, 1, 12), (37, 1, 0, 0), (30, 160, 2, 41), (37, 0, 0, 0), (0, 0, 0, 0), (8, 1, 10, 45), (67, 0, 0, 0)]]
def p173 : List Nat := [0]
def mt174 : MT := (⟨"WordFolder$Learner", "paint", "()V"⟩, prog_3_method_3_code, 2, none, 1, false)
def b174 : List (List Ai) := [[(37, 0, 0, 0), (0, 0, 0, 0), (8, 1, 8, 49), (37, 0, 0, 0), (0, 0, 0, 0), (8, 1, 9, 52), (0, 0, 0, 0), (3, 1, 0, 0), (50, 1, 0, 0)], [(2, 1, 0, 0), (0, 120, 0, 0), (55, 3, 2, 0)], [(37, 0, 0, 0), (7, 1, 13, 25), (2, 1, 0, 0), (0, 0, 0, 0), (14, 0, 0, 0), (4, 1, 1, 0), (51, 1, 0, 0)], [(0, 0, 0, 0), (3, 1, 0, 0), (50, 4, 0, 0)], [(2, 1, 0, 0), (37, 0, 0, 0), (7, 1, 1, 12), (6, 0, 9, 55), (55, 8, 5, 0)], [(37, 0, 0, 0), (7, 1, 1, 12), (2, 1, 0, 0), (31, 164, 2, 58), (58, 7, 6, 0)], [(37, 0, 0, 0), (7, 1, 11, 18), (37, 0, 0, 0), (6, 1, 8, 49), (2, 1, 0, 0), (12, 0, 0, 0), (37, 0, 0, 0), (27, 0, 0, 0), (6, 1, 8, 49), (0, 1, 0, 0), (17, 0, 0, 0), (8, 1, 8, 49), (37, 0, 0, 0), (2, 1, 0, 0), (30, 175, 2, 62), (50, 7, 0, 0)], [(4, 1, 1, 0), (51, 4, 0, 0)], [(0, 0, 0, 0), (3, 1, 0, 0), (50, 9, 0, 0)], [(2, 1, 0, 0), (37, 0, 0, 0), (7, 1, 1, 12), (6, 0, 9, 55), (55, 14, 10, 0)], [(37, 0, 0, 0), (7, 1, 13, 25), (2, 1, 0, 0), (15, 0, 0, 0), (58, 13, 11, 0)], [(37, 0, 0, 0), (7, 1, 1, 12), (2, 1, 0, 0), (31, 164, 2, 58), (59, 13, 12, 0)], [(37, 0, 0, 0), (7, 1, 12, 22), (37, 0, 0, 0), (6, 1, 9, 52), (2, 1, 0, 0), (12, 0, 0, 0), (37, 0, 0, 0), (27, 0, 0, 0), (6, 1, 9, 52), (0, 1, 0, 0), (17, 0, 0, 0), (8, 1, 9, 52), (50, 13, 0, 0)], [(4, 1, 1, 0), (51, 9, 0, 0)], [(67, 0, 0, 0)]]
def p174 : List Nat := [0, 12, 18, 31, 33, 44, 55, 80, 86, 88, 99, 108, 119, 139, 145]
def mt175 : MT := (⟨"WordFolder$Learner", "seeBehind", "(I)V"⟩, prog_3_method_4_code, 4, none, 1, false)
def b175 : List (List Ai) := [[(0, 0, 0, 0), (3, 2, 0, 0), (50, 1, 0, 0)], [(2, 2, 0, 0), (0, 4, 0, 0), (55, 6, 2, 0)], [(37, 0, 0, 0), (7, 1, 1, 12), (2, 1, 0, 0), (2, 2, 0, 0), (31, 166, 3, 66), (3, 3, 0, 0), (2, 3, 0, 0), (60, 5, 3, 0)], [(2, 3, 0, 0), (0, 120, 0, 0), (55, 5, 4, 0)], [(37, 0, 0, 0), (7, 1, 13, 25), (2, 3, 0, 0), (0, 1, 0, 0), (14, 0, 0, 0), (50, 5, 0, 0)], [(4, 2, 1, 0), (51, 1, 0, 0)], [(67, 0, 0, 0)]]
def p175 : List Nat := [0, 2, 7, 21, 27, 34, 40]
def mt176 : MT := (⟨"WordFolder$Learner", "colourOf", "(I)I"⟩, prog_3_method_5_code, 3, some FieldType.int, 1, false)
def b176 : List (List Ai) := [[(37, 0, 0, 0), (7, 1, 1, 12), (2, 1, 0, 0), (31, 163, 2, 70), (3, 2, 0, 0), (37, 0, 0, 0), (7, 1, 1, 12), (2, 2, 0, 0), (31, 164, 2, 58), (58, 2, 1, 0)], [(0, 1, 0, 0), (64, 0, 0, 0)], [(37, 0, 0, 0), (30, 174, 1, 74), (2, 2, 0, 0), (60, 6, 3, 0)], [(2, 2, 0, 0), (0, 120, 0, 0), (55, 6, 4, 0)], [(37, 0, 0, 0), (7, 1, 13, 25), (2, 2, 0, 0), (15, 0, 0, 0), (58, 6, 5, 0)], [(0, 2, 0, 0), (51, 7, 0, 0)], [(0, 0, 0, 0), (50, 7, 0, 0)], [(64, 0, 0, 0)]]
def p176 : List Nat := [0, 20, 22, 30, 36, 45, 49, 50]
def mt177 : MT := (⟨"WordFolder$Learner", "learnFrom", "(LWordFolder$Tree;I)I"⟩, prog_3_method_6_code, 4, some FieldType.int, 1, false)
def b177 : List (List Ai) := [[(37, 0, 0, 0), (37, 1, 0, 0), (30, 173, 2, 77), (37, 0, 0, 0), (30, 174, 1, 74), (0, 0, 0, 0), (3, 3, 0, 0), (50, 1, 0, 0)], [(2, 3, 0, 0), (0, 200, 0, 0), (55, 4, 2, 0)], [(37, 0, 0, 0), (6, 1, 9, 52), (63, 4, 3, 0)], [(37, 0, 0, 0), (2, 2, 0, 0), (30, 178, 2, 78), (37, 0, 0, 0), (30, 174, 1, 74), (4, 3, 1, 0), (51, 1, 0, 0)], [(37, 0, 0, 0), (7, 1, 1, 12), (6, 0, 10, 81), (64, 0, 0, 0)]]
def p177 : List Nat := [0, 11, 18, 25, 40]
def mt178 : MT := (⟨"WordFolder$Learner", "doStep", "(I)V"⟩, prog_3_method_7_code, 2, none, 1, false)
def b178 : List (List Ai) := [[(2, 1, 0, 0), (59, 2, 1, 0)], [(37, 0, 0, 0), (30, 179, 1, 84), (51, 3, 0, 0)], [(37, 0, 0, 0), (2, 1, 0, 0), (30, 180, 2, 87), (50, 3, 0, 0)], [(67, 0, 0, 0)]]
def p178 : List Nat := [0, 4, 11, 16]
def mt179 : MT := (⟨"WordFolder$Learner", "doFirst", "()V"⟩, prog_3_method_8_code, 2, none, 1, false)
def b179 : List (List Ai) := [[(0, 0, 0, 0), (3, 1, 0, 0), (50, 1, 0, 0)], [(2, 1, 0, 0), (37, 0, 0, 0), (6, 1, 8, 49), (55, 5, 2, 0)], [(37, 0, 0, 0), (37, 0, 0, 0), (7, 1, 12, 22), (0, 0, 0, 0), (10, 0, 0, 0), (37, 0, 0, 0), (7, 1, 11, 18), (2, 1, 0, 0), (10, 0, 0, 0), (0, 0, 0, 0), (31, 181, 4, 90), (58, 4, 3, 0)], [(67, 0, 0, 0)], [(4, 1, 1, 0), (51, 1, 0, 0)], [(37, 0, 0, 0), (37, 0, 0, 0), (7, 1, 12, 22), (0, 0, 0, 0), (10, 0, 0, 0), (30, 182, 2, 94), (67, 0, 0, 0)]]
def p179 : List Nat := [0, 2, 10, 30, 31, 37]
def mt180 : MT := (⟨"WordFolder$Learner", "doBest", "(I)V"⟩, prog_3_method_9_code, 9, none, 1, false)
def b180 : List (List Ai) := [[(1, 1, 0, 0), (3, 2, 0, 0), (1, 1, 0, 0), (3, 3, 0, 0), (1, 1, 0, 0), (3, 4, 0, 0), (0, 0, 0, 0), (3, 5, 0, 0), (50, 1, 0, 0)], [(2, 5, 0, 0), (37, 0, 0, 0), (6, 1, 9, 52), (55, 14, 2, 0)], [(0, 0, 0, 0), (3, 6, 0, 0), (0, 0, 0, 0), (3, 7, 0, 0), (50, 3, 0, 0)], [(2, 7, 0, 0), (37, 0, 0, 0), (6, 1, 8, 49), (55, 11, 4, 0)], [(37, 0, 0, 0), (7, 1, 1, 12), (2, 1, 0, 0), (37, 0, 0, 0), (7, 1, 12, 22), (2, 5, 0, 0), (10, 0, 0, 0), (37, 0, 0, 0), (7, 1, 11, 18), (2, 7, 0, 0), (10, 0, 0, 0), (31, 170, 4, 97), (3, 8, 0, 0), (2, 6, 0, 0), (59, 6, 5, 0)], [(2, 8, 0, 0), (1, 1, 0, 0), (52, 7, 6, 0)], [(0, 1, 0, 0), (51, 8, 0, 0)], [(0, 0, 0, 0), (50, 8, 0, 0)], [(3, 6, 0, 0), (2, 8, 0, 0), (2, 2, 0, 0), (57, 10, 9, 0)], [(2, 8, 0, 0), (3, 2, 0, 0), (37, 0, 0, 0), (7, 1, 12, 22), (2, 5, 0, 0), (10, 0, 0, 0), (3, 3, 0, 0), (37, 0, 0, 0), (7, 1, 11, 18), (2, 7, 0, 0), (10, 0, 0, 0), (3, 4, 0, 0), (50, 10, 0, 0)], [(4, 7, 1, 0), (51, 3, 0, 0)], [(2, 6, 0, 0), (59, 13, 12, 0)], [(37, 0, 0, 0), (37, 0, 0, 0), (7, 1, 12, 22), (2, 5, 0, 0), (10, 0, 0, 0), (30, 182, 2, 94), (67, 0, 0, 0)], [(4, 5, 1, 0), (51, 1, 0, 0)], [(37, 0, 0, 0), (2, 3, 0, 0), (2, 4, 0, 0), (2, 2, 0, 0), (31, 181, 4, 90), (28, 0, 0, 0), (67, 0, 0, 0)]]
def p180 : List Nat := [0, 10, 19, 25, 34, 63, 69, 73, 74, 82, 102, 108, 113, 125, 131]
def mt181 : MT := (⟨"WordFolder$Learner", "doMerge", "(III)Z"⟩, prog_3_method_10_code, 5, some FieldType.boolean, 1, false)
def b181 : List (List Ai) := [[(37, 0, 0, 0), (7, 1, 1, 12), (6, 0, 12, 101), (3, 4, 0, 0), (37, 0, 0, 0), (6, 1, 10, 45), (0, 200, 0, 0), (55, 3, 1, 0)], [(37, 0, 0, 0), (7, 1, 1, 12), (2, 1, 0, 0), (2, 2, 0, 0), (31, 162, 3, 104), (58, 3, 2, 0)], [(37, 0, 0, 0), (7, 1, 1, 12), (2, 1, 0, 0), (2, 2, 0, 0), (31, 167, 3, 108), (59, 4, 3, 0)], [(0, 0, 0, 0), (65, 0, 0, 0)], [(37, 0, 0, 0), (2, 1, 0, 0), (2, 2, 0, 0), (2, 3, 0, 0), (2, 4, 0, 0), (30, 183, 5, 111), (0, 1, 0, 0), (65, 0, 0, 0)]]
def p181 : List Nat := [0, 19, 31, 43, 45]
def mt182 : MT := (⟨"WordFolder$Learner", "doRedden", "(I)V"⟩, prog_3_method_11_code, 2, none, 1, false)
def b182 : List (List Ai) := [[(37, 0, 0, 0), (6, 1, 10, 45), (0, 200, 0, 0), (55, 2, 1, 0)], [(37, 0, 0, 0), (7, 1, 1, 12), (2, 1, 0, 0), (0, 1, 0, 0), (30, 165, 3, 115), (37, 0, 0, 0), (2, 1, 0, 0), (1, 1, 0, 0), (0, 0, 0, 0), (37, 0, 0, 0), (7, 1, 1, 12), (6, 0, 12, 101), (30, 183, 5, 111), (50, 2, 0, 0)], [(67, 0, 0, 0)]]
def p182 : List Nat := [0, 10, 33]
def mt183 : MT := (⟨"WordFolder$Learner", "note", "(IIII)V"⟩, prog_3_method_12_code, 5, none, 1, false)
def b183 : List (List Ai) := [[(37, 0, 0, 0), (7, 1, 14, 29), (37, 0, 0, 0), (6, 1, 10, 45), (2, 1, 0, 0), (12, 0, 0, 0), (37, 0, 0, 0), (7, 1, 15, 32), (37, 0, 0, 0), (6, 1, 10, 45), (2, 2, 0, 0), (12, 0, 0, 0), (37, 0, 0, 0), (7, 1, 16, 35), (37, 0, 0, 0), (6, 1, 10, 45), (2, 3, 0, 0), (12, 0, 0, 0), (37, 0, 0, 0), (7, 1, 17, 38), (37, 0, 0, 0), (6, 1, 10, 45), (2, 4, 0, 0), (12, 0, 0, 0), (37, 0, 0, 0), (27, 0, 0, 0), (6, 1, 10, 45), (0, 1, 0, 0), (17, 0, 0, 0), (8, 1, 10, 45), (67, 0, 0, 0)]]
def p183 : List Nat := [0]
def mt184 : MT := (⟨"WordFolder$Learner", "takeBackDeed", "()Z"⟩, prog_3_method_13_code, 1, some FieldType.boolean, 1, false)
def b184 : List (List Ai) := [[(37, 0, 0, 0), (6, 1, 10, 45), (62, 2, 1, 0)], [(0, 0, 0, 0), (65, 0, 0, 0)], [(37, 0, 0, 0), (27, 0, 0, 0), (6, 1, 10, 45), (0, 1, 0, 0), (18, 0, 0, 0), (8, 1, 10, 45), (37, 0, 0, 0), (7, 1, 15, 32), (37, 0, 0, 0), (6, 1, 10, 45), (10, 0, 0, 0), (1, 1, 0, 0), (53, 4, 3, 0)], [(37, 0, 0, 0), (7, 1, 1, 12), (37, 0, 0, 0), (7, 1, 14, 29), (37, 0, 0, 0), (6, 1, 10, 45), (10, 0, 0, 0), (0, 0, 0, 0), (30, 165, 3, 115), (51, 5, 0, 0)], [(37, 0, 0, 0), (7, 1, 1, 12), (37, 0, 0, 0), (7, 1, 17, 38), (37, 0, 0, 0), (6, 1, 10, 45), (10, 0, 0, 0), (30, 169, 2, 119), (50, 5, 0, 0)], [(0, 1, 0, 0), (65, 0, 0, 0)]]
def p184 : List Nat := [0, 7, 9, 32, 52, 68]
def mt185 : MT := (⟨"WordFolder$Learner", "deedOf", "(II)I"⟩, prog_3_method_14_code, 3, some FieldType.int, 1, false)
def b185 : List (List Ai) := [[(2, 1, 0, 0), (60, 2, 1, 0)], [(2, 1, 0, 0), (37, 0, 0, 0), (6, 1, 10, 45), (54, 3, 2, 0)], [(1, 2, 0, 0), (64, 0, 0, 0)], [(2, 2, 0, 0), (68, 11, 0, 0), (0, 4, 0, 0), (1, 8, 0, 0), (2, 9, 0, 0), (3, 10, 0, 0)], [(37, 0, 0, 0), (7, 1, 15, 32), (2, 1, 0, 0), (10, 0, 0, 0), (1, 1, 0, 0), (53, 6, 5, 0)], [(0, 0, 0, 0), (51, 7, 0, 0)], [(0, 1, 0, 0), (50, 7, 0, 0)], [(64, 0, 0, 0)], [(37, 0, 0, 0), (7, 1, 14, 29), (2, 1, 0, 0), (10, 0, 0, 0), (64, 0, 0, 0)], [(37, 0, 0, 0), (7, 1, 15, 32), (2, 1, 0, 0), (10, 0, 0, 0), (64, 0, 0, 0)], [(37, 0, 0, 0), (7, 1, 16, 35), (2, 1, 0, 0), (10, 0, 0, 0), (64, 0, 0, 0)], [(1, 2, 0, 0), (64, 0, 0, 0)]]
def p185 : List Nat := [0, 4, 12, 15, 48, 58, 62, 63, 64, 71, 78, 85]
def mt186 : MT := (⟨"WordFolder$Machine", "clear", "()V"⟩, prog_4_method_2_code, 1, none, 2, false)
def b186 : List (List Ai) := [[(37, 0, 0, 0), (0, 0, 0, 0), (8, 2, 2, 24), (67, 0, 0, 0)]]
def p186 : List Nat := [0]
def mt187 : MT := (⟨"WordFolder$Machine", "has", "(I)Z"⟩, prog_4_method_3_code, 2, some FieldType.boolean, 2, false)
def b187 : List (List Ai) := [[(2, 1, 0, 0), (60, 4, 1, 0)], [(2, 1, 0, 0), (37, 0, 0, 0), (6, 2, 2, 24), (55, 4, 2, 0)], [(2, 1, 0, 0), (37, 0, 0, 0), (7, 2, 1, 15), (16, 0, 0, 0), (55, 4, 3, 0)], [(0, 1, 0, 0), (51, 5, 0, 0)], [(0, 0, 0, 0), (50, 5, 0, 0)], [(65, 0, 0, 0)]]
def p187 : List Nat := [0, 4, 12, 21, 25, 26]
def mt188 : MT := (⟨"WordFolder$Machine", "copy", "(LWordFolder$Machine;)V"⟩, prog_4_method_4_code, 2, none, 2, false)
def b188 : List (List Ai) := [[(37, 0, 0, 0), (37, 1, 0, 0), (6, 2, 2, 24), (37, 0, 0, 0), (7, 2, 1, 15), (16, 0, 0, 0), (32, 0, 0, 28), (8, 2, 2, 24), (37, 1, 0, 0), (7, 2, 1, 15), (0, 0, 0, 0), (37, 0, 0, 0), (7, 2, 1, 15), (0, 0, 0, 0), (37, 0, 0, 0), (6, 2, 2, 24), (34, 0, 0, 31), (37, 1, 0, 0), (7, 2, 2, 21), (0, 0, 0, 0), (37, 0, 0, 0), (7, 2, 2, 21), (0, 0, 0, 0), (37, 0, 0, 0), (6, 2, 2, 24), (0, 4, 0, 0), (19, 0, 0, 0), (34, 0, 0, 31), (67, 0, 0, 0)]]
def p188 : List Nat := [0]
def mt189 : MT := (⟨"WordFolder$Machine", "add", "(I)V"⟩, prog_4_method_5_code, 3, none, 2, false)
def b189 : List (List Ai) := [[(37, 0, 0, 0), (6, 2, 2, 24), (60, 2, 1, 0)], [(37, 0, 0, 0), (6, 2, 2, 24), (37, 0, 0, 0), (7, 2, 1, 15), (16, 0, 0, 0), (54, 3, 2, 0)], [(67, 0, 0, 0)], [(37, 0, 0, 0), (7, 2, 1, 15), (37, 0, 0, 0), (6, 2, 2, 24), (2, 1, 0, 0), (12, 0, 0, 0), (0, 0, 0, 0), (3, 2, 0, 0), (50, 4, 0, 0)], [(2, 2, 0, 0), (0, 4, 0, 0), (55, 6, 5, 0)], [(37, 0, 0, 0), (7, 2, 2, 21), (37, 0, 0, 0), (6, 2, 2, 24), (0, 4, 0, 0), (19, 0, 0, 0), (2, 2, 0, 0), (17, 0, 0, 0), (1, 1, 0, 0), (12, 0, 0, 0), (4, 2, 1, 0), (51, 4, 0, 0)], [(37, 0, 0, 0), (27, 0, 0, 0), (6, 2, 2, 24), (0, 1, 0, 0), (17, 0, 0, 0), (8, 2, 2, 24), (67, 0, 0, 0)]]
def p189 : List Nat := [0, 7, 19, 20, 32, 37, 57]
def mt190 : MT := (⟨"WordFolder$Machine", "link", "(III)V"⟩, prog_4_method_6_code, 4, none, 2, false)
def b190 : List (List Ai) := [[(37, 0, 0, 0), (2, 1, 0, 0), (31, 187, 2, 37), (58, 4, 1, 0)], [(2, 2, 0, 0), (60, 4, 2, 0)], [(2, 2, 0, 0), (0, 4, 0, 0), (55, 4, 3, 0)], [(37, 0, 0, 0), (7, 2, 2, 21), (2, 1, 0, 0), (0, 4, 0, 0), (19, 0, 0, 0), (2, 2, 0, 0), (17, 0, 0, 0), (2, 3, 0, 0), (12, 0, 0, 0), (50, 4, 0, 0)], [(67, 0, 0, 0)]]
def p190 : List Nat := [0, 8, 12, 17, 28]
def mt191 : MT := (⟨"WordFolder$Machine", "follow", "(II)I"⟩, prog_4_method_7_code, 4, some FieldType.int, 2, false)
def b191 : List (List Ai) := [[(37, 0, 0, 0), (2, 1, 0, 0), (31, 187, 2, 37), (58, 3, 1, 0)], [(2, 2, 0, 0), (60, 3, 2, 0)], [(2, 2, 0, 0), (0, 4, 0, 0), (54, 4, 3, 0)], [(1, 1, 0, 0), (64, 0, 0, 0)], [(37, 0, 0, 0), (7, 2, 2, 21), (2, 1, 0, 0), (0, 4, 0, 0), (19, 0, 0, 0), (2, 2, 0, 0), (17, 0, 0, 0), (10, 0, 0, 0), (3, 3, 0, 0), (37, 0, 0, 0), (2, 3, 0, 0), (31, 187, 2, 37), (58, 6, 5, 0)], [(2, 3, 0, 0), (51, 7, 0, 0)], [(1, 1, 0, 0), (50, 7, 0, 0)], [(64, 0, 0, 0)]]
def p191 : List Nat := [0, 8, 12, 17, 19, 38, 42, 43]
def mt192 : MT := (⟨"WordFolder$Machine", "isIn", "(I)Z"⟩, prog_4_method_8_code, 2, some FieldType.boolean, 2, false)
def b192 : List (List Ai) := [[(37, 0, 0, 0), (2, 1, 0, 0), (31, 187, 2, 37), (58, 3, 1, 0)], [(37, 0, 0, 0), (7, 2, 1, 15), (2, 1, 0, 0), (10, 0, 0, 0), (0, 1, 0, 0), (53, 3, 2, 0)], [(0, 1, 0, 0), (51, 4, 0, 0)], [(0, 0, 0, 0), (50, 4, 0, 0)], [(65, 0, 0, 0)]]
def p192 : List Nat := [0, 8, 18, 22, 23]
def mt193 : MT := (⟨"WordFolder$Machine", "accepts", "(I)Z"⟩, prog_4_method_9_code, 5, some FieldType.boolean, 2, false)
def b193 : List (List Ai) := [[(2, 1, 0, 0), (31, 259, 1, 41), (3, 2, 0, 0), (0, 0, 0, 0), (3, 3, 0, 0), (0, 0, 0, 0), (3, 4, 0, 0), (50, 1, 0, 0)], [(2, 4, 0, 0), (2, 2, 0, 0), (55, 4, 2, 0)], [(2, 3, 0, 0), (1, 1, 0, 0), (52, 4, 3, 0)], [(37, 0, 0, 0), (2, 3, 0, 0), (2, 1, 0, 0), (2, 4, 0, 0), (31, 260, 2, 47), (31, 191, 3, 50), (3, 3, 0, 0), (4, 4, 1, 0), (51, 1, 0, 0)], [(37, 0, 0, 0), (2, 3, 0, 0), (31, 192, 2, 53), (65, 0, 0, 0)]]
def p193 : List Nat := [0, 10, 16, 21, 39]
def mt194 : MT := (⟨"WordFolder$Machine", "write", "(LWordFolder$Octets;I)V"⟩, prog_4_method_10_code, 6, none, 2, false)
def b194 : List (List Ai) := [[(0, 0, 0, 0), (3, 3, 0, 0), (50, 1, 0, 0)], [(2, 3, 0, 0), (37, 0, 0, 0), (6, 2, 2, 24), (55, 9, 2, 0)], [(2, 3, 0, 0), (37, 0, 0, 0), (7, 2, 1, 15), (16, 0, 0, 0), (55, 9, 3, 0)], [(37, 1, 0, 0), (37, 0, 0, 0), (7, 2, 1, 15), (2, 3, 0, 0), (10, 0, 0, 0), (31, 195, 1, 56), (30, 222, 2, 59), (0, 0, 0, 0), (3, 4, 0, 0), (50, 4, 0, 0)], [(2, 4, 0, 0), (2, 2, 0, 0), (55, 8, 5, 0)], [(37, 0, 0, 0), (2, 3, 0, 0), (2, 4, 0, 0), (31, 191, 3, 50), (3, 5, 0, 0), (2, 5, 0, 0), (1, 1, 0, 0), (52, 7, 6, 0)], [(37, 1, 0, 0), (0, 97, 0, 0), (2, 4, 0, 0), (17, 0, 0, 0), (30, 222, 2, 59), (37, 1, 0, 0), (2, 5, 0, 0), (30, 224, 2, 65), (50, 7, 0, 0)], [(4, 4, 1, 0), (51, 4, 0, 0)], [(37, 1, 0, 0), (0, 59, 0, 0), (30, 222, 2, 59), (4, 3, 1, 0), (51, 1, 0, 0)], [(67, 0, 0, 0)]]
def p194 : List Nat := [0, 2, 10, 19, 35, 41, 56, 71, 77, 89]
def mt195 : MT := (⟨"WordFolder$Machine", "signOf", "(I)I"⟩, prog_4_method_11_code, 1, some FieldType.int, 2, true)
def b195 : List (List Ai) := [[(2, 0, 0, 0), (0, 1, 0, 0), (53, 2, 1, 0)], [(0, 43, 0, 0), (64, 0, 0, 0)], [(2, 0, 0, 0), (0, 2, 0, 0), (53, 4, 3, 0)], [(0, 45, 0, 0), (51, 5, 0, 0)], [(0, 63, 0, 0), (50, 5, 0, 0)], [(64, 0, 0, 0)]]
def p195 : List Nat := [0, 5, 8, 13, 18, 20]
def mt196 : MT := (⟨"WordFolder$Meter", "countWays", "(LWordFolder$Machine;II)V"⟩, prog_5_method_2_code, 8, none, 3, false)
def b196 : List (List Ai) := [[(0, 0, 0, 0), (3, 4, 0, 0), (50, 1, 0, 0)], [(2, 4, 0, 0), (37, 1, 0, 0), (6, 2, 2, 31), (55, 7, 2, 0)], [(2, 4, 0, 0), (0, 201, 0, 0), (55, 7, 3, 0)], [(37, 0, 0, 0), (7, 3, 1, 9), (2, 4, 0, 0), (37, 1, 0, 0), (2, 4, 0, 0), (31, 192, 2, 37), (58, 5, 4, 0)], [(0, 1, 0, 0), (51, 6, 0, 0)], [(0, 0, 0, 0), (50, 6, 0, 0)], [(12, 0, 0, 0), (4, 4, 1, 0), (51, 1, 0, 0)], [(0, 1, 0, 0), (3, 4, 0, 0), (50, 8, 0, 0)], [(2, 4, 0, 0), (2, 3, 0, 0), (56, 18, 9, 0)], [(2, 4, 0, 0), (0, 10, 0, 0), (56, 18, 10, 0)], [(0, 0, 0, 0), (3, 5, 0, 0), (50, 11, 0, 0)], [(2, 5, 0, 0), (37, 1, 0, 0), (6, 2, 2, 31), (55, 17, 12, 0)], [(2, 5, 0, 0), (0, 201, 0, 0), (55, 17, 13, 0)], [(0, 0, 0, 0), (3, 6, 0, 0), (0, 0, 0, 0), (3, 7, 0, 0), (50, 14, 0, 0)], [(2, 7, 0, 0), (2, 2, 0, 0), (55, 16, 15, 0)], [(2, 6, 0, 0), (37, 0, 0, 0), (37, 1, 0, 0), (2, 5, 0, 0), (2, 7, 0, 0), (31, 191, 3, 41), (2, 4, 0, 0), (0, 1, 0, 0), (18, 0, 0, 0), (31, 197, 3, 45), (17, 0, 0, 0), (3, 6, 0, 0), (4, 7, 1, 0), (51, 14, 0, 0)], [(37, 0, 0, 0), (7, 3, 1, 9), (2, 4, 0, 0), (0, 201, 0, 0), (19, 0, 0, 0), (2, 5, 0, 0), (17, 0, 0, 0), (2, 6, 0, 0), (12, 0, 0, 0), (4, 5, 1, 0), (51, 11, 0, 0)], [(4, 4, 1, 0), (51, 8, 0, 0)], [(67, 0, 0, 0)]]
def p196 : List Nat := [0, 3, 12, 20, 35, 39, 40, 47, 50, 56, 63, 66, 75, 83, 89, 95, 122, 144, 150]
def mt197 : MT := (⟨"WordFolder$Meter", "waysOf", "(II)I"⟩, prog_5_method_3_code, 3, some FieldType.int, 3, false)
def b197 : List (List Ai) := [[(2, 1, 0, 0), (60, 4, 1, 0)], [(2, 1, 0, 0), (0, 201, 0, 0), (55, 4, 2, 0)], [(2, 2, 0, 0), (60, 4, 3, 0)], [(2, 2, 0, 0), (0, 10, 0, 0), (57, 5, 4, 0)], [(0, 0, 0, 0), (64, 0, 0, 0)], [(37, 0, 0, 0), (7, 3, 1, 9), (2, 2, 0, 0), (0, 201, 0, 0), (19, 0, 0, 0), (2, 1, 0, 0), (17, 0, 0, 0), (10, 0, 0, 0), (64, 0, 0, 0)]]
def p197 : List Nat := [0, 4, 11, 15, 21, 23]
def mt198 : MT := (⟨"WordFolder$Meter", "wordTaken", "(LWordFolder$Machine;II)I"⟩, prog_5_method_4_code, 6, some FieldType.int, 3, false)
def b198 : List (List Ai) := [[(37, 0, 0, 0), (37, 1, 0, 0), (2, 2, 0, 0), (0, 10, 0, 0), (30, 196, 4, 48), (2, 3, 0, 0), (3, 4, 0, 0), (0, 0, 0, 0), (3, 5, 0, 0), (50, 1, 0, 0)], [(2, 5, 0, 0), (0, 10, 0, 0), (56, 5, 2, 0)], [(2, 4, 0, 0), (37, 0, 0, 0), (0, 0, 0, 0), (2, 5, 0, 0), (31, 197, 3, 45), (55, 4, 3, 0)], [(37, 0, 0, 0), (37, 1, 0, 0), (2, 2, 0, 0), (2, 5, 0, 0), (2, 4, 0, 0), (31, 199, 5, 52), (64, 0, 0, 0)], [(2, 4, 0, 0), (37, 0, 0, 0), (0, 0, 0, 0), (2, 5, 0, 0), (31, 197, 3, 45), (18, 0, 0, 0), (3, 4, 0, 0), (4, 5, 1, 0), (51, 1, 0, 0)], [(1, 1, 0, 0), (64, 0, 0, 0)]]
def p198 : List Nat := [0, 14, 21, 33, 44, 62]
def mt199 : MT := (⟨"WordFolder$Meter", "wordOf", "(LWordFolder$Machine;III)I"⟩, prog_5_method_5_code, 10, some FieldType.int, 3, false)
def b199 : List (List Ai) := [[(0, 0, 0, 0), (3, 5, 0, 0), (0, 0, 0, 0), (3, 6, 0, 0), (2, 4, 0, 0), (3, 7, 0, 0), (2, 3, 0, 0), (0, 1, 0, 0), (18, 0, 0, 0), (3, 8, 0, 0), (50, 1, 0, 0)], [(2, 8, 0, 0), (60, 7, 2, 0)], [(0, 0, 0, 0), (3, 9, 0, 0), (50, 3, 0, 0)], [(2, 9, 0, 0), (2, 2, 0, 0), (0, 1, 0, 0), (18, 0, 0, 0), (55, 6, 4, 0)], [(2, 7, 0, 0), (37, 0, 0, 0), (37, 1, 0, 0), (2, 6, 0, 0), (2, 9, 0, 0), (31, 191, 3, 41), (2, 8, 0, 0), (31, 197, 3, 45), (54, 6, 5, 0)], [(2, 7, 0, 0), (37, 0, 0, 0), (37, 1, 0, 0), (2, 6, 0, 0), (2, 9, 0, 0), (31, 191, 3, 41), (2, 8, 0, 0), (31, 197, 3, 45), (18, 0, 0, 0), (3, 7, 0, 0), (4, 9, 1, 0), (51, 3, 0, 0)], [(2, 5, 0, 0), (2, 9, 0, 0), (31, 262, 2, 56), (3, 5, 0, 0), (37, 1, 0, 0), (2, 6, 0, 0), (2, 9, 0, 0), (31, 191, 3, 41), (3, 6, 0, 0), (5, 8, 1, 0), (51, 1, 0, 0)], [(2, 5, 0, 0), (64, 0, 0, 0)]]
def p199 : List Nat := [0, 15, 20, 23, 31, 50, 75, 100]
def mt200 : MT := (⟨"WordFolder$Meter", "findUseful", "(LWordFolder$Machine;I)I"⟩, prog_5_method_6_code, 8, some FieldType.int, 3, false)
def b200 : List (List Ai) := [[(37, 0, 0, 0), (37, 1, 0, 0), (2, 2, 0, 0), (31, 202, 3, 61), (3, 3, 0, 0), (0, 0, 0, 0), (3, 4, 0, 0), (0, 0, 0, 0), (3, 5, 0, 0), (50, 1, 0, 0)], [(2, 5, 0, 0), (0, 201, 0, 0), (55, 3, 2, 0)], [(37, 0, 0, 0), (7, 3, 3, 19), (2, 5, 0, 0), (0, 0, 0, 0), (14, 0, 0, 0), (4, 5, 1, 0), (51, 1, 0, 0)], [(0, 1, 0, 0), (3, 5, 0, 0), (0, 0, 0, 0), (3, 6, 0, 0), (50, 4, 0, 0)], [(2, 6, 0, 0), (0, 201, 0, 0), (56, 13, 5, 0)], [(2, 5, 0, 0), (58, 13, 6, 0)], [(0, 0, 0, 0), (3, 5, 0, 0), (2, 3, 0, 0), (0, 1, 0, 0), (18, 0, 0, 0), (3, 7, 0, 0), (50, 7, 0, 0)], [(2, 7, 0, 0), (60, 12, 8, 0)], [(37, 0, 0, 0), (7, 3, 3, 19), (37, 0, 0, 0), (7, 3, 4, 22), (2, 7, 0, 0), (10, 0, 0, 0), (15, 0, 0, 0), (59, 11, 9, 0)], [(37, 0, 0, 0), (37, 1, 0, 0), (2, 2, 0, 0), (37, 0, 0, 0), (7, 3, 4, 22), (2, 7, 0, 0), (10, 0, 0, 0), (31, 201, 4, 65), (58, 11, 10, 0)], [(37, 0, 0, 0), (7, 3, 3, 19), (37, 0, 0, 0), (7, 3, 4, 22), (2, 7, 0, 0), (10, 0, 0, 0), (0, 1, 0, 0), (14, 0, 0, 0), (0, 1, 0, 0), (3, 5, 0, 0), (4, 4, 1, 0), (50, 11, 0, 0)], [(5, 7, 1, 0), (51, 7, 0, 0)], [(4, 6, 1, 0), (51, 4, 0, 0)], [(2, 4, 0, 0), (64, 0, 0, 0)]]
def p200 : List Nat := [0, 13, 21, 35, 41, 49, 54, 62, 67, 82, 98, 117, 123, 129]
def mt201 : MT := (⟨"WordFolder$Meter", "leadsOn", "(LWordFolder$Machine;II)Z"⟩, prog_5_method_7_code, 6, some FieldType.boolean, 3, false)
def b201 : List (List Ai) := [[(37, 1, 0, 0), (2, 3, 0, 0), (31, 192, 2, 37), (58, 2, 1, 0)], [(0, 1, 0, 0), (65, 0, 0, 0)], [(0, 0, 0, 0), (3, 4, 0, 0), (50, 3, 0, 0)], [(2, 4, 0, 0), (2, 2, 0, 0), (55, 8, 4, 0)], [(37, 1, 0, 0), (2, 3, 0, 0), (2, 4, 0, 0), (31, 191, 3, 41), (3, 5, 0, 0), (37, 1, 0, 0), (2, 5, 0, 0), (31, 187, 2, 69), (58, 7, 5, 0)], [(37, 0, 0, 0), (7, 3, 3, 19), (2, 5, 0, 0), (15, 0, 0, 0), (58, 7, 6, 0)], [(0, 1, 0, 0), (65, 0, 0, 0)], [(4, 4, 1, 0), (51, 3, 0, 0)], [(0, 0, 0, 0), (65, 0, 0, 0)]]
def p201 : List Nat := [0, 8, 10, 13, 19, 37, 47, 49, 55]
def mt202 : MT := (⟨"WordFolder$Meter", "reach", "(LWordFolder$Machine;I)I"⟩, prog_5_method_8_code, 7, some FieldType.int, 3, false)
def b202 : List (List Ai) := [[(0, 0, 0, 0), (3, 3, 0, 0), (50, 1, 0, 0)], [(2, 3, 0, 0), (0, 201, 0, 0), (55, 3, 2, 0)], [(37, 0, 0, 0), (7, 3, 2, 15), (2, 3, 0, 0), (0, 0, 0, 0), (14, 0, 0, 0), (4, 3, 1, 0), (51, 1, 0, 0)], [(37, 0, 0, 0), (7, 3, 2, 15), (0, 0, 0, 0), (0, 1, 0, 0), (14, 0, 0, 0), (37, 0, 0, 0), (7, 3, 4, 22), (0, 0, 0, 0), (0, 0, 0, 0), (12, 0, 0, 0), (0, 1, 0, 0), (3, 3, 0, 0), (0, 0, 0, 0), (3, 4, 0, 0), (50, 4, 0, 0)], [(2, 4, 0, 0), (2, 3, 0, 0), (55, 14, 5, 0)], [(2, 4, 0, 0), (0, 201, 0, 0), (55, 14, 6, 0)], [(0, 0, 0, 0), (3, 5, 0, 0), (50, 7, 0, 0)], [(2, 5, 0, 0), (2, 2, 0, 0), (55, 13, 8, 0)], [(37, 1, 0, 0), (37, 0, 0, 0), (7, 3, 4, 22), (2, 4, 0, 0), (10, 0, 0, 0), (2, 5, 0, 0), (31, 191, 3, 41), (3, 6, 0, 0), (37, 1, 0, 0), (2, 6, 0, 0), (31, 187, 2, 69), (58, 12, 9, 0)], [(37, 0, 0, 0), (7, 3, 2, 15), (2, 6, 0, 0), (15, 0, 0, 0), (59, 12, 10, 0)], [(2, 3, 0, 0), (0, 201, 0, 0), (55, 12, 11, 0)], [(37, 0, 0, 0), (7, 3, 2, 15), (2, 6, 0, 0), (0, 1, 0, 0), (14, 0, 0, 0), (37, 0, 0, 0), (7, 3, 4, 22), (2, 3, 0, 0), (2, 6, 0, 0), (12, 0, 0, 0), (4, 3, 1, 0), (50, 12, 0, 0)], [(4, 5, 1, 0), (51, 7, 0, 0)], [(4, 4, 1, 0), (51, 4, 0, 0)], [(2, 3, 0, 0), (64, 0, 0, 0)]]
def p202 : List Nat := [0, 2, 9, 22, 41, 47, 55, 58, 64, 88, 98, 105, 124, 130, 136]
def mt203 : MT := (⟨"WordFolder$Meter", "longestTaken", "(LWordFolder$Machine;I)I"⟩, prog_5_method_9_code, 5, some FieldType.int, 3, false)
def b203 : List (List Ai) := [[(37, 0, 0, 0), (37, 1, 0, 0), (2, 2, 0, 0), (31, 200, 3, 72), (3, 3, 0, 0), (2, 3, 0, 0), (59, 2, 1, 0)], [(1, 2, 0, 0), (64, 0, 0, 0)], [(0, 0, 0, 0), (3, 4, 0, 0), (50, 3, 0, 0)], [(2, 4, 0, 0), (0, 201, 0, 0), (55, 8, 4, 0)], [(37, 0, 0, 0), (7, 3, 5, 25), (2, 4, 0, 0), (2, 4, 0, 0), (59, 6, 5, 0)], [(0, 1, 0, 0), (51, 7, 0, 0)], [(0, 0, 0, 0), (50, 7, 0, 0)], [(14, 0, 0, 0), (4, 4, 1, 0), (51, 3, 0, 0)], [(0, 0, 0, 0), (3, 4, 0, 0), (50, 9, 0, 0)], [(2, 4, 0, 0), (2, 3, 0, 0), (55, 14, 10, 0)], [(2, 4, 0, 0), (0, 201, 0, 0), (55, 14, 11, 0)], [(37, 0, 0, 0), (37, 1, 0, 0), (2, 2, 0, 0), (31, 204, 3, 75), (59, 13, 12, 0)], [(2, 4, 0, 0), (64, 0, 0, 0)], [(4, 4, 1, 0), (51, 9, 0, 0)], [(1, 3, 0, 0), (64, 0, 0, 0)]]
def p203 : List Nat := [0, 11, 14, 17, 25, 36, 40, 41, 48, 51, 57, 65, 74, 77, 83]
def mt204 : MT := (⟨"WordFolder$Meter", "goOn", "(LWordFolder$Machine;I)Z"⟩, prog_5_method_10_code, 7, some FieldType.boolean, 3, false)
def b204 : List (List Ai) := [[(0, 0, 0, 0), (3, 3, 0, 0), (50, 1, 0, 0)], [(2, 3, 0, 0), (0, 201, 0, 0), (55, 3, 2, 0)], [(37, 0, 0, 0), (7, 3, 6, 28), (2, 3, 0, 0), (0, 0, 0, 0), (14, 0, 0, 0), (4, 3, 1, 0), (51, 1, 0, 0)], [(0, 0, 0, 0), (3, 3, 0, 0), (0, 0, 0, 0), (3, 4, 0, 0), (50, 4, 0, 0)], [(2, 4, 0, 0), (37, 1, 0, 0), (6, 2, 2, 31), (55, 14, 5, 0)], [(2, 4, 0, 0), (0, 201, 0, 0), (55, 14, 6, 0)], [(0, 0, 0, 0), (3, 5, 0, 0), (50, 7, 0, 0)], [(2, 5, 0, 0), (2, 2, 0, 0), (55, 13, 8, 0)], [(37, 0, 0, 0), (7, 3, 5, 25), (2, 4, 0, 0), (15, 0, 0, 0), (58, 13, 9, 0)], [(37, 1, 0, 0), (2, 4, 0, 0), (2, 5, 0, 0), (31, 191, 3, 41), (3, 6, 0, 0), (37, 1, 0, 0), (2, 6, 0, 0), (31, 187, 2, 69), (58, 12, 10, 0)], [(37, 0, 0, 0), (7, 3, 3, 19), (2, 6, 0, 0), (15, 0, 0, 0), (58, 12, 11, 0)], [(37, 0, 0, 0), (7, 3, 6, 28), (2, 6, 0, 0), (0, 1, 0, 0), (14, 0, 0, 0), (0, 1, 0, 0), (3, 3, 0, 0), (50, 12, 0, 0)], [(4, 5, 1, 0), (51, 7, 0, 0)], [(4, 4, 1, 0), (51, 4, 0, 0)], [(0, 0, 0, 0), (3, 4, 0, 0), (50, 15, 0, 0)], [(2, 4, 0, 0), (0, 201, 0, 0), (55, 17, 16, 0)], [(37, 0, 0, 0), (7, 3, 5, 25), (2, 4, 0, 0), (37, 0, 0, 0), (7, 3, 6, 28), (2, 4, 0, 0), (15, 0, 0, 0), (14, 0, 0, 0), (4, 4, 1, 0), (51, 15, 0, 0)], [(2, 3, 0, 0), (65, 0, 0, 0)]]
def p204 : List Nat := [0, 2, 9, 22, 27, 36, 44, 47, 53, 63, 82, 92, 102, 108, 114, 117, 125, 145]
def mt205 : MT := (⟨"WordFolder$Mill", "forgetPairs", "()V"⟩, prog_6_method_2_code, 2, none, 4, false)
def b205 : List (List Ai) := [[(37, 0, 0, 0), (0, 0, 0, 0), (8, 4, 9, 45), (0, 0, 0, 0), (3, 1, 0, 0), (50, 1, 0, 0)], [(2, 1, 0, 0), (0, 202, 0, 0), (55, 3, 2, 0)], [(37, 0, 0, 0), (7, 4, 8, 33), (2, 1, 0, 0), (1, 1, 0, 0), (12, 0, 0, 0), (4, 1, 1, 0), (51, 1, 0, 0)], [(67, 0, 0, 0)]]
def p205 : List Nat := [0, 7, 14, 27]
def mt206 : MT := (⟨"WordFolder$Mill", "numberOf", "(II)I"⟩, prog_6_method_3_code, 4, some FieldType.int, 4, false)
def b206 : List (List Ai) := [[(2, 1, 0, 0), (1, 1, 0, 0), (54, 2, 1, 0)], [(2, 1, 0, 0), (0, 201, 0, 0), (54, 3, 2, 0)], [(1, 1, 0, 0), (64, 0, 0, 0)], [(37, 0, 0, 0), (7, 4, 8, 33), (2, 1, 0, 0), (0, 1, 0, 0), (17, 0, 0, 0), (10, 0, 0, 0), (3, 3, 0, 0), (50, 4, 0, 0)], [(2, 3, 0, 0), (60, 9, 5, 0)], [(2, 3, 0, 0), (37, 0, 0, 0), (6, 4, 9, 45), (55, 9, 6, 0)], [(37, 0, 0, 0), (7, 4, 5, 24), (2, 3, 0, 0), (10, 0, 0, 0), (2, 2, 0, 0), (53, 8, 7, 0)], [(2, 3, 0, 0), (64, 0, 0, 0)], [(37, 0, 0, 0), (7, 4, 7, 30), (2, 3, 0, 0), (10, 0, 0, 0), (3, 3, 0, 0), (51, 4, 0, 0)], [(37, 0, 0, 0), (2, 1, 0, 0), (2, 2, 0, 0), (0, 0, 0, 0), (31, 207, 4, 49), (3, 3, 0, 0), (2, 3, 0, 0), (1, 1, 0, 0), (52, 11, 10, 0)], [(37, 0, 0, 0), (7, 4, 7, 30), (2, 3, 0, 0), (37, 0, 0, 0), (7, 4, 8, 33), (2, 1, 0, 0), (0, 1, 0, 0), (17, 0, 0, 0), (10, 0, 0, 0), (12, 0, 0, 0), (37, 0, 0, 0), (7, 4, 8, 33), (2, 1, 0, 0), (0, 1, 0, 0), (17, 0, 0, 0), (2, 3, 0, 0), (12, 0, 0, 0), (50, 11, 0, 0)], [(2, 3, 0, 0), (64, 0, 0, 0)]]
def p206 : List Nat := [0, 5, 12, 14, 23, 27, 35, 45, 47, 57, 70, 93]
def mt207 : MT := (⟨"WordFolder$Mill", "note", "(III)I"⟩, prog_6_method_4_code, 4, some FieldType.int, 4, false)
def b207 : List (List Ai) := [[(37, 0, 0, 0), (6, 4, 9, 45), (60, 2, 1, 0)], [(37, 0, 0, 0), (6, 4, 9, 45), (0, 404, 0, 0), (54, 3, 2, 0)], [(1, 1, 0, 0), (64, 0, 0, 0)], [(37, 0, 0, 0), (7, 4, 4, 20), (37, 0, 0, 0), (6, 4, 9, 45), (2, 1, 0, 0), (12, 0, 0, 0), (37, 0, 0, 0), (7, 4, 5, 24), (37, 0, 0, 0), (6, 4, 9, 45), (2, 2, 0, 0), (12, 0, 0, 0), (37, 0, 0, 0), (7, 4, 6, 27), (37, 0, 0, 0), (6, 4, 9, 45), (2, 3, 0, 0), (12, 0, 0, 0), (37, 0, 0, 0), (27, 0, 0, 0), (6, 4, 9, 45), (0, 1, 0, 0), (17, 0, 0, 0), (8, 4, 9, 45), (37, 0, 0, 0), (6, 4, 9, 45), (0, 1, 0, 0), (18, 0, 0, 0), (64, 0, 0, 0)]]
def p207 : List Nat := [0, 7, 17, 19]
def mt208 : MT := (⟨"WordFolder$Mill", "putTogether", "(LWordFolder$Machine;LWordFolder$Machine;III)Z"⟩, prog_6_method_5_code, 8, some FieldType.boolean, 4, false)
def b208 : List (List Ai) := [[(37, 0, 0, 0), (7, 4, 1, 16), (30, 186, 1, 53), (37, 0, 0, 0), (30, 205, 1, 56), (37, 0, 0, 0), (0, 0, 0, 0), (0, 0, 0, 0), (31, 206, 3, 59), (28, 0, 0, 0), (0, 0, 0, 0), (3, 6, 0, 0), (50, 1, 0, 0)], [(2, 6, 0, 0), (37, 0, 0, 0), (6, 4, 9, 45), (55, 12, 2, 0)], [(2, 6, 0, 0), (0, 201, 0, 0), (55, 12, 3, 0)], [(37, 0, 0, 0), (7, 4, 1, 16), (37, 1, 0, 0), (37, 0, 0, 0), (7, 4, 4, 20), (2, 6, 0, 0), (10, 0, 0, 0), (31, 192, 2, 63), (37, 2, 0, 0), (37, 0, 0, 0), (7, 4, 5, 24), (2, 6, 0, 0), (10, 0, 0, 0), (31, 192, 2, 63), (2, 3, 0, 0), (31, 209, 3, 67), (58, 5, 4, 0)], [(0, 1, 0, 0), (51, 6, 0, 0)], [(0, 2, 0, 0), (50, 6, 0, 0)], [(30, 189, 2, 70), (0, 0, 0, 0), (3, 7, 0, 0), (50, 7, 0, 0)], [(2, 7, 0, 0), (2, 4, 0, 0), (55, 9, 8, 0)], [(37, 0, 0, 0), (7, 4, 1, 16), (2, 6, 0, 0), (2, 7, 0, 0), (37, 0, 0, 0), (37, 1, 0, 0), (37, 0, 0, 0), (7, 4, 4, 20), (2, 6, 0, 0), (10, 0, 0, 0), (2, 7, 0, 0), (31, 191, 3, 73), (37, 2, 0, 0), (37, 0, 0, 0), (7, 4, 5, 24), (2, 6, 0, 0), (10, 0, 0, 0), (2, 7, 0, 0), (31, 191, 3, 73), (31, 206, 3, 59), (30, 190, 4, 76), (4, 7, 1, 0), (51, 7, 0, 0)], [(37, 0, 0, 0), (6, 4, 9, 45), (2, 5, 0, 0), (57, 11, 10, 0)], [(0, 0, 0, 0), (65, 0, 0, 0)], [(4, 6, 1, 0), (51, 1, 0, 0)], [(0, 1, 0, 0), (65, 0, 0, 0)]]
def p208 : List Nat := [0, 21, 30, 38, 71, 75, 76, 82, 89, 136, 145, 147, 153]
def mt209 : MT := (⟨"WordFolder$Mill", "isIn", "(ZZI)Z"⟩, prog_6_method_6_code, 3, some FieldType.boolean, 4, true)
def b209 : List (List Ai) := [[(2, 2, 0, 0), (59, 6, 1, 0)], [(2, 0, 0, 0), (58, 4, 2, 0)], [(2, 1, 0, 0), (58, 4, 3, 0)], [(0, 1, 0, 0), (51, 5, 0, 0)], [(0, 0, 0, 0), (50, 5, 0, 0)], [(65, 0, 0, 0)], [(2, 2, 0, 0), (0, 1, 0, 0), (53, 11, 7, 0)], [(2, 0, 0, 0), (59, 9, 8, 0)], [(2, 1, 0, 0), (58, 10, 9, 0)], [(0, 1, 0, 0), (51, 15, 0, 0)], [(0, 0, 0, 0), (51, 15, 0, 0)], [(2, 0, 0, 0), (58, 14, 12, 0)], [(2, 1, 0, 0), (59, 14, 13, 0)], [(0, 1, 0, 0), (51, 15, 0, 0)], [(0, 0, 0, 0), (50, 15, 0, 0)], [(65, 0, 0, 0)]]
def p209 : List Nat := [0, 4, 8, 12, 16, 17, 18, 23, 27, 31, 35, 39, 43, 47, 51, 52]
def mt210 : MT := (⟨"WordFolder$Mill", "findApart", "(LWordFolder$Machine;LWordFolder$Machine;I)I"⟩, prog_6_method_7_code, 9, some FieldType.int, 4, false)
def b210 : List (List Ai) := [[(37, 0, 0, 0), (0, 0, 0, 0), (8, 4, 9, 45), (0, 0, 0, 0), (3, 4, 0, 0), (50, 1, 0, 0)], [(2, 4, 0, 0), (0, 404, 0, 0), (55, 3, 2, 0)], [(37, 0, 0, 0), (7, 4, 9, 36), (2, 4, 0, 0), (2, 4, 0, 0), (12, 0, 0, 0), (4, 4, 1, 0), (51, 1, 0, 0)], [(37, 0, 0, 0), (0, 0, 0, 0), (0, 0, 0, 0), (31, 211, 3, 80), (28, 0, 0, 0), (37, 0, 0, 0), (0, 0, 0, 0), (0, 0, 0, 0), (0, 0, 0, 0), (31, 207, 4, 49), (28, 0, 0, 0), (37, 1, 0, 0), (0, 0, 0, 0), (31, 192, 2, 63), (37, 2, 0, 0), (0, 0, 0, 0), (31, 192, 2, 63), (52, 5, 4, 0)], [(0, 0, 0, 0), (64, 0, 0, 0)], [(0, 0, 0, 0), (3, 4, 0, 0), (50, 6, 0, 0)], [(2, 4, 0, 0), (37, 0, 0, 0), (6, 4, 9, 45), (55, 15, 7, 0)], [(2, 4, 0, 0), (0, 404, 0, 0), (55, 15, 8, 0)], [(0, 0, 0, 0), (3, 5, 0, 0), (50, 9, 0, 0)], [(2, 5, 0, 0), (2, 3, 0, 0), (55, 14, 10, 0)], [(37, 1, 0, 0), (37, 0, 0, 0), (7, 4, 4, 20), (2, 4, 0, 0), (10, 0, 0, 0), (2, 5, 0, 0), (31, 191, 3, 73), (3, 6, 0, 0), (37, 2, 0, 0), (37, 0, 0, 0), (7, 4, 5, 24), (2, 4, 0, 0), (10, 0, 0, 0), (2, 5, 0, 0), (31, 191, 3, 73), (3, 7, 0, 0), (37, 0, 0, 0), (2, 6, 0, 0), (2, 7, 0, 0), (31, 211, 3, 80), (58, 13, 11, 0)], [(37, 0, 0, 0), (2, 6, 0, 0), (2, 7, 0, 0), (2, 4, 0, 0), (0, 4, 0, 0), (19, 0, 0, 0), (2, 5, 0, 0), (17, 0, 0, 0), (31, 207, 4, 49), (3, 8, 0, 0), (37, 1, 0, 0), (2, 6, 0, 0), (31, 192, 2, 63), (37, 2, 0, 0), (2, 7, 0, 0), (31, 192, 2, 63), (52, 13, 12, 0)], [(2, 8, 0, 0), (64, 0, 0, 0)], [(4, 5, 1, 0), (51, 9, 0, 0)], [(4, 4, 1, 0), (51, 6, 0, 0)], [(1, 1, 0, 0), (64, 0, 0, 0)]]
def p210 : List Nat := [0, 8, 16, 31, 59, 61, 64, 73, 81, 84, 90, 131, 163, 166, 172, 178]
def mt211 : MT := (⟨"WordFolder$Mill", "unite", "(II)Z"⟩, prog_6_method_8_code, 5, some FieldType.boolean, 4, false)
def b211 : List (List Ai) := [[(37, 0, 0, 0), (2, 1, 0, 0), (0, 1, 0, 0), (17, 0, 0, 0), (31, 212, 2, 84), (3, 3, 0, 0), (37, 0, 0, 0), (2, 2, 0, 0), (0, 1, 0, 0), (17, 0, 0, 0), (0, 202, 0, 0), (17, 0, 0, 0), (31, 212, 2, 84), (3, 4, 0, 0), (37, 0, 0, 0), (7, 4, 9, 36), (2, 3, 0, 0), (2, 4, 0, 0), (12, 0, 0, 0), (2, 3, 0, 0), (2, 4, 0, 0), (52, 2, 1, 0)], [(0, 1, 0, 0), (51, 3, 0, 0)], [(0, 0, 0, 0), (50, 3, 0, 0)], [(65, 0, 0, 0)]]
def p211 : List Nat := [0, 35, 39, 40]
def mt212 : MT := (⟨"WordFolder$Mill", "leadOf", "(I)I"⟩, prog_6_method_9_code, 4, some FieldType.int, 4, false)
def b212 : List (List Ai) := [[(2, 1, 0, 0), (3, 2, 0, 0), (0, 0, 0, 0), (3, 3, 0, 0), (50, 1, 0, 0)], [(2, 3, 0, 0), (0, 404, 0, 0), (55, 4, 2, 0)], [(37, 0, 0, 0), (7, 4, 9, 36), (2, 2, 0, 0), (10, 0, 0, 0), (2, 2, 0, 0), (52, 4, 3, 0)], [(37, 0, 0, 0), (7, 4, 9, 36), (2, 2, 0, 0), (37, 0, 0, 0), (7, 4, 9, 36), (37, 0, 0, 0), (7, 4, 9, 36), (2, 2, 0, 0), (10, 0, 0, 0), (10, 0, 0, 0), (12, 0, 0, 0), (37, 0, 0, 0), (7, 4, 9, 36), (2, 2, 0, 0), (10, 0, 0, 0), (3, 2, 0, 0), (4, 3, 1, 0), (51, 1, 0, 0)], [(2, 2, 0, 0), (64, 0, 0, 0)]]
def p212 : List Nat := [0, 4, 11, 21, 51]
def mt213 : MT := (⟨"WordFolder$Mill", "writeWay", "(ILWordFolder$Octets;)V"⟩, prog_6_method_10_code, 5, none, 4, false)
def b213 : List (List Ai) := [[(37, 2, 0, 0), (0, 0, 0, 0), (30, 221, 2, 88), (2, 1, 0, 0), (3, 3, 0, 0), (0, 0, 0, 0), (3, 4, 0, 0), (50, 1, 0, 0)], [(2, 4, 0, 0), (0, 404, 0, 0), (55, 5, 2, 0)], [(2, 3, 0, 0), (63, 5, 3, 0)], [(2, 3, 0, 0), (0, 404, 0, 0), (55, 5, 4, 0)], [(37, 2, 0, 0), (0, 97, 0, 0), (37, 0, 0, 0), (7, 4, 6, 27), (2, 3, 0, 0), (10, 0, 0, 0), (0, 4, 0, 0), (21, 0, 0, 0), (17, 0, 0, 0), (30, 222, 2, 93), (37, 0, 0, 0), (7, 4, 6, 27), (2, 3, 0, 0), (10, 0, 0, 0), (0, 4, 0, 0), (20, 0, 0, 0), (3, 3, 0, 0), (4, 4, 1, 0), (51, 1, 0, 0)], [(37, 2, 0, 0), (30, 226, 1, 96), (67, 0, 0, 0)]]
def p213 : List Nat := [0, 10, 18, 22, 29, 59]
def mt214 : MT := (⟨"WordFolder$Mill", "shrink", "(LWordFolder$Machine;I)I"⟩, prog_6_method_11_code, 6, some FieldType.int, 4, false)
def b214 : List (List Ai) := [[(37, 0, 0, 0), (37, 1, 0, 0), (37, 1, 0, 0), (0, 0, 0, 0), (2, 2, 0, 0), (0, 201, 0, 0), (31, 208, 6, 99), (28, 0, 0, 0), (37, 0, 0, 0), (30, 215, 1, 103), (0, 0, 0, 0), (3, 3, 0, 0), (0, 0, 0, 0), (3, 4, 0, 0), (50, 1, 0, 0)], [(2, 4, 0, 0), (0, 201, 0, 0), (55, 7, 2, 0)], [(2, 3, 0, 0), (37, 0, 0, 0), (6, 4, 10, 106), (55, 7, 3, 0)], [(37, 0, 0, 0), (6, 4, 10, 106), (3, 3, 0, 0), (0, 0, 0, 0), (3, 5, 0, 0), (50, 4, 0, 0)], [(2, 5, 0, 0), (2, 2, 0, 0), (55, 6, 5, 0)], [(37, 0, 0, 0), (2, 5, 0, 0), (30, 216, 2, 109), (4, 5, 1, 0), (51, 4, 0, 0)], [(4, 4, 1, 0), (51, 1, 0, 0)], [(37, 0, 0, 0), (6, 4, 10, 106), (64, 0, 0, 0)]]
def p214 : List Nat := [0, 21, 29, 37, 45, 51, 63, 69]
def mt215 : MT := (⟨"WordFolder$Mill", "splitByMark", "()V"⟩, prog_6_method_12_code, 2, none, 4, false)
def b215 : List (List Ai) := [[(37, 0, 0, 0), (30, 205, 1, 56), (0, 0, 0, 0), (3, 1, 0, 0), (50, 1, 0, 0)], [(2, 1, 0, 0), (37, 0, 0, 0), (7, 4, 1, 16), (6, 2, 2, 112), (55, 4, 2, 0)], [(2, 1, 0, 0), (0, 201, 0, 0), (55, 4, 3, 0)], [(37, 0, 0, 0), (7, 4, 11, 42), (2, 1, 0, 0), (37, 0, 0, 0), (0, 0, 0, 0), (37, 0, 0, 0), (7, 4, 1, 16), (7, 2, 1, 115), (2, 1, 0, 0), (10, 0, 0, 0), (31, 206, 3, 59), (12, 0, 0, 0), (4, 1, 1, 0), (51, 1, 0, 0)], [(37, 0, 0, 0), (30, 218, 1, 118), (67, 0, 0, 0)]]
def p215 : List Nat := [0, 6, 17, 24, 50]
def mt216 : MT := (⟨"WordFolder$Mill", "splitByLetter", "(I)V"⟩, prog_6_method_13_code, 3, none, 4, false)
def b216 : List (List Ai) := [[(37, 0, 0, 0), (30, 205, 1, 56), (0, 0, 0, 0), (3, 2, 0, 0), (50, 1, 0, 0)], [(2, 2, 0, 0), (37, 0, 0, 0), (7, 4, 1, 16), (6, 2, 2, 112), (55, 4, 2, 0)], [(2, 2, 0, 0), (0, 201, 0, 0), (55, 4, 3, 0)], [(37, 0, 0, 0), (7, 4, 11, 42), (2, 2, 0, 0), (37, 0, 0, 0), (37, 0, 0, 0), (7, 4, 10, 39), (2, 2, 0, 0), (10, 0, 0, 0), (37, 0, 0, 0), (37, 0, 0, 0), (7, 4, 1, 16), (2, 2, 0, 0), (2, 1, 0, 0), (31, 191, 3, 73), (31, 217, 2, 121), (31, 206, 3, 59), (12, 0, 0, 0), (4, 2, 1, 0), (51, 1, 0, 0)], [(37, 0, 0, 0), (30, 218, 1, 118), (67, 0, 0, 0)]]
def p216 : List Nat := [0, 6, 17, 24, 59]
def mt217 : MT := (⟨"WordFolder$Mill", "kindOf", "(I)I"⟩, prog_6_method_14_code, 2, some FieldType.int, 4, false)
def b217 : List (List Ai) := [[(37, 0, 0, 0), (7, 4, 1, 16), (2, 1, 0, 0), (31, 187, 2, 124), (58, 2, 1, 0)], [(37, 0, 0, 0), (7, 4, 10, 39), (2, 1, 0, 0), (10, 0, 0, 0), (51, 3, 0, 0)], [(1, 1, 0, 0), (50, 3, 0, 0)], [(64, 0, 0, 0)]]
def p217 : List Nat := [0, 11, 20, 21]
def mt218 : MT := (⟨"WordFolder$Mill", "takeKinds", "()V"⟩, prog_6_method_15_code, 1, none, 4, false)
def b218 : List (List Ai) := [[(37, 0, 0, 0), (7, 4, 11, 42), (0, 0, 0, 0), (37, 0, 0, 0), (7, 4, 10, 39), (0, 0, 0, 0), (0, 201, 0, 0), (34, 0, 0, 127), (37, 0, 0, 0), (37, 0, 0, 0), (6, 4, 9, 45), (8, 4, 10, 106), (67, 0, 0, 0)]]
def p218 : List Nat := [0]
def mt219 : MT := (⟨"WordFolder$Mill", "tellShrunk", "(LWordFolder$Machine;I)V"⟩, prog_6_method_16_code, 5, none, 4, false)
def b219 : List (List Ai) := [[(37, 1, 0, 0), (30, 186, 1, 53), (0, 0, 0, 0), (3, 3, 0, 0), (50, 1, 0, 0)], [(2, 3, 0, 0), (37, 0, 0, 0), (7, 4, 1, 16), (6, 2, 2, 112), (55, 8, 2, 0)], [(2, 3, 0, 0), (0, 201, 0, 0), (55, 8, 3, 0)], [(37, 0, 0, 0), (7, 4, 10, 39), (2, 3, 0, 0), (10, 0, 0, 0), (37, 1, 0, 0), (6, 2, 2, 112), (53, 7, 4, 0)], [(37, 1, 0, 0), (37, 0, 0, 0), (7, 4, 1, 16), (7, 2, 1, 115), (2, 3, 0, 0), (10, 0, 0, 0), (30, 189, 2, 70), (0, 0, 0, 0), (3, 4, 0, 0), (50, 5, 0, 0)], [(2, 4, 0, 0), (2, 2, 0, 0), (55, 7, 6, 0)], [(37, 1, 0, 0), (37, 0, 0, 0), (7, 4, 10, 39), (2, 3, 0, 0), (10, 0, 0, 0), (2, 4, 0, 0), (37, 0, 0, 0), (37, 0, 0, 0), (7, 4, 1, 16), (2, 3, 0, 0), (2, 4, 0, 0), (31, 191, 3, 73), (31, 217, 2, 121), (30, 190, 4, 76), (4, 4, 1, 0), (51, 5, 0, 0)], [(4, 3, 1, 0), (51, 1, 0, 0)], [(67, 0, 0, 0)]]
def p219 : List Nat := [0, 6, 17, 24, 37, 53, 59, 91, 97]
def mt220 : MT := (⟨"WordFolder$Octets", "at", "(I)I"⟩, prog_7_method_2_code, 2, some FieldType.int, 5, false)
def b220 : List (List Ai) := [[(2, 1, 0, 0), (60, 4, 1, 0)], [(2, 1, 0, 0), (37, 0, 0, 0), (6, 5, 1, 21), (55, 4, 2, 0)], [(2, 1, 0, 0), (37, 0, 0, 0), (7, 5, 1, 15), (16, 0, 0, 0), (55, 4, 3, 0)], [(37, 0, 0, 0), (7, 5, 1, 15), (2, 1, 0, 0), (10, 0, 0, 0), (51, 5, 0, 0)], [(1, 1, 0, 0), (50, 5, 0, 0)], [(64, 0, 0, 0)]]
def p220 : List Nat := [0, 4, 12, 21, 30, 31]
def mt221 : MT := (⟨"WordFolder$Octets", "cut", "(I)V"⟩, prog_7_method_3_code, 2, none, 5, false)
def b221 : List (List Ai) := [[(37, 0, 0, 0), (2, 1, 0, 0), (8, 5, 1, 21), (67, 0, 0, 0)]]
def p221 : List Nat := [0]
def mt222 : MT := (⟨"WordFolder$Octets", "put", "(I)V"⟩, prog_7_method_4_code, 2, none, 5, false)
def b222 : List (List Ai) := [[(37, 0, 0, 0), (6, 5, 1, 21), (60, 3, 1, 0)], [(37, 0, 0, 0), (6, 5, 1, 21), (37, 0, 0, 0), (7, 5, 1, 15), (16, 0, 0, 0), (55, 3, 2, 0)], [(37, 0, 0, 0), (7, 5, 1, 15), (37, 0, 0, 0), (6, 5, 1, 21), (2, 1, 0, 0), (0, 255, 0, 0), (22, 0, 0, 0), (12, 0, 0, 0), (37, 0, 0, 0), (27, 0, 0, 0), (6, 5, 1, 21), (0, 1, 0, 0), (17, 0, 0, 0), (8, 5, 1, 21), (50, 3, 0, 0)], [(67, 0, 0, 0)]]
def p222 : List Nat := [0, 7, 19, 43]
def mt223 : MT := (⟨"WordFolder$Octets", "putFour", "(I)V"⟩, prog_7_method_5_code, 2, none, 5, false)
def b223 : List (List Ai) := [[(37, 0, 0, 0), (2, 1, 0, 0), (0, 24, 0, 0), (25, 0, 0, 0), (30, 222, 2, 25), (37, 0, 0, 0), (2, 1, 0, 0), (0, 16, 0, 0), (25, 0, 0, 0), (30, 222, 2, 25), (37, 0, 0, 0), (2, 1, 0, 0), (0, 8, 0, 0), (25, 0, 0, 0), (30, 222, 2, 25), (37, 0, 0, 0), (2, 1, 0, 0), (30, 222, 2, 25), (67, 0, 0, 0)]]
def p223 : List Nat := [0]
def mt224 : MT := (⟨"WordFolder$Octets", "putNumber", "(I)V"⟩, prog_7_method_6_code, 2, none, 5, false)
def b224 : List (List Ai) := [[(2, 1, 0, 0), (0, 100, 0, 0), (54, 2, 1, 0)], [(37, 0, 0, 0), (0, 48, 0, 0), (2, 1, 0, 0), (0, 100, 0, 0), (20, 0, 0, 0), (0, 10, 0, 0), (21, 0, 0, 0), (17, 0, 0, 0), (30, 222, 2, 25), (50, 2, 0, 0)], [(2, 1, 0, 0), (0, 10, 0, 0), (54, 4, 3, 0)], [(37, 0, 0, 0), (0, 48, 0, 0), (2, 1, 0, 0), (0, 10, 0, 0), (20, 0, 0, 0), (0, 10, 0, 0), (21, 0, 0, 0), (17, 0, 0, 0), (30, 222, 2, 25), (50, 4, 0, 0)], [(37, 0, 0, 0), (0, 48, 0, 0), (2, 1, 0, 0), (0, 10, 0, 0), (21, 0, 0, 0), (17, 0, 0, 0), (30, 222, 2, 25), (67, 0, 0, 0)]]
def p224 : List Nat := [0, 6, 20, 26, 40]
def mt225 : MT := (⟨"WordFolder$Octets", "putWord", "(I)V"⟩, prog_7_method_7_code, 4, none, 5, false)
def b225 : List (List Ai) := [[(2, 1, 0, 0), (31, 259, 1, 29), (3, 2, 0, 0), (0, 0, 0, 0), (3, 3, 0, 0), (50, 1, 0, 0)], [(2, 3, 0, 0), (2, 2, 0, 0), (55, 3, 2, 0)], [(37, 0, 0, 0), (0, 97, 0, 0), (2, 1, 0, 0), (2, 3, 0, 0), (31, 260, 2, 35), (17, 0, 0, 0), (30, 222, 2, 25), (4, 3, 1, 0), (51, 1, 0, 0)], [(67, 0, 0, 0)]]
def p225 : List Nat := [0, 7, 12, 30]
def mt226 : MT := (⟨"WordFolder$Octets", "turn", "()V"⟩, prog_7_method_8_code, 4, none, 5, false)
def b226 : List (List Ai) := [[(0, 0, 0, 0), (3, 1, 0, 0), (37, 0, 0, 0), (6, 5, 1, 21), (0, 1, 0, 0), (18, 0, 0, 0), (3, 2, 0, 0), (50, 1, 0, 0)], [(2, 1, 0, 0), (60, 5, 2, 0)], [(2, 1, 0, 0), (2, 2, 0, 0), (55, 5, 3, 0)], [(2, 2, 0, 0), (37, 0, 0, 0), (7, 5, 1, 15), (16, 0, 0, 0), (55, 5, 4, 0)], [(37, 0, 0, 0), (7, 5, 1, 15), (2, 1, 0, 0), (10, 0, 0, 0), (3, 3, 0, 0), (37, 0, 0, 0), (7, 5, 1, 15), (2, 1, 0, 0), (37, 0, 0, 0), (7, 5, 1, 15), (2, 2, 0, 0), (10, 0, 0, 0), (12, 0, 0, 0), (37, 0, 0, 0), (7, 5, 1, 15), (2, 2, 0, 0), (2, 3, 0, 0), (12, 0, 0, 0), (4, 1, 1, 0), (5, 2, 1, 0), (51, 1, 0, 0)], [(67, 0, 0, 0)]]
def p226 : List Nat := [0, 9, 13, 18, 27, 62]
def mt227 : MT := (⟨"WordFolder$Octets", "asWord", "(I)I"⟩, prog_7_method_9_code, 5, some FieldType.int, 5, false)
def b227 : List (List Ai) := [[(37, 0, 0, 0), (6, 5, 1, 21), (0, 10, 0, 0), (57, 2, 1, 0)], [(1, 1, 0, 0), (64, 0, 0, 0)], [(0, 0, 0, 0), (3, 2, 0, 0), (0, 0, 0, 0), (3, 3, 0, 0), (50, 3, 0, 0)], [(2, 3, 0, 0), (37, 0, 0, 0), (6, 5, 1, 21), (55, 8, 4, 0)], [(37, 0, 0, 0), (2, 3, 0, 0), (31, 220, 2, 38), (0, 97, 0, 0), (18, 0, 0, 0), (3, 4, 0, 0), (2, 4, 0, 0), (60, 6, 5, 0)], [(2, 4, 0, 0), (2, 1, 0, 0), (54, 7, 6, 0)], [(1, 1, 0, 0), (64, 0, 0, 0)], [(2, 2, 0, 0), (2, 4, 0, 0), (31, 262, 2, 41), (3, 2, 0, 0), (4, 3, 1, 0), (51, 3, 0, 0)], [(2, 2, 0, 0), (64, 0, 0, 0)]]
def p227 : List Nat := [0, 9, 11, 15, 23, 38, 44, 46, 59]
def mt228 : MT := (⟨"WordFolder$Reader", "read", "(LWordFolder$Octets;I)I"⟩, prog_8_method_2_code, 4, some FieldType.int, 6, false)
def b228 : List (List Ai) := [[(37, 0, 0, 0), (7, 6, 1, 14), (30, 186, 1, 24), (37, 0, 0, 0), (0, 0, 0, 0), (8, 6, 2, 27), (0, 0, 0, 0), (3, 3, 0, 0), (50, 1, 0, 0)], [(2, 3, 0, 0), (0, 40, 0, 0), (55, 7, 2, 0)], [(2, 3, 0, 0), (58, 4, 3, 0)], [(37, 0, 0, 0), (6, 6, 2, 27), (37, 1, 0, 0), (6, 5, 1, 31), (55, 7, 4, 0)], [(37, 0, 0, 0), (37, 1, 0, 0), (2, 2, 0, 0), (31, 229, 3, 36), (59, 6, 5, 0)], [(37, 0, 0, 0), (6, 6, 2, 27), (64, 0, 0, 0)], [(4, 3, 1, 0), (51, 1, 0, 0)], [(37, 0, 0, 0), (6, 6, 2, 27), (37, 1, 0, 0), (6, 5, 1, 31), (55, 9, 8, 0)], [(37, 0, 0, 0), (6, 6, 2, 27), (51, 10, 0, 0)], [(37, 0, 0, 0), (2, 2, 0, 0), (31, 231, 2, 40), (50, 10, 0, 0)], [(64, 0, 0, 0)]]
def p228 : List Nat := [0, 14, 20, 24, 35, 44, 49, 55, 66, 73, 78]
def mt229 : MT := (⟨"WordFolder$Reader", "readState", "(LWordFolder$Octets;I)Z"⟩, prog_8_method_3_code, 5, some FieldType.boolean, 6, false)
def b229 : List (List Ai) := [[(37, 1, 0, 0), (37, 0, 0, 0), (6, 6, 2, 27), (31, 220, 2, 44), (31, 232, 1, 47), (3, 3, 0, 0), (2, 3, 0, 0), (1, 1, 0, 0), (53, 2, 1, 0)], [(0, 0, 0, 0), (65, 0, 0, 0)], [(37, 0, 0, 0), (27, 0, 0, 0), (6, 6, 2, 27), (0, 1, 0, 0), (17, 0, 0, 0), (8, 6, 2, 27), (37, 0, 0, 0), (7, 6, 1, 14), (2, 3, 0, 0), (30, 189, 2, 50), (0, 0, 0, 0), (3, 4, 0, 0), (50, 3, 0, 0)], [(2, 4, 0, 0), (2, 2, 0, 0), (55, 8, 4, 0)], [(37, 1, 0, 0), (37, 0, 0, 0), (6, 6, 2, 27), (31, 220, 2, 44), (0, 97, 0, 0), (2, 4, 0, 0), (17, 0, 0, 0), (53, 7, 5, 0)], [(37, 0, 0, 0), (27, 0, 0, 0), (6, 6, 2, 27), (0, 1, 0, 0), (17, 0, 0, 0), (8, 6, 2, 27), (37, 0, 0, 0), (37, 1, 0, 0), (37, 0, 0, 0), (7, 6, 1, 14), (6, 2, 2, 53), (0, 1, 0, 0), (18, 0, 0, 0), (2, 4, 0, 0), (31, 230, 4, 54), (59, 7, 6, 0)], [(0, 0, 0, 0), (65, 0, 0, 0)], [(4, 4, 1, 0), (51, 3, 0, 0)], [(37, 1, 0, 0), (37, 0, 0, 0), (6, 6, 2, 27), (31, 220, 2, 44), (0, 59, 0, 0), (52, 10, 9, 0)], [(0, 0, 0, 0), (65, 0, 0, 0)], [(37, 0, 0, 0), (27, 0, 0, 0), (6, 6, 2, 27), (0, 1, 0, 0), (17, 0, 0, 0), (8, 6, 2, 27), (0, 1, 0, 0), (65, 0, 0, 0)]]
def p229 : List Nat := [0, 17, 19, 40, 46, 62, 91, 93, 99, 112, 114]
def mt230 : MT := (⟨"WordFolder$Reader", "readNumber", "(LWordFolder$Octets;II)Z"⟩, prog_8_method_4_code, 7, some FieldType.boolean, 6, false)
def b230 : List (List Ai) := [[(37, 1, 0, 0), (37, 0, 0, 0), (6, 6, 2, 27), (31, 220, 2, 44), (31, 233, 1, 58), (3, 4, 0, 0), (2, 2, 0, 0), (0, 4, 0, 0), (19, 0, 0, 0), (2, 3, 0, 0), (17, 0, 0, 0), (3, 5, 0, 0), (2, 4, 0, 0), (1, 1, 0, 0), (52, 3, 1, 0)], [(2, 5, 0, 0), (60, 3, 2, 0)], [(2, 5, 0, 0), (37, 0, 0, 0), (7, 6, 4, 20), (16, 0, 0, 0), (54, 4, 3, 0)], [(0, 0, 0, 0), (65, 0, 0, 0)], [(37, 0, 0, 0), (7, 6, 4, 20), (2, 5, 0, 0), (37, 0, 0, 0), (6, 6, 2, 27), (12, 0, 0, 0), (37, 0, 0, 0), (27, 0, 0, 0), (6, 6, 2, 27), (0, 1, 0, 0), (17, 0, 0, 0), (8, 6, 2, 27), (2, 4, 0, 0), (59, 6, 5, 0)], [(1, 1, 0, 0), (51, 7, 0, 0)], [(37, 1, 0, 0), (37, 0, 0, 0), (6, 6, 2, 27), (31, 220, 2, 44), (31, 233, 1, 58), (50, 7, 0, 0)], [(3, 6, 0, 0), (2, 6, 0, 0), (1, 1, 0, 0), (52, 9, 8, 0)], [(37, 0, 0, 0), (27, 0, 0, 0), (6, 6, 2, 27), (0, 1, 0, 0), (17, 0, 0, 0), (8, 6, 2, 27), (50, 9, 0, 0)], [(37, 0, 0, 0), (7, 6, 1, 14), (2, 2, 0, 0), (2, 3, 0, 0), (2, 6, 0, 0), (1, 1, 0, 0), (53, 11, 10, 0)], [(2, 4, 0, 0), (51, 12, 0, 0)], [(0, 10, 0, 0), (2, 4, 0, 0), (19, 0, 0, 0), (2, 6, 0, 0), (17, 0, 0, 0), (50, 12, 0, 0)], [(30, 190, 4, 61), (0, 1, 0, 0), (65, 0, 0, 0)]]
def p230 : List Nat := [0, 26, 31, 41, 43, 69, 73, 84, 92, 102, 114, 119, 127]
def mt231 : MT := (⟨"WordFolder$Reader", "lostDigit", "(I)I"⟩, prog_8_method_5_code, 5, some FieldType.int, 6, false)
def b231 : List (List Ai) := [[(0, 0, 0, 0), (3, 2, 0, 0), (50, 1, 0, 0)], [(2, 2, 0, 0), (37, 0, 0, 0), (7, 6, 1, 14), (6, 2, 2, 53), (55, 10, 2, 0)], [(2, 2, 0, 0), (0, 40, 0, 0), (55, 10, 3, 0)], [(0, 0, 0, 0), (3, 3, 0, 0), (50, 4, 0, 0)], [(2, 3, 0, 0), (2, 1, 0, 0), (55, 9, 5, 0)], [(2, 3, 0, 0), (0, 4, 0, 0), (55, 9, 6, 0)], [(2, 2, 0, 0), (0, 4, 0, 0), (19, 0, 0, 0), (2, 3, 0, 0), (17, 0, 0, 0), (3, 4, 0, 0), (37, 0, 0, 0), (7, 6, 1, 14), (7, 2, 2, 65), (2, 4, 0, 0), (10, 0, 0, 0), (37, 0, 0, 0), (7, 6, 1, 14), (6, 2, 2, 53), (54, 8, 7, 0)], [(37, 0, 0, 0), (7, 6, 4, 20), (2, 4, 0, 0), (10, 0, 0, 0), (64, 0, 0, 0)], [(4, 3, 1, 0), (51, 4, 0, 0)], [(4, 2, 1, 0), (51, 1, 0, 0)], [(1, 1, 0, 0), (64, 0, 0, 0)]]
def p231 : List Nat := [0, 2, 13, 19, 21, 26, 31, 58, 66, 72, 78]
def mt232 : MT := (⟨"WordFolder$Reader", "markOf", "(I)I"⟩, prog_8_method_6_code, 1, some FieldType.int, 6, true)
def b232 : List (List Ai) := [[(2, 0, 0, 0), (68, 4, 0, 0), (43, 2, 0, 0), (45, 3, 0, 0), (63, 1, 0, 0)], [(0, 0, 0, 0), (64, 0, 0, 0)], [(0, 1, 0, 0), (64, 0, 0, 0)], [(0, 2, 0, 0), (64, 0, 0, 0)], [(1, 1, 0, 0), (64, 0, 0, 0)]]
def p232 : List Nat := [0, 36, 38, 40, 42]
def mt233 : MT := (⟨"WordFolder$Reader", "digitOf", "(I)I"⟩, prog_8_method_7_code, 1, some FieldType.int, 6, true)
def b233 : List (List Ai) := [[(2, 0, 0, 0), (0, 48, 0, 0), (54, 3, 1, 0)], [(2, 0, 0, 0), (0, 57, 0, 0), (56, 3, 2, 0)], [(2, 0, 0, 0), (0, 48, 0, 0), (18, 0, 0, 0), (51, 4, 0, 0)], [(1, 1, 0, 0), (50, 4, 0, 0)], [(64, 0, 0, 0)]]
def p233 : List Nat := [0, 6, 12, 19, 20]
def mt234 : MT := (⟨"WordFolder$Sample", "clear", "()V"⟩, prog_9_method_2_code, 1, none, 7, false)
def b234 : List (List Ai) := [[(37, 0, 0, 0), (0, 0, 0, 0), (8, 7, 2, 19), (67, 0, 0, 0)]]
def p234 : List Nat := [0]
def mt235 : MT := (⟨"WordFolder$Sample", "has", "(I)Z"⟩, prog_9_method_3_code, 2, some FieldType.boolean, 7, false)
def b235 : List (List Ai) := [[(2, 1, 0, 0), (60, 4, 1, 0)], [(2, 1, 0, 0), (37, 0, 0, 0), (6, 7, 2, 19), (55, 4, 2, 0)], [(2, 1, 0, 0), (0, 40, 0, 0), (55, 4, 3, 0)], [(0, 1, 0, 0), (51, 5, 0, 0)], [(0, 0, 0, 0), (50, 5, 0, 0)], [(65, 0, 0, 0)]]
def p235 : List Nat := [0, 4, 12, 18, 22, 23]
def mt236 : MT := (⟨"WordFolder$Sample", "codeOf", "(I)I"⟩, prog_9_method_4_code, 2, some FieldType.int, 7, false)
def b236 : List (List Ai) := [[(37, 0, 0, 0), (2, 1, 0, 0), (31, 235, 2, 23), (58, 2, 1, 0)], [(37, 0, 0, 0), (7, 7, 1, 9), (2, 1, 0, 0), (10, 0, 0, 0), (51, 3, 0, 0)], [(1, 1, 0, 0), (50, 3, 0, 0)], [(64, 0, 0, 0)]]
def p236 : List Nat := [0, 8, 17, 18]
def mt237 : MT := (⟨"WordFolder$Sample", "isIn", "(I)Z"⟩, prog_9_method_5_code, 2, some FieldType.boolean, 7, false)
def b237 : List (List Ai) := [[(37, 0, 0, 0), (2, 1, 0, 0), (31, 235, 2, 23), (58, 3, 1, 0)], [(37, 0, 0, 0), (7, 7, 2, 15), (2, 1, 0, 0), (15, 0, 0, 0), (58, 3, 2, 0)], [(0, 1, 0, 0), (51, 4, 0, 0)], [(0, 0, 0, 0), (50, 4, 0, 0)], [(65, 0, 0, 0)]]
def p237 : List Nat := [0, 8, 17, 21, 22]
def mt238 : MT := (⟨"WordFolder$Sample", "countIn", "()I"⟩, prog_9_method_6_code, 3, some FieldType.int, 7, false)
def b238 : List (List Ai) := [[(0, 0, 0, 0), (3, 1, 0, 0), (0, 0, 0, 0), (3, 2, 0, 0), (50, 1, 0, 0)], [(2, 2, 0, 0), (37, 0, 0, 0), (6, 7, 2, 19), (55, 5, 2, 0)], [(37, 0, 0, 0), (2, 2, 0, 0), (31, 237, 2, 27), (58, 4, 3, 0)], [(4, 1, 1, 0), (50, 4, 0, 0)], [(4, 2, 1, 0), (51, 1, 0, 0)], [(2, 1, 0, 0), (64, 0, 0, 0)]]
def p238 : List Nat := [0, 4, 12, 20, 23, 29]
def mt239 : MT := (⟨"WordFolder$Sample", "placeOf", "(I)I"⟩, prog_9_method_7_code, 3, some FieldType.int, 7, false)
def b239 : List (List Ai) := [[(0, 0, 0, 0), (3, 2, 0, 0), (50, 1, 0, 0)], [(2, 2, 0, 0), (37, 0, 0, 0), (6, 7, 2, 19), (55, 5, 2, 0)], [(2, 2, 0, 0), (0, 40, 0, 0), (55, 5, 3, 0)], [(37, 0, 0, 0), (7, 7, 1, 9), (2, 2, 0, 0), (10, 0, 0, 0), (2, 1, 0, 0), (55, 5, 4, 0)], [(4, 2, 1, 0), (51, 1, 0, 0)], [(2, 2, 0, 0), (64, 0, 0, 0)]]
def p239 : List Nat := [0, 2, 10, 16, 26, 32]
def mt240 : MT := (⟨"WordFolder$Sample", "holds", "(I)Z"⟩, prog_9_method_8_code, 2, some FieldType.boolean, 7, false)
def b240 : List (List Ai) := [[(37, 0, 0, 0), (37, 0, 0, 0), (2, 1, 0, 0), (31, 239, 2, 30), (31, 236, 2, 34), (2, 1, 0, 0), (53, 2, 1, 0)], [(0, 1, 0, 0), (51, 3, 0, 0)], [(0, 0, 0, 0), (50, 3, 0, 0)], [(65, 0, 0, 0)]]
def p240 : List Nat := [0, 13, 17, 18]
def mt241 : MT := (⟨"WordFolder$Sample", "insert", "(IIZ)V"⟩, prog_9_method_9_code, 5, none, 7, false)
def b241 : List (List Ai) := [[(37, 0, 0, 0), (6, 7, 2, 19), (0, 40, 0, 0), (55, 3, 1, 0)], [(2, 1, 0, 0), (60, 3, 2, 0)], [(2, 1, 0, 0), (37, 0, 0, 0), (6, 7, 2, 19), (57, 4, 3, 0)], [(67, 0, 0, 0)], [(37, 0, 0, 0), (6, 7, 2, 19), (3, 4, 0, 0), (50, 5, 0, 0)], [(2, 4, 0, 0), (2, 1, 0, 0), (57, 7, 6, 0)], [(37, 0, 0, 0), (7, 7, 1, 9), (2, 4, 0, 0), (37, 0, 0, 0), (7, 7, 1, 9), (2, 4, 0, 0), (0, 1, 0, 0), (18, 0, 0, 0), (10, 0, 0, 0), (12, 0, 0, 0), (37, 0, 0, 0), (7, 7, 2, 15), (2, 4, 0, 0), (37, 0, 0, 0), (7, 7, 2, 15), (2, 4, 0, 0), (0, 1, 0, 0), (18, 0, 0, 0), (15, 0, 0, 0), (14, 0, 0, 0), (5, 4, 1, 0), (51, 5, 0, 0)], [(37, 0, 0, 0), (7, 7, 1, 9), (2, 1, 0, 0), (2, 2, 0, 0), (12, 0, 0, 0), (37, 0, 0, 0), (7, 7, 2, 15), (2, 1, 0, 0), (2, 3, 0, 0), (14, 0, 0, 0), (37, 0, 0, 0), (27, 0, 0, 0), (6, 7, 2, 19), (0, 1, 0, 0), (17, 0, 0, 0), (8, 7, 2, 19), (67, 0, 0, 0)]]
def p241 : List Nat := [0, 9, 13, 21, 22, 28, 34, 72]
def mt242 : MT := (⟨"WordFolder$Sample", "remove", "(I)V"⟩, prog_9_method_10_code, 3, none, 7, false)
def b242 : List (List Ai) := [[(37, 0, 0, 0), (2, 1, 0, 0), (31, 235, 2, 23), (59, 2, 1, 0)], [(67, 0, 0, 0)], [(37, 0, 0, 0), (27, 0, 0, 0), (6, 7, 2, 19), (0, 1, 0, 0), (18, 0, 0, 0), (8, 7, 2, 19), (2, 1, 0, 0), (3, 2, 0, 0), (50, 3, 0, 0)], [(2, 2, 0, 0), (37, 0, 0, 0), (6, 7, 2, 19), (55, 5, 4, 0)], [(37, 0, 0, 0), (7, 7, 1, 9), (2, 2, 0, 0), (37, 0, 0, 0), (7, 7, 1, 9), (2, 2, 0, 0), (0, 1, 0, 0), (17, 0, 0, 0), (10, 0, 0, 0), (12, 0, 0, 0), (37, 0, 0, 0), (7, 7, 2, 15), (2, 2, 0, 0), (37, 0, 0, 0), (7, 7, 2, 15), (2, 2, 0, 0), (0, 1, 0, 0), (17, 0, 0, 0), (15, 0, 0, 0), (14, 0, 0, 0), (4, 2, 1, 0), (51, 3, 0, 0)], [(67, 0, 0, 0)]]
def p242 : List Nat := [0, 8, 9, 21, 29, 63]
def mt243 : MT := (⟨"WordFolder$Search", "find", "(LWordFolder$Tree;)I"⟩, prog_10_method_2_code, 4, some FieldType.int, 8, false)
def b243 : List (List Ai) := [[(37, 0, 0, 0), (0, 0, 0, 0), (8, 8, 9, 37), (0, 1, 0, 0), (3, 2, 0, 0), (50, 1, 0, 0)], [(2, 2, 0, 0), (0, 8, 0, 0), (56, 5, 2, 0)], [(37, 0, 0, 0), (37, 1, 0, 0), (2, 2, 0, 0), (31, 244, 3, 41), (3, 3, 0, 0), (2, 3, 0, 0), (1, 2, 0, 0), (52, 4, 3, 0)], [(2, 3, 0, 0), (64, 0, 0, 0)], [(4, 2, 1, 0), (51, 1, 0, 0)], [(1, 2, 0, 0), (64, 0, 0, 0)]]
def p243 : List Nat := [0, 7, 13, 26, 28, 34]
def mt244 : MT := (⟨"WordFolder$Search", "findWith", "(LWordFolder$Tree;I)I"⟩, prog_10_method_3_code, 6, some FieldType.int, 8, false)
def b244 : List (List Ai) := [[(37, 1, 0, 0), (6, 9, 4, 45), (0, 120, 0, 0), (32, 0, 0, 50), (3, 3, 0, 0), (37, 0, 0, 0), (30, 245, 1, 56), (37, 0, 0, 0), (37, 1, 0, 0), (0, 0, 0, 0), (2, 2, 0, 0), (30, 246, 4, 59), (0, 0, 0, 0), (3, 4, 0, 0), (0, 0, 0, 0), (3, 5, 0, 0), (50, 1, 0, 0)], [(2, 5, 0, 0), (0, 100002, 0, 63), (55, 12, 2, 0)], [(2, 4, 0, 0), (2, 3, 0, 0), (55, 12, 3, 0)], [(37, 0, 0, 0), (7, 8, 2, 15), (2, 4, 0, 0), (10, 0, 0, 0), (37, 0, 0, 0), (7, 8, 3, 18), (2, 4, 0, 0), (10, 0, 0, 0), (57, 7, 4, 0)], [(5, 4, 1, 0), (2, 4, 0, 0), (61, 6, 5, 0)], [(1, 2, 0, 0), (64, 0, 0, 0)], [(37, 0, 0, 0), (37, 1, 0, 0), (2, 4, 0, 0), (30, 249, 3, 64), (51, 11, 0, 0)], [(37, 0, 0, 0), (6, 8, 9, 37), (0, 50000, 0, 68), (54, 9, 8, 0)], [(1, 3, 0, 0), (64, 0, 0, 0)], [(37, 0, 0, 0), (37, 1, 0, 0), (2, 4, 0, 0), (31, 248, 3, 69), (58, 11, 10, 0)], [(4, 4, 1, 0), (37, 0, 0, 0), (37, 1, 0, 0), (2, 4, 0, 0), (2, 2, 0, 0), (30, 246, 4, 59), (50, 11, 0, 0)], [(4, 5, 1, 0), (51, 1, 0, 0)], [(2, 4, 0, 0), (2, 3, 0, 0), (54, 14, 13, 0)], [(37, 0, 0, 0), (6, 8, 8, 73), (51, 15, 0, 0)], [(1, 3, 0, 0), (50, 15, 0, 0)], [(64, 0, 0, 0)]]
def p244 : List Nat := [0, 27, 34, 40, 57, 65, 68, 78, 87, 90, 100, 111, 117, 123, 130, 132]
def mt245 : MT := (⟨"WordFolder$Search", "forget", "()V"⟩, prog_10_method_4_code, 2, none, 8, false)
def b245 : List (List Ai) := [[(37, 0, 0, 0), (0, 0, 0, 0), (8, 8, 8, 73), (0, 0, 0, 0), (3, 1, 0, 0), (50, 1, 0, 0)], [(2, 1, 0, 0), (0, 8, 0, 0), (55, 3, 2, 0)], [(37, 0, 0, 0), (7, 8, 7, 31), (2, 1, 0, 0), (0, 0, 0, 0), (12, 0, 0, 0), (4, 1, 1, 0), (51, 1, 0, 0)], [(0, 0, 0, 0), (3, 1, 0, 0), (50, 4, 0, 0)], [(2, 1, 0, 0), (0, 32, 0, 0), (55, 6, 5, 0)], [(37, 0, 0, 0), (7, 8, 8, 34), (2, 1, 0, 0), (1, 1, 0, 0), (12, 0, 0, 0), (4, 1, 1, 0), (51, 4, 0, 0)], [(67, 0, 0, 0)]]
def p245 : List Nat := [0, 7, 13, 26, 28, 34, 47]
def mt246 : MT := (⟨"WordFolder$Search", "enter", "(LWordFolder$Tree;II)V"⟩, prog_10_method_5_code, 6, none, 8, false)
def b246 : List (List Ai) := [[(37, 1, 0, 0), (2, 2, 0, 0), (31, 251, 2, 76), (59, 2, 1, 0)], [(67, 0, 0, 0)], [(37, 0, 0, 0), (37, 1, 0, 0), (2, 2, 0, 0), (31, 247, 3, 80), (3, 4, 0, 0), (2, 4, 0, 0), (1, 1, 0, 0), (53, 4, 3, 0)], [(1, 1, 0, 0), (51, 5, 0, 0)], [(37, 0, 0, 0), (7, 8, 8, 34), (2, 4, 0, 0), (10, 0, 0, 0), (50, 5, 0, 0)], [(3, 5, 0, 0), (37, 0, 0, 0), (7, 8, 2, 15), (2, 2, 0, 0), (2, 5, 0, 0), (1, 1, 0, 0), (53, 7, 6, 0)], [(0, 0, 0, 0), (51, 8, 0, 0)], [(2, 5, 0, 0), (50, 8, 0, 0)], [(12, 0, 0, 0), (37, 0, 0, 0), (7, 8, 3, 18), (2, 2, 0, 0), (2, 5, 0, 0), (1, 1, 0, 0), (53, 10, 9, 0)], [(37, 0, 0, 0), (6, 8, 8, 73), (2, 3, 0, 0), (0, 1, 0, 0), (18, 0, 0, 0), (32, 0, 0, 50), (51, 11, 0, 0)], [(2, 5, 0, 0), (50, 11, 0, 0)], [(12, 0, 0, 0), (67, 0, 0, 0)]]
def p246 : List Nat := [0, 8, 9, 23, 27, 34, 47, 51, 53, 65, 78, 80]
def mt247 : MT := (⟨"WordFolder$Search", "arrowTo", "(LWordFolder$Tree;I)I"⟩, prog_10_method_6_code, 4, some FieldType.int, 8, false)
def b247 : List (List Ai) := [[(37, 1, 0, 0), (7, 9, 3, 83), (2, 2, 0, 0), (10, 0, 0, 0), (3, 3, 0, 0), (2, 3, 0, 0), (1, 1, 0, 0), (53, 2, 1, 0)], [(1, 1, 0, 0), (51, 3, 0, 0)], [(37, 0, 0, 0), (7, 8, 1, 9), (2, 3, 0, 0), (10, 0, 0, 0), (0, 4, 0, 0), (19, 0, 0, 0), (37, 1, 0, 0), (7, 9, 1, 86), (2, 2, 0, 0), (10, 0, 0, 0), (31, 261, 1, 89), (17, 0, 0, 0), (50, 3, 0, 0)], [(64, 0, 0, 0)]]
def p247 : List Nat := [0, 12, 16, 34]
def mt248 : MT := (⟨"WordFolder$Search", "tryNext", "(LWordFolder$Tree;I)Z"⟩, prog_10_method_7_code, 5, some FieldType.boolean, 8, false)
def b248 : List (List Ai) := [[(37, 0, 0, 0), (27, 0, 0, 0), (6, 8, 9, 37), (0, 1, 0, 0), (17, 0, 0, 0), (8, 8, 9, 37), (37, 0, 0, 0), (7, 8, 2, 15), (2, 2, 0, 0), (10, 0, 0, 0), (3, 3, 0, 0), (37, 0, 0, 0), (7, 8, 2, 15), (2, 2, 0, 0), (29, 0, 0, 0), (10, 0, 0, 0), (0, 1, 0, 0), (17, 0, 0, 0), (12, 0, 0, 0), (2, 3, 0, 0), (60, 3, 1, 0)], [(2, 3, 0, 0), (0, 8, 0, 0), (55, 3, 2, 0)], [(37, 0, 0, 0), (7, 8, 7, 31), (2, 3, 0, 0), (10, 0, 0, 0), (37, 1, 0, 0), (7, 9, 2, 95), (2, 2, 0, 0), (10, 0, 0, 0), (23, 0, 0, 0), (0, 3, 0, 0), (53, 4, 3, 0)], [(0, 0, 0, 0), (65, 0, 0, 0)], [(37, 0, 0, 0), (7, 8, 1, 9), (2, 2, 0, 0), (2, 3, 0, 0), (12, 0, 0, 0), (37, 0, 0, 0), (7, 8, 6, 28), (2, 2, 0, 0), (2, 3, 0, 0), (37, 0, 0, 0), (6, 8, 8, 73), (53, 6, 5, 0)], [(0, 1, 0, 0), (51, 7, 0, 0)], [(0, 0, 0, 0), (50, 7, 0, 0)], [(14, 0, 0, 0), (37, 0, 0, 0), (7, 8, 6, 28), (2, 2, 0, 0), (15, 0, 0, 0), (58, 9, 8, 0)], [(37, 0, 0, 0), (27, 0, 0, 0), (6, 8, 8, 73), (0, 1, 0, 0), (17, 0, 0, 0), (8, 8, 8, 73), (50, 9, 0, 0)], [(37, 0, 0, 0), (7, 8, 4, 21), (2, 2, 0, 0), (37, 0, 0, 0), (7, 8, 7, 31), (2, 3, 0, 0), (10, 0, 0, 0), (59, 12, 10, 0)], [(37, 1, 0, 0), (7, 9, 2, 95), (2, 2, 0, 0), (10, 0, 0, 0), (58, 12, 11, 0)], [(0, 1, 0, 0), (51, 13, 0, 0)], [(0, 0, 0, 0), (50, 13, 0, 0)], [(14, 0, 0, 0), (37, 0, 0, 0), (7, 8, 4, 21), (2, 2, 0, 0), (15, 0, 0, 0), (58, 15, 14, 0)], [(37, 0, 0, 0), (7, 8, 7, 31), (2, 3, 0, 0), (37, 1, 0, 0), (7, 9, 2, 95), (2, 2, 0, 0), (10, 0, 0, 0), (12, 0, 0, 0), (50, 15, 0, 0)], [(37, 0, 0, 0), (37, 1, 0, 0), (2, 2, 0, 0), (31, 247, 3, 80), (3, 4, 0, 0), (37, 0, 0, 0), (7, 8, 5, 25), (2, 2, 0, 0), (2, 4, 0, 0), (1, 1, 0, 0), (52, 18, 16, 0)], [(37, 0, 0, 0), (7, 8, 8, 34), (2, 4, 0, 0), (10, 0, 0, 0), (1, 1, 0, 0), (53, 18, 17, 0)], [(0, 1, 0, 0), (51, 19, 0, 0)], [(0, 0, 0, 0), (50, 19, 0, 0)], [(14, 0, 0, 0), (37, 0, 0, 0), (7, 8, 5, 25), (2, 2, 0, 0), (15, 0, 0, 0), (58, 21, 20, 0)], [(37, 0, 0, 0), (7, 8, 8, 34), (2, 4, 0, 0), (2, 3, 0, 0), (12, 0, 0, 0), (50, 21, 0, 0)], [(0, 1, 0, 0), (65, 0, 0, 0)]]
def p248 : List Nat := [0, 31, 37, 54, 56, 76, 80, 81, 91, 101, 115, 124, 128, 129, 139, 151, 170, 181, 185, 186, 196, 204]
def mt249 : MT := (⟨"WordFolder$Search", "takeAway", "(LWordFolder$Tree;I)V"⟩, prog_10_method_8_code, 3, none, 8, false)
def b249 : List (List Ai) := [[(37, 0, 0, 0), (7, 8, 5, 25), (2, 2, 0, 0), (15, 0, 0, 0), (58, 2, 1, 0)], [(37, 0, 0, 0), (7, 8, 8, 34), (37, 0, 0, 0), (37, 1, 0, 0), (2, 2, 0, 0), (31, 247, 3, 80), (1, 1, 0, 0), (12, 0, 0, 0), (50, 2, 0, 0)], [(37, 0, 0, 0), (7, 8, 4, 21), (2, 2, 0, 0), (15, 0, 0, 0), (58, 4, 3, 0)], [(37, 0, 0, 0), (7, 8, 7, 31), (37, 0, 0, 0), (7, 8, 1, 9), (2, 2, 0, 0), (10, 0, 0, 0), (0, 0, 0, 0), (12, 0, 0, 0), (50, 4, 0, 0)], [(37, 0, 0, 0), (7, 8, 6, 28), (2, 2, 0, 0), (15, 0, 0, 0), (58, 6, 5, 0)], [(37, 0, 0, 0), (27, 0, 0, 0), (6, 8, 8, 73), (0, 1, 0, 0), (18, 0, 0, 0), (8, 8, 8, 73), (50, 6, 0, 0)], [(67, 0, 0, 0)]]
def p249 : List Nat := [0, 9, 21, 30, 42, 51, 61]
def mt250 : MT := (⟨"WordFolder$Search", "tell", "(LWordFolder$Machine;)V"⟩, prog_10_method_9_code, 4, none, 8, false)
def b250 : List (List Ai) := [[(37, 1, 0, 0), (30, 186, 1, 96), (0, 0, 0, 0), (3, 2, 0, 0), (50, 1, 0, 0)], [(2, 2, 0, 0), (37, 0, 0, 0), (6, 8, 8, 73), (55, 7, 2, 0)], [(2, 2, 0, 0), (0, 8, 0, 0), (55, 7, 3, 0)], [(37, 1, 0, 0), (37, 0, 0, 0), (7, 8, 7, 31), (2, 2, 0, 0), (10, 0, 0, 0), (30, 189, 2, 101), (0, 0, 0, 0), (3, 3, 0, 0), (50, 4, 0, 0)], [(2, 3, 0, 0), (0, 4, 0, 0), (55, 6, 5, 0)], [(37, 1, 0, 0), (2, 2, 0, 0), (2, 3, 0, 0), (37, 0, 0, 0), (7, 8, 8, 34), (2, 2, 0, 0), (0, 4, 0, 0), (19, 0, 0, 0), (2, 3, 0, 0), (17, 0, 0, 0), (10, 0, 0, 0), (30, 190, 4, 105), (4, 3, 1, 0), (51, 4, 0, 0)], [(4, 2, 1, 0), (51, 1, 0, 0)], [(67, 0, 0, 0)]]
def p250 : List Nat := [0, 6, 14, 20, 32, 37, 59, 65]
def mt251 : MT := (⟨"WordFolder$Tree", "has", "(I)Z"⟩, prog_11_method_2_code, 2, some FieldType.boolean, 9, false)
def b251 : List (List Ai) := [[(2, 1, 0, 0), (60, 4, 1, 0)], [(2, 1, 0, 0), (37, 0, 0, 0), (6, 9, 4, 24), (55, 4, 2, 0)], [(2, 1, 0, 0), (0, 120, 0, 0), (55, 4, 3, 0)], [(0, 1, 0, 0), (51, 5, 0, 0)], [(0, 0, 0, 0), (50, 5, 0, 0)], [(65, 0, 0, 0)]]
def p251 : List Nat := [0, 4, 12, 18, 22, 23]
def mt252 : MT := (⟨"WordFolder$Tree", "build", "(LWordFolder$Sample;I)V"⟩, prog_11_method_3_code, 4, none, 9, false)
def b252 : List (List Ai) := [[(37, 0, 0, 0), (0, 1, 0, 0), (8, 9, 4, 24), (37, 0, 0, 0), (7, 9, 1, 9), (0, 0, 0, 0), (0, 0, 0, 0), (12, 0, 0, 0), (0, 0, 0, 0), (3, 3, 0, 0), (50, 1, 0, 0)], [(2, 3, 0, 0), (37, 1, 0, 0), (6, 7, 2, 28), (55, 5, 2, 0)], [(2, 3, 0, 0), (2, 2, 0, 0), (52, 4, 3, 0)], [(37, 0, 0, 0), (37, 1, 0, 0), (2, 3, 0, 0), (31, 236, 2, 31), (30, 253, 2, 35), (50, 4, 0, 0)], [(4, 3, 1, 0), (51, 1, 0, 0)], [(37, 0, 0, 0), (37, 1, 0, 0), (2, 2, 0, 0), (30, 258, 3, 39), (67, 0, 0, 0)]]
def p252 : List Nat := [0, 14, 22, 27, 36, 42]
def mt253 : MT := (⟨"WordFolder$Tree", "addWord", "(I)V"⟩, prog_11_method_4_code, 4, none, 9, false)
def b253 : List (List Ai) := [[(2, 1, 0, 0), (31, 259, 1, 43), (3, 2, 0, 0), (0, 1, 0, 0), (3, 3, 0, 0), (50, 1, 0, 0)], [(2, 3, 0, 0), (2, 2, 0, 0), (56, 3, 2, 0)], [(37, 0, 0, 0), (2, 1, 0, 0), (2, 3, 0, 0), (31, 263, 2, 48), (30, 254, 2, 52), (4, 3, 1, 0), (51, 1, 0, 0)], [(67, 0, 0, 0)]]
def p253 : List Nat := [0, 7, 12, 27]
def mt254 : MT := (⟨"WordFolder$Tree", "addNode", "(I)V"⟩, prog_11_method_5_code, 4, none, 9, false)
def b254 : List (List Ai) := [[(37, 0, 0, 0), (2, 1, 0, 0), (31, 255, 2, 55), (3, 2, 0, 0), (37, 0, 0, 0), (6, 9, 4, 24), (0, 120, 0, 0), (55, 3, 1, 0)], [(2, 2, 0, 0), (37, 0, 0, 0), (6, 9, 4, 24), (55, 4, 2, 0)], [(37, 0, 0, 0), (7, 9, 1, 9), (2, 2, 0, 0), (10, 0, 0, 0), (2, 1, 0, 0), (53, 4, 3, 0)], [(67, 0, 0, 0)], [(37, 0, 0, 0), (6, 9, 4, 24), (3, 3, 0, 0), (50, 5, 0, 0)], [(2, 3, 0, 0), (2, 2, 0, 0), (57, 7, 6, 0)], [(37, 0, 0, 0), (7, 9, 1, 9), (2, 3, 0, 0), (37, 0, 0, 0), (7, 9, 1, 9), (2, 3, 0, 0), (0, 1, 0, 0), (18, 0, 0, 0), (10, 0, 0, 0), (12, 0, 0, 0), (5, 3, 1, 0), (51, 5, 0, 0)], [(37, 0, 0, 0), (7, 9, 1, 9), (2, 2, 0, 0), (2, 1, 0, 0), (12, 0, 0, 0), (37, 0, 0, 0), (27, 0, 0, 0), (6, 9, 4, 24), (0, 1, 0, 0), (17, 0, 0, 0), (8, 9, 4, 24), (67, 0, 0, 0)]]
def p254 : List Nat := [0, 15, 23, 33, 34, 39, 44, 64]
def mt255 : MT := (⟨"WordFolder$Tree", "placeOf", "(I)I"⟩, prog_11_method_6_code, 5, some FieldType.int, 9, false)
def b255 : List (List Ai) := [[(0, 0, 0, 0), (3, 2, 0, 0), (37, 0, 0, 0), (6, 9, 4, 24), (0, 120, 0, 0), (32, 0, 0, 58), (3, 3, 0, 0), (50, 1, 0, 0)], [(2, 2, 0, 0), (2, 3, 0, 0), (55, 6, 2, 0)], [(2, 2, 0, 0), (2, 3, 0, 0), (17, 0, 0, 0), (0, 1, 0, 0), (25, 0, 0, 0), (3, 4, 0, 0), (37, 0, 0, 0), (7, 9, 1, 9), (2, 4, 0, 0), (10, 0, 0, 0), (2, 1, 0, 0), (55, 4, 3, 0)], [(2, 4, 0, 0), (0, 1, 0, 0), (17, 0, 0, 0), (3, 2, 0, 0), (51, 5, 0, 0)], [(2, 4, 0, 0), (3, 3, 0, 0), (50, 5, 0, 0)], [(51, 1, 0, 0)], [(2, 2, 0, 0), (64, 0, 0, 0)]]
def p255 : List Nat := [0, 12, 17, 35, 43, 46, 49]
def mt256 : MT := (⟨"WordFolder$Tree", "nodeOf", "(I)I"⟩, prog_11_method_7_code, 3, some FieldType.int, 9, false)
def b256 : List (List Ai) := [[(37, 0, 0, 0), (2, 1, 0, 0), (31, 255, 2, 55), (3, 2, 0, 0), (37, 0, 0, 0), (2, 2, 0, 0), (31, 251, 2, 63), (58, 3, 1, 0)], [(37, 0, 0, 0), (7, 9, 1, 9), (2, 2, 0, 0), (10, 0, 0, 0), (2, 1, 0, 0), (53, 3, 2, 0)], [(2, 2, 0, 0), (51, 4, 0, 0)], [(1, 1, 0, 0), (50, 4, 0, 0)], [(64, 0, 0, 0)]]
def p256 : List Nat := [0, 14, 24, 28, 29]
def mt257 : MT := (⟨"WordFolder$Tree", "lacking", "(I)I"⟩, prog_11_method_8_code, 5, some FieldType.int, 9, false)
def b257 : List (List Ai) := [[(2, 1, 0, 0), (31, 259, 1, 43), (3, 2, 0, 0), (0, 0, 0, 0), (3, 3, 0, 0), (0, 1, 0, 0), (3, 4, 0, 0), (50, 1, 0, 0)], [(2, 4, 0, 0), (2, 2, 0, 0), (56, 5, 2, 0)], [(37, 0, 0, 0), (2, 1, 0, 0), (2, 4, 0, 0), (31, 263, 2, 48), (31, 256, 2, 67), (1, 1, 0, 0), (53, 4, 3, 0)], [(4, 3, 1, 0), (50, 4, 0, 0)], [(4, 4, 1, 0), (51, 1, 0, 0)], [(2, 3, 0, 0), (64, 0, 0, 0)]]
def p257 : List Nat := [0, 10, 16, 30, 33, 39]
def mt258 : MT := (⟨"WordFolder$Tree", "link", "(LWordFolder$Sample;I)V"⟩, prog_11_method_9_code, 5, none, 9, false)
def b258 : List (List Ai) := [[(0, 0, 0, 0), (3, 3, 0, 0), (50, 1, 0, 0)], [(2, 3, 0, 0), (37, 0, 0, 0), (6, 9, 4, 24), (55, 7, 2, 0)], [(2, 3, 0, 0), (0, 120, 0, 0), (55, 7, 3, 0)], [(37, 0, 0, 0), (7, 9, 2, 15), (2, 3, 0, 0), (0, 0, 0, 0), (12, 0, 0, 0), (37, 0, 0, 0), (7, 9, 3, 18), (2, 3, 0, 0), (1, 1, 0, 0), (12, 0, 0, 0), (0, 0, 0, 0), (3, 4, 0, 0), (50, 4, 0, 0)], [(2, 4, 0, 0), (0, 4, 0, 0), (55, 6, 5, 0)], [(37, 0, 0, 0), (7, 9, 4, 21), (2, 3, 0, 0), (0, 4, 0, 0), (19, 0, 0, 0), (2, 4, 0, 0), (17, 0, 0, 0), (1, 1, 0, 0), (12, 0, 0, 0), (4, 4, 1, 0), (51, 4, 0, 0)], [(4, 3, 1, 0), (51, 1, 0, 0)], [(0, 1, 0, 0), (3, 3, 0, 0), (50, 8, 0, 0)], [(2, 3, 0, 0), (37, 0, 0, 0), (6, 9, 4, 24), (55, 13, 9, 0)], [(2, 3, 0, 0), (0, 120, 0, 0), (55, 13, 10, 0)], [(37, 0, 0, 0), (37, 0, 0, 0), (7, 9, 1, 9), (2, 3, 0, 0), (10, 0, 0, 0), (37, 0, 0, 0), (7, 9, 1, 9), (2, 3, 0, 0), (10, 0, 0, 0), (31, 259, 1, 43), (0, 1, 0, 0), (18, 0, 0, 0), (31, 263, 2, 48), (31, 256, 2, 67), (3, 4, 0, 0), (2, 4, 0, 0), (1, 1, 0, 0), (52, 12, 11, 0)], [(37, 0, 0, 0), (7, 9, 3, 18), (2, 3, 0, 0), (2, 4, 0, 0), (12, 0, 0, 0), (37, 0, 0, 0), (7, 9, 4, 21), (2, 4, 0, 0), (0, 4, 0, 0), (19, 0, 0, 0), (37, 0, 0, 0), (7, 9, 1, 9), (2, 3, 0, 0), (10, 0, 0, 0), (31, 261, 1, 70), (17, 0, 0, 0), (2, 3, 0, 0), (12, 0, 0, 0), (50, 12, 0, 0)], [(4, 3, 1, 0), (51, 8, 0, 0)], [(0, 0, 0, 0), (3, 3, 0, 0), (50, 14, 0, 0)], [(2, 3, 0, 0), (37, 1, 0, 0), (6, 7, 2, 28), (55, 24, 15, 0)], [(2, 3, 0, 0), (2, 2, 0, 0), (53, 17, 16, 0)], [(1, 1, 0, 0), (51, 18, 0, 0)], [(37, 0, 0, 0), (37, 1, 0, 0), (2, 3, 0, 0), (31, 236, 2, 31), (31, 256, 2, 67), (50, 18, 0, 0)], [(3, 4, 0, 0), (2, 4, 0, 0), (1, 1, 0, 0), (52, 23, 19, 0)], [(37, 0, 0, 0), (7, 9, 2, 15), (2, 4, 0, 0), (37, 1, 0, 0), (2, 3, 0, 0), (31, 237, 2, 73), (58, 21, 20, 0)], [(0, 1, 0, 0), (51, 22, 0, 0)], [(0, 2, 0, 0), (50, 22, 0, 0)], [(12, 0, 0, 0), (50, 23, 0, 0)], [(4, 3, 1, 0), (51, 14, 0, 0)], [(67, 0, 0, 0)]]
def p258 : List Nat := [0, 2, 10, 16, 33, 39, 57, 63, 65, 73, 79, 111, 139, 145, 147, 155, 160, 164, 173, 181, 195, 199, 200, 201, 207]
def mt259 : MT := (⟨"WordFolder$Word", "lengthOf", "(I)I"⟩, prog_12_method_2_code, 1, some FieldType.int, 10, true)
def b259 : List (List Ai) := [[(2, 0, 0, 0), (0, 20, 0, 0), (25, 0, 0, 0), (64, 0, 0, 0)]]
def p259 : List Nat := [0]
def mt260 : MT := (⟨"WordFolder$Word", "letterOf", "(II)I"⟩, prog_12_method_3_code, 2, some FieldType.int, 10, true)
def b260 : List (List Ai) := [[(2, 0, 0, 0), (0, 2, 0, 0), (2, 0, 0, 0), (31, 259, 1, 11), (0, 1, 0, 0), (18, 0, 0, 0), (2, 1, 0, 0), (18, 0, 0, 0), (19, 0, 0, 0), (25, 0, 0, 0), (0, 3, 0, 0), (22, 0, 0, 0), (64, 0, 0, 0)]]
def p260 : List Nat := [0]
def mt261 : MT := (⟨"WordFolder$Word", "lastOf", "(I)I"⟩, prog_12_method_4_code, 1, some FieldType.int, 10, true)
def b261 : List (List Ai) := [[(2, 0, 0, 0), (0, 3, 0, 0), (22, 0, 0, 0), (64, 0, 0, 0)]]
def p261 : List Nat := [0]
def mt262 : MT := (⟨"WordFolder$Word", "longer", "(II)I"⟩, prog_12_method_5_code, 2, some FieldType.int, 10, true)
def b262 : List (List Ai) := [[(2, 0, 0, 0), (31, 259, 1, 11), (0, 1, 0, 0), (17, 0, 0, 0), (0, 20, 0, 0), (24, 0, 0, 0), (2, 0, 0, 0), (0, 1048575, 0, 15), (22, 0, 0, 0), (0, 2, 0, 0), (24, 0, 0, 0), (0, 1048575, 0, 15), (22, 0, 0, 0), (23, 0, 0, 0), (2, 1, 0, 0), (0, 3, 0, 0), (22, 0, 0, 0), (23, 0, 0, 0), (64, 0, 0, 0)]]
def p262 : List Nat := [0]
def mt263 : MT := (⟨"WordFolder$Word", "beginning", "(II)I"⟩, prog_12_method_6_code, 2, some FieldType.int, 10, true)
def b263 : List (List Ai) := [[(2, 1, 0, 0), (0, 20, 0, 0), (24, 0, 0, 0), (2, 0, 0, 0), (0, 1048575, 0, 15), (22, 0, 0, 0), (0, 2, 0, 0), (2, 0, 0, 0), (31, 259, 1, 11), (2, 1, 0, 0), (18, 0, 0, 0), (19, 0, 0, 0), (25, 0, 0, 0), (23, 0, 0, 0), (64, 0, 0, 0)]]
def p263 : List Nat := [0]
def mt264 : MT := (⟨"WordFolder$Word", "numbered", "(III)I"⟩, prog_12_method_7_code, 6, some FieldType.int, 10, true)
def b264 : List (List Ai) := [[(0, 0, 0, 0), (3, 3, 0, 0), (2, 0, 0, 0), (3, 4, 0, 0), (0, 0, 0, 0), (3, 5, 0, 0), (50, 1, 0, 0)], [(2, 5, 0, 0), (2, 1, 0, 0), (55, 4, 2, 0)], [(2, 2, 0, 0), (63, 4, 3, 0)], [(2, 3, 0, 0), (2, 4, 0, 0), (2, 2, 0, 0), (21, 0, 0, 0), (0, 2, 0, 0), (2, 5, 0, 0), (19, 0, 0, 0), (24, 0, 0, 0), (23, 0, 0, 0), (3, 3, 0, 0), (2, 4, 0, 0), (2, 2, 0, 0), (20, 0, 0, 0), (3, 4, 0, 0), (4, 5, 1, 0), (51, 1, 0, 0)], [(2, 1, 0, 0), (0, 20, 0, 0), (24, 0, 0, 0), (2, 3, 0, 0), (23, 0, 0, 0), (64, 0, 0, 0)]]
def p264 : List Nat := [0, 8, 14, 18, 42]
def mtL : List MT := [mt0, mt1, mt2, mt3, mt4, mt5, mt6, mt7, mt8, mt9, mt10, mt11, mt12, mt13, mt14, mt15, mt16, mt17, mt18, mt19, mt20, mt21, mt22, mt23, mt24, mt25, mt26, mt27, mt28, mt29, mt30, mt31, mt32, mt33, mt34, mt35, mt36, mt37, mt38, mt39, mt40, mt41, mt42, mt43, mt44, mt45, mt46, mt47, mt48, mt49, mt50, mt51, mt52, mt53, mt54, mt55, mt56, mt57, mt58, mt59, mt60, mt61, mt62, mt63, mt64, mt65, mt66, mt67, mt68, mt69, mt70, mt71, mt72, mt73, mt74, mt75, mt76, mt77, mt78, mt79, mt80, mt81, mt82, mt83, mt84, mt85, mt86, mt87, mt88, mt89, mt90, mt91, mt92, mt93, mt94, mt95, mt96, mt97, mt98, mt99, mt100, mt101, mt102, mt103, mt104, mt105, mt106, mt107, mt108, mt109, mt110, mt111, mt112, mt113, mt114, mt115, mt116, mt117, mt118, mt119, mt120, mt121, mt122, mt123, mt124, mt125, mt126, mt127, mt128, mt129, mt130, mt131, mt132, mt133, mt134, mt135, mt136, mt137, mt138, mt139, mt140, mt141, mt142, mt143, mt144, mt145, mt146, mt147, mt148, mt149, mt150, mt151, mt152, mt153, mt154, mt155, mt156, mt157, mt158, mt159, mt160, mt161, mt162, mt163, mt164, mt165, mt166, mt167, mt168, mt169, mt170, mt171, mt172, mt173, mt174, mt175, mt176, mt177, mt178, mt179, mt180, mt181, mt182, mt183, mt184, mt185, mt186, mt187, mt188, mt189, mt190, mt191, mt192, mt193, mt194, mt195, mt196, mt197, mt198, mt199, mt200, mt201, mt202, mt203, mt204, mt205, mt206, mt207, mt208, mt209, mt210, mt211, mt212, mt213, mt214, mt215, mt216, mt217, mt218, mt219, mt220, mt221, mt222, mt223, mt224, mt225, mt226, mt227, mt228, mt229, mt230, mt231, mt232, mt233, mt234, mt235, mt236, mt237, mt238, mt239, mt240, mt241, mt242, mt243, mt244, mt245, mt246, mt247, mt248, mt249, mt250, mt251, mt252, mt253, mt254, mt255, mt256, mt257, mt258, mt259, mt260, mt261, mt262, mt263, mt264]
def bL : List (List (List Ai)) := [b0, b1, b2, b3, b4, b5, b6, b7, b8, b9, b10, b11, b12, b13, b14, b15, b16, b17, b18, b19, b20, b21, b22, b23, b24, b25, b26, b27, b28, b29, b30, b31, b32, b33, b34, b35, b36, b37, b38, b39, b40, b41, b42, b43, b44, b45, b46, b47, b48, b49, b50, b51, b52, b53, b54, b55, b56, b57, b58, b59, b60, b61, b62, b63, b64, b65, b66, b67, b68, b69, b70, b71, b72, b73, b74, b75, b76, b77, b78, b79, b80, b81, b82, b83, b84, b85, b86, b87, b88, b89, b90, b91, b92, b93, b94, b95, b96, b97, b98, b99, b100, b101, b102, b103, b104, b105, b106, b107, b108, b109, b110, b111, b112, b113, b114, b115, b116, b117, b118, b119, b120, b121, b122, b123, b124, b125, b126, b127, b128, b129, b130, b131, b132, b133, b134, b135, b136, b137, b138, b139, b140, b141, b142, b143, b144, b145, b146, b147, b148, b149, b150, b151, b152, b153, b154, b155, b156, b157, b158, b159, b160, b161, b162, b163, b164, b165, b166, b167, b168, b169, b170, b171, b172, b173, b174, b175, b176, b177, b178, b179, b180, b181, b182, b183, b184, b185, b186, b187, b188, b189, b190, b191, b192, b193, b194, b195, b196, b197, b198, b199, b200, b201, b202, b203, b204, b205, b206, b207, b208, b209, b210, b211, b212, b213, b214, b215, b216, b217, b218, b219, b220, b221, b222, b223, b224, b225, b226, b227, b228, b229, b230, b231, b232, b233, b234, b235, b236, b237, b238, b239, b240, b241, b242, b243, b244, b245, b246, b247, b248, b249, b250, b251, b252, b253, b254, b255, b256, b257, b258, b259, b260, b261, b262, b263, b264]
def pL : List (List Nat) := [p0, p1, p2, p3, p4, p5, p6, p7, p8, p9, p10, p11, p12, p13, p14, p15, p16, p17, p18, p19, p20, p21, p22, p23, p24, p25, p26, p27, p28, p29, p30, p31, p32, p33, p34, p35, p36, p37, p38, p39, p40, p41, p42, p43, p44, p45, p46, p47, p48, p49, p50, p51, p52, p53, p54, p55, p56, p57, p58, p59, p60, p61, p62, p63, p64, p65, p66, p67, p68, p69, p70, p71, p72, p73, p74, p75, p76, p77, p78, p79, p80, p81, p82, p83, p84, p85, p86, p87, p88, p89, p90, p91, p92, p93, p94, p95, p96, p97, p98, p99, p100, p101, p102, p103, p104, p105, p106, p107, p108, p109, p110, p111, p112, p113, p114, p115, p116, p117, p118, p119, p120, p121, p122, p123, p124, p125, p126, p127, p128, p129, p130, p131, p132, p133, p134, p135, p136, p137, p138, p139, p140, p141, p142, p143, p144, p145, p146, p147, p148, p149, p150, p151, p152, p153, p154, p155, p156, p157, p158, p159, p160, p161, p162, p163, p164, p165, p166, p167, p168, p169, p170, p171, p172, p173, p174, p175, p176, p177, p178, p179, p180, p181, p182, p183, p184, p185, p186, p187, p188, p189, p190, p191, p192, p193, p194, p195, p196, p197, p198, p199, p200, p201, p202, p203, p204, p205, p206, p207, p208, p209, p210, p211, p212, p213, p214, p215, p216, p217, p218, p219, p220, p221, p222, p223, p224, p225, p226, p227, p228, p229, p230, p231, p232, p233, p234, p235, p236, p237, p238, p239, p240, p241, p242, p243, p244, p245, p246, p247, p248, p249, p250, p251, p252, p253, p254, p255, p256, p257, p258, p259, p260, p261, p262, p263, p264]
def mt (k : Nat) : MT := mtL.getD k mt0
def yN (k : Nat) : MethodName := (mt k).1
def mC (k : Nat) : ByteArray := (mt k).2.1
def mL (k : Nat) : Nat := (mt k).2.2.1
def mR (k : Nat) : Option FieldType := (mt k).2.2.2.1
def mK (k : Nat) : Nat := (mt k).2.2.2.2.1
def mS (k : Nat) : Bool := (mt k).2.2.2.2.2
def NM : Nat := 265
def P (k b : Nat) : List Ai := (bL.getD k []).getD b []
def pcs (k b : Nat) : Nat := (pL.getD k []).getD b 0
def nblk (k : Nat) : Nat := (pL.getD k []).length
/-- field links: the class that links, the entry, the class and field, whether by the nest, the place of the word -/
def FL : List (Nat × Nat × Nat × Nat × Nat × Nat) := [(5, 15, 5, 0, 0, 1033), (5, 21, 5, 1, 0, 1034), (6, 31, 5, 1, 1, 1035), (11, 111, 5, 1, 1, 1036), (7, 9, 7, 0, 0, 1049), (7, 15, 7, 1, 0, 1050), (7, 19, 7, 2, 0, 1051), (9, 28, 7, 2, 1, 1052), (11, 135, 7, 2, 1, 1053), (9, 9, 9, 0, 0, 1068), (8, 86, 9, 0, 1, 1069), (11, 215, 9, 0, 1, 1070), (9, 15, 9, 1, 0, 1071), (0, 62, 9, 1, 1, 1072), (8, 95, 9, 1, 1, 1073), (11, 208, 9, 1, 1, 1074), (9, 18, 9, 2, 0, 1075), (8, 83, 9, 2, 1, 1076), (11, 212, 9, 2, 1, 1077), (9, 21, 9, 3, 0, 1078), (0, 63, 9, 3, 1, 1079), (0, 40, 9, 4, 1, 1080), (9, 24, 9, 4, 0, 1081), (8, 45, 9, 4, 1, 1082), (11, 159, 9, 4, 1, 1083), (0, 9, 0, 0, 0, 1107), (0, 15, 0, 1, 0, 1108), (0, 18, 0, 2, 0, 1109), (0, 22, 0, 3, 0, 1110), (0, 25, 0, 4, 0, 1111), (0, 28, 0, 5, 0, 1112), (0, 31, 0, 6, 0, 1113), (0, 34, 0, 7, 0, 1114), (0, 37, 0, 8, 0, 1115), (0, 52, 0, 9, 0, 1116), (1, 55, 0, 9, 1, 1117), (0, 55, 0, 10, 0, 1118), (1, 81, 0, 10, 1, 1119), (11, 194, 0, 10, 1, 1120), (0, 56, 0, 11, 0, 1121), (0, 59, 0, 12, 0, 1122), (1, 101, 0, 12, 1, 1123), (0, 80, 0, 13, 0, 1124), (1, 12, 1, 0, 0, 1154), (11, 182, 1, 0, 1, 1155), (1, 18, 1, 1, 0, 1156), (1, 22, 1, 2, 0, 1157), (1, 25, 1, 3, 0, 1158), (1, 29, 1, 4, 0, 1159), (1, 32, 1, 5, 0, 1160), (1, 35, 1, 6, 0, 1161), (1, 38, 1, 7, 0, 1162), (1, 49, 1, 8, 0, 1163), (11, 198, 1, 8, 1, 1164), (1, 52, 1, 9, 0, 1165), (11, 201, 1, 9, 1, 1166), (1, 45, 1, 10, 0, 1167), (11, 204, 1, 10, 1, 1168), (2, 15, 2, 0, 0, 1199), (4, 115, 2, 0, 1, 1200), (11, 286, 2, 0, 1, 1201), (2, 21, 2, 1, 0, 1202), (6, 65, 2, 1, 1, 1203), (2, 24, 2, 2, 0, 1204), (3, 31, 2, 2, 1, 1205), (6, 53, 2, 2, 1, 1206), (11, 136, 2, 2, 1, 1207), (4, 112, 2, 2, 1, 1208), (0, 114, 2, 2, 1, 1209), (8, 9, 8, 0, 0, 1223), (8, 15, 8, 1, 0, 1224), (8, 18, 8, 2, 0, 1225), (8, 21, 8, 3, 0, 1226), (8, 25, 8, 4, 0, 1227), (8, 28, 8, 5, 0, 1228), (8, 31, 8, 6, 0, 1229), (8, 34, 8, 7, 0, 1230), (8, 73, 8, 8, 0, 1231), (8, 37, 8, 9, 0, 1232), (11, 265, 8, 9, 1, 1233), (6, 14, 6, 0, 0, 2023), (11, 272, 6, 0, 1, 2024), (6, 20, 6, 1, 0, 2025), (6, 27, 6, 2, 0, 2026), (3, 9, 3, 0, 0, 2040), (3, 15, 3, 1, 0, 2041), (3, 19, 3, 2, 0, 2042), (3, 22, 3, 3, 0, 2043), (3, 25, 3, 4, 0, 2044), (3, 28, 3, 5, 0, 2045), (4, 16, 4, 0, 0, 2067), (11, 334, 4, 0, 1, 2068), (4, 20, 4, 1, 0, 2069), (4, 24, 4, 2, 0, 2070), (4, 27, 4, 3, 0, 2071), (4, 30, 4, 4, 0, 2072), (4, 33, 4, 5, 0, 2073), (4, 36, 4, 6, 0, 2074), (4, 39, 4, 7, 0, 2075), (4, 42, 4, 8, 0, 2076), (4, 45, 4, 9, 0, 2077), (4, 106, 4, 10, 0, 2078), (11, 14, 11, 0, 0, 2168), (11, 18, 11, 1, 0, 2169), (11, 24, 11, 2, 0, 2170), (11, 31, 11, 3, 0, 2171), (11, 38, 11, 4, 0, 2172), (11, 42, 11, 5, 0, 2173), (11, 45, 11, 6, 0, 2174), (11, 51, 11, 7, 0, 2175), (11, 55, 11, 8, 0, 2176), (11, 58, 11, 9, 0, 2177), (11, 61, 11, 10, 0, 2178), (11, 67, 11, 11, 0, 2179), (11, 74, 11, 12, 0, 2180), (11, 81, 11, 13, 0, 2181), (11, 88, 11, 14, 0, 2182), (11, 92, 11, 15, 0, 2183), (11, 96, 11, 16, 0, 2184), (12, 1, 12, 0, 0, 5134), (12, 7, 12, 1, 0, 5135), (12, 25, 12, 2, 0, 5136), (12, 19, 12, 3, 0, 5137), (12, 22, 12, 4, 0, 5138), (12, 31, 12, 5, 0, 5139), (12, 35, 12, 6, 0, 5140), (12, 46, 12, 7, 0, 5141), (12, 28, 12, 8, 0, 5142), (12, 53, 12, 9, 0, 5143), (12, 56, 12, 10, 0, 5144), (12, 69, 12, 11, 0, 5145), (12, 75, 12, 12, 0, 5146), (12, 72, 12, 13, 0, 5147), (12, 50, 12, 14, 0, 5148), (12, 82, 12, 15, 0, 5149), (12, 85, 12, 16, 0, 5150), (12, 88, 12, 17, 0, 5151), (12, 91, 12, 18, 0, 5152), (12, 94, 12, 19, 0, 5153), (12, 106, 12, 20, 0, 5154), (12, 109, 12, 21, 0, 5155), (12, 112, 12, 22, 0, 5156), (12, 115, 12, 23, 0, 5157), (12, 97, 12, 24, 0, 5158), (12, 121, 12, 25, 0, 5159), (12, 100, 12, 26, 0, 5160), (12, 103, 12, 27, 0, 5161), (12, 145, 12, 28, 0, 5162), (12, 148, 12, 29, 0, 5163), (12, 186, 12, 30, 0, 5164), (12, 189, 12, 31, 0, 5165), (12, 192, 12, 32, 0, 5166), (12, 195, 12, 33, 0, 5167), (12, 198, 12, 34, 0, 5168), (12, 201, 12, 35, 0, 5169), (12, 204, 12, 36, 0, 5170), (12, 207, 12, 37, 0, 5171), (12, 210, 12, 38, 0, 5172), (12, 213, 12, 39, 0, 5173), (12, 358, 12, 40, 0, 5174), (12, 368, 12, 41, 0, 5175), (12, 216, 12, 42, 0, 5176), (12, 371, 12, 43, 0, 5177), (12, 219, 12, 44, 0, 5178), (12, 222, 12, 45, 0, 5179), (12, 383, 12, 46, 0, 5180), (12, 226, 12, 47, 0, 5181), (12, 229, 12, 48, 0, 5182), (12, 232, 12, 49, 0, 5183), (12, 235, 12, 50, 0, 5184), (12, 238, 12, 51, 0, 5185), (12, 398, 12, 52, 0, 5186), (12, 241, 12, 53, 0, 5187), (12, 244, 12, 54, 0, 5188), (12, 247, 12, 55, 0, 5189), (12, 250, 12, 56, 0, 5190), (12, 253, 12, 57, 0, 5191), (12, 256, 12, 58, 0, 5192), (12, 259, 12, 59, 0, 5193), (12, 262, 12, 60, 0, 5194), (12, 265, 12, 61, 0, 5195), (12, 307, 12, 62, 0, 5196), (12, 268, 12, 63, 0, 5197), (12, 444, 12, 64, 0, 5198), (12, 447, 12, 65, 0, 5199), (12, 450, 12, 66, 0, 5200), (12, 453, 12, 67, 0, 5201)]
def okF (q : Nat × Nat × Nat × Nat × Nat × Nat) : Bool := (if q.2.2.2.2.1 = 1 then atq q.2.2.2.2.2 (.fieldLinkNest (cN q.1) q.2.1 (cN q.2.2.1) ((cT q.2.2.1) q.2.2.2.1).2.1 ((cT q.2.2.1) q.2.2.2.1).2.2.1 "WordFolder") else atp q.2.2.2.2.2 (.fieldLink (cN q.1) q.2.1 (cN q.2.2.1) ((cT q.2.2.1) q.2.2.2.1).2.1 ((cT q.2.2.1) q.2.2.2.1).2.2.1)) && decide (q.2.2.1 < 13) && decide (q.2.2.2.1 < nf q.2.2.1) && decide (((cT q.2.2.1) q.2.2.2.1).1 = cN q.2.2.1)
/-- method links -/
def minName : MethodName := ⟨"java/lang/Math", "min", "(II)I"⟩
def maxName : MethodName := ⟨"java/lang/Math", "max", "(II)I"⟩
def cpyName : MethodName := ⟨"java/lang/System", "arraycopy", "(Ljava/lang/Object;ILjava/lang/Object;II)V"⟩
def yE (k : Nat) : MethodName := if k = 1000 then minName else if k = 1001 then maxName else if k = 1002 then cpyName else yN k
def ML : List (Nat × Nat × Nat × Nat) := [(5, 9, 1001, 1030), (2, 9, 1001, 1198), (11, 99, 252, 2102), (9, 31, 236, 2106), (7, 23, 235, 2110), (9, 35, 253, 2114), (9, 43, 259, 2118), (9, 48, 263, 2121), (10, 11, 259, 2125), (9, 52, 254, 2126), (9, 55, 255, 2130), (9, 58, 1000, 2134), (9, 39, 258, 2137), (9, 67, 256, 2141), (9, 63, 251, 2145), (9, 70, 261, 2149), (9, 73, 237, 2152), (11, 103, 173, 2156), (1, 41, 160, 2160), (0, 46, 1000, 2164), (0, 66, 1002, 2165), (13, 13, 0, 2220), (11, 107, 234, 2224), (11, 110, 186, 2228), (13, 18, 1, 2232), (11, 114, 223, 2236), (5, 25, 222, 3000), (13, 23, 2, 3004), (11, 117, 221, 3008), (13, 28, 3, 3012), (11, 120, 6, 3016), (11, 149, 227, 3020), (5, 38, 220, 3024), (5, 41, 262, 3028), (11, 124, 7, 3031), (11, 153, 239, 3035), (11, 143, 240, 3039), (7, 30, 239, 3043), (7, 34, 236, 3044), (11, 156, 237, 3045), (11, 160, 257, 3046), (11, 163, 241, 3050), (11, 167, 253, 3054), (11, 170, 258, 3055), (13, 33, 4, 3056), (11, 128, 235, 3060), (11, 132, 242, 3061), (13, 156, 5, 3065), (11, 137, 264, 3069), (11, 146, 193, 3072), (2, 41, 259, 3076), (2, 47, 260, 3077), (2, 50, 191, 3080), (2, 37, 187, 3084), (2, 53, 192, 3088), (13, 37, 8, 3092), (11, 173, 236, 3096), (11, 176, 256, 3097), (11, 179, 259, 3098), (11, 186, 163, 3099), (13, 42, 9, 3103), (11, 191, 238, 3107), (7, 27, 237, 3111), (11, 195, 174, 3112), (1, 58, 164, 3116), (0, 72, 161, 3120), (1, 62, 175, 3124), (1, 66, 166, 3128), (0, 76, 163, 3132), (13, 46, 10, 3133), (11, 207, 251, 3137), (11, 218, 261, 3138), (11, 221, 176, 3139), (1, 70, 163, 3143), (1, 74, 174, 3144), (13, 50, 11, 3145), (11, 224, 225, 3149), (5, 29, 259, 3153), (5, 35, 260, 3154), (13, 54, 12, 3155), (11, 227, 18, 3159), (11, 230, 162, 3162), (11, 234, 170, 3166), (0, 94, 167, 3170), (0, 83, 169, 3174), (0, 87, 1001, 3178), (0, 90, 168, 3179), (13, 59, 13, 3183), (11, 237, 181, 3187), (1, 104, 162, 3191), (1, 108, 167, 3192), (1, 111, 183, 3193), (13, 63, 14, 3197), (11, 241, 178, 3201), (1, 84, 179, 3205), (1, 90, 181, 3209), (1, 94, 182, 3210), (1, 115, 165, 3214), (1, 87, 180, 3218), (1, 97, 170, 3222), (13, 67, 15, 3223), (11, 244, 177, 3227), (1, 77, 173, 3231), (1, 78, 178, 3232), (13, 71, 16, 3233), (11, 248, 184, 3237), (1, 119, 169, 4001), (13, 76, 17, 4002), (11, 252, 185, 4006), (13, 160, 19, 4010), (13, 164, 20, 4014), (11, 256, 171, 4018), (0, 98, 259, 4022), (0, 103, 260, 4023), (0, 106, 166, 4024), (13, 168, 21, 4025), (13, 80, 22, 4029), (11, 257, 243, 4033), (8, 41, 244, 4037), (8, 50, 1000, 4041), (8, 56, 245, 4042), (8, 59, 246, 4046), (8, 76, 251, 4050), (8, 80, 247, 4051), (8, 89, 261, 4055), (8, 64, 249, 4057), (8, 69, 248, 4062), (11, 261, 250, 4066), (8, 96, 186, 4070), (8, 101, 189, 4071), (8, 105, 190, 4075), (13, 84, 23, 4079), (13, 88, 24, 4083), (11, 268, 228, 4087), (6, 24, 186, 4091), (6, 36, 229, 4092), (6, 44, 220, 4096), (6, 47, 232, 4097), (6, 50, 189, 4100), (6, 54, 230, 4101), (6, 58, 233, 4105), (6, 61, 190, 4108), (6, 40, 231, 4109), (11, 275, 188, 4113), (2, 28, 1000, 4117), (2, 31, 1002, 4118), (13, 92, 25, 4119), (13, 96, 26, 4123), (11, 278, 41, 4127), (11, 281, 42, 4131), (11, 337, 172, 4135), (0, 109, 186, 4139), (0, 115, 189, 4140), (0, 118, 190, 4141), (13, 100, 27, 4142), (11, 285, 187, 4146), (11, 287, 191, 4147), (13, 104, 28, 4148), (13, 108, 29, 4152), (13, 112, 30, 4156), (11, 290, 196, 4160), (3, 37, 192, 4164), (3, 41, 191, 4165), (3, 45, 197, 4166), (11, 294, 197, 4170), (13, 128, 31, 4171), (11, 297, 198, 4175), (3, 48, 196, 4179), (3, 52, 199, 4180), (3, 56, 262, 4184), (13, 132, 32, 4185), (13, 140, 33, 4189), (11, 301, 200, 4193), (3, 61, 202, 4197), (3, 69, 187, 4201), (3, 65, 201, 4202), (13, 144, 34, 4206), (11, 305, 203, 4210), (3, 72, 200, 4214), (3, 75, 204, 4215), (13, 148, 35, 4219), (11, 308, 194, 4223), (2, 56, 195, 4227), (2, 59, 222, 4230), (2, 65, 224, 4231), (13, 152, 36, 4235), (11, 312, 220, 4239), (13, 116, 37, 5000), (11, 315, 210, 5004), (4, 80, 211, 5008), (4, 84, 212, 5012), (4, 49, 207, 5016), (4, 63, 192, 5020), (4, 73, 191, 5021), (11, 319, 213, 5022), (4, 88, 221, 5026), (4, 93, 222, 5027), (4, 96, 226, 5028), (13, 120, 38, 5032), (11, 323, 214, 5036), (4, 99, 208, 5040), (4, 53, 186, 5044), (4, 56, 205, 5045), (4, 59, 206, 5049), (4, 67, 209, 5053), (4, 70, 189, 5056), (4, 76, 190, 5057), (4, 103, 215, 5058), (4, 118, 218, 5062), (4, 127, 1002, 5066), (4, 109, 216, 5067), (4, 121, 217, 5071), (4, 124, 187, 5075), (13, 124, 39, 5076), (11, 326, 219, 5080), (13, 136, 40, 5084), (11, 330, 208, 5088), (13, 22, 45, 5089), (12, 11, 44, 5093), (13, 27, 46, 5098), (12, 15, 43, 5102), (12, 178, 59, 5111), (12, 66, 57, 5115), (12, 59, 55, 5119), (12, 38, 49, 5123), (12, 63, 56, 5126), (12, 78, 60, 5130), (13, 17, 80, 6100), (12, 271, 78, 6104), (13, 32, 82, 6108), (12, 287, 47, 6112), (12, 291, 81, 6116), (12, 274, 50, 6120), (12, 277, 51, 6124), (12, 280, 58, 6128), (12, 283, 52, 6132), (12, 42, 53, 6136), (13, 36, 83, 6140), (12, 295, 54, 6144), (13, 41, 84, 6148), (12, 124, 61, 6152), (13, 45, 88, 6156), (12, 298, 85, 6160), (12, 301, 86, 6164), (12, 138, 62, 6168), (12, 304, 87, 6172), (12, 142, 68, 6176), (13, 49, 89, 6180), (13, 53, 90, 6184), (12, 310, 48, 6188), (12, 313, 146, 6191), (13, 58, 92, 6195), (12, 316, 79, 6199), (12, 319, 91, 6202), (12, 158, 67, 6206), (12, 134, 66, 6210), (12, 118, 63, 6214), (12, 128, 65, 6218), (12, 131, 64, 6222), (13, 62, 93, 6226), (12, 162, 71, 6230), (12, 151, 70, 6234), (13, 66, 94, 6238), (12, 155, 69, 7002), (12, 175, 75, 7006), (12, 168, 73, 7010), (12, 165, 72, 7014), (12, 172, 74, 7018), (13, 70, 95, 7022), (12, 322, 76, 7026), (13, 75, 96, 7030), (12, 325, 77, 7034), (13, 79, 97, 7038), (13, 99, 104, 7042), (12, 334, 102, 7046), (12, 331, 101, 7050), (12, 328, 100, 7054), (12, 337, 103, 7058), (13, 107, 105, 7062), (13, 103, 106, 7066), (12, 340, 98, 7070), (12, 343, 99, 7074), (13, 111, 108, 7078), (12, 346, 107, 7082), (13, 115, 109, 7086), (13, 83, 115, 7090), (12, 365, 113, 7094), (12, 349, 112, 7098), (12, 352, 111, 7102), (12, 355, 114, 7106), (12, 362, 110, 7111), (13, 87, 116, 7115), (13, 91, 124, 7119), (12, 395, 123, 7123), (12, 392, 122, 7127), (12, 374, 117, 7131), (12, 386, 120, 7135), (12, 380, 119, 7138), (12, 389, 121, 7142), (12, 377, 118, 7146), (13, 95, 125, 7149), (13, 119, 131, 7153), (12, 411, 130, 7157), (12, 414, 129, 7161), (12, 405, 126, 7165), (12, 401, 127, 7169), (12, 408, 128, 7173), (13, 139, 132, 7177), (13, 123, 137, 7181), (12, 426, 136, 7185), (12, 420, 134, 7189), (12, 417, 133, 7193), (12, 423, 135, 7197), (13, 127, 139, 7201), (12, 429, 138, 7205), (13, 131, 141, 7209), (12, 432, 140, 7213), (13, 135, 142, 7217), (13, 143, 144, 7221), (12, 435, 143, 7225), (13, 147, 145, 7229), (13, 151, 148, 7233), (12, 438, 147, 7237), (13, 155, 149, 8001), (13, 159, 150, 8005), (12, 441, 151, 8009), (13, 163, 157, 8013), (12, 457, 152, 8017), (12, 460, 154, 8021), (12, 463, 155, 8025), (12, 466, 153, 8029), (13, 167, 158, 8033), (12, 469, 156, 8037), (13, 171, 159, 8041)]
def okL (q : Nat × Nat × Nat × Nat) : Bool := atp q.2.2.2 (.methodLink (cN q.1) q.2.1 (yE q.2.2.1))
def CL : List (Nat × Nat × Int × Nat) := [(10, 15, 1048575, 2124), (8, 63, 100002, 4056), (8, 68, 50000, 4061), (12, 225, 40401, 5110), (12, 361, 50000, 7110)]
def okC (q : Nat × Nat × Int × Nat) : Bool := atp q.2.2.2 (.constant (cN q.1) q.2.1 (Int32.ofInt q.2.2.1))
def MCt : List (Nat × Nat × Nat × Nat) := [(2223, 1001, 2221, 2222), (2235, 1001, 2233, 2234), (3007, 1001, 3005, 3006), (3015, 1001, 3013, 3014), (3059, 1001, 3057, 3058), (3068, 1001, 3066, 3067), (3019, 1001, 3018, 2), (3034, 1001, 3033, 3), (3095, 1001, 3093, 3094), (3106, 1001, 3104, 3105), (3136, 1001, 3134, 3135), (3148, 1001, 3146, 3147), (3158, 1001, 3156, 3157), (3186, 1001, 3184, 3185), (3200, 1001, 3198, 3199), (3226, 1001, 3224, 3225), (3236, 1001, 3234, 3235), (4005, 1001, 4003, 4004), (3161, 1001, 3160, 0), (4013, 1001, 4011, 4012), (4017, 1001, 4015, 4016), (4028, 1001, 4026, 4027), (4032, 1001, 4030, 4031), (4082, 1001, 4080, 4081), (4086, 1001, 4084, 4085), (4122, 1001, 4120, 4121), (4126, 1001, 4124, 4125), (4145, 1001, 4143, 4144), (4151, 1001, 4149, 4150), (4155, 1001, 4153, 4154), (4159, 1001, 4157, 4158), (4174, 1001, 4172, 4173), (4188, 1001, 4186, 4187), (4192, 1001, 4190, 4191), (4209, 1001, 4207, 4208), (4222, 1001, 4220, 4221), (4238, 1001, 4236, 4237), (5003, 1001, 5001, 5002), (5035, 1001, 5033, 5034), (5079, 1001, 5077, 5078), (5087, 1001, 5085, 5086), (4130, 1001, 4129, 19), (4134, 1001, 4133, 20), (5104, 1015, 5103, 0), (5097, 1015, 5095, 34), (5092, 1015, 5090, 5091), (5101, 1015, 5099, 5100), (6115, 1015, 6114, 41), (6190, 1015, 6189, 0), (5125, 1015, 5124, 0), (6123, 1015, 6122, 43), (6127, 1015, 6126, 44), (6135, 1015, 6134, 46), (6139, 1015, 6138, 47), (6147, 1015, 6146, 48), (5122, 1015, 5121, 37), (5129, 1015, 5128, 38), (5118, 1015, 5117, 36), (6131, 1015, 6130, 45), (5114, 1015, 5113, 35), (5133, 1015, 5132, 39), (6155, 1015, 6154, 49), (6171, 1015, 6170, 52), (6217, 1015, 6216, 59), (6225, 1015, 6224, 61), (6221, 1015, 6220, 60), (6213, 1015, 6212, 58), (6209, 1015, 6208, 57), (6179, 1015, 6178, 54), (7005, 1015, 7004, 64), (6237, 1015, 6236, 63), (6233, 1015, 6232, 62), (7017, 1015, 7016, 67), (7013, 1015, 7012, 66), (7021, 1015, 7020, 68), (7009, 1015, 7008, 65), (7029, 1015, 7028, 69), (7037, 1015, 7036, 70), (6107, 1015, 6106, 40), (6201, 1015, 6200, 0), (6103, 1015, 6101, 6102), (6119, 1015, 6118, 42), (6111, 1015, 6109, 6110), (6143, 1015, 6141, 6142), (6151, 1015, 6149, 6150), (6163, 1015, 6162, 50), (6167, 1015, 6166, 51), (6175, 1015, 6174, 53), (6159, 1015, 6157, 6158), (6183, 1015, 6181, 6182), (6187, 1015, 6185, 6186), (6205, 1015, 6204, 56), (6198, 1015, 6196, 6197), (6229, 1015, 6227, 6228), (7001, 1015, 6239, 7000), (7025, 1015, 7023, 7024), (7033, 1015, 7031, 7032), (7041, 1015, 7039, 7040), (7073, 1015, 7072, 75), (7077, 1015, 7076, 76), (7057, 1015, 7056, 73), (7053, 1015, 7052, 72), (7049, 1015, 7048, 71), (7061, 1015, 7060, 74), (7045, 1015, 7043, 7044), (7065, 1015, 7063, 7064), (7069, 1015, 7067, 7068), (7085, 1015, 7084, 77), (7081, 1015, 7079, 7080), (7089, 1015, 7087, 7088), (7114, 1015, 7113, 82), (7105, 1015, 7104, 80), (7101, 1015, 7100, 79), (7097, 1015, 7096, 78), (7109, 1015, 7108, 81), (7093, 1015, 7091, 7092), (7118, 1015, 7116, 7117), (7134, 1015, 7133, 85), (7148, 1015, 7147, 0), (7141, 1015, 7140, 86), (7137, 1015, 7136, 0), (7145, 1015, 7144, 87), (7130, 1015, 7129, 84), (7126, 1015, 7125, 83), (7122, 1015, 7120, 7121), (7152, 1015, 7150, 7151), (7168, 1015, 7167, 90), (7172, 1015, 7171, 91), (7176, 1015, 7175, 92), (7164, 1015, 7163, 89), (7160, 1015, 7159, 88), (7156, 1015, 7154, 7155), (7180, 1015, 7178, 7179), (7196, 1015, 7195, 95), (7192, 1015, 7191, 94), (7200, 1015, 7199, 96), (7188, 1015, 7187, 93), (7184, 1015, 7182, 7183), (7208, 1015, 7207, 97), (7204, 1015, 7202, 7203), (7216, 1015, 7215, 98), (7212, 1015, 7210, 7211), (7220, 1015, 7218, 7219), (7228, 1015, 7227, 99), (7224, 1015, 7222, 7223), (7232, 1015, 7230, 7231), (6194, 1015, 6193, 55), (8000, 1015, 7239, 100), (7236, 1015, 7234, 7235), (8004, 1015, 8002, 8003), (8008, 1015, 8006, 8007), (8012, 1015, 8011, 101), (8020, 1015, 8019, 102), (8032, 1015, 8031, 105), (8024, 1015, 8023, 103), (8028, 1015, 8027, 104), (8040, 1015, 8039, 106), (8016, 1015, 8014, 8015), (8036, 1015, 8034, 8035), (8044, 1015, 8042, 8043), (2163, 1007, 2161, 2162), (3123, 1007, 3121, 3122), (3165, 1007, 3163, 3164), (3102, 1007, 3100, 3101), (3119, 1007, 3117, 3118), (3217, 1007, 3215, 3216), (3131, 1007, 3129, 3130), (3173, 1007, 3171, 3172), (3182, 1007, 3181, 5), (3177, 1007, 3175, 3176), (3169, 1007, 3167, 3168), (4021, 1007, 4019, 4020), (4138, 1007, 4136, 4137), (2159, 1006, 2157, 2158), (3115, 1006, 3113, 3114), (3127, 1006, 3126, 4), (3142, 1006, 3140, 3141), (3230, 1006, 3228, 3229), (3204, 1006, 3202, 3203), (3208, 1006, 3207, 7), (3221, 1006, 3220, 9), (3190, 1006, 3188, 3189), (3213, 1006, 3212, 8), (3196, 1006, 3195, 6), (4000, 1006, 3238, 3239), (4009, 1006, 4007, 4008), (2231, 1008, 2229, 2230), (3087, 1008, 3085, 3086), (4116, 1008, 4114, 4115), (4074, 1008, 4072, 4073), (4078, 1008, 4076, 4077), (3083, 1008, 3081, 3082), (3091, 1008, 3089, 3090), (3075, 1008, 3073, 3074), (4226, 1008, 4224, 4225), (4229, 1008, 4228, 0), (4163, 1011, 4161, 4162), (4169, 1011, 4167, 4168), (4178, 1011, 4176, 4177), (4183, 1011, 4182, 21), (4196, 1011, 4194, 4195), (4205, 1011, 4204, 23), (4200, 1011, 4199, 22), (4213, 1011, 4211, 4212), (4218, 1011, 4217, 24), (5048, 1012, 5047, 28), (5052, 1012, 5051, 29), (5019, 1012, 5018, 27), (5043, 1012, 5041, 5042), (5055, 1012, 5054, 0), (5007, 1012, 5005, 5006), (5011, 1012, 5010, 25), (5015, 1012, 5014, 26), (5025, 1012, 5023, 5024), (5039, 1012, 5037, 5038), (5061, 1012, 5060, 30), (5070, 1012, 5069, 32), (5074, 1012, 5073, 33), (5065, 1012, 5064, 31), (5083, 1012, 5081, 5082), (3027, 1002, 3025, 3026), (3011, 1002, 3009, 3010), (3003, 1002, 3001, 3002), (2239, 1002, 2237, 2238), (4234, 1002, 4232, 4233), (3152, 1002, 3150, 3151), (5031, 1002, 5029, 5030), (3023, 1002, 3021, 3022), (4090, 1010, 4088, 4089), (4095, 1010, 4094, 16), (4104, 1010, 4103, 17), (4112, 1010, 4111, 18), (4099, 1010, 4098, 0), (4107, 1010, 4106, 0), (2227, 1004, 2225, 2226), (2113, 1004, 2111, 2112), (2109, 1004, 2107, 2108), (2155, 1004, 2153, 2154), (3110, 1004, 3108, 3109), (3038, 1004, 3036, 3037), (3042, 1004, 3040, 3041), (3053, 1004, 3051, 3052), (3064, 1004, 3062, 3063), (4036, 1009, 4034, 4035), (4040, 1009, 4039, 10), (4045, 1009, 4044, 11), (4049, 1009, 4048, 12), (4054, 1009, 4053, 13), (4065, 1009, 4064, 15), (4060, 1009, 4059, 14), (4069, 1009, 4067, 4068), (2148, 1005, 2146, 2147), (2105, 1005, 2103, 2104), (2117, 1005, 2115, 2116), (2129, 1005, 2128, 0), (2133, 1005, 2132, 1), (2144, 1005, 2142, 2143), (3049, 1005, 3047, 3048), (2140, 1005, 2138, 2139), (2120, 1013, 2119, 0), (3079, 1013, 3078, 0), (2151, 1013, 2150, 0), (3030, 1013, 3029, 0), (2123, 1013, 2122, 0), (3071, 1013, 3070, 0)]
def okM (k : Nat) : Bool := let q := MCt.getD k (0, 0, 0, 0); atp q.2.1 (.initialized (yN k).cls) && (if mS k then atp q.2.2.1 (.static (yN k)) else (atp q.2.2.1 (.instanceMethod (yN k)) && atp q.2.2.2 (.selects (cN (mK k)) (yN k) (yN k)))) && decide ((yN k).cls = cN (mK k))
end
section
/-! what the kernel counts out: the words of the methods and links stand in the tables -/
theorem FL_ok : FL.all okF = true := by decide +kernel
theorem ML_ok : ML.all okL = true := by decide +kernel
theorem CL_ok : CL.all okC = true := by decide +kernel
theorem MT_ok : (List.range NM).all okM = true := by decide +kernel
set_option maxRecDepth 20000 in
theorem cw0 : (tb 2)[223]? = some (.code (yN 0) (mC 0) (mL 0) (mR 0)) := rfl
set_option maxRecDepth 20000 in
theorem cw1 : (tb 2)[235]? = some (.code (yN 1) (mC 1) (mL 1) (mR 1)) := rfl
set_option maxRecDepth 20000 in
theorem cw2 : (tb 3)[7]? = some (.code (yN 2) (mC 2) (mL 2) (mR 2)) := rfl
set_option maxRecDepth 20000 in
theorem cw3 : (tb 3)[15]? = some (.code (yN 3) (mC 3) (mL 3) (mR 3)) := rfl
set_option maxRecDepth 20000 in
theorem cw4 : (tb 3)[59]? = some (.code (yN 4) (mC 4) (mL 4) (mR 4)) := rfl
set_option maxRecDepth 20000 in
theorem cw5 : (tb 3)[68]? = some (.code (yN 5) (mC 5) (mL 5) (mR 5)) := rfl
set_option maxRecDepth 20000 in
theorem cw6 : (tb 3)[19]? = some (.code (yN 6) (mC 6) (mL 6) (mR 6)) := rfl
set_option maxRecDepth 20000 in
theorem cw7 : (tb 3)[34]? = some (.code (yN 7) (mC 7) (mL 7) (mR 7)) := rfl
set_option maxRecDepth 20000 in
theorem cw8 : (tb 3)[95]? = some (.code (yN 8) (mC 8) (mL 8) (mR 8)) := rfl
set_option maxRecDepth 20000 in
theorem cw9 : (tb 3)[106]? = some (.code (yN 9) (mC 9) (mL 9) (mR 9)) := rfl
set_option maxRecDepth 20000 in
theorem cw10 : (tb 3)[136]? = some (.code (yN 10) (mC 10) (mL 10) (mR 10)) := rfl
set_option maxRecDepth 20000 in
theorem cw11 : (tb 3)[148]? = some (.code (yN 11) (mC 11) (mL 11) (mR 11)) := rfl
set_option maxRecDepth 20000 in
theorem cw12 : (tb 3)[158]? = some (.code (yN 12) (mC 12) (mL 12) (mR 12)) := rfl
set_option maxRecDepth 20000 in
theorem cw13 : (tb 3)[186]? = some (.code (yN 13) (mC 13) (mL 13) (mR 13)) := rfl
set_option maxRecDepth 20000 in
theorem cw14 : (tb 3)[200]? = some (.code (yN 14) (mC 14) (mL 14) (mR 14)) := rfl
set_option maxRecDepth 20000 in
theorem cw15 : (tb 3)[226]? = some (.code (yN 15) (mC 15) (mL 15) (mR 15)) := rfl
set_option maxRecDepth 20000 in
theorem cw16 : (tb 3)[236]? = some (.code (yN 16) (mC 16) (mL 16) (mR 16)) := rfl
set_option maxRecDepth 20000 in
theorem cw17 : (tb 4)[5]? = some (.code (yN 17) (mC 17) (mL 17) (mR 17)) := rfl
set_option maxRecDepth 20000 in
theorem cw18 : (tb 3)[161]? = some (.code (yN 18) (mC 18) (mL 18) (mR 18)) := rfl
set_option maxRecDepth 20000 in
theorem cw19 : (tb 4)[13]? = some (.code (yN 19) (mC 19) (mL 19) (mR 19)) := rfl
set_option maxRecDepth 20000 in
theorem cw20 : (tb 4)[17]? = some (.code (yN 20) (mC 20) (mL 20) (mR 20)) := rfl
set_option maxRecDepth 20000 in
theorem cw21 : (tb 4)[28]? = some (.code (yN 21) (mC 21) (mL 21) (mR 21)) := rfl
set_option maxRecDepth 20000 in
theorem cw22 : (tb 4)[32]? = some (.code (yN 22) (mC 22) (mL 22) (mR 22)) := rfl
set_option maxRecDepth 20000 in
theorem cw23 : (tb 4)[82]? = some (.code (yN 23) (mC 23) (mL 23) (mR 23)) := rfl
set_option maxRecDepth 20000 in
theorem cw24 : (tb 4)[86]? = some (.code (yN 24) (mC 24) (mL 24) (mR 24)) := rfl
set_option maxRecDepth 20000 in
theorem cw25 : (tb 4)[122]? = some (.code (yN 25) (mC 25) (mL 25) (mR 25)) := rfl
set_option maxRecDepth 20000 in
theorem cw26 : (tb 4)[126]? = some (.code (yN 26) (mC 26) (mL 26) (mR 26)) := rfl
set_option maxRecDepth 20000 in
theorem cw27 : (tb 4)[145]? = some (.code (yN 27) (mC 27) (mL 27) (mR 27)) := rfl
set_option maxRecDepth 20000 in
theorem cw28 : (tb 4)[151]? = some (.code (yN 28) (mC 28) (mL 28) (mR 28)) := rfl
set_option maxRecDepth 20000 in
theorem cw29 : (tb 4)[155]? = some (.code (yN 29) (mC 29) (mL 29) (mR 29)) := rfl
set_option maxRecDepth 20000 in
theorem cw30 : (tb 4)[159]? = some (.code (yN 30) (mC 30) (mL 30) (mR 30)) := rfl
set_option maxRecDepth 20000 in
theorem cw31 : (tb 4)[174]? = some (.code (yN 31) (mC 31) (mL 31) (mR 31)) := rfl
set_option maxRecDepth 20000 in
theorem cw32 : (tb 4)[188]? = some (.code (yN 32) (mC 32) (mL 32) (mR 32)) := rfl
set_option maxRecDepth 20000 in
theorem cw33 : (tb 4)[192]? = some (.code (yN 33) (mC 33) (mL 33) (mR 33)) := rfl
set_option maxRecDepth 20000 in
theorem cw34 : (tb 4)[209]? = some (.code (yN 34) (mC 34) (mL 34) (mR 34)) := rfl
set_option maxRecDepth 20000 in
theorem cw35 : (tb 4)[222]? = some (.code (yN 35) (mC 35) (mL 35) (mR 35)) := rfl
set_option maxRecDepth 20000 in
theorem cw36 : (tb 4)[238]? = some (.code (yN 36) (mC 36) (mL 36) (mR 36)) := rfl
set_option maxRecDepth 20000 in
theorem cw37 : (tb 5)[3]? = some (.code (yN 37) (mC 37) (mL 37) (mR 37)) := rfl
set_option maxRecDepth 20000 in
theorem cw38 : (tb 5)[35]? = some (.code (yN 38) (mC 38) (mL 38) (mR 38)) := rfl
set_option maxRecDepth 20000 in
theorem cw39 : (tb 5)[79]? = some (.code (yN 39) (mC 39) (mL 39) (mR 39)) := rfl
set_option maxRecDepth 20000 in
theorem cw40 : (tb 5)[87]? = some (.code (yN 40) (mC 40) (mL 40) (mR 40)) := rfl
set_option maxRecDepth 20000 in
theorem cw41 : (tb 4)[130]? = some (.code (yN 41) (mC 41) (mL 41) (mR 41)) := rfl
set_option maxRecDepth 20000 in
theorem cw42 : (tb 4)[134]? = some (.code (yN 42) (mC 42) (mL 42) (mR 42)) := rfl
set_option maxRecDepth 20000 in
theorem cw43 : (tb 5)[104]? = some (.code (yN 43) (mC 43) (mL 43) (mR 43)) := rfl
set_option maxRecDepth 20000 in
theorem cw44 : (tb 5)[97]? = some (.code (yN 44) (mC 44) (mL 44) (mR 44)) := rfl
set_option maxRecDepth 20000 in
theorem cw45 : (tb 5)[92]? = some (.code (yN 45) (mC 45) (mL 45) (mR 45)) := rfl
set_option maxRecDepth 20000 in
theorem cw46 : (tb 5)[101]? = some (.code (yN 46) (mC 46) (mL 46) (mR 46)) := rfl
set_option maxRecDepth 20000 in
theorem cw47 : (tb 6)[115]? = some (.code (yN 47) (mC 47) (mL 47) (mR 47)) := rfl
set_option maxRecDepth 20000 in
theorem cw48 : (tb 6)[190]? = some (.code (yN 48) (mC 48) (mL 48) (mR 48)) := rfl
set_option maxRecDepth 20000 in
theorem cw49 : (tb 5)[125]? = some (.code (yN 49) (mC 49) (mL 49) (mR 49)) := rfl
set_option maxRecDepth 20000 in
theorem cw50 : (tb 6)[123]? = some (.code (yN 50) (mC 50) (mL 50) (mR 50)) := rfl
set_option maxRecDepth 20000 in
theorem cw51 : (tb 6)[127]? = some (.code (yN 51) (mC 51) (mL 51) (mR 51)) := rfl
set_option maxRecDepth 20000 in
theorem cw52 : (tb 6)[135]? = some (.code (yN 52) (mC 52) (mL 52) (mR 52)) := rfl
set_option maxRecDepth 20000 in
theorem cw53 : (tb 6)[139]? = some (.code (yN 53) (mC 53) (mL 53) (mR 53)) := rfl
set_option maxRecDepth 20000 in
theorem cw54 : (tb 6)[147]? = some (.code (yN 54) (mC 54) (mL 54) (mR 54)) := rfl
set_option maxRecDepth 20000 in
theorem cw55 : (tb 5)[122]? = some (.code (yN 55) (mC 55) (mL 55) (mR 55)) := rfl
set_option maxRecDepth 20000 in
theorem cw56 : (tb 5)[129]? = some (.code (yN 56) (mC 56) (mL 56) (mR 56)) := rfl
set_option maxRecDepth 20000 in
theorem cw57 : (tb 5)[118]? = some (.code (yN 57) (mC 57) (mL 57) (mR 57)) := rfl
set_option maxRecDepth 20000 in
theorem cw58 : (tb 6)[131]? = some (.code (yN 58) (mC 58) (mL 58) (mR 58)) := rfl
set_option maxRecDepth 20000 in
theorem cw59 : (tb 5)[114]? = some (.code (yN 59) (mC 59) (mL 59) (mR 59)) := rfl
set_option maxRecDepth 20000 in
theorem cw60 : (tb 5)[133]? = some (.code (yN 60) (mC 60) (mL 60) (mR 60)) := rfl
set_option maxRecDepth 20000 in
theorem cw61 : (tb 6)[155]? = some (.code (yN 61) (mC 61) (mL 61) (mR 61)) := rfl
set_option maxRecDepth 20000 in
theorem cw62 : (tb 6)[171]? = some (.code (yN 62) (mC 62) (mL 62) (mR 62)) := rfl
set_option maxRecDepth 20000 in
theorem cw63 : (tb 6)[217]? = some (.code (yN 63) (mC 63) (mL 63) (mR 63)) := rfl
set_option maxRecDepth 20000 in
theorem cw64 : (tb 6)[225]? = some (.code (yN 64) (mC 64) (mL 64) (mR 64)) := rfl
set_option maxRecDepth 20000 in
theorem cw65 : (tb 6)[221]? = some (.code (yN 65) (mC 65) (mL 65) (mR 65)) := rfl
set_option maxRecDepth 20000 in
theorem cw66 : (tb 6)[213]? = some (.code (yN 66) (mC 66) (mL 66) (mR 66)) := rfl
set_option maxRecDepth 20000 in
theorem cw67 : (tb 6)[209]? = some (.code (yN 67) (mC 67) (mL 67) (mR 67)) := rfl
set_option maxRecDepth 20000 in
theorem cw68 : (tb 6)[179]? = some (.code (yN 68) (mC 68) (mL 68) (mR 68)) := rfl
set_option maxRecDepth 20000 in
theorem cw69 : (tb 7)[5]? = some (.code (yN 69) (mC 69) (mL 69) (mR 69)) := rfl
set_option maxRecDepth 20000 in
theorem cw70 : (tb 6)[237]? = some (.code (yN 70) (mC 70) (mL 70) (mR 70)) := rfl
set_option maxRecDepth 20000 in
theorem cw71 : (tb 6)[233]? = some (.code (yN 71) (mC 71) (mL 71) (mR 71)) := rfl
set_option maxRecDepth 20000 in
theorem cw72 : (tb 7)[17]? = some (.code (yN 72) (mC 72) (mL 72) (mR 72)) := rfl
set_option maxRecDepth 20000 in
theorem cw73 : (tb 7)[13]? = some (.code (yN 73) (mC 73) (mL 73) (mR 73)) := rfl
set_option maxRecDepth 20000 in
theorem cw74 : (tb 7)[21]? = some (.code (yN 74) (mC 74) (mL 74) (mR 74)) := rfl
set_option maxRecDepth 20000 in
theorem cw75 : (tb 7)[9]? = some (.code (yN 75) (mC 75) (mL 75) (mR 75)) := rfl
set_option maxRecDepth 20000 in
theorem cw76 : (tb 7)[29]? = some (.code (yN 76) (mC 76) (mL 76) (mR 76)) := rfl
set_option maxRecDepth 20000 in
theorem cw77 : (tb 7)[37]? = some (.code (yN 77) (mC 77) (mL 77) (mR 77)) := rfl
set_option maxRecDepth 20000 in
theorem cw78 : (tb 6)[107]? = some (.code (yN 78) (mC 78) (mL 78) (mR 78)) := rfl
set_option maxRecDepth 20000 in
theorem cw79 : (tb 6)[201]? = some (.code (yN 79) (mC 79) (mL 79) (mR 79)) := rfl
set_option maxRecDepth 20000 in
theorem cw80 : (tb 6)[103]? = some (.code (yN 80) (mC 80) (mL 80) (mR 80)) := rfl
set_option maxRecDepth 20000 in
theorem cw81 : (tb 6)[119]? = some (.code (yN 81) (mC 81) (mL 81) (mR 81)) := rfl
set_option maxRecDepth 20000 in
theorem cw82 : (tb 6)[111]? = some (.code (yN 82) (mC 82) (mL 82) (mR 82)) := rfl
set_option maxRecDepth 20000 in
theorem cw83 : (tb 6)[143]? = some (.code (yN 83) (mC 83) (mL 83) (mR 83)) := rfl
set_option maxRecDepth 20000 in
theorem cw84 : (tb 6)[151]? = some (.code (yN 84) (mC 84) (mL 84) (mR 84)) := rfl
set_option maxRecDepth 20000 in
theorem cw85 : (tb 6)[163]? = some (.code (yN 85) (mC 85) (mL 85) (mR 85)) := rfl
set_option maxRecDepth 20000 in
theorem cw86 : (tb 6)[167]? = some (.code (yN 86) (mC 86) (mL 86) (mR 86)) := rfl
set_option maxRecDepth 20000 in
theorem cw87 : (tb 6)[175]? = some (.code (yN 87) (mC 87) (mL 87) (mR 87)) := rfl
set_option maxRecDepth 20000 in
theorem cw88 : (tb 6)[159]? = some (.code (yN 88) (mC 88) (mL 88) (mR 88)) := rfl
set_option maxRecDepth 20000 in
theorem cw89 : (tb 6)[183]? = some (.code (yN 89) (mC 89) (mL 89) (mR 89)) := rfl
set_option maxRecDepth 20000 in
theorem cw90 : (tb 6)[187]? = some (.code (yN 90) (mC 90) (mL 90) (mR 90)) := rfl
set_option maxRecDepth 20000 in
theorem cw91 : (tb 6)[205]? = some (.code (yN 91) (mC 91) (mL 91) (mR 91)) := rfl
set_option maxRecDepth 20000 in
theorem cw92 : (tb 6)[198]? = some (.code (yN 92) (mC 92) (mL 92) (mR 92)) := rfl
set_option maxRecDepth 20000 in
theorem cw93 : (tb 6)[229]? = some (.code (yN 93) (mC 93) (mL 93) (mR 93)) := rfl
set_option maxRecDepth 20000 in
theorem cw94 : (tb 7)[1]? = some (.code (yN 94) (mC 94) (mL 94) (mR 94)) := rfl
set_option maxRecDepth 20000 in
theorem cw95 : (tb 7)[25]? = some (.code (yN 95) (mC 95) (mL 95) (mR 95)) := rfl
set_option maxRecDepth 20000 in
theorem cw96 : (tb 7)[33]? = some (.code (yN 96) (mC 96) (mL 96) (mR 96)) := rfl
set_option maxRecDepth 20000 in
theorem cw97 : (tb 7)[41]? = some (.code (yN 97) (mC 97) (mL 97) (mR 97)) := rfl
set_option maxRecDepth 20000 in
theorem cw98 : (tb 7)[73]? = some (.code (yN 98) (mC 98) (mL 98) (mR 98)) := rfl
set_option maxRecDepth 20000 in
theorem cw99 : (tb 7)[77]? = some (.code (yN 99) (mC 99) (mL 99) (mR 99)) := rfl
set_option maxRecDepth 20000 in
theorem cw100 : (tb 7)[57]? = some (.code (yN 100) (mC 100) (mL 100) (mR 100)) := rfl
set_option maxRecDepth 20000 in
theorem cw101 : (tb 7)[53]? = some (.code (yN 101) (mC 101) (mL 101) (mR 101)) := rfl
set_option maxRecDepth 20000 in
theorem cw102 : (tb 7)[49]? = some (.code (yN 102) (mC 102) (mL 102) (mR 102)) := rfl
set_option maxRecDepth 20000 in
theorem cw103 : (tb 7)[61]? = some (.code (yN 103) (mC 103) (mL 103) (mR 103)) := rfl
set_option maxRecDepth 20000 in
theorem cw104 : (tb 7)[45]? = some (.code (yN 104) (mC 104) (mL 104) (mR 104)) := rfl
set_option maxRecDepth 20000 in
theorem cw105 : (tb 7)[65]? = some (.code (yN 105) (mC 105) (mL 105) (mR 105)) := rfl
set_option maxRecDepth 20000 in
theorem cw106 : (tb 7)[69]? = some (.code (yN 106) (mC 106) (mL 106) (mR 106)) := rfl
set_option maxRecDepth 20000 in
theorem cw107 : (tb 7)[85]? = some (.code (yN 107) (mC 107) (mL 107) (mR 107)) := rfl
set_option maxRecDepth 20000 in
theorem cw108 : (tb 7)[81]? = some (.code (yN 108) (mC 108) (mL 108) (mR 108)) := rfl
set_option maxRecDepth 20000 in
theorem cw109 : (tb 7)[89]? = some (.code (yN 109) (mC 109) (mL 109) (mR 109)) := rfl
set_option maxRecDepth 20000 in
theorem cw110 : (tb 7)[114]? = some (.code (yN 110) (mC 110) (mL 110) (mR 110)) := rfl
set_option maxRecDepth 20000 in
theorem cw111 : (tb 7)[105]? = some (.code (yN 111) (mC 111) (mL 111) (mR 111)) := rfl
set_option maxRecDepth 20000 in
theorem cw112 : (tb 7)[101]? = some (.code (yN 112) (mC 112) (mL 112) (mR 112)) := rfl
set_option maxRecDepth 20000 in
theorem cw113 : (tb 7)[97]? = some (.code (yN 113) (mC 113) (mL 113) (mR 113)) := rfl
set_option maxRecDepth 20000 in
theorem cw114 : (tb 7)[109]? = some (.code (yN 114) (mC 114) (mL 114) (mR 114)) := rfl
set_option maxRecDepth 20000 in
theorem cw115 : (tb 7)[93]? = some (.code (yN 115) (mC 115) (mL 115) (mR 115)) := rfl
set_option maxRecDepth 20000 in
theorem cw116 : (tb 7)[118]? = some (.code (yN 116) (mC 116) (mL 116) (mR 116)) := rfl
set_option maxRecDepth 20000 in
theorem cw117 : (tb 7)[134]? = some (.code (yN 117) (mC 117) (mL 117) (mR 117)) := rfl
set_option maxRecDepth 20000 in
theorem cw118 : (tb 7)[148]? = some (.code (yN 118) (mC 118) (mL 118) (mR 118)) := rfl
set_option maxRecDepth 20000 in
theorem cw119 : (tb 7)[141]? = some (.code (yN 119) (mC 119) (mL 119) (mR 119)) := rfl
set_option maxRecDepth 20000 in
theorem cw120 : (tb 7)[137]? = some (.code (yN 120) (mC 120) (mL 120) (mR 120)) := rfl
set_option maxRecDepth 20000 in
theorem cw121 : (tb 7)[145]? = some (.code (yN 121) (mC 121) (mL 121) (mR 121)) := rfl
set_option maxRecDepth 20000 in
theorem cw122 : (tb 7)[130]? = some (.code (yN 122) (mC 122) (mL 122) (mR 122)) := rfl
set_option maxRecDepth 20000 in
theorem cw123 : (tb 7)[126]? = some (.code (yN 123) (mC 123) (mL 123) (mR 123)) := rfl
set_option maxRecDepth 20000 in
theorem cw124 : (tb 7)[122]? = some (.code (yN 124) (mC 124) (mL 124) (mR 124)) := rfl
set_option maxRecDepth 20000 in
theorem cw125 : (tb 7)[152]? = some (.code (yN 125) (mC 125) (mL 125) (mR 125)) := rfl
set_option maxRecDepth 20000 in
theorem cw126 : (tb 7)[168]? = some (.code (yN 126) (mC 126) (mL 126) (mR 126)) := rfl
set_option maxRecDepth 20000 in
theorem cw127 : (tb 7)[172]? = some (.code (yN 127) (mC 127) (mL 127) (mR 127)) := rfl
set_option maxRecDepth 20000 in
theorem cw128 : (tb 7)[176]? = some (.code (yN 128) (mC 128) (mL 128) (mR 128)) := rfl
set_option maxRecDepth 20000 in
theorem cw129 : (tb 7)[164]? = some (.code (yN 129) (mC 129) (mL 129) (mR 129)) := rfl
set_option maxRecDepth 20000 in
theorem cw130 : (tb 7)[160]? = some (.code (yN 130) (mC 130) (mL 130) (mR 130)) := rfl
set_option maxRecDepth 20000 in
theorem cw131 : (tb 7)[156]? = some (.code (yN 131) (mC 131) (mL 131) (mR 131)) := rfl
set_option maxRecDepth 20000 in
theorem cw132 : (tb 7)[180]? = some (.code (yN 132) (mC 132) (mL 132) (mR 132)) := rfl
set_option maxRecDepth 20000 in
theorem cw133 : (tb 7)[196]? = some (.code (yN 133) (mC 133) (mL 133) (mR 133)) := rfl
set_option maxRecDepth 20000 in
theorem cw134 : (tb 7)[192]? = some (.code (yN 134) (mC 134) (mL 134) (mR 134)) := rfl
set_option maxRecDepth 20000 in
theorem cw135 : (tb 7)[200]? = some (.code (yN 135) (mC 135) (mL 135) (mR 135)) := rfl
set_option maxRecDepth 20000 in
theorem cw136 : (tb 7)[188]? = some (.code (yN 136) (mC 136) (mL 136) (mR 136)) := rfl
set_option maxRecDepth 20000 in
theorem cw137 : (tb 7)[184]? = some (.code (yN 137) (mC 137) (mL 137) (mR 137)) := rfl
set_option maxRecDepth 20000 in
theorem cw138 : (tb 7)[208]? = some (.code (yN 138) (mC 138) (mL 138) (mR 138)) := rfl
set_option maxRecDepth 20000 in
theorem cw139 : (tb 7)[204]? = some (.code (yN 139) (mC 139) (mL 139) (mR 139)) := rfl
set_option maxRecDepth 20000 in
theorem cw140 : (tb 7)[216]? = some (.code (yN 140) (mC 140) (mL 140) (mR 140)) := rfl
set_option maxRecDepth 20000 in
theorem cw141 : (tb 7)[212]? = some (.code (yN 141) (mC 141) (mL 141) (mR 141)) := rfl
set_option maxRecDepth 20000 in
theorem cw142 : (tb 7)[220]? = some (.code (yN 142) (mC 142) (mL 142) (mR 142)) := rfl
set_option maxRecDepth 20000 in
theorem cw143 : (tb 7)[228]? = some (.code (yN 143) (mC 143) (mL 143) (mR 143)) := rfl
set_option maxRecDepth 20000 in
theorem cw144 : (tb 7)[224]? = some (.code (yN 144) (mC 144) (mL 144) (mR 144)) := rfl
set_option maxRecDepth 20000 in
theorem cw145 : (tb 7)[232]? = some (.code (yN 145) (mC 145) (mL 145) (mR 145)) := rfl
set_option maxRecDepth 20000 in
theorem cw146 : (tb 6)[194]? = some (.code (yN 146) (mC 146) (mL 146) (mR 146)) := rfl
set_option maxRecDepth 20000 in
theorem cw147 : (tb 8)[0]? = some (.code (yN 147) (mC 147) (mL 147) (mR 147)) := rfl
set_option maxRecDepth 20000 in
theorem cw148 : (tb 7)[236]? = some (.code (yN 148) (mC 148) (mL 148) (mR 148)) := rfl
set_option maxRecDepth 20000 in
theorem cw149 : (tb 8)[4]? = some (.code (yN 149) (mC 149) (mL 149) (mR 149)) := rfl
set_option maxRecDepth 20000 in
theorem cw150 : (tb 8)[8]? = some (.code (yN 150) (mC 150) (mL 150) (mR 150)) := rfl
set_option maxRecDepth 20000 in
theorem cw151 : (tb 8)[12]? = some (.code (yN 151) (mC 151) (mL 151) (mR 151)) := rfl
set_option maxRecDepth 20000 in
theorem cw152 : (tb 8)[20]? = some (.code (yN 152) (mC 152) (mL 152) (mR 152)) := rfl
set_option maxRecDepth 20000 in
theorem cw153 : (tb 8)[32]? = some (.code (yN 153) (mC 153) (mL 153) (mR 153)) := rfl
set_option maxRecDepth 20000 in
theorem cw154 : (tb 8)[24]? = some (.code (yN 154) (mC 154) (mL 154) (mR 154)) := rfl
set_option maxRecDepth 20000 in
theorem cw155 : (tb 8)[28]? = some (.code (yN 155) (mC 155) (mL 155) (mR 155)) := rfl
set_option maxRecDepth 20000 in
theorem cw156 : (tb 8)[40]? = some (.code (yN 156) (mC 156) (mL 156) (mR 156)) := rfl
set_option maxRecDepth 20000 in
theorem cw157 : (tb 8)[16]? = some (.code (yN 157) (mC 157) (mL 157) (mR 157)) := rfl
set_option maxRecDepth 20000 in
theorem cw158 : (tb 8)[36]? = some (.code (yN 158) (mC 158) (mL 158) (mR 158)) := rfl
set_option maxRecDepth 20000 in
theorem cw159 : (tb 8)[44]? = some (.code (yN 159) (mC 159) (mL 159) (mR 159)) := rfl
set_option maxRecDepth 20000 in
theorem cw160 : (tb 2)[163]? = some (.code (yN 160) (mC 160) (mL 160) (mR 160)) := rfl
set_option maxRecDepth 20000 in
theorem cw161 : (tb 3)[123]? = some (.code (yN 161) (mC 161) (mL 161) (mR 161)) := rfl
set_option maxRecDepth 20000 in
theorem cw162 : (tb 3)[165]? = some (.code (yN 162) (mC 162) (mL 162) (mR 162)) := rfl
set_option maxRecDepth 20000 in
theorem cw163 : (tb 3)[102]? = some (.code (yN 163) (mC 163) (mL 163) (mR 163)) := rfl
set_option maxRecDepth 20000 in
theorem cw164 : (tb 3)[119]? = some (.code (yN 164) (mC 164) (mL 164) (mR 164)) := rfl
set_option maxRecDepth 20000 in
theorem cw165 : (tb 3)[217]? = some (.code (yN 165) (mC 165) (mL 165) (mR 165)) := rfl
set_option maxRecDepth 20000 in
theorem cw166 : (tb 3)[131]? = some (.code (yN 166) (mC 166) (mL 166) (mR 166)) := rfl
set_option maxRecDepth 20000 in
theorem cw167 : (tb 3)[173]? = some (.code (yN 167) (mC 167) (mL 167) (mR 167)) := rfl
set_option maxRecDepth 20000 in
theorem cw168 : (tb 3)[182]? = some (.code (yN 168) (mC 168) (mL 168) (mR 168)) := rfl
set_option maxRecDepth 20000 in
theorem cw169 : (tb 3)[177]? = some (.code (yN 169) (mC 169) (mL 169) (mR 169)) := rfl
set_option maxRecDepth 20000 in
theorem cw170 : (tb 3)[169]? = some (.code (yN 170) (mC 170) (mL 170) (mR 170)) := rfl
set_option maxRecDepth 20000 in
theorem cw171 : (tb 4)[21]? = some (.code (yN 171) (mC 171) (mL 171) (mR 171)) := rfl
set_option maxRecDepth 20000 in
theorem cw172 : (tb 4)[138]? = some (.code (yN 172) (mC 172) (mL 172) (mR 172)) := rfl
set_option maxRecDepth 20000 in
theorem cw173 : (tb 2)[159]? = some (.code (yN 173) (mC 173) (mL 173) (mR 173)) := rfl
set_option maxRecDepth 20000 in
theorem cw174 : (tb 3)[115]? = some (.code (yN 174) (mC 174) (mL 174) (mR 174)) := rfl
set_option maxRecDepth 20000 in
theorem cw175 : (tb 3)[127]? = some (.code (yN 175) (mC 175) (mL 175) (mR 175)) := rfl
set_option maxRecDepth 20000 in
theorem cw176 : (tb 3)[142]? = some (.code (yN 176) (mC 176) (mL 176) (mR 176)) := rfl
set_option maxRecDepth 20000 in
theorem cw177 : (tb 3)[230]? = some (.code (yN 177) (mC 177) (mL 177) (mR 177)) := rfl
set_option maxRecDepth 20000 in
theorem cw178 : (tb 3)[204]? = some (.code (yN 178) (mC 178) (mL 178) (mR 178)) := rfl
set_option maxRecDepth 20000 in
theorem cw179 : (tb 3)[208]? = some (.code (yN 179) (mC 179) (mL 179) (mR 179)) := rfl
set_option maxRecDepth 20000 in
theorem cw180 : (tb 3)[221]? = some (.code (yN 180) (mC 180) (mL 180) (mR 180)) := rfl
set_option maxRecDepth 20000 in
theorem cw181 : (tb 3)[190]? = some (.code (yN 181) (mC 181) (mL 181) (mR 181)) := rfl
set_option maxRecDepth 20000 in
theorem cw182 : (tb 3)[213]? = some (.code (yN 182) (mC 182) (mL 182) (mR 182)) := rfl
set_option maxRecDepth 20000 in
theorem cw183 : (tb 3)[196]? = some (.code (yN 183) (mC 183) (mL 183) (mR 183)) := rfl
set_option maxRecDepth 20000 in
theorem cw184 : (tb 4)[0]? = some (.code (yN 184) (mC 184) (mL 184) (mR 184)) := rfl
set_option maxRecDepth 20000 in
theorem cw185 : (tb 4)[9]? = some (.code (yN 185) (mC 185) (mL 185) (mR 185)) := rfl
set_option maxRecDepth 20000 in
theorem cw186 : (tb 2)[231]? = some (.code (yN 186) (mC 186) (mL 186) (mR 186)) := rfl
set_option maxRecDepth 20000 in
theorem cw187 : (tb 3)[87]? = some (.code (yN 187) (mC 187) (mL 187) (mR 187)) := rfl
set_option maxRecDepth 20000 in
theorem cw188 : (tb 4)[116]? = some (.code (yN 188) (mC 188) (mL 188) (mR 188)) := rfl
set_option maxRecDepth 20000 in
theorem cw189 : (tb 4)[74]? = some (.code (yN 189) (mC 189) (mL 189) (mR 189)) := rfl
set_option maxRecDepth 20000 in
theorem cw190 : (tb 4)[78]? = some (.code (yN 190) (mC 190) (mL 190) (mR 190)) := rfl
set_option maxRecDepth 20000 in
theorem cw191 : (tb 3)[83]? = some (.code (yN 191) (mC 191) (mL 191) (mR 191)) := rfl
set_option maxRecDepth 20000 in
theorem cw192 : (tb 3)[91]? = some (.code (yN 192) (mC 192) (mL 192) (mR 192)) := rfl
set_option maxRecDepth 20000 in
theorem cw193 : (tb 3)[75]? = some (.code (yN 193) (mC 193) (mL 193) (mR 193)) := rfl
set_option maxRecDepth 20000 in
theorem cw194 : (tb 4)[226]? = some (.code (yN 194) (mC 194) (mL 194) (mR 194)) := rfl
set_option maxRecDepth 20000 in
theorem cw195 : (tb 4)[229]? = some (.code (yN 195) (mC 195) (mL 195) (mR 195)) := rfl
set_option maxRecDepth 20000 in
theorem cw196 : (tb 4)[163]? = some (.code (yN 196) (mC 196) (mL 196) (mR 196)) := rfl
set_option maxRecDepth 20000 in
theorem cw197 : (tb 4)[169]? = some (.code (yN 197) (mC 197) (mL 197) (mR 197)) := rfl
set_option maxRecDepth 20000 in
theorem cw198 : (tb 4)[178]? = some (.code (yN 198) (mC 198) (mL 198) (mR 198)) := rfl
set_option maxRecDepth 20000 in
theorem cw199 : (tb 4)[183]? = some (.code (yN 199) (mC 199) (mL 199) (mR 199)) := rfl
set_option maxRecDepth 20000 in
theorem cw200 : (tb 4)[196]? = some (.code (yN 200) (mC 200) (mL 200) (mR 200)) := rfl
set_option maxRecDepth 20000 in
theorem cw201 : (tb 4)[205]? = some (.code (yN 201) (mC 201) (mL 201) (mR 201)) := rfl
set_option maxRecDepth 20000 in
theorem cw202 : (tb 4)[200]? = some (.code (yN 202) (mC 202) (mL 202) (mR 202)) := rfl
set_option maxRecDepth 20000 in
theorem cw203 : (tb 4)[213]? = some (.code (yN 203) (mC 203) (mL 203) (mR 203)) := rfl
set_option maxRecDepth 20000 in
theorem cw204 : (tb 4)[218]? = some (.code (yN 204) (mC 204) (mL 204) (mR 204)) := rfl
set_option maxRecDepth 20000 in
theorem cw205 : (tb 5)[48]? = some (.code (yN 205) (mC 205) (mL 205) (mR 205)) := rfl
set_option maxRecDepth 20000 in
theorem cw206 : (tb 5)[52]? = some (.code (yN 206) (mC 206) (mL 206) (mR 206)) := rfl
set_option maxRecDepth 20000 in
theorem cw207 : (tb 5)[19]? = some (.code (yN 207) (mC 207) (mL 207) (mR 207)) := rfl
set_option maxRecDepth 20000 in
theorem cw208 : (tb 5)[43]? = some (.code (yN 208) (mC 208) (mL 208) (mR 208)) := rfl
set_option maxRecDepth 20000 in
theorem cw209 : (tb 5)[55]? = some (.code (yN 209) (mC 209) (mL 209) (mR 209)) := rfl
set_option maxRecDepth 20000 in
theorem cw210 : (tb 5)[7]? = some (.code (yN 210) (mC 210) (mL 210) (mR 210)) := rfl
set_option maxRecDepth 20000 in
theorem cw211 : (tb 5)[11]? = some (.code (yN 211) (mC 211) (mL 211) (mR 211)) := rfl
set_option maxRecDepth 20000 in
theorem cw212 : (tb 5)[15]? = some (.code (yN 212) (mC 212) (mL 212) (mR 212)) := rfl
set_option maxRecDepth 20000 in
theorem cw213 : (tb 5)[25]? = some (.code (yN 213) (mC 213) (mL 213) (mR 213)) := rfl
set_option maxRecDepth 20000 in
theorem cw214 : (tb 5)[39]? = some (.code (yN 214) (mC 214) (mL 214) (mR 214)) := rfl
set_option maxRecDepth 20000 in
theorem cw215 : (tb 5)[61]? = some (.code (yN 215) (mC 215) (mL 215) (mR 215)) := rfl
set_option maxRecDepth 20000 in
theorem cw216 : (tb 5)[70]? = some (.code (yN 216) (mC 216) (mL 216) (mR 216)) := rfl
set_option maxRecDepth 20000 in
theorem cw217 : (tb 5)[74]? = some (.code (yN 217) (mC 217) (mL 217) (mR 217)) := rfl
set_option maxRecDepth 20000 in
theorem cw218 : (tb 5)[65]? = some (.code (yN 218) (mC 218) (mL 218) (mR 218)) := rfl
set_option maxRecDepth 20000 in
theorem cw219 : (tb 5)[83]? = some (.code (yN 219) (mC 219) (mL 219) (mR 219)) := rfl
set_option maxRecDepth 20000 in
theorem cw220 : (tb 3)[27]? = some (.code (yN 220) (mC 220) (mL 220) (mR 220)) := rfl
set_option maxRecDepth 20000 in
theorem cw221 : (tb 3)[11]? = some (.code (yN 221) (mC 221) (mL 221) (mR 221)) := rfl
set_option maxRecDepth 20000 in
theorem cw222 : (tb 3)[3]? = some (.code (yN 222) (mC 222) (mL 222) (mR 222)) := rfl
set_option maxRecDepth 20000 in
theorem cw223 : (tb 2)[239]? = some (.code (yN 223) (mC 223) (mL 223) (mR 223)) := rfl
set_option maxRecDepth 20000 in
theorem cw224 : (tb 4)[234]? = some (.code (yN 224) (mC 224) (mL 224) (mR 224)) := rfl
set_option maxRecDepth 20000 in
theorem cw225 : (tb 3)[152]? = some (.code (yN 225) (mC 225) (mL 225) (mR 225)) := rfl
set_option maxRecDepth 20000 in
theorem cw226 : (tb 5)[31]? = some (.code (yN 226) (mC 226) (mL 226) (mR 226)) := rfl
set_option maxRecDepth 20000 in
theorem cw227 : (tb 3)[23]? = some (.code (yN 227) (mC 227) (mL 227) (mR 227)) := rfl
set_option maxRecDepth 20000 in
theorem cw228 : (tb 4)[90]? = some (.code (yN 228) (mC 228) (mL 228) (mR 228)) := rfl
set_option maxRecDepth 20000 in
theorem cw229 : (tb 4)[95]? = some (.code (yN 229) (mC 229) (mL 229) (mR 229)) := rfl
set_option maxRecDepth 20000 in
theorem cw230 : (tb 4)[104]? = some (.code (yN 230) (mC 230) (mL 230) (mR 230)) := rfl
set_option maxRecDepth 20000 in
theorem cw231 : (tb 4)[112]? = some (.code (yN 231) (mC 231) (mL 231) (mR 231)) := rfl
set_option maxRecDepth 20000 in
theorem cw232 : (tb 4)[99]? = some (.code (yN 232) (mC 232) (mL 232) (mR 232)) := rfl
set_option maxRecDepth 20000 in
theorem cw233 : (tb 4)[107]? = some (.code (yN 233) (mC 233) (mL 233) (mR 233)) := rfl
set_option maxRecDepth 20000 in
theorem cw234 : (tb 2)[227]? = some (.code (yN 234) (mC 234) (mL 234) (mR 234)) := rfl
set_option maxRecDepth 20000 in
theorem cw235 : (tb 2)[113]? = some (.code (yN 235) (mC 235) (mL 235) (mR 235)) := rfl
set_option maxRecDepth 20000 in
theorem cw236 : (tb 2)[109]? = some (.code (yN 236) (mC 236) (mL 236) (mR 236)) := rfl
set_option maxRecDepth 20000 in
theorem cw237 : (tb 2)[155]? = some (.code (yN 237) (mC 237) (mL 237) (mR 237)) := rfl
set_option maxRecDepth 20000 in
theorem cw238 : (tb 3)[110]? = some (.code (yN 238) (mC 238) (mL 238) (mR 238)) := rfl
set_option maxRecDepth 20000 in
theorem cw239 : (tb 3)[38]? = some (.code (yN 239) (mC 239) (mL 239) (mR 239)) := rfl
set_option maxRecDepth 20000 in
theorem cw240 : (tb 3)[42]? = some (.code (yN 240) (mC 240) (mL 240) (mR 240)) := rfl
set_option maxRecDepth 20000 in
theorem cw241 : (tb 3)[53]? = some (.code (yN 241) (mC 241) (mL 241) (mR 241)) := rfl
set_option maxRecDepth 20000 in
theorem cw242 : (tb 3)[64]? = some (.code (yN 242) (mC 242) (mL 242) (mR 242)) := rfl
set_option maxRecDepth 20000 in
theorem cw243 : (tb 4)[36]? = some (.code (yN 243) (mC 243) (mL 243) (mR 243)) := rfl
set_option maxRecDepth 20000 in
theorem cw244 : (tb 4)[40]? = some (.code (yN 244) (mC 244) (mL 244) (mR 244)) := rfl
set_option maxRecDepth 20000 in
theorem cw245 : (tb 4)[45]? = some (.code (yN 245) (mC 245) (mL 245) (mR 245)) := rfl
set_option maxRecDepth 20000 in
theorem cw246 : (tb 4)[49]? = some (.code (yN 246) (mC 246) (mL 246) (mR 246)) := rfl
set_option maxRecDepth 20000 in
theorem cw247 : (tb 4)[54]? = some (.code (yN 247) (mC 247) (mL 247) (mR 247)) := rfl
set_option maxRecDepth 20000 in
theorem cw248 : (tb 4)[65]? = some (.code (yN 248) (mC 248) (mL 248) (mR 248)) := rfl
set_option maxRecDepth 20000 in
theorem cw249 : (tb 4)[60]? = some (.code (yN 249) (mC 249) (mL 249) (mR 249)) := rfl
set_option maxRecDepth 20000 in
theorem cw250 : (tb 4)[69]? = some (.code (yN 250) (mC 250) (mL 250) (mR 250)) := rfl
set_option maxRecDepth 20000 in
theorem cw251 : (tb 2)[148]? = some (.code (yN 251) (mC 251) (mL 251) (mR 251)) := rfl
set_option maxRecDepth 20000 in
theorem cw252 : (tb 2)[105]? = some (.code (yN 252) (mC 252) (mL 252) (mR 252)) := rfl
set_option maxRecDepth 20000 in
theorem cw253 : (tb 2)[117]? = some (.code (yN 253) (mC 253) (mL 253) (mR 253)) := rfl
set_option maxRecDepth 20000 in
theorem cw254 : (tb 2)[129]? = some (.code (yN 254) (mC 254) (mL 254) (mR 254)) := rfl
set_option maxRecDepth 20000 in
theorem cw255 : (tb 2)[133]? = some (.code (yN 255) (mC 255) (mL 255) (mR 255)) := rfl
set_option maxRecDepth 20000 in
theorem cw256 : (tb 2)[144]? = some (.code (yN 256) (mC 256) (mL 256) (mR 256)) := rfl
set_option maxRecDepth 20000 in
theorem cw257 : (tb 3)[49]? = some (.code (yN 257) (mC 257) (mL 257) (mR 257)) := rfl
set_option maxRecDepth 20000 in
theorem cw258 : (tb 2)[140]? = some (.code (yN 258) (mC 258) (mL 258) (mR 258)) := rfl
set_option maxRecDepth 20000 in
theorem cw259 : (tb 2)[120]? = some (.code (yN 259) (mC 259) (mL 259) (mR 259)) := rfl
set_option maxRecDepth 20000 in
theorem cw260 : (tb 3)[79]? = some (.code (yN 260) (mC 260) (mL 260) (mR 260)) := rfl
set_option maxRecDepth 20000 in
theorem cw261 : (tb 2)[151]? = some (.code (yN 261) (mC 261) (mL 261) (mR 261)) := rfl
set_option maxRecDepth 20000 in
theorem cw262 : (tb 3)[30]? = some (.code (yN 262) (mC 262) (mL 262) (mR 262)) := rfl
set_option maxRecDepth 20000 in
theorem cw263 : (tb 2)[123]? = some (.code (yN 263) (mC 263) (mL 263) (mR 263)) := rfl
set_option maxRecDepth 20000 in
theorem cw264 : (tb 3)[71]? = some (.code (yN 264) (mC 264) (mL 264) (mR 264)) := rfl
def cwP (k : Nat) : Prop := Cond.code (yN k) (mC k) (mL k) (mR k) ∈ lw_tbl
theorem tb_0 {w : Cond} (h : w ∈ tb 0) : w ∈ lw_tbl := List.mem_append_left _ h
theorem tb_1 {w : Cond} (h : w ∈ tb 1) : w ∈ lw_tbl := List.mem_append_right _ (List.mem_append_left _ h)
theorem tb_2 {w : Cond} (h : w ∈ tb 2) : w ∈ lw_tbl := List.mem_append_right _ (List.mem_append_right _ (List.mem_append_left _ h))
theorem tb_3 {w : Cond} (h : w ∈ tb 3) : w ∈ lw_tbl := List.mem_append_right _ (List.mem_append_right _ (List.mem_append_right _ (List.mem_append_left _ h)))
theorem tb_4 {w : Cond} (h : w ∈ tb 4) : w ∈ lw_tbl := List.mem_append_right _ (List.mem_append_right _ (List.mem_append_right _ (List.mem_append_right _ (List.mem_append_left _ h))))
theorem tb_5 {w : Cond} (h : w ∈ tb 5) : w ∈ lw_tbl := List.mem_append_right _ (List.mem_append_right _ (List.mem_append_right _ (List.mem_append_right _ (List.mem_append_right _ (List.mem_append_left _ h)))))
theorem tb_6 {w : Cond} (h : w ∈ tb 6) : w ∈ lw_tbl := List.mem_append_right _ (List.mem_append_right _ (List.mem_append_right _ (List.mem_append_right _ (List.mem_append_right _ (List.mem_append_right _ (List.mem_append_left _ h))))))
theorem tb_7 {w : Cond} (h : w ∈ tb 7) : w ∈ lw_tbl := List.mem_append_right _ (List.mem_append_right _ (List.mem_append_right _ (List.mem_append_right _ (List.mem_append_right _ (List.mem_append_right _ (List.mem_append_right _ (List.mem_append_left _ h)))))))
theorem tb_8 {w : Cond} (h : w ∈ tb 8) : w ∈ lw_tbl := List.mem_append_right _ (List.mem_append_right _ (List.mem_append_right _ (List.mem_append_right _ (List.mem_append_right _ (List.mem_append_right _ (List.mem_append_right _ (List.mem_append_right _ (h))))))))
theorem cwA_0 : ∀ k, k < 45 → cwP (k + 0)
  | 0, _ => tb_2 (List.mem_of_getElem? cw0)
  | 1, _ => tb_2 (List.mem_of_getElem? cw1)
  | 2, _ => tb_3 (List.mem_of_getElem? cw2)
  | 3, _ => tb_3 (List.mem_of_getElem? cw3)
  | 4, _ => tb_3 (List.mem_of_getElem? cw4)
  | 5, _ => tb_3 (List.mem_of_getElem? cw5)
  | 6, _ => tb_3 (List.mem_of_getElem? cw6)
  | 7, _ => tb_3 (List.mem_of_getElem? cw7)
  | 8, _ => tb_3 (List.mem_of_getElem? cw8)
  | 9, _ => tb_3 (List.mem_of_getElem? cw9)
  | 10, _ => tb_3 (List.mem_of_getElem? cw10)
  | 11, _ => tb_3 (List.mem_of_getElem? cw11)
  | 12, _ => tb_3 (List.mem_of_getElem? cw12)
  | 13, _ => tb_3 (List.mem_of_getElem? cw13)
  | 14, _ => tb_3 (List.mem_of_getElem? cw14)
  | 15, _ => tb_3 (List.mem_of_getElem? cw15)
  | 16, _ => tb_3 (List.mem_of_getElem? cw16)
  | 17, _ => tb_4 (List.mem_of_getElem? cw17)
  | 18, _ => tb_3 (List.mem_of_getElem? cw18)
  | 19, _ => tb_4 (List.mem_of_getElem? cw19)
  | 20, _ => tb_4 (List.mem_of_getElem? cw20)
  | 21, _ => tb_4 (List.mem_of_getElem? cw21)
  | 22, _ => tb_4 (List.mem_of_getElem? cw22)
  | 23, _ => tb_4 (List.mem_of_getElem? cw23)
  | 24, _ => tb_4 (List.mem_of_getElem? cw24)
  | 25, _ => tb_4 (List.mem_of_getElem? cw25)
  | 26, _ => tb_4 (List.mem_of_getElem? cw26)
  | 27, _ => tb_4 (List.mem_of_getElem? cw27)
  | 28, _ => tb_4 (List.mem_of_getElem? cw28)
  | 29, _ => tb_4 (List.mem_of_getElem? cw29)
  | 30, _ => tb_4 (List.mem_of_getElem? cw30)
  | 31, _ => tb_4 (List.mem_of_getElem? cw31)
  | 32, _ => tb_4 (List.mem_of_getElem? cw32)
  | 33, _ => tb_4 (List.mem_of_getElem? cw33)
  | 34, _ => tb_4 (List.mem_of_getElem? cw34)
  | 35, _ => tb_4 (List.mem_of_getElem? cw35)
  | 36, _ => tb_4 (List.mem_of_getElem? cw36)
  | 37, _ => tb_5 (List.mem_of_getElem? cw37)
  | 38, _ => tb_5 (List.mem_of_getElem? cw38)
  | 39, _ => tb_5 (List.mem_of_getElem? cw39)
  | 40, _ => tb_5 (List.mem_of_getElem? cw40)
  | 41, _ => tb_4 (List.mem_of_getElem? cw41)
  | 42, _ => tb_4 (List.mem_of_getElem? cw42)
  | 43, _ => tb_5 (List.mem_of_getElem? cw43)
  | 44, _ => tb_5 (List.mem_of_getElem? cw44)
  | k + 45, h => absurd h (by omega)
theorem cwA_45 : ∀ k, k < 45 → cwP (k + 45)
  | 0, _ => tb_5 (List.mem_of_getElem? cw45)
  | 1, _ => tb_5 (List.mem_of_getElem? cw46)
  | 2, _ => tb_6 (List.mem_of_getElem? cw47)
  | 3, _ => tb_6 (List.mem_of_getElem? cw48)
  | 4, _ => tb_5 (List.mem_of_getElem? cw49)
  | 5, _ => tb_6 (List.mem_of_getElem? cw50)
  | 6, _ => tb_6 (List.mem_of_getElem? cw51)
  | 7, _ => tb_6 (List.mem_of_getElem? cw52)
  | 8, _ => tb_6 (List.mem_of_getElem? cw53)
  | 9, _ => tb_6 (List.mem_of_getElem? cw54)
  | 10, _ => tb_5 (List.mem_of_getElem? cw55)
  | 11, _ => tb_5 (List.mem_of_getElem? cw56)
  | 12, _ => tb_5 (List.mem_of_getElem? cw57)
  | 13, _ => tb_6 (List.mem_of_getElem? cw58)
  | 14, _ => tb_5 (List.mem_of_getElem? cw59)
  | 15, _ => tb_5 (List.mem_of_getElem? cw60)
  | 16, _ => tb_6 (List.mem_of_getElem? cw61)
  | 17, _ => tb_6 (List.mem_of_getElem? cw62)
  | 18, _ => tb_6 (List.mem_of_getElem? cw63)
  | 19, _ => tb_6 (List.mem_of_getElem? cw64)
  | 20, _ => tb_6 (List.mem_of_getElem? cw65)
  | 21, _ => tb_6 (List.mem_of_getElem? cw66)
  | 22, _ => tb_6 (List.mem_of_getElem? cw67)
  | 23, _ => tb_6 (List.mem_of_getElem? cw68)
  | 24, _ => tb_7 (List.mem_of_getElem? cw69)
  | 25, _ => tb_6 (List.mem_of_getElem? cw70)
  | 26, _ => tb_6 (List.mem_of_getElem? cw71)
  | 27, _ => tb_7 (List.mem_of_getElem? cw72)
  | 28, _ => tb_7 (List.mem_of_getElem? cw73)
  | 29, _ => tb_7 (List.mem_of_getElem? cw74)
  | 30, _ => tb_7 (List.mem_of_getElem? cw75)
  | 31, _ => tb_7 (List.mem_of_getElem? cw76)
  | 32, _ => tb_7 (List.mem_of_getElem? cw77)
  | 33, _ => tb_6 (List.mem_of_getElem? cw78)
  | 34, _ => tb_6 (List.mem_of_getElem? cw79)
  | 35, _ => tb_6 (List.mem_of_getElem? cw80)
  | 36, _ => tb_6 (List.mem_of_getElem? cw81)
  | 37, _ => tb_6 (List.mem_of_getElem? cw82)
  | 38, _ => tb_6 (List.mem_of_getElem? cw83)
  | 39, _ => tb_6 (List.mem_of_getElem? cw84)
  | 40, _ => tb_6 (List.mem_of_getElem? cw85)
  | 41, _ => tb_6 (List.mem_of_getElem? cw86)
  | 42, _ => tb_6 (List.mem_of_getElem? cw87)
  | 43, _ => tb_6 (List.mem_of_getElem? cw88)
  | 44, _ => tb_6 (List.mem_of_getElem? cw89)
  | k + 45, h => absurd h (by omega)
theorem cwA_90 : ∀ k, k < 45 → cwP (k + 90)
  | 0, _ => tb_6 (List.mem_of_getElem? cw90)
  | 1, _ => tb_6 (List.mem_of_getElem? cw91)
  | 2, _ => tb_6 (List.mem_of_getElem? cw92)
  | 3, _ => tb_6 (List.mem_of_getElem? cw93)
  | 4, _ => tb_7 (List.mem_of_getElem? cw94)
  | 5, _ => tb_7 (List.mem_of_getElem? cw95)
  | 6, _ => tb_7 (List.mem_of_getElem? cw96)
  | 7, _ => tb_7 (List.mem_of_getElem? cw97)
  | 8, _ => tb_7 (List.mem_of_getElem? cw98)
  | 9, _ => tb_7 (List.mem_of_getElem? cw99)
  | 10, _ => tb_7 (List.mem_of_getElem? cw100)
  | 11, _ => tb_7 (List.mem_of_getElem? cw101)
  | 12, _ => tb_7 (List.mem_of_getElem? cw102)
  | 13, _ => tb_7 (List.mem_of_getElem? cw103)
  | 14, _ => tb_7 (List.mem_of_getElem? cw104)
  | 15, _ => tb_7 (List.mem_of_getElem? cw105)
  | 16, _ => tb_7 (List.mem_of_getElem? cw106)
  | 17, _ => tb_7 (List.mem_of_getElem? cw107)
  | 18, _ => tb_7 (List.mem_of_getElem? cw108)
  | 19, _ => tb_7 (List.mem_of_getElem? cw109)
  | 20, _ => tb_7 (List.mem_of_getElem? cw110)
  | 21, _ => tb_7 (List.mem_of_getElem? cw111)
  | 22, _ => tb_7 (List.mem_of_getElem? cw112)
  | 23, _ => tb_7 (List.mem_of_getElem? cw113)
  | 24, _ => tb_7 (List.mem_of_getElem? cw114)
  | 25, _ => tb_7 (List.mem_of_getElem? cw115)
  | 26, _ => tb_7 (List.mem_of_getElem? cw116)
  | 27, _ => tb_7 (List.mem_of_getElem? cw117)
  | 28, _ => tb_7 (List.mem_of_getElem? cw118)
  | 29, _ => tb_7 (List.mem_of_getElem? cw119)
  | 30, _ => tb_7 (List.mem_of_getElem? cw120)
  | 31, _ => tb_7 (List.mem_of_getElem? cw121)
  | 32, _ => tb_7 (List.mem_of_getElem? cw122)
  | 33, _ => tb_7 (List.mem_of_getElem? cw123)
  | 34, _ => tb_7 (List.mem_of_getElem? cw124)
  | 35, _ => tb_7 (List.mem_of_getElem? cw125)
  | 36, _ => tb_7 (List.mem_of_getElem? cw126)
  | 37, _ => tb_7 (List.mem_of_getElem? cw127)
  | 38, _ => tb_7 (List.mem_of_getElem? cw128)
  | 39, _ => tb_7 (List.mem_of_getElem? cw129)
  | 40, _ => tb_7 (List.mem_of_getElem? cw130)
  | 41, _ => tb_7 (List.mem_of_getElem? cw131)
  | 42, _ => tb_7 (List.mem_of_getElem? cw132)
  | 43, _ => tb_7 (List.mem_of_getElem? cw133)
  | 44, _ => tb_7 (List.mem_of_getElem? cw134)
  | k + 45, h => absurd h (by omega)
theorem cwA_135 : ∀ k, k < 45 → cwP (k + 135)
  | 0, _ => tb_7 (List.mem_of_getElem? cw135)
  | 1, _ => tb_7 (List.mem_of_getElem? cw136)
  | 2, _ => tb_7 (List.mem_of_getElem? cw137)
  | 3, _ => tb_7 (List.mem_of_getElem? cw138)
  | 4, _ => tb_7 (List.mem_of_getElem? cw139)
  | 5, _ => tb_7 (List.mem_of_getElem? cw140)
  | 6, _ => tb_7 (List.mem_of_getElem? cw141)
  | 7, _ => tb_7 (List.mem_of_getElem? cw142)
  | 8, _ => tb_7 (List.mem_of_getElem? cw143)
  | 9, _ => tb_7 (List.mem_of_getElem? cw144)
  | 10, _ => tb_7 (List.mem_of_getElem? cw145)
  | 11, _ => tb_6 (List.mem_of_getElem? cw146)
  | 12, _ => tb_8 (List.mem_of_getElem? cw147)
  | 13, _ => tb_7 (List.mem_of_getElem? cw148)
  | 14, _ => tb_8 (List.mem_of_getElem? cw149)
  | 15, _ => tb_8 (List.mem_of_getElem? cw150)
  | 16, _ => tb_8 (List.mem_of_getElem? cw151)
  | 17, _ => tb_8 (List.mem_of_getElem? cw152)
  | 18, _ => tb_8 (List.mem_of_getElem? cw153)
  | 19, _ => tb_8 (List.mem_of_getElem? cw154)
  | 20, _ => tb_8 (List.mem_of_getElem? cw155)
  | 21, _ => tb_8 (List.mem_of_getElem? cw156)
  | 22, _ => tb_8 (List.mem_of_getElem? cw157)
  | 23, _ => tb_8 (List.mem_of_getElem? cw158)
  | 24, _ => tb_8 (List.mem_of_getElem? cw159)
  | 25, _ => tb_2 (List.mem_of_getElem? cw160)
  | 26, _ => tb_3 (List.mem_of_getElem? cw161)
  | 27, _ => tb_3 (List.mem_of_getElem? cw162)
  | 28, _ => tb_3 (List.mem_of_getElem? cw163)
  | 29, _ => tb_3 (List.mem_of_getElem? cw164)
  | 30, _ => tb_3 (List.mem_of_getElem? cw165)
  | 31, _ => tb_3 (List.mem_of_getElem? cw166)
  | 32, _ => tb_3 (List.mem_of_getElem? cw167)
  | 33, _ => tb_3 (List.mem_of_getElem? cw168)
  | 34, _ => tb_3 (List.mem_of_getElem? cw169)
  | 35, _ => tb_3 (List.mem_of_getElem? cw170)
  | 36, _ => tb_4 (List.mem_of_getElem? cw171)
  | 37, _ => tb_4 (List.mem_of_getElem? cw172)
  | 38, _ => tb_2 (List.mem_of_getElem? cw173)
  | 39, _ => tb_3 (List.mem_of_getElem? cw174)
  | 40, _ => tb_3 (List.mem_of_getElem? cw175)
  | 41, _ => tb_3 (List.mem_of_getElem? cw176)
  | 42, _ => tb_3 (List.mem_of_getElem? cw177)
  | 43, _ => tb_3 (List.mem_of_getElem? cw178)
  | 44, _ => tb_3 (List.mem_of_getElem? cw179)
  | k + 45, h => absurd h (by omega)
theorem cwA_180 : ∀ k, k < 45 → cwP (k + 180)
  | 0, _ => tb_3 (List.mem_of_getElem? cw180)
  | 1, _ => tb_3 (List.mem_of_getElem? cw181)
  | 2, _ => tb_3 (List.mem_of_getElem? cw182)
  | 3, _ => tb_3 (List.mem_of_getElem? cw183)
  | 4, _ => tb_4 (List.mem_of_getElem? cw184)
  | 5, _ => tb_4 (List.mem_of_getElem? cw185)
  | 6, _ => tb_2 (List.mem_of_getElem? cw186)
  | 7, _ => tb_3 (List.mem_of_getElem? cw187)
  | 8, _ => tb_4 (List.mem_of_getElem? cw188)
  | 9, _ => tb_4 (List.mem_of_getElem? cw189)
  | 10, _ => tb_4 (List.mem_of_getElem? cw190)
  | 11, _ => tb_3 (List.mem_of_getElem? cw191)
  | 12, _ => tb_3 (List.mem_of_getElem? cw192)
  | 13, _ => tb_3 (List.mem_of_getElem? cw193)
  | 14, _ => tb_4 (List.mem_of_getElem? cw194)
  | 15, _ => tb_4 (List.mem_of_getElem? cw195)
  | 16, _ => tb_4 (List.mem_of_getElem? cw196)
  | 17, _ => tb_4 (List.mem_of_getElem? cw197)
  | 18, _ => tb_4 (List.mem_of_getElem? cw198)
  | 19, _ => tb_4 (List.mem_of_getElem? cw199)
  | 20, _ => tb_4 (List.mem_of_getElem? cw200)
  | 21, _ => tb_4 (List.mem_of_getElem? cw201)
  | 22, _ => tb_4 (List.mem_of_getElem? cw202)
  | 23, _ => tb_4 (List.mem_of_getElem? cw203)
  | 24, _ => tb_4 (List.mem_of_getElem? cw204)
  | 25, _ => tb_5 (List.mem_of_getElem? cw205)
  | 26, _ => tb_5 (List.mem_of_getElem? cw206)
  | 27, _ => tb_5 (List.mem_of_getElem? cw207)
  | 28, _ => tb_5 (List.mem_of_getElem? cw208)
  | 29, _ => tb_5 (List.mem_of_getElem? cw209)
  | 30, _ => tb_5 (List.mem_of_getElem? cw210)
  | 31, _ => tb_5 (List.mem_of_getElem? cw211)
  | 32, _ => tb_5 (List.mem_of_getElem? cw212)
  | 33, _ => tb_5 (List.mem_of_getElem? cw213)
  | 34, _ => tb_5 (List.mem_of_getElem? cw214)
  | 35, _ => tb_5 (List.mem_of_getElem? cw215)
  | 36, _ => tb_5 (List.mem_of_getElem? cw216)
  | 37, _ => tb_5 (List.mem_of_getElem? cw217)
  | 38, _ => tb_5 (List.mem_of_getElem? cw218)
  | 39, _ => tb_5 (List.mem_of_getElem? cw219)
  | 40, _ => tb_3 (List.mem_of_getElem? cw220)
  | 41, _ => tb_3 (List.mem_of_getElem? cw221)
  | 42, _ => tb_3 (List.mem_of_getElem? cw222)
  | 43, _ => tb_2 (List.mem_of_getElem? cw223)
  | 44, _ => tb_4 (List.mem_of_getElem? cw224)
  | k + 45, h => absurd h (by omega)
theorem cwA_225 : ∀ k, k < 40 → cwP (k + 225)
  | 0, _ => tb_3 (List.mem_of_getElem? cw225)
  | 1, _ => tb_5 (List.mem_of_getElem? cw226)
  | 2, _ => tb_3 (List.mem_of_getElem? cw227)
  | 3, _ => tb_4 (List.mem_of_getElem? cw228)
  | 4, _ => tb_4 (List.mem_of_getElem? cw229)
  | 5, _ => tb_4 (List.mem_of_getElem? cw230)
  | 6, _ => tb_4 (List.mem_of_getElem? cw231)
  | 7, _ => tb_4 (List.mem_of_getElem? cw232)
  | 8, _ => tb_4 (List.mem_of_getElem? cw233)
  | 9, _ => tb_2 (List.mem_of_getElem? cw234)
  | 10, _ => tb_2 (List.mem_of_getElem? cw235)
  | 11, _ => tb_2 (List.mem_of_getElem? cw236)
  | 12, _ => tb_2 (List.mem_of_getElem? cw237)
  | 13, _ => tb_3 (List.mem_of_getElem? cw238)
  | 14, _ => tb_3 (List.mem_of_getElem? cw239)
  | 15, _ => tb_3 (List.mem_of_getElem? cw240)
  | 16, _ => tb_3 (List.mem_of_getElem? cw241)
  | 17, _ => tb_3 (List.mem_of_getElem? cw242)
  | 18, _ => tb_4 (List.mem_of_getElem? cw243)
  | 19, _ => tb_4 (List.mem_of_getElem? cw244)
  | 20, _ => tb_4 (List.mem_of_getElem? cw245)
  | 21, _ => tb_4 (List.mem_of_getElem? cw246)
  | 22, _ => tb_4 (List.mem_of_getElem? cw247)
  | 23, _ => tb_4 (List.mem_of_getElem? cw248)
  | 24, _ => tb_4 (List.mem_of_getElem? cw249)
  | 25, _ => tb_4 (List.mem_of_getElem? cw250)
  | 26, _ => tb_2 (List.mem_of_getElem? cw251)
  | 27, _ => tb_2 (List.mem_of_getElem? cw252)
  | 28, _ => tb_2 (List.mem_of_getElem? cw253)
  | 29, _ => tb_2 (List.mem_of_getElem? cw254)
  | 30, _ => tb_2 (List.mem_of_getElem? cw255)
  | 31, _ => tb_2 (List.mem_of_getElem? cw256)
  | 32, _ => tb_3 (List.mem_of_getElem? cw257)
  | 33, _ => tb_2 (List.mem_of_getElem? cw258)
  | 34, _ => tb_2 (List.mem_of_getElem? cw259)
  | 35, _ => tb_3 (List.mem_of_getElem? cw260)
  | 36, _ => tb_2 (List.mem_of_getElem? cw261)
  | 37, _ => tb_3 (List.mem_of_getElem? cw262)
  | 38, _ => tb_2 (List.mem_of_getElem? cw263)
  | 39, _ => tb_3 (List.mem_of_getElem? cw264)
  | k + 40, h => absurd h (by omega)
theorem cwA (k : Nat) (h : k < NM) : cwP k := by
  have h : k < 265 := h
  by_cases h0 : k < 45
  · have e : k = (k - 0) + 0 := by omega
    rw [e]
    exact cwA_0 (k - 0) (by omega)
  by_cases h45 : k < 90
  · have e : k = (k - 45) + 45 := by omega
    rw [e]
    exact cwA_45 (k - 45) (by omega)
  by_cases h90 : k < 135
  · have e : k = (k - 90) + 90 := by omega
    rw [e]
    exact cwA_90 (k - 90) (by omega)
  by_cases h135 : k < 180
  · have e : k = (k - 135) + 135 := by omega
    rw [e]
    exact cwA_135 (k - 135) (by omega)
  by_cases h180 : k < 225
  · have e : k = (k - 180) + 180 := by omega
    rw [e]
    exact cwA_180 (k - 180) (by omega)
  by_cases h225 : k < 265
  · have e : k = (k - 225) + 225 := by omega
    rw [e]
    exact cwA_225 (k - 225) (by omega)
  omega
end
section
/-! the checker: a block's abstract instructions are what the bytes decode to -/
def ckC (c : Nat) (d : Nat) (v : Int) : Bool := CL.any (fun e => decide (e.1 = c) && decide (e.2.1 = d) && decide (e.2.2.1 = v))
def ckF (c d ci k : Nat) : Bool := FL.any (fun e => decide (e.1 = c) && decide (e.2.1 = d) && decide (e.2.2.1 = ci) && decide (e.2.2.2.1 = k))
def ckR (c d ci off : Nat) : Bool := FL.any (fun e => decide (e.1 = c) && decide (e.2.1 = d) && decide (e.2.2.1 = ci) && decide (fk ci e.2.2.2.1 = off))
def ckM (c d k : Nat) : Bool := ML.any (fun e => decide (e.1 = c) && decide (e.2.1 = d) && decide (e.2.2.1 = k))
def isI (v : Int) (c d : Nat) (i : Instr × Nat) : Bool := (decide (i = (.iconst v, 1)) && decide (-128 ≤ v) && decide (v ≤ 127)) || (decide (i = (.bipush v, 2)) && decide (-128 ≤ v) && decide (v ≤ 127)) || (decide (i = (.sipush v, 3)) && decide (-32768 ≤ v) && decide (v ≤ 32767)) || ((decide (i = (.ldc d, 2)) || decide (i = (.ldc_w d, 3))) && ckC c d v && decide (-2147483648 ≤ v) && decide (v ≤ 2147483647))
def f4 (a : Nat) : Fin 4 := Fin.ofNat 4 a
def ckI (c nL : Nat) (i : Instr × Nat) (t a b d : Nat) : Bool := match t with
  | 0 => isI (a : Int) c d i
  | 1 => isI (-(a : Int)) c d i
  | 2 => decide (i = (.iload a, 2)) || (decide (i = (.iload_n (f4 a), 1)) && decide (a < 4))
  | 37 => decide (i = (.aload a, 2)) || (decide (i = (.aload_n (f4 a), 1)) && decide (a < 4))
  | 3 => (decide (i = (.istore a, 2)) || (decide (i = (.istore_n (f4 a), 1)) && decide (a < 4))) && decide (a < nL)
  | 38 => (decide (i = (.astore a, 2)) || (decide (i = (.astore_n (f4 a), 1)) && decide (a < 4))) && decide (a < nL)
  | 4 => decide (i = (.iinc a (b : Int), 3)) && decide (a < nL) && decide (b < 128)
  | 5 => decide (i = (.iinc a (-(b : Int)), 3)) && decide (a < nL) && decide (b < 128)
  | 6 => decide (i = (.getfield d, 3)) && ckF c d a b && decide (fk a b = 0)
  | 7 => decide (i = (.getfield d, 3)) && ckR c d a b && decide (0 < b)
  | 8 => decide (i = (.putfield d, 3)) && ckF c d a b && decide (fk a b = 0) && decide ((cTy a) b = .int) && decide (((cT a) b).2.2.2 = false)
  | 9 => decide (i = (.putfield d, 3)) && ckF c d a b && decide (fk a b = 0) && decide ((cTy a) b = .boolean) && decide (((cT a) b).2.2.2 = false)
  | 10 => decide (i = (.iaload, 1))
  | 11 => decide (i = (.baload, 1))
  | 15 => decide (i = (.baload, 1))
  | 12 => decide (i = (.iastore, 1))
  | 13 => decide (i = (.bastore, 1))
  | 14 => decide (i = (.bastore, 1))
  | 16 => decide (i = (.arraylength, 1))
  | 17 => decide (i = (.iadd, 1))
  | 18 => decide (i = (.isub, 1))
  | 19 => decide (i = (.imul, 1))
  | 20 => decide (i = (.idiv, 1))
  | 21 => decide (i = (.irem, 1))
  | 22 => decide (i = (.iand, 1))
  | 23 => decide (i = (.ior, 1))
  | 24 => decide (i = (.ishl, 1))
  | 25 => decide (i = (.ishr, 1))
  | 26 => decide (i = (.i2b, 1))
  | 27 => decide (i = (.dup, 1))
  | 28 => decide (i = (.pop, 1))
  | 29 => decide (i = (.dup2, 1))
  | 30 => (if mS a then decide (i = (.invokestatic d, 3)) else decide (i = (.invokevirtual d, 3))) && ckM c d a && decide (a < NM) && decide ((parseMethodDescriptor (yN a).desc).map (fun s => s.parameters.length + (if mS a then 0 else 1)) = some b) && decide (mR a = none)
  | 31 => (if mS a then decide (i = (.invokestatic d, 3)) else decide (i = (.invokevirtual d, 3))) && ckM c d a && decide (a < NM) && decide ((parseMethodDescriptor (yN a).desc).map (fun s => s.parameters.length + (if mS a then 0 else 1)) = some b)
  | 32 => decide (i = (.invokestatic d, 3)) && ckM c d 1000
  | 33 => decide (i = (.invokestatic d, 3)) && ckM c d 1001
  | 34 => decide (i = (.invokestatic d, 3)) && ckM c d 1002
  | 35 => decide (i = (.iaload, 1))
  | 36 => decide (i = (.arraylength, 1))
  | _ => false
def cOp (t : Nat) : ClassFile.Cond := match t with
  | 0 => .eq
  | 1 => .ne
  | 2 => .lt
  | 3 => .ge
  | 4 => .gt
  | _ => .le
def ckJ (q : Nat → Nat) (pc : Nat) (off : Int) (a : Nat) : Bool := decide ((pc : Int) + off = (q a : Int))
def ckSw (q : Nat → Nat) (pc : Nat) : Int → List Int → List Ai → Bool
  | _, [], [] => true
  | lo, o :: os, (key, tgt, _, _) :: r => decide ((key : Int) = lo) && ckJ q pc o tgt && ckSw q pc (lo + 1) os r
  | _, _, _ => false
def ckLk (q : Nat → Nat) (pc : Nat) : List (Int × Int) → List Ai → Bool
  | [], [] => true
  | (v, o) :: os, (key, tgt, _, _) :: r => decide ((key : Int) = v) && ckJ q pc o tgt && ckLk q pc os r
  | _, _ => false
def ckT (rt : Option FieldType) (q : Nat → Nat) (pc : Nat) (i : Instr × Nat) (t a b : Nat) (r : List Ai) : Bool := match t with
  | 51 => match i with | (.goto off, 3) => ckJ q pc off a | _ => false
  | 64 => decide (i = (.ireturn, 1)) && decide (rt = some .int)
  | 65 => decide (i = (.ireturn, 1)) && decide (rt = some .boolean)
  | 66 => decide (i = (.areturn, 1)) && (match rt with | some (.object _) => true | _ => false)
  | 67 => decide (i = (.return_, 1)) && decide (rt = none)
  | 68 => match i with
    | (.tableswitch df lo hi offs, _) => ckJ q pc df a && ckSw q pc lo offs.toList r && decide (hi = lo + (r.length : Int) - 1)
    | (.lookupswitch df ps, _) => ckJ q pc df a && ckLk q pc ps.toList r && (ps.toList.zip (ps.toList.drop 1)).all (fun (a, next) => a.1 < next.1)
    | _ => false
  | _ => if 52 ≤ t ∧ t < 58 then (match i with | (.if_icmp op off, 3) => decide (op = cOp (t - 52)) && ckJ q pc off a && decide (q b = pc + 3) | _ => false)
    else if 58 ≤ t ∧ t < 64 then (match i with | (.ifCond op off, 3) => decide (op = cOp (t - 58)) && ckJ q pc off a && decide (q b = pc + 3) | _ => false) else false
def ck (cc : ByteArray) (c nL : Nat) (rt : Option FieldType) (q : Nat → Nat) : Nat → List Ai → Bool
  | _, [] => false
  | pc, (t, a, b, d) :: r => if t = 50 then decide (q a = pc) else match decode cc pc with
    | .ok i => if t < 50 then ckI c nL i t a b d && ck cc c nL rt q (pc + i.2) r else ckT rt q pc i t a b r
    | .error _ => false
def ckBs (k : Nat) : Bool := (List.range (nblk k)).all (fun b => ck (mC k) (mK k) (mL k) (mR k) (pcs k) (pcs k b) (P k b) || (P k b).isEmpty)
end
section
/-! the abstract machine's values as the machine's; the cells as a world -/
def InR (x : Int) : Prop := -2147483648 ≤ x ∧ x ≤ 2147483647
def okV (nO : Nat) (v : V) : Prop := match v with
  | some (.inl x) => InR x
  | some (.inr k) => k < nO ∨ k = 500
  | none => True
def okLs (nO : Nat) (l : List V) : Prop := ∀ v ∈ l, okV nO v
def okS (st : St) : Prop := ∀ k i, InR (st k i)
def oI (x : Int) : Int32 := Int32.ofInt x
theorem oI_toInt {x : Int} (h : InR x) : (oI x).toInt = x := by
  unfold oI
  rw [Int32.toInt_ofInt]
  have h1 := h.1
  have h2 := h.2
  have e : ((Int32.size : Nat) : Int) = 4294967296 := rfl
  exact Int.bmod_eq_of_le (by rw [e]; omega) (by rw [e]; omega)
theorem oI_wr (x : Int) : oI (wr x) = oI x := by
  apply Int32.toInt_inj.mp
  unfold oI wr
  rw [Int32.toInt_ofInt, Int32.toInt_ofInt]
  exact Int.bmod_bmod
theorem InR_toInt (x : Int32) : InR x.toInt := ⟨by have := Int32.le_toInt x; omega, by have := Int32.toInt_lt x; omega⟩
theorem InR_wr (x : Int) : InR (wr x) := by
  have h : (oI x).toInt = wr x := by unfold oI wr; rw [Int32.toInt_ofInt]
  rw [← h]
  exact InR_toInt _
theorem oI_ofToInt (x : Int32) : oI x.toInt = x := by unfold oI; exact Int32.ofInt_toInt x
theorem oI_add (x y : Int) : oI x + oI y = oI (wr (x + y)) := by rw [oI_wr]; unfold oI; rw [Int32.ofInt_add]
theorem oI_sub (x y : Int) : oI x - oI y = oI (wr (x - y)) := by rw [oI_wr]; unfold oI; rw [Int32.ofInt_sub]
theorem oI_mul (x y : Int) : oI x * oI y = oI (wr (x * y)) := by rw [oI_wr]; unfold oI; rw [Int32.ofInt_mul]
theorem oI_div {x y : Int} (hx : InR x) (hy : InR y) : oI x / oI y = oI (wr (x.tdiv y)) := by
  apply Int32.toInt_inj.mp
  rw [Int32.toInt_div, oI_toInt hx, oI_toInt hy]
  unfold oI
  rw [Int32.toInt_ofInt]
  unfold wr
  rw [Int.bmod_bmod]
theorem oI_inj {x y : Int} (hx : InR x) (hy : InR y) : oI x = oI y ↔ x = y := ⟨fun h => by rw [← oI_toInt hx, ← oI_toInt hy, h], fun h => by rw [h]⟩
theorem oI_le {x y : Int} (hx : InR x) (hy : InR y) : oI x ≤ oI y ↔ x ≤ y := by rw [Int32.le_iff_toInt_le, oI_toInt hx, oI_toInt hy]
theorem oI_lt {x y : Int} (hx : InR x) (hy : InR y) : oI x < oI y ↔ x < y := by rw [Int32.lt_iff_toInt_lt, oI_toInt hx, oI_toInt hy]
theorem InR_0 : InR 0 := ⟨by decide, by decide⟩
theorem oI_0 : oI 0 = 0 := by decide
theorem oI_cl {x : Int} (hx : InR x) : (oI x).toNatClampNeg = x.toNat := by
  unfold Int32.toNatClampNeg
  rw [oI_toInt hx]
theorem oI_in {x : Int} {n : Nat} (hx : InR x) (h : 0 ≤ x ∧ x < n) : vp_in (oI x) n := by
  rw [vp_in_iff, oI_toInt hx]
  exact h
theorem InR_ok01 {x : Int} (h : ok01 x) : InR x := by
  rcases h with rfl | rfl
  · exact InR_0
  · exact ⟨by decide, by decide⟩
theorem w8_eq (x : Int) : oI (w8 x) = (oI x).toInt8.toInt32 := by
  apply Int32.toInt_inj.mp
  have h1 : InR (w8 x) := by
    unfold w8
    have a1 := Int.bmod_lt (x := x) (m := 256) (by decide)
    have a2 := Int.le_bmod (x := x) (m := 256) (by decide)
    exact ⟨by omega, by omega⟩
  rw [oI_toInt h1, Int8.toInt_toInt32, Int32.toInt_toInt8]
  unfold oI w8
  rw [Int32.toInt_ofInt]
  exact (Int.bmod_bmod_of_dvd (by decide)).symm
theorem InR_w8 (x : Int) : InR (w8 x) := by
  unfold w8
  have a1 := Int.bmod_lt (x := x) (m := 256) (by decide)
  have a2 := Int.le_bmod (x := x) (m := 256) (by decide)
  exact ⟨by omega, by omega⟩
theorem kl_500 : kl 500 = 99 := by decide +kernel
theorem kl_lt {nO o : Nat} (hv : okV nO (some (.inr o))) (h : kl o < 99) : o < nO := by
  rcases hv with hv | hv
  · exact hv
  · rw [hv, kl_500] at h
    exact absurd h (by decide)
/-- the cells up to nO hold references to such alone -/
def Cl (nO : Nat) : Prop := ∀ o k, o < nO → k < nf (kl o) → o + fk (kl o) k < nO
theorem Cl_of {nO : Nat} (h : (List.range nO).all (fun o => (List.range (nf (kl o))).all (fun k => decide (o + fk (kl o) k < nO))) = true) : Cl nO := fun o k ho hk => of_decide_eq_true (List.all_eq_true.mp (List.all_eq_true.mp h o (List.mem_range.mpr ho)) k (List.mem_range.mpr hk))
theorem Cl_99 : Cl 99 := Cl_of (by decide +kernel)
theorem Cl_146 : Cl 146 := Cl_of (by decide +kernel)
/-! the locals -/
theorem lg_lt : ∀ {ls : List V} {a : Nat} {v : Int ⊕ Nat}, lg ls a = some v → a < ls.length
  | [], _, _, h => by cases h
  | _ :: _, 0, _, _ => Nat.succ_pos _
  | _ :: l, n + 1, _, h => Nat.succ_lt_succ (lg_lt (ls := l) h)
theorem lg_mem : ∀ {ls : List V} {a : Nat} {v : Int ⊕ Nat}, lg ls a = some v → some v ∈ ls
  | [], _, _, h => by cases h
  | w :: _, 0, _, h => by
    have : w = some _ := h
    rw [this]
    exact List.mem_cons_self
  | _ :: l, n + 1, _, h => List.mem_cons_of_mem _ (lg_mem (ls := l) h)
theorem lp_self : ∀ {ls : List V} {a : Nat} (v : V), a < ls.length → lg (lp ls a v) a = v
  | [], _, _, h => absurd h (Nat.not_lt_zero _)
  | _ :: _, 0, _, _ => rfl
  | _ :: l, n + 1, v, h => lp_self (ls := l) v (Nat.lt_of_succ_lt_succ h)
theorem lp_ne : ∀ {ls : List V} {a j : Nat} (v : V), j ≠ a → lg (lp ls a v) j = lg ls j
  | [], _, _, _, _ => rfl
  | _ :: _, 0, 0, _, h => absurd rfl h
  | _ :: _, 0, _ + 1, _, _ => rfl
  | _ :: _, _ + 1, 0, _, _ => rfl
  | _ :: l, n + 1, j + 1, v, h => lp_ne (ls := l) v (fun e => h (by rw [e]))
theorem lp_len : ∀ {ls : List V} {a : Nat} (v : V), (lp ls a v).length = ls.length
  | [], _, _ => rfl
  | _ :: _, 0, _ => rfl
  | _ :: l, n + 1, v => congrArg (· + 1) (lp_len (ls := l) (a := n) v)
theorem lp_mem : ∀ {ls : List V} {a : Nat} {v w : V}, w ∈ lp ls a v → w = v ∨ w ∈ ls
  | [], _, _, _, h => by cases h
  | _ :: _, 0, _, _, h => (List.mem_cons.mp h).imp id (List.mem_cons_of_mem _)
  | b :: l, n + 1, v, w, h => by
    rcases List.mem_cons.mp h with h | h
    · exact Or.inr (by rw [h]; exact List.mem_cons_self)
    · exact (lp_mem (ls := l) h).imp id (List.mem_cons_of_mem _)
theorem okLs_lp {nO : Nat} {ls : List V} {a : Nat} {v : V} (h : okLs nO ls) (hv : okV nO v) : okLs nO (lp ls a v) := by
  intro w hw
  rcases lp_mem hw with rfl | hw
  · exact hv
  · exact h w hw
theorem okLs_cons {nO : Nat} {v : V} {l : List V} (hv : okV nO v) (h : okLs nO l) : okLs nO (v :: l) := by
  intro w hw
  rcases List.mem_cons.mp hw with rfl | hw
  · exact hv
  · exact h w hw
theorem okLs_tl {nO : Nat} {v : V} {l : List V} (h : okLs nO (v :: l)) : okLs nO l := fun w hw => h w (List.mem_cons_of_mem _ hw)
theorem okLs_hd {nO : Nat} {v : V} {l : List V} (h : okLs nO (v :: l)) : okV nO v := h v List.mem_cons_self
section SND
variable (nO : Nat) (ad : Nat → Nat) (cA : Nat → ClassId)
def ev (v : V) : Value := match v with
  | some (.inl x) => .int (oI x)
  | some (.inr k) => .ref (ad k)
  | none => .null
def evr (v : V) : Option Value := match v with
  | some x => some (ev ad (some x))
  | none => none
theorem ev_cat (v : V) : (ev ad v).category = 1 := by
  match v with
  | some (.inl x) => rfl
  | some (.inr k) => rfl
  | none => rfl
def lvl (ls : List V) : List (Nat × Value) := (List.range ls.length).filterMap (fun i => match lg ls i with
  | some v => some (i, ev ad (some v))
  | none => none)
theorem lvl_mem {ls : List V} {q : Nat × Value} : q ∈ lvl ad ls ↔ ∃ v, lg ls q.1 = some v ∧ q.2 = ev ad (some v) := by
  constructor
  · intro h
    obtain ⟨i, -, hi⟩ := List.mem_filterMap.mp h
    split at hi
    · rename_i v hv
      cases hi
      exact ⟨v, hv, rfl⟩
    · cases hi
  · rintro ⟨v, hv, he⟩
    refine List.mem_filterMap.mpr ⟨q.1, List.mem_range.mpr (lg_lt hv), ?_⟩
    rw [hv]
    show some (q.1, ev ad (some v)) = some q
    rw [← he]
theorem lv_rd {ls : List V} {lsM : Array Slot} {nL a : Nat} {v : Int ⊕ Nat} (h : lv_has lsM nL (lvl ad ls)) (hg : lg ls a = some v) : lsM[a]? = some (.val (ev ad (some v))) := h.2.2 (a, _) ((lvl_mem ad).mpr ⟨v, hg, rfl⟩)
theorem lv_wr {ls : List V} {ls' : Array Slot} {nL a : Nat} {v : Int ⊕ Nat} {x : Value} (hx : x = ev ad (some v)) (h : lv_has ls' nL ((a, x) :: (lvl ad ls).filter (fun q => !(q.1 == a) && !(q.1 + 1 == a && q.2.category == 2)))) : lv_has ls' nL (lvl ad (lp ls a (some v))) := by
  subst hx
  refine ⟨h.1, h.2.1, fun q hq => ?_⟩
  obtain ⟨w, hw, he⟩ := (lvl_mem ad).mp hq
  apply h.2.2
  by_cases hqa : q.1 = a
  · have hl : a < ls.length := by
      have := lg_lt hw
      rw [lp_len] at this
      omega
    rw [hqa, lp_self _ hl] at hw
    cases hw
    rw [show q = (a, ev ad (some v)) from Prod.ext hqa he]
    exact List.mem_cons_self
  · rw [lp_ne _ hqa] at hw
    refine List.mem_cons_of_mem _ (List.mem_filter.mpr ⟨(lvl_mem ad).mpr ⟨w, hw, he⟩, ?_⟩)
    have hc : q.2.category = 1 := by rw [he]; exact ev_cat ad _
    simp [hqa, hc]
theorem lvl_entry {as : List V} {n nL : Nat} (h : ∀ v ∈ as, ∃ x, v = some x) {lsM : Array Slot} (hl : lv_has lsM nL (lv_args 0 (as.map (ev ad)))) (hargs : ∀ (i : Nat) (x : Int ⊕ Nat), as[i]? = some (some x) → (i, ev ad (some x)) ∈ lv_args 0 (as.map (ev ad))) : lv_has lsM nL (lvl ad (as ++ List.replicate n none)) := by
  refine ⟨hl.1, hl.2.1, fun q hq => ?_⟩
  obtain ⟨w, hw, he⟩ := (lvl_mem ad).mp hq
  apply hl.2.2
  have key : ∀ (l : List V) (i : Nat) (w : Int ⊕ Nat), lg (l ++ List.replicate n none) i = some w → l[i]? = some (some w) := by
    intro l
    induction l with
    | nil =>
      intro i w h
      exfalso
      have : ∀ (m i : Nat), lg (List.replicate m (none : V)) i = none := by
        intro m
        induction m with
        | zero => intro i; rfl
        | succ m ih => intro i; cases i with
          | zero => rfl
          | succ i => exact ih i
      rw [List.nil_append, this] at h
      cases h
    | cons b l ih =>
      intro i w h
      cases i with
      | zero =>
        have : b = some w := h
        rw [this]
        rfl
      | succ i => exact ih i w h
  have h2 := hargs q.1 w (key as q.1 w hw)
  rw [show q = (q.1, ev ad (some w)) from Prod.ext rfl he]
  exact h2
/-! the cells -/
def fvs (st : St) (k : Nat) : List Value := (List.range (nf (kl k))).map (fun j => if fk (kl k) j = 0 then .int (oI (st k j)) else .ref (ad (k + fk (kl k) j)))
def cel (st : St) (k : Nat) : va_E := if kl k < 13 then .inr (kl k, fvs ad st k) else .inl (cA (kl k), len k, .inl (fun i => oI (st k i)))
def wsO (st : St) : va_W := (List.range nO).map (fun k => (ad k, cel ad cA st k))
theorem wsO_get {st : St} {k : Nat} (h : k < nO) : (wsO nO ad cA st)[k]? = some (ad k, cel ad cA st k) := by
  unfold wsO
  rw [List.getElem?_map, List.getElem?_range h]
  rfl
theorem cel_congr {st st' : St} {k : Nat} (h : st' k = st k) : cel ad cA st' k = cel ad cA st k := by
  unfold cel fvs
  rw [h]
theorem wsO_set {st st' : St} {o : Nat} (h : ∀ k, k ≠ o → st' k = st k) : wsO nO ad cA st' = (wsO nO ad cA st).set o (ad o, cel ad cA st' o) := by
  apply List.ext_getElem?
  intro i
  by_cases hi : i < nO
  · rw [wsO_get nO ad cA hi]
    by_cases ho : o = i
    · subst ho
      rw [List.getElem?_set_self (by unfold wsO; simpa using hi)]
    · rw [List.getElem?_set_ne ho, wsO_get nO ad cA hi, cel_congr ad cA (h i (fun e => ho e.symm))]
  · have h1 : (wsO nO ad cA st').length ≤ i := by unfold wsO; simpa using hi
    have h2 : ((wsO nO ad cA st).set o (ad o, cel ad cA st' o)).length ≤ i := by rw [List.length_set]; unfold wsO; simpa using hi
    rw [List.getElem?_eq_none h1, List.getElem?_eq_none h2]
theorem up2_ne {st : St} {o i k : Nat} {v : Int} (h : k ≠ o) : up2 st o i v k = st k := by unfold up2; rw [if_neg h]
theorem up2_self {st : St} {o i : Nat} {v : Int} : up2 st o i v o = upf (st o) i v := by unfold up2; rw [if_pos rfl]
theorem up1_ne {st : St} {o k : Nat} {f : Nat → Int} (h : k ≠ o) : up1 st o f k = st k := by unfold up1; rw [if_neg h]
theorem up1_self {st : St} {o : Nat} {f : Nat → Int} : up1 st o f o = f := by unfold up1; rw [if_pos rfl]
theorem okS_up2 {st : St} {o i : Nat} {v : Int} (h : okS st) (hv : InR v) : okS (up2 st o i v) := by
  intro k j
  unfold up2
  split
  · unfold upf
    split
    · exact hv
    · exact h _ _
  · exact h _ _
theorem cel_obj {st : St} {o : Nat} (h : kl o < 13) : cel ad cA st o = .inr (kl o, fvs ad st o) := by unfold cel; rw [if_pos h]
theorem cel_arr {st : St} {o : Nat} (h : ¬ kl o < 13) : cel ad cA st o = .inl (cA (kl o), len o, .inl (fun i => oI (st o i))) := by unfold cel; rw [if_neg h]
theorem fvs_get {st : St} {o k : Nat} (hk : k < nf (kl o)) : (fvs ad st o)[k]? = some (if fk (kl o) k = 0 then .int (oI (st o k)) else .ref (ad (o + fk (kl o) k))) := by
  unfold fvs
  rw [List.getElem?_map, List.getElem?_range hk]
  rfl
theorem fvs_len {st : St} {o : Nat} : (fvs ad st o).length = nf (kl o) := by unfold fvs; simp
theorem fvs_set {st : St} {o k : Nat} {v : Int} (hk : k < nf (kl o)) (h0 : fk (kl o) k = 0) : fvs ad (up2 st o k v) o = (fvs ad st o).set k (.int (oI v)) := by
  apply List.ext_getElem?
  intro i
  by_cases hi : i < nf (kl o)
  · rw [fvs_get ad hi]
    by_cases hik : k = i
    · subst hik
      rw [List.getElem?_set_self (by rw [fvs_len]; exact hi), if_pos h0, up2_self]
      simp [upf]
    · rw [List.getElem?_set_ne hik, fvs_get ad hi, up2_self]
      simp [upf, Ne.symm hik]
  · rw [List.getElem?_eq_none (by rw [fvs_len]; omega), List.getElem?_eq_none (by rw [List.length_set, fvs_len]; omega)]
theorem wsO_put {st : St} {o k : Nat} {v : Int} (ho : kl o < 13) (hk : k < nf (kl o)) (h0 : fk (kl o) k = 0) : (wsO nO ad cA st).set o (ad o, .inr (kl o, (fvs ad st o).set k (.int (oI v)))) = wsO nO ad cA (up2 st o k v) := by
  rw [wsO_set nO ad cA (st := st) (st' := up2 st o k v) (o := o) (fun _ h => up2_ne h), cel_obj ad cA ho, fvs_set ad hk h0]
theorem wsO_ast {st : St} {o i : Nat} {v : Int} {x : Int32} (ho : ¬ kl o < 13) (hx : x = oI v) : (wsO nO ad cA st).set o (ad o, .inl (cA (kl o), len o, .inl (upd (fun i => oI (st o i)) i x))) = wsO nO ad cA (up2 st o i v) := by
  rw [wsO_set nO ad cA (st := st) (st' := up2 st o i v) (o := o) (fun _ h => up2_ne h), cel_arr ad cA ho]
  have : (fun j => oI (up2 st o i v o j)) = upd (fun i => oI (st o i)) i x := by
    funext j
    rw [up2_self, hx]
    unfold upf upd
    split <;> rfl
  rw [this]
def A0 (q : Nat) : Prop := ∃ k, k < nO ∧ q = ad k
def inj (f : Nat → Nat) : Prop := ∀ i j, i < nO → j < nO → f i = f j → i = j
theorem wsO_D {st : St} (h : inj nO ad) : va_D (A0 nO ad) (wsO nO ad cA st) := by
  have key : ∀ (i : Nat) (p : Nat × va_E), (wsO nO ad cA st)[i]? = some p → i < nO ∧ p.1 = ad i := by
    intro i p hp
    have hi : i < nO := by
      have := (List.getElem?_eq_some_iff.mp hp).1
      unfold wsO at this
      simpa using this
    rw [wsO_get nO ad cA hi] at hp
    cases hp
    exact ⟨hi, rfl⟩
  refine ⟨fun i j p q hp hq hpq => ?_, fun k q hq => ?_⟩
  · obtain ⟨h1, h2⟩ := key i p hp
    obtain ⟨h3, h4⟩ := key j q hq
    exact h i j h1 h3 (by rw [← h2, ← h4]; exact hpq)
  · obtain ⟨h1, h2⟩ := key k q hq
    exact ⟨k, h1, h2⟩
end SND
end
section
/-! one instruction of the abstract machine is one of the machine -/
def TB : List Cond := lw_tbl.filter goodWord
theorem tb_sub {j : Nat} {w : Cond} (h : w ∈ tb j) : w ∈ lw_tbl := by
  match j, h with
  | 0, h => exact tb_0 h
  | 1, h => exact tb_1 h
  | 2, h => exact tb_2 h
  | 3, h => exact tb_3 h
  | 4, h => exact tb_4 h
  | 5, h => exact tb_5 h
  | 6, h => exact tb_6 h
  | 7, h => exact tb_7 h
  | 8, h => exact tb_8 h
  | j + 9, h => exact absurd h (by simp [tb])
theorem atq_mem {pos : Nat} {w : Cond} (h : atq pos w = true) : w ∈ lw_tbl := tb_sub (List.mem_of_getElem? (of_decide_eq_true h))
theorem atp_mem {pos : Nat} {w : Cond} (h : atp pos w = true) : w ∈ TB := by
  unfold atp at h
  rw [Bool.and_eq_true] at h
  exact List.mem_filter.mpr ⟨atq_mem h.1, h.2⟩
theorem TB_good : ∀ w ∈ TB, (w.onTables && w.keeps) = true ∨ ∃ ty, w = .arrayClass ty := fun w h => good_of_word (List.mem_filter.mp h).2
theorem code_TB {k : Nat} (h : k < NM) : Cond.code (yN k) (mC k) (mL k) (mR k) ∈ TB := List.mem_filter.mpr ⟨cwA k h, rfl⟩
abbrev Fq := Nat × Nat × Nat × Nat × Nat × Nat
def nw (q : Fq) : Cond := .fieldLinkNest (cN q.1) q.2.1 (cN q.2.2.1) ((cT q.2.2.1) q.2.2.2.1).2.1 ((cT q.2.2.1) q.2.2.2.1).2.2.1 "WordFolder"
def fw (q : Fq) : Cond := .fieldLink (cN q.1) q.2.1 (cN q.2.2.1) ((cT q.2.2.1) q.2.2.2.1).2.1 ((cT q.2.2.1) q.2.2.2.1).2.2.1
def NSt (U : State) : Prop := ∀ q : Fq, q ∈ FL → q.2.2.2.2.1 = 1 → va_Nw (nw q) U
def tyA (cA : Nat → ClassId) : List (ClassId × FieldType) := [(cA 50, .int), (cA 51, .byte), (cA 52, .boolean)]
def Wd (cA : Nat → ClassId) (D : va_G) (U : State) : Prop := va_K D classes (tyA cA) U ∧ NSt U
theorem Wd.warm {cA : Nat → ClassId} {D : va_G} {s U : State} (hW : s.WarmedH U.vm) (h : Wd cA D s) : Wd cA D U := ⟨va_K.moved hW.alike h.1, fun q hq h1 => va_Nw.warmF hW (h.2 q hq h1)⟩
theorem Wd.same {cA : Nat → ClassId} {D : va_G} {u U : State} (hv : u.vm = U.vm) (h : Wd cA D u) : Wd cA D U := ⟨va_K.moved (by rw [hv]; exact Vm.Alike.refl _) h.1, fun q hq h1 => va_Nw.same rfl hv (h.2 q hq h1)⟩
theorem FL_q {q : Fq} (h : q ∈ FL) : (q.2.2.2.2.1 ≠ 1 → fw q ∈ TB) ∧ q.2.2.1 < 13 ∧ q.2.2.2.1 < nf q.2.2.1 ∧ ((cT q.2.2.1) q.2.2.2.1).1 = cN q.2.2.1 := by
  have h1 := List.all_eq_true.mp FL_ok q h
  unfold okF at h1
  simp only [Bool.and_eq_true, decide_eq_true_eq] at h1
  obtain ⟨⟨⟨h1, h2⟩, h3⟩, h4⟩ := h1
  refine ⟨fun hne => ?_, h2, h3, h4⟩
  rw [if_neg hne] at h1
  exact atp_mem h1
theorem ckF_q {c d ci k : Nat} (h : ckF c d ci k = true) : ∃ q : Fq, q ∈ FL ∧ q.1 = c ∧ q.2.1 = d ∧ q.2.2.1 = ci ∧ q.2.2.2.1 = k := by
  obtain ⟨q, hq, h⟩ := List.any_eq_true.mp h
  simp only [Bool.and_eq_true, decide_eq_true_eq] at h
  exact ⟨q, hq, h.1.1.1, h.1.1.2, h.1.2, h.2⟩
theorem ckR_q {c d ci off : Nat} (h : ckR c d ci off = true) : ∃ q : Fq, q ∈ FL ∧ q.1 = c ∧ q.2.1 = d ∧ q.2.2.1 = ci ∧ fk ci q.2.2.2.1 = off := by
  obtain ⟨q, hq, h⟩ := List.any_eq_true.mp h
  simp only [Bool.and_eq_true, decide_eq_true_eq] at h
  exact ⟨q, hq, h.1.1.1, h.1.1.2, h.1.2, h.2⟩
theorem ckM_q {c d k : Nat} (h : ckM c d k = true) : Cond.methodLink (cN c) d (yE k) ∈ TB := by
  obtain ⟨q, hq, h⟩ := List.any_eq_true.mp h
  simp only [Bool.and_eq_true, decide_eq_true_eq] at h
  have h1 := List.all_eq_true.mp ML_ok q hq
  unfold okL at h1
  have h2 := atp_mem h1
  rw [h.1.1, h.1.2, h.2] at h2
  exact h2
theorem ckC_q {c d : Nat} {v : Int} (h : ckC c d v = true) : Cond.constant (cN c) d (oI v) ∈ TB := by
  obtain ⟨q, hq, h⟩ := List.any_eq_true.mp h
  simp only [Bool.and_eq_true, decide_eq_true_eq] at h
  have h1 := List.all_eq_true.mp CL_ok q hq
  unfold okC at h1
  have h2 := atp_mem h1
  rw [h.1.1, h.1.2, h.2] at h2
  exact h2
theorem lay_in {ci : Nat} (h : ci < 13) : ∀ w ∈ u_ws (cN ci) (cT ci) (nf ci), w ∈ TB := by
  intro w hw
  obtain ⟨k, hk, rfl⟩ := List.mem_map.mp hw
  have h1 := okLays ci h
  unfold okLay at h1
  exact atp_mem (List.all_eq_true.mp h1 k hk)
theorem cls_get : ∀ ci, ci < 13 → classes[ci]? = some (cN ci, cT ci, nf ci) := by
  intro ci h
  match ci, h with
  | 0, _ => rfl
  | 1, _ => rfl
  | 2, _ => rfl
  | 3, _ => rfl
  | 4, _ => rfl
  | 5, _ => rfl
  | 6, _ => rfl
  | 7, _ => rfl
  | 8, _ => rfl
  | 9, _ => rfl
  | 10, _ => rfl
  | 11, _ => rfl
  | 12, _ => rfl
/-- what a walk stands on -/
def Cx (p : Program) (R : Room) (s : State) (m : MethodId) (args : Array Value) (c : Code) (cells slots : Nat) (cc : ByteArray) (nL cls : Nat) (nO : Nat) (ad : Nat → Nat) (cA : Nat → ClassId) (D : va_G) : Prop :=
  p.tables.exec = Jvm.exec ∧ c.code = cc ∧ c.maxLocals = nL ∧ s.vm.findClass (cN cls) = some m.cls ∧ (∀ w ∈ TB, w.before args s = true) ∧ Wd cA D s ∧ inj nO ad ∧ Cl nO ∧ 1 ≤ R.frames ∧ 40 ≤ R.locals ∧ cells ≤ R.cells ∧ slots ≤ R.slots
def Wx (p : Program) (l : Launch) (e : Env) (R : Room) (s : State) (m : MethodId) (args : Array Value) (below : List Frame) (meth : Method) (c : Code) (cells slots : Nat) (QW : State → Prop) (nL : Nat) (nO : Nat) (ad : Nat → Nat) (cA : Nat → ClassId) (D : va_G) (pc : Nat) : Kn := fun ls stk st =>
  okLs nO ls → okLs nO stk → okS st → ∀ (H : Heap) (locs : List Loc) (lsM : Array Slot), va_P D classes (wsO nO ad cA st) H → va_S (A0 nO ad) s.heap H locs → lv_has lsM nL (lvl ad ls) → W p l e R s m args below meth c H locs cells slots QW (F0 m pc lsM (stk.map (ev ad)))
section STP
variable {p : Program} {l : Launch} {e : Env} {R : Room} {s : State} {m : MethodId} {args : Array Value} {below : List Frame} {meth : Method} {c : Code} {cells slots : Nat} {QW : State → Prop} {cc : ByteArray} {nL cls : Nat} {nO : Nat} {ad : Nat → Nat} {cA : Nat → ClassId} {D : va_G} {pc : Nat} {ls stk : List V} {st : St}
theorem isI_q {v : Int} {d : Nat} {i : Instr × Nat} (X : Cx p R s m args c cells slots cc nL cls nO ad cA D) (h : isI v cls d i = true) (hd : decode cc pc = .ok i) (k : Wx p l e R s m args below meth c cells slots QW nL nO ad cA D (pc + i.2) ls (some (.inl v) :: stk) st) : Wx p l e R s m args below meth c cells slots QW nL nO ad cA D pc ls stk st := by
  obtain ⟨hx, hb, hml, hown, hts, hWd, hj, hcl0, -⟩ := X
  unfold isI at h
  simp only [Bool.or_eq_true, Bool.and_eq_true, decide_eq_true_eq] at h
  intro o1 o2 o3 H locs lsM hP hS hl
  have fin : InR v → W p l e R s m args below meth c H locs cells slots QW (F0 m (pc + i.2) lsM (.int (oI v) :: stk.map (ev ad))) := fun hv => k o1 (okLs_cons hv o2) o3 H locs lsM hP hS hl
  rcases h with ((h | h) | h) | h
  · obtain ⟨⟨h, h1⟩, h2⟩ := h
    subst h
    exact lv_iconst hx hb hd rfl (fin ⟨by omega, by omega⟩)
  · obtain ⟨⟨h, h1⟩, h2⟩ := h
    subst h
    refine lv_bipush hx hb hd (v := oI v) ?_ (fin ⟨by omega, by omega⟩)
    apply Int32.toInt_inj.mp
    rw [oI_toInt ⟨by omega, by omega⟩, Int8.toInt_toInt32, Int8.toInt_ofInt]
    exact Int.bmod_eq_of_le (by have e : ((Int8.size : Nat) : Int) = 256 := rfl; rw [e]; omega) (by have e : ((Int8.size : Nat) : Int) = 256 := rfl; rw [e]; omega)
  · obtain ⟨⟨h, h1⟩, h2⟩ := h
    subst h
    refine lv_sipush hx hb hd (v := oI v) ?_ (fin ⟨by omega, by omega⟩)
    apply Int32.toInt_inj.mp
    rw [oI_toInt ⟨by omega, by omega⟩, Int16.toInt_toInt32, Int16.toInt_ofInt]
    exact Int.bmod_eq_of_le (by have e : ((Int16.size : Nat) : Int) = 65536 := rfl; rw [e]; omega) (by have e : ((Int16.size : Nat) : Int) = 65536 := rfl; rw [e]; omega)
  · obtain ⟨⟨⟨h, h3⟩, h1⟩, h2⟩ := h
    rcases h with h | h
    · subst h
      exact lv_ldc hx hb hown (hts _ (ckC_q h3)) hd (fin ⟨h1, h2⟩)
    · subst h
      exact lv_ldcw hx hb hown (hts _ (ckC_q h3)) hd (fin ⟨h1, h2⟩)
theorem f4_val {a : Nat} (h : a < 4) : ((f4 a : Fin 4) : Nat) = a := by
  unfold f4
  show a % 4 = a
  exact Nat.mod_eq_of_lt h
theorem snd_load {a b d : Nat} {i : Instr × Nat} (X : Cx p R s m args c cells slots cc nL cls nO ad cA D) (h : ckI cls nL i 2 a b d = true) (hd : decode cc pc = .ok i) (k : i_load (Wx p l e R s m args below meth c cells slots QW nL nO ad cA D (pc + i.2)) a ls stk st) : Wx p l e R s m args below meth c cells slots QW nL nO ad cA D pc ls stk st := by
  obtain ⟨hx, hb, hml, hown, hts, hWd, hj, hcl0, -⟩ := X
  unfold i_load at k
  split at k
  · rename_i x hg
    intro o1 o2 o3 H locs lsM hP hS hl
    have k := k o1 (okLs_cons (o1 _ (lg_mem hg)) o2) o3 H locs lsM hP hS hl
    have hr := lv_rd ad hl hg
    simp only [ckI, Bool.or_eq_true, Bool.and_eq_true, decide_eq_true_eq] at h
    rcases h with h | ⟨h, h4⟩
    · subst h
      exact lv_iload hx hb hd hr k
    · subst h
      exact lv_iload_n hx hb hd (f4_val h4) hr k
  · exact k.elim
theorem snd_loadR {a b d : Nat} {i : Instr × Nat} (X : Cx p R s m args c cells slots cc nL cls nO ad cA D) (h : ckI cls nL i 37 a b d = true) (hd : decode cc pc = .ok i) (k : i_loadR (Wx p l e R s m args below meth c cells slots QW nL nO ad cA D (pc + i.2)) a ls stk st) : Wx p l e R s m args below meth c cells slots QW nL nO ad cA D pc ls stk st := by
  obtain ⟨hx, hb, hml, hown, hts, hWd, hj, hcl0, -⟩ := X
  unfold i_loadR at k
  split at k
  · rename_i x hg
    intro o1 o2 o3 H locs lsM hP hS hl
    have k := k o1 (okLs_cons (o1 _ (lg_mem hg)) o2) o3 H locs lsM hP hS hl
    have hr := lv_rd ad hl hg
    simp only [ckI, Bool.or_eq_true, Bool.and_eq_true, decide_eq_true_eq] at h
    rcases h with h | ⟨h, h4⟩
    · subst h
      exact lv_aload hx hb hd hr k
    · subst h
      exact lv_aload_n hx hb hd (f4_val h4) hr k
  · exact k.elim
theorem snd_store {a b d : Nat} {i : Instr × Nat} (X : Cx p R s m args c cells slots cc nL cls nO ad cA D) (h : ckI cls nL i 3 a b d = true) (hd : decode cc pc = .ok i) (k : i_store (Wx p l e R s m args below meth c cells slots QW nL nO ad cA D (pc + i.2)) a ls stk st) : Wx p l e R s m args below meth c cells slots QW nL nO ad cA D pc ls stk st := by
  obtain ⟨hx, hb, hml, hown, hts, hWd, hj, hcl0, -⟩ := X
  unfold i_store at k
  split at k
  · rename_i x r
    intro o1 o2 o3 H locs lsM hP hS hl
    have kk : ∀ lsM', lv_has lsM' nL (lvl ad (lp ls a (some (.inl x)))) → _ := fun lsM' hl' => k (okLs_lp o1 (okLs_hd o2)) (okLs_tl o2) o3 H locs lsM' hP hS hl'
    simp only [ckI, Bool.or_eq_true, Bool.and_eq_true, decide_eq_true_eq] at h
    obtain ⟨h | ⟨h, h4⟩, hn⟩ := h
    · subst h
      exact lv_istore hx hb hd hl hn rfl (fun ls' h' => kk ls' (lv_wr ad rfl h'))
    · subst h
      exact lv_istore_n hx hb hd (f4_val h4) hl hn rfl (fun ls' h' => kk ls' (lv_wr ad rfl h'))
  · exact k.elim
theorem snd_storeR {a b d : Nat} {i : Instr × Nat} (X : Cx p R s m args c cells slots cc nL cls nO ad cA D) (h : ckI cls nL i 38 a b d = true) (hd : decode cc pc = .ok i) (k : i_storeR (Wx p l e R s m args below meth c cells slots QW nL nO ad cA D (pc + i.2)) a ls stk st) : Wx p l e R s m args below meth c cells slots QW nL nO ad cA D pc ls stk st := by
  obtain ⟨hx, hb, hml, hown, hts, hWd, hj, hcl0, -⟩ := X
  unfold i_storeR at k
  split at k
  · rename_i x r
    intro o1 o2 o3 H locs lsM hP hS hl
    have kk : ∀ lsM', lv_has lsM' nL (lvl ad (lp ls a (some (.inr x)))) → _ := fun lsM' hl' => k (okLs_lp o1 (okLs_hd o2)) (okLs_tl o2) o3 H locs lsM' hP hS hl'
    simp only [ckI, Bool.or_eq_true, Bool.and_eq_true, decide_eq_true_eq] at h
    obtain ⟨h | ⟨h, h4⟩, hn⟩ := h
    · subst h
      exact lv_astore hx hb hd hl hn rfl (fun ls' h' => kk ls' (lv_wr ad rfl h'))
    · subst h
      exact lv_astore_n hx hb hd (f4_val h4) hl hn rfl (fun ls' h' => kk ls' (lv_wr ad rfl h'))
  · exact k.elim
theorem snd_inc {a : Nat} {n : Int} {i : Instr × Nat} (X : Cx p R s m args c cells slots cc nL cls nO ad cA D) (h : i = (.iinc a n, 3)) (hn : a < nL) (hd : decode cc pc = .ok i) (k : i_inc (Wx p l e R s m args below meth c cells slots QW nL nO ad cA D (pc + i.2)) a n ls stk st) : Wx p l e R s m args below meth c cells slots QW nL nO ad cA D pc ls stk st := by
  obtain ⟨hx, hb, hml, hown, hts, hWd, hj, hcl0, -⟩ := X
  unfold i_inc at k
  split at k
  · rename_i x hg
    subst h
    intro o1 o2 o3 H locs lsM hP hS hl
    have kk : ∀ lsM', lv_has lsM' nL (lvl ad (lp ls a (some (.inl (wr (x + n)))))) → _ := fun lsM' hl' => k (okLs_lp o1 (InR_wr _)) o2 o3 H locs lsM' hP hS hl'
    obtain ⟨j, hj⟩ := List.getElem?_of_mem ((lvl_mem ad (q := (a, ev ad (some (.inl x))))).mpr ⟨_, hg, rfl⟩)
    refine lv_iinc hx hb hd hl hj (v := oI (wr (x + n))) ?_ hn rfl (fun ls' h' => kk ls' (lv_wr ad rfl h'))
    rw [oI_wr]
    unfold oI
    rw [Int32.ofInt_add]
  · exact k.elim
theorem snd_bin {t : Nat} {i : Instr × Nat} {ins : Instr} (X : Cx p R s m args c cells slots cc nL cls nO ad cA D) (hi : i = (ins, 1)) (hd : decode cc pc = .ok i)
    (row : ∀ (x y : Int) (H : Heap) (locs : List Loc) (lsM : Array Slot) (rest : List Value), InR x → InR y → W p l e R s m args below meth c H locs cells slots QW (F0 m (pc + 1) lsM (.int (oI (bop t x y)) :: rest)) → W p l e R s m args below meth c H locs cells slots QW (F0 m pc lsM (.int (oI y) :: .int (oI x) :: rest)))
    (hr : ∀ x y, InR x → InR y → InR (bop t x y)) (k : i_bin (Wx p l e R s m args below meth c cells slots QW nL nO ad cA D (pc + i.2)) t ls stk st) : Wx p l e R s m args below meth c cells slots QW nL nO ad cA D pc ls stk st := by
  unfold i_bin at k
  split at k
  · rename_i y x r
    subst hi
    intro o1 o2 o3 H locs lsM hP hS hl
    have hy : InR y := okLs_hd o2
    have hx : InR x := okLs_hd (okLs_tl o2)
    exact row x y H locs lsM _ hx hy (k o1 (okLs_cons (hr x y hx hy) (okLs_tl (okLs_tl o2))) o3 H locs lsM hP hS hl)
  · exact k.elim
theorem snd_div {t : Nat} {i : Instr × Nat} {ins : Instr} (X : Cx p R s m args c cells slots cc nL cls nO ad cA D) (hi : i = (ins, 1)) (hd : decode cc pc = .ok i)
    (row : ∀ (x y : Int) (H : Heap) (locs : List Loc) (lsM : Array Slot) (rest : List Value), InR x → InR y → ¬ y = 0 → W p l e R s m args below meth c H locs cells slots QW (F0 m (pc + 1) lsM (.int (oI (bop t x y)) :: rest)) → W p l e R s m args below meth c H locs cells slots QW (F0 m pc lsM (.int (oI y) :: .int (oI x) :: rest)))
    (hr : ∀ x y, InR x → InR y → InR (bop t x y)) (k : i_div (Wx p l e R s m args below meth c cells slots QW nL nO ad cA D (pc + i.2)) t ls stk st) : Wx p l e R s m args below meth c cells slots QW nL nO ad cA D pc ls stk st := by
  unfold i_div at k
  split at k
  · rename_i y x r
    subst hi
    intro o1 o2 o3 H locs lsM hP hS hl
    have hy : InR y := okLs_hd o2
    have hx : InR x := okLs_hd (okLs_tl o2)
    exact row x y H locs lsM _ hx hy k.1 (k.2 o1 (okLs_cons (hr x y hx hy) (okLs_tl (okLs_tl o2))) o3 H locs lsM hP hS hl)
  · exact k.elim
theorem InR_bop (t : Nat) (x y : Int) : InR (bop t x y) := by
  unfold bop
  split <;> first | exact InR_wr _ | exact InR_toInt _
theorem snd_bins {t a b d : Nat} {i : Instr × Nat} (ht : t = 17 ∨ t = 18 ∨ t = 19 ∨ t = 22 ∨ t = 23 ∨ t = 24 ∨ t = 25) (X : Cx p R s m args c cells slots cc nL cls nO ad cA D) (h : ckI cls nL i t a b d = true) (hd : decode cc pc = .ok i) (k : i_bin (Wx p l e R s m args below meth c cells slots QW nL nO ad cA D (pc + i.2)) t ls stk st) : Wx p l e R s m args below meth c cells slots QW nL nO ad cA D pc ls stk st := by
  obtain ⟨hx, hb, hml, hown, hts, hWd, hj, hcl0, -⟩ := id X
  rcases ht with rfl | rfl | rfl | rfl | rfl | rfl | rfl <;> simp only [ckI, decide_eq_true_eq] at h <;> subst h
  · exact snd_bin (t := 17) X rfl hd (fun x y H locs lsM rest hx' hy' kk => lv_iadd hx hb hd (by rw [oI_add]; exact kk)) (fun _ _ _ _ => InR_bop _ _ _) k
  · exact snd_bin (t := 18) X rfl hd (fun x y H locs lsM rest hx' hy' kk => lv_isub hx hb hd (by rw [oI_sub]; exact kk)) (fun _ _ _ _ => InR_bop _ _ _) k
  · exact snd_bin (t := 19) X rfl hd (fun x y H locs lsM rest hx' hy' kk => lv_imul hx hb hd (by rw [oI_mul]; exact kk)) (fun _ _ _ _ => InR_bop _ _ _) k
  · exact snd_bin (t := 22) X rfl hd (fun x y H locs lsM rest hx' hy' kk => lv_iand hx hb hd (by have e : oI (bop 22 x y) = oI x &&& oI y := oI_ofToInt _; rw [e] at kk; exact kk)) (fun _ _ _ _ => InR_bop _ _ _) k
  · exact snd_bin (t := 23) X rfl hd (fun x y H locs lsM rest hx' hy' kk => lv_ior hx hb hd (by have e : oI (bop 23 x y) = oI x ||| oI y := oI_ofToInt _; rw [e] at kk; exact kk)) (fun _ _ _ _ => InR_bop _ _ _) k
  · exact snd_bin (t := 24) X rfl hd (fun x y H locs lsM rest hx' hy' kk => lv_ishl hx hb hd (by have e : oI (bop 24 x y) = oI x <<< (oI y &&& 31) := oI_ofToInt _; rw [e] at kk; exact kk)) (fun _ _ _ _ => InR_bop _ _ _) k
  · exact snd_bin (t := 25) X rfl hd (fun x y H locs lsM rest hx' hy' kk => lv_ishr hx hb hd (by have e : oI (bop 25 x y) = oI x >>> (oI y &&& 31) := oI_ofToInt _; rw [e] at kk; exact kk)) (fun _ _ _ _ => InR_bop _ _ _) k
theorem oI_ne0 {y : Int} (hy : InR y) (h : ¬ y = 0) : ¬ oI y = 0 := fun e => h (by rw [← oI_0] at e; exact (oI_inj hy InR_0).mp e)
theorem snd_divs {t a b d : Nat} {i : Instr × Nat} (ht : t = 20 ∨ t = 21) (X : Cx p R s m args c cells slots cc nL cls nO ad cA D) (h : ckI cls nL i t a b d = true) (hd : decode cc pc = .ok i) (k : i_div (Wx p l e R s m args below meth c cells slots QW nL nO ad cA D (pc + i.2)) t ls stk st) : Wx p l e R s m args below meth c cells slots QW nL nO ad cA D pc ls stk st := by
  obtain ⟨hx, hb, hml, hown, hts, hWd, hj, hcl0, -⟩ := id X
  rcases ht with rfl | rfl <;> simp only [ckI, decide_eq_true_eq] at h <;> subst h
  · exact snd_div (t := 20) X rfl hd (fun x y H locs lsM rest hx' hy' h0 kk => lv_idiv hx hb hd (oI_ne0 hy' h0) (by rw [oI_div hx' hy']; exact kk)) (fun _ _ _ _ => InR_bop _ _ _) k
  · exact snd_div (t := 21) X rfl hd (fun x y H locs lsM rest hx' hy' h0 kk => lv_irem hx hb hd (oI_ne0 hy' h0) (by rw [oI_div hx' hy', oI_mul, oI_sub]; exact kk)) (fun _ _ _ _ => InR_bop _ _ _) k
theorem snd_i2b {a b d : Nat} {i : Instr × Nat} (X : Cx p R s m args c cells slots cc nL cls nO ad cA D) (h : ckI cls nL i 26 a b d = true) (hd : decode cc pc = .ok i) (k : i_i2b (Wx p l e R s m args below meth c cells slots QW nL nO ad cA D (pc + i.2)) ls stk st) : Wx p l e R s m args below meth c cells slots QW nL nO ad cA D pc ls stk st := by
  obtain ⟨hx, hb, hml, hown, hts, hWd, hj, hcl0, -⟩ := X
  simp only [ckI, decide_eq_true_eq] at h
  subst h
  unfold i_i2b at k
  split at k
  · intro o1 o2 o3 H locs lsM hP hS hl
    exact lv_i2b hx hb hd (w8_eq _).symm (k o1 (okLs_cons (InR_w8 _) (okLs_tl o2)) o3 H locs lsM hP hS hl)
  · exact k.elim
theorem snd_dup {a b d : Nat} {i : Instr × Nat} (X : Cx p R s m args c cells slots cc nL cls nO ad cA D) (h : ckI cls nL i 27 a b d = true) (hd : decode cc pc = .ok i) (k : i_dup (Wx p l e R s m args below meth c cells slots QW nL nO ad cA D (pc + i.2)) ls stk st) : Wx p l e R s m args below meth c cells slots QW nL nO ad cA D pc ls stk st := by
  obtain ⟨hx, hb, hml, hown, hts, hWd, hj, hcl0, -⟩ := X
  simp only [ckI, decide_eq_true_eq] at h
  subst h
  unfold i_dup at k
  split at k
  · intro o1 o2 o3 H locs lsM hP hS hl
    exact lv_dup hx hb hd (ev_cat ad _) (k o1 (okLs_cons (okLs_hd o2) o2) o3 H locs lsM hP hS hl)
  · exact k.elim
theorem snd_pop {a b d : Nat} {i : Instr × Nat} (X : Cx p R s m args c cells slots cc nL cls nO ad cA D) (h : ckI cls nL i 28 a b d = true) (hd : decode cc pc = .ok i) (k : i_pop (Wx p l e R s m args below meth c cells slots QW nL nO ad cA D (pc + i.2)) ls stk st) : Wx p l e R s m args below meth c cells slots QW nL nO ad cA D pc ls stk st := by
  obtain ⟨hx, hb, hml, hown, hts, hWd, hj, hcl0, -⟩ := X
  simp only [ckI, decide_eq_true_eq] at h
  subst h
  unfold i_pop at k
  split at k
  · intro o1 o2 o3 H locs lsM hP hS hl
    exact lv_pop hx hb hd (ev_cat ad _) (k o1 (okLs_tl o2) o3 H locs lsM hP hS hl)
  · exact k.elim
theorem snd_dup2 {a b d : Nat} {i : Instr × Nat} (X : Cx p R s m args c cells slots cc nL cls nO ad cA D) (h : ckI cls nL i 29 a b d = true) (hd : decode cc pc = .ok i) (k : i_dup2 (Wx p l e R s m args below meth c cells slots QW nL nO ad cA D (pc + i.2)) ls stk st) : Wx p l e R s m args below meth c cells slots QW nL nO ad cA D pc ls stk st := by
  obtain ⟨hx, hb, hml, hown, hts, hWd, hj, hcl0, -⟩ := X
  simp only [ckI, decide_eq_true_eq] at h
  subst h
  unfold i_dup2 at k
  split at k
  · intro o1 o2 o3 H locs lsM hP hS hl
    exact lv_dup2_11 hx hb hd (ev_cat ad _) (ev_cat ad _) (k o1 (okLs_cons (okLs_hd o2) (okLs_cons (okLs_hd (okLs_tl o2)) o2)) o3 H locs lsM hP hS hl)
  · exact k.elim
theorem FL_lnk {q : Fq} (hts : ∀ w ∈ TB, w.before args s = true) (hWd : Wd cA D s) (hq : q ∈ FL) : (fw q).before args s = true ∨ (nw q).before args s = true := by
  by_cases h : q.2.2.2.2.1 = 1
  · exact Or.inr (va_Nw.use rfl (hWd.2 q hq h))
  · exact Or.inl (hts _ ((FL_q hq).1 h))
theorem snd_field {q : Fq} {o d ci k : Nat} {v : Value} {H : Heap} {locs : List Loc} {lsM : Array Slot} {rest : List Value} (X : Cx p R s m args c cells slots cc nL cls nO ad cA D) (hq : q ∈ FL) (e1 : q.1 = cls) (e2 : q.2.1 = d) (e3 : q.2.2.1 = ci) (e4 : q.2.2.2.1 = k) (ho : o < nO) (hk : kl o = ci) (hv : (fvs ad st o)[k]? = some v) (hd : decode cc pc = .ok (.getfield d, 3)) (hP : va_P D classes (wsO nO ad cA st) H)
    (kk : W p l e R s m args below meth c H locs cells slots QW (F0 m (pc + 3) lsM (v :: rest))) : W p l e R s m args below meth c H locs cells slots QW (F0 m pc lsM (.ref (ad o) :: rest)) := by
  obtain ⟨hx, hb, hml, hown, hts, hWd, hj, hcl0, -⟩ := X
  obtain ⟨-, h13, hkn, hdecl⟩ := FL_q hq
  have hL := FL_lnk hts hWd hq
  unfold fw nw at hL
  rw [e1, e2] at hL
  rw [e3, e4] at hL hkn hdecl
  rw [e3] at h13
  have hw : (wsO nO ad cA st)[o]? = some (ad o, .inr (ci, fvs ad st o)) := by rw [wsO_get nO ad cA ho, cel_obj ad cA (by omega), hk]
  have hsame : ∀ x, s.fieldFound? ((cT ci) k).1 ((cT ci) k).2.1 ((cT ci) k).2.2.1 = some x → s.fieldFound? (cN ci) ((cT ci) k).2.1 ((cT ci) k).2.2.1 = some x := fun x hx => by rw [hdecl] at hx; exact hx
  rcases hL with hL | hL
  · exact va_get hx hb hts (lay_in h13) hown hWd.1 hP o hw (cls_get ci h13) k hkn hL hsame hv hd kk
  · exact va_getN hx hb hts (lay_in h13) hown hWd.1 hP o hw (cls_get ci h13) k hkn hL hsame hv hd kk
theorem snd_get {a b d : Nat} {i : Instr × Nat} (X : Cx p R s m args c cells slots cc nL cls nO ad cA D) (h : ckI cls nL i 6 a b d = true) (hd : decode cc pc = .ok i) (k : i_get (Wx p l e R s m args below meth c cells slots QW nL nO ad cA D (pc + i.2)) a b ls stk st) : Wx p l e R s m args below meth c cells slots QW nL nO ad cA D pc ls stk st := by
  simp only [ckI, Bool.and_eq_true, decide_eq_true_eq] at h
  obtain ⟨⟨h, h1⟩, h2⟩ := h
  subst h
  obtain ⟨q, hq, e1, e2, e3, e4⟩ := ckF_q h1
  have hkn := (FL_q hq).2.2.1
  rw [e3, e4] at hkn
  unfold i_get at k
  split at k
  · rename_i o r
    obtain ⟨hk, k⟩ := k
    intro o1 o2 o3 H locs lsM hP hS hl
    refine snd_field X hq e1 e2 e3 e4 (kl_lt (okLs_hd o2) (by have := (FL_q hq).2.1; omega)) hk (v := .int (oI (st o b))) ?_ hd hP (k o1 (okLs_cons (o3 o b) (okLs_tl o2)) o3 H locs lsM hP hS hl)
    rw [fvs_get ad (by rw [hk]; exact hkn), hk, if_pos h2]
  · exact k.elim
theorem snd_getR {a b d : Nat} {i : Instr × Nat} (X : Cx p R s m args c cells slots cc nL cls nO ad cA D) (h : ckI cls nL i 7 a b d = true) (hd : decode cc pc = .ok i) (k : i_getR (Wx p l e R s m args below meth c cells slots QW nL nO ad cA D (pc + i.2)) a b ls stk st) : Wx p l e R s m args below meth c cells slots QW nL nO ad cA D pc ls stk st := by
  simp only [ckI, Bool.and_eq_true, decide_eq_true_eq] at h
  obtain ⟨⟨h, h1⟩, h2⟩ := h
  subst h
  obtain ⟨q, hq, e1, e2, e3, e4⟩ := ckR_q h1
  have hkn := (FL_q hq).2.2.1
  rw [e3] at hkn
  unfold i_getR at k
  split at k
  · rename_i o r
    obtain ⟨hk, k⟩ := k
    intro o1 o2 o3 H locs lsM hP hS hl
    have ho := kl_lt (okLs_hd o2) (by have := (FL_q hq).2.1; omega)
    have hcl1 := X.2.2.2.2.2.2.2.1 o q.2.2.2.1 ho (by rw [hk]; exact hkn)
    rw [hk, e4] at hcl1
    refine snd_field X hq e1 e2 e3 rfl ho hk (v := .ref (ad (o + b))) ?_ hd hP (k o1 (okLs_cons (Or.inl hcl1) (okLs_tl o2)) o3 H locs lsM hP hS hl)
    rw [fvs_get ad (by rw [hk]; exact hkn), hk, e4, if_neg (by omega)]
  · exact k.elim
theorem snd_putw {q : Fq} {o d ci k : Nat} {v : Int} {ty : FieldType} {H : Heap} {locs : List Loc} {lsM : Array Slot} {rest : List Value} (X : Cx p R s m args c cells slots cc nL cls nO ad cA D) (hq : q ∈ FL) (e1 : q.1 = cls) (e2 : q.2.1 = d) (e3 : q.2.2.1 = ci) (e4 : q.2.2.2.1 = k) (ho : o < nO) (hk : kl o = ci) (hz : fk ci k = 0) (hty : (cTy ci) k = ty) (hnar : narrow ty (.int (oI v)) = .int (oI v)) (hfit : fits ty (.int (oI v)) = true) (hfin : ((cT ci) k).2.2.2 = false) (hd : decode cc pc = .ok (.putfield d, 3)) (hP : va_P D classes (wsO nO ad cA st) H) (hS : va_S (A0 nO ad) s.heap H locs)
    (kk : ∀ (H1 : Heap) (locs1 : List Loc), va_P D classes (wsO nO ad cA (up2 st o k v)) H1 → va_S (A0 nO ad) s.heap H1 locs1 → W p l e R s m args below meth c H1 locs1 cells slots QW (F0 m (pc + 3) lsM rest)) : W p l e R s m args below meth c H locs cells slots QW (F0 m pc lsM (.int (oI v) :: .ref (ad o) :: rest)) := by
  obtain ⟨hx, hb, hml, hown, hts, hWd, hj, hcl0, -⟩ := X
  obtain ⟨-, h13, hkn, hdecl⟩ := FL_q hq
  have hL := FL_lnk hts hWd hq
  unfold fw nw at hL
  rw [e1, e2] at hL
  rw [e3, e4] at hL hkn hdecl
  rw [e3] at h13
  have ho13 : kl o < 13 := by omega
  have hw : (wsO nO ad cA st)[o]? = some (ad o, .inr (ci, fvs ad st o)) := by rw [wsO_get nO ad cA ho, cel_obj ad cA ho13, hk]
  have hsame : ∀ x, s.fieldFound? ((cT ci) k).1 ((cT ci) k).2.1 ((cT ci) k).2.2.1 = some x → s.fieldFound? (cN ci) ((cT ci) k).2.1 ((cT ci) k).2.2.1 = some x := fun x hx => by rw [hdecl] at hx; exact hx
  have hset : (wsO nO ad cA st).set o (ad o, .inr (ci, (fvs ad st o).set k (.int (oI v)))) = wsO nO ad cA (up2 st o k v) := by
    have := wsO_put nO ad cA (st := st) (o := o) (k := k) (v := v) ho13 (by rw [hk]; exact hkn) (by rw [hk]; exact hz)
    rw [hk] at this
    exact this
  have hpd : parseFieldDescriptor ((cT ci) k).2.2.1 = some ty := by rw [tys ci h13 k hkn, hty]
  have kk' : ∀ (H1 : Heap) (locs1 : List Loc), va_P D classes ((wsO nO ad cA st).set o (ad o, .inr (ci, (fvs ad st o).set k (.int (oI v))))) H1 → va_D (A0 nO ad) ((wsO nO ad cA st).set o (ad o, .inr (ci, (fvs ad st o).set k (.int (oI v))))) → va_S (A0 nO ad) s.heap H1 locs1 → W p l e R s m args below meth c H1 locs1 cells slots QW (F0 m (pc + 3) lsM rest) := fun H1 locs1 h1 _ h3 => kk H1 locs1 (by rw [hset] at h1; exact h1) h3
  have hln : k < (fvs ad st o).length := by rw [fvs_len, hk]; exact hkn
  rcases hL with hL | hL
  · exact va_put hx hb hts (lay_in h13) (cTy ci) (tys ci h13) (nms ci h13) hown hWd.1 hP (wsO_D nO ad cA hj) hS o hw (cls_get ci h13) k hkn hL hsame hfin hpd hnar hfit hln hd kk'
  · exact va_putN hx hb hts (lay_in h13) (cTy ci) (tys ci h13) (nms ci h13) hown hWd.1 hP (wsO_D nO ad cA hj) hS o hw (cls_get ci h13) k hkn hL hsame hfin hpd hnar hfit hln hd kk'
theorem snd_put {a b d : Nat} {i : Instr × Nat} (X : Cx p R s m args c cells slots cc nL cls nO ad cA D) (h : ckI cls nL i 8 a b d = true) (hd : decode cc pc = .ok i) (k : i_put (Wx p l e R s m args below meth c cells slots QW nL nO ad cA D (pc + i.2)) a b ls stk st) : Wx p l e R s m args below meth c cells slots QW nL nO ad cA D pc ls stk st := by
  simp only [ckI, Bool.and_eq_true, decide_eq_true_eq] at h
  obtain ⟨⟨⟨⟨h, h1⟩, h2⟩, h3⟩, h4⟩ := h
  subst h
  obtain ⟨q, hq, e1, e2, e3, e4⟩ := ckF_q h1
  unfold i_put at k
  split at k
  · rename_i v o r
    obtain ⟨hk, k⟩ := k
    intro o1 o2 o3 H locs lsM hP hS hl
    exact snd_putw X hq e1 e2 e3 e4 (kl_lt (okLs_hd (okLs_tl o2)) (by have := (FL_q hq).2.1; omega)) hk h2 h3 rfl rfl h4 hd hP hS (fun H1 locs1 q1 q2 => k o1 (okLs_tl (okLs_tl o2)) (okS_up2 o3 (okLs_hd o2)) H1 locs1 lsM q1 q2 hl)
  · exact k.elim
theorem snd_putZ {a b d : Nat} {i : Instr × Nat} (X : Cx p R s m args c cells slots cc nL cls nO ad cA D) (h : ckI cls nL i 9 a b d = true) (hd : decode cc pc = .ok i) (k : i_putZ (Wx p l e R s m args below meth c cells slots QW nL nO ad cA D (pc + i.2)) a b ls stk st) : Wx p l e R s m args below meth c cells slots QW nL nO ad cA D pc ls stk st := by
  simp only [ckI, Bool.and_eq_true, decide_eq_true_eq] at h
  obtain ⟨⟨⟨⟨h, h1⟩, h2⟩, h3⟩, h4⟩ := h
  subst h
  obtain ⟨q, hq, e1, e2, e3, e4⟩ := ckF_q h1
  unfold i_putZ at k
  split at k
  · rename_i v o r
    obtain ⟨hk, hv, k⟩ := k
    intro o1 o2 o3 H locs lsM hP hS hl
    refine snd_putw X hq e1 e2 e3 e4 (kl_lt (okLs_hd (okLs_tl o2)) (by have := (FL_q hq).2.1; omega)) hk h2 h3 ?_ ?_ h4 hd hP hS (fun H1 locs1 q1 q2 => k o1 (okLs_tl (okLs_tl o2)) (okS_up2 o3 (okLs_hd o2)) H1 locs1 lsM q1 q2 hl)
    · rcases hv with rfl | rfl <;> decide
    · rcases hv with rfl | rfl <;> decide
  · exact k.elim
theorem arr_w {o ty : Nat} (ho : okV nO (some (.inr o))) (hk : kl o = ty) (h13 : ¬ ty < 13) (h99 : ty < 99) : (wsO nO ad cA st)[o]? = some (ad o, .inl (cA ty, len o, .inl (fun i => oI (st o i)))) := by
  rw [wsO_get nO ad cA (kl_lt ho (by omega)), cel_arr ad cA (by omega), hk]
theorem snd_ald {ty a b d t : Nat} {i : Instr × Nat} (ht : (t = 10 ∧ ty = 50) ∨ (t = 11 ∧ ty = 51) ∨ (t = 15 ∧ ty = 52)) (X : Cx p R s m args c cells slots cc nL cls nO ad cA D) (h : ckI cls nL i t a b d = true) (hd : decode cc pc = .ok i) (k : i_ald (Wx p l e R s m args below meth c cells slots QW nL nO ad cA D (pc + i.2)) ty ls stk st) : Wx p l e R s m args below meth c cells slots QW nL nO ad cA D pc ls stk st := by
  obtain ⟨hx, hb, hml, hown, hts, hWd, hj, hcl0, -⟩ := X
  unfold i_ald at k
  split at k
  · rename_i j o r
    obtain ⟨hk, hin, k⟩ := k
    intro o1 o2 o3 H locs lsM hP hS hl
    have hjR : InR j := okLs_hd o2
    have k := k o1 (okLs_cons (o3 _ _) (okLs_tl (okLs_tl o2))) o3 H locs lsM hP hS hl
    have e0 : oI (st o (oI j).toNatClampNeg) = oI (st o j.toNat) := by rw [oI_cl hjR]
    rcases ht with ⟨rfl, rfl⟩ | ⟨rfl, rfl⟩ | ⟨rfl, rfl⟩ <;> simp only [ckI, decide_eq_true_eq] at h <;> subst h
    · exact va_iald hx hb hWd.1 hP o 0 (arr_w (okLs_hd (okLs_tl o2)) hk (by decide) (by decide)) rfl (oI_in hjR hin) hd (by rw [e0]; exact k)
    · exact va_bald hx hb hWd.1 hP o 1 (arr_w (okLs_hd (okLs_tl o2)) hk (by decide) (by decide)) rfl (oI_in hjR hin) hd (by rw [e0]; exact k)
    · exact va_zald hx hb hWd.1 hP o 2 (arr_w (okLs_hd (okLs_tl o2)) hk (by decide) (by decide)) rfl (oI_in hjR hin) hd (by rw [e0]; exact k)
  · exact k.elim
theorem snd_ast {a b d : Nat} {i : Instr × Nat} (X : Cx p R s m args c cells slots cc nL cls nO ad cA D) (h : ckI cls nL i 12 a b d = true) (hd : decode cc pc = .ok i) (k : i_ast (Wx p l e R s m args below meth c cells slots QW nL nO ad cA D (pc + i.2)) ls stk st) : Wx p l e R s m args below meth c cells slots QW nL nO ad cA D pc ls stk st := by
  obtain ⟨hx, hb, hml, hown, hts, hWd, hj, hcl0, -⟩ := X
  simp only [ckI, decide_eq_true_eq] at h
  subst h
  unfold i_ast at k
  split at k
  · rename_i v j o r
    obtain ⟨hk, hin, k⟩ := k
    intro o1 o2 o3 H locs lsM hP hS hl
    have hjR : InR j := okLs_hd (okLs_tl o2)
    refine va_iast hx hb hWd.1 hP (wsO_D nO ad cA hj) hS o 0 (arr_w (okLs_hd (okLs_tl (okLs_tl o2))) hk (by decide) (by decide)) rfl (oI_in hjR hin) hd (fun H1 locs1 q1 _ q3 => ?_)
    have e := wsO_ast nO ad cA (st := st) (o := o) (i := j.toNat) (v := v) (x := oI v) (by omega) rfl
    rw [hk] at e
    rw [oI_cl hjR, e] at q1
    exact k o1 (okLs_tl (okLs_tl (okLs_tl o2))) (okS_up2 o3 (okLs_hd o2)) H1 locs1 lsM q1 q3 hl
  · exact k.elim
theorem snd_astB {a b d : Nat} {i : Instr × Nat} (X : Cx p R s m args c cells slots cc nL cls nO ad cA D) (h : ckI cls nL i 13 a b d = true) (hd : decode cc pc = .ok i) (k : i_astB (Wx p l e R s m args below meth c cells slots QW nL nO ad cA D (pc + i.2)) ls stk st) : Wx p l e R s m args below meth c cells slots QW nL nO ad cA D pc ls stk st := by
  obtain ⟨hx, hb, hml, hown, hts, hWd, hj, hcl0, -⟩ := X
  simp only [ckI, decide_eq_true_eq] at h
  subst h
  unfold i_astB at k
  split at k
  · rename_i v j o r
    obtain ⟨hk, hin, k⟩ := k
    intro o1 o2 o3 H locs lsM hP hS hl
    have hjR : InR j := okLs_hd (okLs_tl o2)
    refine va_bast hx hb hWd.1 hP (wsO_D nO ad cA hj) hS o 1 (arr_w (okLs_hd (okLs_tl (okLs_tl o2))) hk (by decide) (by decide)) rfl (oI_in hjR hin) hd (fun H1 locs1 q1 _ q3 => ?_)
    have e := wsO_ast nO ad cA (st := st) (o := o) (i := j.toNat) (v := w8 v) (x := vp_nar .byte (oI v)) (by omega) (by rw [vp_nar_byte, w8_eq])
    rw [hk] at e
    rw [oI_cl hjR, e] at q1
    exact k o1 (okLs_tl (okLs_tl (okLs_tl o2))) (okS_up2 o3 (InR_w8 v)) H1 locs1 lsM q1 q3 hl
  · exact k.elim
theorem snd_astZ {a b d : Nat} {i : Instr × Nat} (X : Cx p R s m args c cells slots cc nL cls nO ad cA D) (h : ckI cls nL i 14 a b d = true) (hd : decode cc pc = .ok i) (k : i_astZ (Wx p l e R s m args below meth c cells slots QW nL nO ad cA D (pc + i.2)) ls stk st) : Wx p l e R s m args below meth c cells slots QW nL nO ad cA D pc ls stk st := by
  obtain ⟨hx, hb, hml, hown, hts, hWd, hj, hcl0, -⟩ := X
  simp only [ckI, decide_eq_true_eq] at h
  subst h
  unfold i_astZ at k
  split at k
  · rename_i v j o r
    obtain ⟨hk, hin, hv, k⟩ := k
    intro o1 o2 o3 H locs lsM hP hS hl
    have hjR : InR j := okLs_hd (okLs_tl o2)
    refine va_zast hx hb hWd.1 hP (wsO_D nO ad cA hj) hS o 2 (arr_w (okLs_hd (okLs_tl (okLs_tl o2))) hk (by decide) (by decide)) rfl (oI_in hjR hin) hd (fun H1 locs1 q1 _ q3 => ?_)
    have e := wsO_ast nO ad cA (st := st) (o := o) (i := j.toNat) (v := v) (x := vp_nar .boolean (oI v)) (by omega) (by rcases hv with rfl | rfl <;> decide)
    rw [hk] at e
    rw [oI_cl hjR, e] at q1
    exact k o1 (okLs_tl (okLs_tl (okLs_tl o2))) (okS_up2 o3 (okLs_hd o2)) H1 locs1 lsM q1 q3 hl
  · exact k.elim
theorem len_lt {o : Nat} : len o < 50000 := by
  have h : lenL.all (fun x => decide (x < 50000)) = true := by decide +kernel
  unfold len
  rw [List.getD_eq_getElem?_getD]
  cases hq : lenL[o]? with
  | none => exact Nat.lt_of_sub_pos (by decide)
  | some x => exact of_decide_eq_true (List.all_eq_true.mp h x (List.mem_of_getElem? hq))
theorem snd_alen {a b d : Nat} {i : Instr × Nat} (X : Cx p R s m args c cells slots cc nL cls nO ad cA D) (h : ckI cls nL i 16 a b d = true) (hd : decode cc pc = .ok i) (k : i_alen (Wx p l e R s m args below meth c cells slots QW nL nO ad cA D (pc + i.2)) ls stk st) : Wx p l e R s m args below meth c cells slots QW nL nO ad cA D pc ls stk st := by
  obtain ⟨hx, hb, hml, hown, hts, hWd, hj, hcl0, -⟩ := X
  simp only [ckI, decide_eq_true_eq] at h
  subst h
  unfold i_alen at k
  split at k
  · rename_i o r
    obtain ⟨hk, k⟩ := k
    intro o1 o2 o3 H locs lsM hP hS hl
    have hlen := @len_lt o
    have k := k o1 (okLs_cons ⟨by omega, by omega⟩ (okLs_tl o2)) o3 H locs lsM hP hS hl
    have e : Int32.ofNat (len o) = oI (len o : Int) := rfl
    rcases hk with hk | hk | hk
    · exact va_alen hx hb hWd.1 hP o 0 (arr_w (okLs_hd o2) hk (by decide) (by decide)) rfl (v := oI (len o : Int)) e hd k
    · exact va_alen hx hb hWd.1 hP o 1 (arr_w (okLs_hd o2) hk (by decide) (by decide)) rfl (v := oI (len o : Int)) e hd k
    · exact va_alen hx hb hWd.1 hP o 2 (arr_w (okLs_hd o2) hk (by decide) (by decide)) rfl (v := oI (len o : Int)) e hd k
  · exact k.elim
end STP
end
section
/-! calls, ends, whole blocks -/
def rcv (k : Nat) (as : List V) : Prop := mS k = true ∨ ∃ o as', as = some (.inr o) :: as' ∧ kl o = mK k
def wM (k : Nat) : List Cond := .code (yN k) (mC k) (mL k) (mR k) :: TB
def PcC (nO : Nat) (ad : Nat → Nat) (cA : Nat → ClassId) (D : va_G) (as : List V) (st : St) : Array Value → State → Prop := va_Pc (as.map (ev ad)) (fun U => va_P D classes (wsO nO ad cA st) U.heap ∧ Wd cA D U)
def QcC (nO : Nat) (ad : Nat → Nat) (cA : Nat → ClassId) (D : va_G) (Q : Rn) : Array Value → State → Outcome → State → Prop := fun _ s0 oc t => (∃ (v : V) (st' : St), oc = .returned (evr ad v) ∧ okV nO v ∧ okS st' ∧ Q v st' ∧ va_P D classes (wsO nO ad cA st') t.heap) ∧ va_F (A0 nO ad) s0 t
theorem PcC_blind (nO : Nat) (ad : Nat → Nat) (cA : Nat → ClassId) (D : va_G) (as : List V) (st : St) : FrameBlind (PcC nO ad cA D as st) := by
  intro a U g mk h
  obtain ⟨h1, h2, h3⟩ := h
  exact ⟨h1, h2, Wd.same (u := U) (U := U.calling g mk a) rfl h3⟩
theorem pn_spec : ∀ (n : Nat) (acc s as r : List V), pn n acc s = some (as, r) → acc.reverse ++ s = as.reverse ++ r ∧ as.length = acc.length + n
  | 0, acc, s, as, r, h => by
    cases h
    exact ⟨rfl, rfl⟩
  | n + 1, acc, [], as, r, h => by cases h
  | n + 1, acc, v :: s, as, r, h => by
    have := pn_spec n (v :: acc) s as r h
    rw [List.reverse_cons, List.append_assoc, List.singleton_append, List.length_cons] at this
    exact ⟨this.1, by omega⟩
theorem MT_q {k : Nat} (h : k < NM) : Cond.initialized (yN k).cls ∈ TB ∧ (mS k = true → Cond.static (yN k) ∈ TB) ∧ (mS k = false → Cond.instanceMethod (yN k) ∈ TB ∧ Cond.selects (cN (mK k)) (yN k) (yN k) ∈ TB) ∧ (yN k).cls = cN (mK k) := by
  have h1 := List.all_eq_true.mp MT_ok k (List.mem_range.mpr h)
  unfold okM at h1
  simp only [Bool.and_eq_true, decide_eq_true_eq] at h1
  obtain ⟨⟨h1, h2⟩, h3⟩ := h1
  refine ⟨atp_mem h1, fun hs => ?_, fun hs => ?_, h3⟩
  · rw [if_pos hs] at h2
    exact atp_mem h2
  · rw [if_neg (by rw [hs]; decide), Bool.and_eq_true] at h2
    exact ⟨atp_mem h2.1, atp_mem h2.2⟩
theorem cN_ok : ∀ k, k < 14 → cN k ≠ "java/lang/invoke/MethodHandle" ∧ cN k ≠ "java/lang/invoke/VarHandle" ∧ plainName (cN k) = true := by decide +kernel
theorem mK_lt : ∀ k, mK k < 13 := by
  have h : mtL.all (fun q => decide (q.2.2.2.2.1 < 13)) = true := by decide +kernel
  intro k
  unfold mK mt
  rw [List.getD_eq_getElem?_getD]
  cases hq : mtL[k]? with
  | none => decide
  | some x => exact of_decide_eq_true (List.all_eq_true.mp h x (List.mem_of_getElem? hq))
theorem mL_lt : ∀ k, mL k < 20 := by
  have h : mtL.all (fun q => decide (q.2.2.1 < 20)) = true := by decide +kernel
  intro k
  unfold mL mt
  rw [List.getD_eq_getElem?_getD]
  cases hq : mtL[k]? with
  | none => decide
  | some x => exact of_decide_eq_true (List.all_eq_true.mp h x (List.mem_of_getElem? hq))
section CAL
variable {p : Program} {l : Launch} {e : Env} {R : Room} {s : State} {m : MethodId} {args : Array Value} {below : List Frame} {meth : Method} {c : Code} {cells slots : Nat} {QW : State → Prop} {cc : ByteArray} {nL cls : Nat} {nO : Nat} {ad : Nat → Nat} {cA : Nat → ClassId} {D : va_G} {pc : Nat} {ls stk : List V} {st : St} {rmD : Room} {C : Cn}
/-- the callees' contracts -/
def CS (l : Launch) (R : Room) (nO : Nat) (ad : Nat → Nat) (cA : Nat → ClassId) (D : va_G) (rmD : Room) (C : Cn) : Prop := rmD.cells = 0 ∧ rmD.slots = 0 ∧ rmD.frames + 1 ≤ R.frames ∧ 40 + rmD.locals ≤ R.locals ∧
  ∀ (k : Nat) (as : List V) (st : St) (Q : Rn), k < NM → C k as st Q → okLs nO as → okS st → rcv k as ∧ Met l (yN k) (wM k) rmD (PcC nO ad cA D as st) (QcC nO ad cA D Q) 0 0 (A0 nO ad)
theorem snd_run {H : Heap} {locs : List Loc} {lsM : Array Slot} {st0 rest : List Value} {Q : Rn} {a : Array Value} (hr : va_Run p l e R s m args below meth c H locs cells slots 0 0 (F0 m pc lsM st0) rest (QcC nO ad cA D Q a) (A0 nO ad)) (hS : va_S (A0 nO ad) s.heap H locs)
    (kk : ∀ (v : V) (st' : St) (H1 : Heap) (locs1 : List Loc), okV nO v → okS st' → Q v st' → va_P D classes (wsO nO ad cA st') H1 → va_S (A0 nO ad) s.heap H1 locs1 → W p l e R s m args below meth c H1 locs1 cells slots QW (F0 m (pc + 3) lsM ((evr ad v).toList ++ rest))) : W p l e R s m args below meth c H locs cells slots QW (F0 m pc lsM st0) := by
  intro T hT X
  obtain ⟨v, st₀, t, T', L, h0, X', hL, e1, e2, ⟨⟨r, st', hv, hp1, hp2, hp3, hp4⟩, hz, hk⟩, sp⟩ := hr T hT X
  have hv' : v = evr ad r := by cases hv; rfl
  subst hv'
  rw [h0] at hz hk
  obtain ⟨t2, a1, b1⟩ := kk r st' T'.heap (locs ++ L) hp1 hp2 hp3 (by rw [e1]; exact hp4)
    ⟨Nat.le_trans hS.1 (by rw [e1]; exact hz), fun q h1 h2 => by rw [e1, hk q (Nat.lt_of_lt_of_le h1 hS.1) h2]; exact hS.2.1 q h1 h2, fun q hq => by
      rcases List.mem_append.mp hq with h | h
      · exact hS.2.2 q h
      · exact hL q h⟩ T' rfl X'
  exact ⟨t2, sp t2 a1, b1⟩
theorem rest8 {r : List V} (h : r.length ≤ 8) : ((r.map (ev ad)).map fun v => v.category).sum ≤ 8 := by
  have : ∀ r : List V, ((r.map (ev ad)).map fun v => v.category).sum = r.length := by
    intro r
    induction r with
    | nil => rfl
    | cons v r ih =>
      rw [List.map_cons, List.map_cons, List.sum_cons, ih, ev_cat, List.length_cons]
      omega
  rw [this]
  exact h
theorem snd_calls {a b d : Nat} {i : Instr × Nat} {as r : List V} {Q : Rn} {H : Heap} {locs : List Loc} {lsM : Array Slot} (X : Cx p R s m args c cells slots cc nL cls nO ad cA D) (hC : CS l R nO ad cA D rmD C) (hi : (if mS a then decide (i = (.invokestatic d, 3)) else decide (i = (.invokevirtual d, 3))) = true) (h1 : ckM cls d a = true) (h2 : a < NM) (h3 : (parseMethodDescriptor (yN a).desc).map (fun s => s.parameters.length + (if mS a then 0 else 1)) = some b) (hd : decode cc pc = .ok i)
    (hpn : pn b [] stk = some (as, r)) (h8 : r.length ≤ 8) (hc : C a as st Q) (o2 : okLs nO stk) (o3 : okS st) (hP : va_P D classes (wsO nO ad cA st) H) (hl : lv_has lsM nL (lvl ad ls)) : va_Run p l e R s m args below meth c H locs cells slots 0 0 (F0 m pc lsM (stk.map (ev ad))) (r.map (ev ad)) (QcC nO ad cA D Q (as.map (ev ad)).toArray) (A0 nO ad) ∧ i.2 = 3 := by
  obtain ⟨hx, hb, hml, hown, hts, hWd, hj, hcl0, -, -, hcl, hsl⟩ := X
  obtain ⟨c1, c2, c3, c4, hC⟩ := hC
  obtain ⟨hs, hlen⟩ := pn_spec _ _ _ _ _ hpn
  rw [List.reverse_nil, List.nil_append] at hs
  rw [List.length_nil, Nat.zero_add] at hlen
  have oas : okLs nO as := fun v hv => o2 v (by rw [hs]; exact List.mem_append_left _ (List.mem_reverse.mpr hv))
  obtain ⟨hrc, hM⟩ := hC a as st Q h2 hc oas o3
  obtain ⟨m1, m2, m3, m4⟩ := MT_q h2
  have hcn := cN_ok (mK a) (by have := mK_lt a; omega)
  have hmL := mL_lt a
  have hyl : Cond.methodLink (cN cls) d (yN a) ∈ TB := by
    have := ckM_q h1
    have hn : yE a = yN a := by
      have : a < 265 := h2
      unfold yE
      rw [if_neg (by omega), if_neg (by omega), if_neg (by omega)]
    rw [hn] at this
    exact this
  have hws : ∀ w ∈ wM a, w ∈ TB := by
    intro w hw
    rcases List.mem_cons.mp hw with rfl | hw
    · exact code_TB h2
    · exact hw
  have hblind := PcC_blind nO ad cA D as st
  have hpre : ∀ U : State, U.heap = H → s.WarmedH U.vm → PcC nO ad cA D as st (as.map (ev ad)).toArray U := fun U hU hW => ⟨rfl, by rw [hU]; exact hP, hWd.warm hW⟩
  have hsizeL : lsM.size = nL := hl.1
  have hB : ∀ n, (∀ sig, parseMethodDescriptor (yN a).desc = some sig → n = sig.parameters.length) → CallB R s args (cN cls) d (yN a) (mC a) (mL a) (mR a) (wM a) rmD 0 0 n := by
    intro n hn
    refine ⟨c1, c2, c3, by omega, fun w hw a' U hW => word_at hW (TB_good w (hws w hw)) (hts w (hws w hw)), List.mem_cons_self, hts _ (code_TB h2), hts _ m1, ?_, hn, hts _ hyl⟩
    rw [m4]
    exact ⟨hcn.1, hcn.2.1⟩
  cases hms : mS a with
  | true =>
    rw [hms, if_pos rfl, decide_eq_true_eq] at hi
    subst hi
    rw [hms] at h3
    refine ⟨?_, rfl⟩
    have hst : stk.map (ev ad) = (as.map (ev ad)).reverse ++ r.map (ev ad) := by rw [hs, List.map_append, List.map_reverse]
    exact va_runS (n := as.length) (As := as.map (ev ad)) (rest := r.map (ev ad)) ⟨hx, hb, hml, hown, hts⟩ hM ⟨hB _ (fun sig hsig => by rw [hsig] at h3; simp at h3; omega), hts _ (m2 hms)⟩ ⟨hblind, hpre⟩ rfl (by simp) hsizeL (by rw [hst]) (lv_room (rest8 h8)) hd ⟨by omega, by omega⟩
  | false =>
    rw [hms, if_neg (by decide), decide_eq_true_eq] at hi
    subst hi
    rw [hms] at h3
    refine ⟨?_, rfl⟩
    rcases hrc with hrc | ⟨o, as', has, hko⟩
    · rw [hms] at hrc
      cases hrc
    · subst has
      have hst : stk.map (ev ad) = (as'.map (ev ad)).reverse ++ .ref (ad o) :: r.map (ev ad) := by
        rw [hs, List.map_append, List.map_reverse, List.map_cons, List.reverse_cons, List.append_assoc]
        rfl
      have hlen' : as'.length + 1 = b := by rw [List.length_cons] at hlen; exact hlen
      have hko13 : kl o < 13 := by rw [hko]; exact mK_lt a
      have hw : (wsO nO ad cA st)[o]? = some (ad o, .inr (mK a, fvs ad st o)) := by rw [wsO_get nO ad cA (kl_lt (oas _ List.mem_cons_self) (by omega)), cel_obj ad cA hko13, hko]
      exact va_runV (n := as'.length) (C := cN (mK a)) (As := as'.map (ev ad)) (rest := r.map (ev ad)) (b := ad o) ⟨hx, hb, hml, hown, hts⟩ hM ⟨hB _ (fun sig hsig => by rw [hsig] at h3; simp at h3; omega), hts _ (m3 hms).1, hts _ (m3 hms).2⟩ ⟨hblind, va_recv hWd.1 hP (cls_get _ (mK_lt a)) hw, hpre⟩ rfl (by simp) hsizeL (by rw [hst]) (lv_room (rest8 h8)) hd ⟨by omega, by omega⟩
theorem snd_call {a b d : Nat} {i : Instr × Nat} (X : Cx p R s m args c cells slots cc nL cls nO ad cA D) (hC : CS l R nO ad cA D rmD C) (h : ckI cls nL i 30 a b d = true) (hd : decode cc pc = .ok i) (k : i_call C (Wx p l e R s m args below meth c cells slots QW nL nO ad cA D (pc + i.2)) a b ls stk st) : Wx p l e R s m args below meth c cells slots QW nL nO ad cA D pc ls stk st := by
  simp only [ckI, Bool.and_eq_true, decide_eq_true_eq] at h
  obtain ⟨⟨⟨⟨h0, h1⟩, h2⟩, h3⟩, h4⟩ := h
  unfold i_call at k
  split at k
  · rename_i as r hpn
    obtain ⟨h8, k⟩ := k
    intro o1 o2 o3 H locs lsM hP hS hl
    obtain ⟨hr, hi3⟩ := snd_calls (locs := locs) X hC h0 h1 h2 h3 hd hpn h8 k o2 o3 hP hl
    rw [hi3] at hr
    refine snd_run hr hS (fun v st' H1 locs1 q1 q2 q3 q4 q5 => ?_)
    have o2r : okLs nO r := fun v hv => o2 v (by
      have := (pn_spec _ _ _ _ _ hpn).1
      rw [List.reverse_nil, List.nil_append] at this
      rw [this]; exact List.mem_append_right _ hv)
    match v, q3 with
    | none, q3 => 
      have q3 := q3 o1 o2r q2 H1 locs1 lsM q4 q5 hl

      exact q3
  · exact k.elim
theorem snd_callI {a b d : Nat} {i : Instr × Nat} (X : Cx p R s m args c cells slots cc nL cls nO ad cA D) (hC : CS l R nO ad cA D rmD C) (h : ckI cls nL i 31 a b d = true) (hd : decode cc pc = .ok i) (k : i_callI C (Wx p l e R s m args below meth c cells slots QW nL nO ad cA D (pc + i.2)) a b ls stk st) : Wx p l e R s m args below meth c cells slots QW nL nO ad cA D pc ls stk st := by
  simp only [ckI, Bool.and_eq_true, decide_eq_true_eq] at h
  obtain ⟨⟨⟨h0, h1⟩, h2⟩, h3⟩ := h
  unfold i_callI at k
  split at k
  · rename_i as r hpn
    obtain ⟨h8, k⟩ := k
    intro o1 o2 o3 H locs lsM hP hS hl
    obtain ⟨hr, hi3⟩ := snd_calls (locs := locs) X hC h0 h1 h2 h3 hd hpn h8 k o2 o3 hP hl
    rw [hi3] at hr
    refine snd_run hr hS (fun v st' H1 locs1 q1 q2 q3 q4 q5 => ?_)
    have o2r : okLs nO r := fun v hv => o2 v (by
      have := (pn_spec _ _ _ _ _ hpn).1
      rw [List.reverse_nil, List.nil_append] at this
      rw [this]; exact List.mem_append_right _ hv)
    match v, q1, q3 with
    | some x, q1, q3 =>
      have q3 := q3 o1 (okLs_cons q1 o2r) q2 H1 locs1 lsM q4 q5 hl

      exact q3
  · exact k.elim
end CAL
end
section
/-! the JDK's calls, the script, ends of blocks; whole blocks; the methods' contracts -/
theorem w_min : Cond.static minName ∈ TB ∧ Cond.initialized "java/lang/Math" ∈ TB ∧ Cond.code Lib.Math.min.name Lib.Math.min.code 2 (some .int) ∈ TB := ⟨atp_mem (pos := 2135) (by decide +kernel), atp_mem (pos := 1003) (by decide +kernel), List.mem_filter.mpr ⟨tb_2 (List.mem_of_getElem? (i := 136) rfl), rfl⟩⟩
theorem w_max : Cond.static maxName ∈ TB ∧ Cond.code Lib.Math.max.name Lib.Math.max.code 2 (some .int) ∈ TB := ⟨atp_mem (pos := 1031) (by decide +kernel), List.mem_filter.mpr ⟨tb_1 (List.mem_of_getElem? (i := 32) rfl), rfl⟩⟩
theorem w_cpy : Cond.static cpyName ∈ TB ∧ Cond.initialized "java/lang/System" ∈ TB ∧ Cond.native cpyName ∈ TB := ⟨atp_mem (pos := 2166) (by decide +kernel), atp_mem (pos := 1014) (by decide +kernel), atp_mem (pos := 2167) (by decide +kernel)⟩
/-- the script, where there is one -/
def SX (s : State) (nO : Nat) (ad : Nat → Nat) (L : Nat) (sx : Nat → Int) : Prop := L = 0 ∨ ∃ (n : Nat) (xs : Nat → Int32), L = n + 1 ∧ n < 2147483647 ∧ va_X (ad 500) n xs s s.heap ∧ ad 500 < s.heap.size ∧ ¬ A0 nO ad (ad 500) ∧ ∀ j, oI (sx j) = xs j ∧ InR (sx j)
section BLK
variable {p : Program} {l : Launch} {e : Env} {R : Room} {s : State} {m : MethodId} {args : Array Value} {below : List Frame} {meth : Method} {c : Code} {cells slots : Nat} {QW : State → Prop} {cc : ByteArray} {nL cls : Nat} {nO : Nat} {ad : Nat → Nat} {cA : Nat → ClassId} {D : va_G} {pc : Nat} {ls stk : List V} {st : St} {rmD : Room} {C : Cn} {L : Nat} {sx : Nat → Int}
theorem snd_min {a b d : Nat} {i : Instr × Nat} (X : Cx p R s m args c cells slots cc nL cls nO ad cA D) (h : ckI cls nL i 32 a b d = true) (hd : decode cc pc = .ok i) (k : i_min (Wx p l e R s m args below meth c cells slots QW nL nO ad cA D (pc + i.2)) ls stk st) : Wx p l e R s m args below meth c cells slots QW nL nO ad cA D pc ls stk st := by
  obtain ⟨hx, hb, hml, hown, hts, hWd, hj, hcl0, hfr, hlo, hcl, hsl⟩ := X
  simp only [ckI, Bool.and_eq_true, decide_eq_true_eq] at h
  obtain ⟨h, h1⟩ := h
  subst h
  unfold i_min at k
  split at k
  · rename_i y x r
    obtain ⟨h8, k⟩ := k
    intro o1 o2 o3 H locs lsM hP hS hl
    have hy : InR y := okLs_hd o2
    have hx' : InR x := okLs_hd (okLs_tl o2)
    have e : (if oI y < oI x then oI y else oI x) = oI (if x ≤ y then x else y) := by
      by_cases hxy : x ≤ y
      · rw [if_pos hxy, if_neg (by rw [oI_lt hy hx']; omega)]
      · rw [if_neg hxy, if_pos (by rw [oI_lt hy hx']; omega)]
    have hR : InR (if x ≤ y then x else y) := by split <;> assumption
    exact va_mmin hx hb (by rw [hml, hl.1]) hown (hts _ (ckM_q h1)) (hts _ w_min.1) (hts _ w_min.2.1) (hts _ w_min.2.2) hfr (by have := rest8 (ad := ad) h8; omega) hcl hsl hd (by rw [e]; exact k o1 (okLs_cons hR (okLs_tl (okLs_tl o2))) o3 H locs lsM hP hS hl)
  · exact k.elim
theorem snd_max {a b d : Nat} {i : Instr × Nat} (X : Cx p R s m args c cells slots cc nL cls nO ad cA D) (h : ckI cls nL i 33 a b d = true) (hd : decode cc pc = .ok i) (k : i_max (Wx p l e R s m args below meth c cells slots QW nL nO ad cA D (pc + i.2)) ls stk st) : Wx p l e R s m args below meth c cells slots QW nL nO ad cA D pc ls stk st := by
  obtain ⟨hx, hb, hml, hown, hts, hWd, hj, hcl0, hfr, hlo, hcl, hsl⟩ := X
  simp only [ckI, Bool.and_eq_true, decide_eq_true_eq] at h
  obtain ⟨h, h1⟩ := h
  subst h
  unfold i_max at k
  split at k
  · rename_i y x r
    obtain ⟨h8, k⟩ := k
    intro o1 o2 o3 H locs lsM hP hS hl
    have hy : InR y := okLs_hd o2
    have hx' : InR x := okLs_hd (okLs_tl o2)
    have e : (if oI x < oI y then oI y else oI x) = oI (if y ≤ x then x else y) := by
      by_cases hxy : y ≤ x
      · rw [if_pos hxy, if_neg (by rw [oI_lt hx' hy]; omega)]
      · rw [if_neg hxy, if_pos (by rw [oI_lt hx' hy]; omega)]
    have hR : InR (if y ≤ x then x else y) := by split <;> assumption
    exact va_mmax hx hb (by rw [hml, hl.1]) hown (hts _ (ckM_q h1)) (hts _ w_max.1) (hts _ w_min.2.1) (hts _ w_max.2) hfr (by have := rest8 (ad := ad) h8; omega) hcl hsl hd (by rw [e]; exact k o1 (okLs_cons hR (okLs_tl (okLs_tl o2))) o3 H locs lsM hP hS hl)
  · exact k.elim
theorem okS_up1 {st : St} {o : Nat} {f : Nat → Int} (h : okS st) (hf : ∀ j, InR (f j)) : okS (up1 st o f) := by
  intro k j
  unfold up1
  split
  · exact hf j
  · exact h _ _
theorem snd_copy {a b d : Nat} {i : Instr × Nat} (X : Cx p R s m args c cells slots cc nL cls nO ad cA D) (h : ckI cls nL i 34 a b d = true) (hd : decode cc pc = .ok i) (k : i_copy (Wx p l e R s m args below meth c cells slots QW nL nO ad cA D (pc + i.2)) ls stk st) : Wx p l e R s m args below meth c cells slots QW nL nO ad cA D pc ls stk st := by
  obtain ⟨hx, hb, hml, hown, hts, hWd, hj, hcl0, hfr, hlo, hcl, hsl⟩ := X
  simp only [ckI, Bool.and_eq_true, decide_eq_true_eq] at h
  obtain ⟨h, h1⟩ := h
  subst h
  unfold i_copy at k
  split at k
  · rename_i n dp dd sp o r
    obtain ⟨h8, hne, hk1, hk2, ⟨b1, b2, b3, b4, b5⟩, k⟩ := k
    intro o1 o2 o3 H locs lsM hP hS hl
    have hn : InR n := okLs_hd o2
    have hdp : InR dp := okLs_hd (okLs_tl o2)
    have hsp : InR sp := okLs_hd (okLs_tl (okLs_tl (okLs_tl o2)))
    have nlt : ∀ {z : Int}, InR z → 0 ≤ z → ¬ oI z < 0 := fun hz h0 hl => by
      rw [← oI_0, oI_lt hz InR_0] at hl
      omega
    have hnw : nativeFrameWords "java/lang/System" "arraycopy" 5 ≤ 10 := by decide +kernel
    have h88 := rest8 (ad := ad) h8
    have hlo' : ((r.map (ev ad)).map fun v => v.category).sum + (nativeFrameWords "java/lang/System" "arraycopy" 5 + 11) ≤ R.locals := by omega
    refine va_copyi hx hb (by rw [hml, hl.1]) hown (hts _ (ckM_q h1)) (hts _ w_cpy.2.2) (hts _ w_cpy.1) (hts _ w_cpy.2.1) hWd.1 hP (wsO_D nO ad cA hj) hS o dd 0 0 (arr_w (okLs_hd (okLs_tl (okLs_tl (okLs_tl (okLs_tl o2))))) hk1 (by decide) (by decide)) (arr_w (okLs_hd (okLs_tl (okLs_tl o2))) hk2 (by decide) (by decide)) rfl rfl rfl (nlt hsp b3) (nlt hdp b2) (nlt hn b1) (by rw [oI_cl hsp, oI_cl hn]; omega) (by rw [oI_cl hdp, oI_cl hn]; omega) (fun _ _ => rfl) hfr hlo' hd (fun H1 locs1 q1 _ q3 => ?_)
    have e : (wsO nO ad cA st).set dd (ad dd, .inl (cA 50, len dd, .inl (va_cpy (fun i => oI (st o i)) (fun i => oI (st dd i)) (oI sp).toNatClampNeg (oI dp).toNatClampNeg (oI n).toNatClampNeg))) = wsO nO ad cA (up1 st dd (cpf (st o) (st dd) sp.toNat dp.toNat n.toNat)) := by
      rw [wsO_set nO ad cA (st := st) (st' := up1 st dd (cpf (st o) (st dd) sp.toNat dp.toNat n.toNat)) (o := dd) (fun _ h => up1_ne h), cel_arr ad cA (by omega), hk2]
      have : (fun j => oI (up1 st dd (cpf (st o) (st dd) sp.toNat dp.toNat n.toNat) dd j)) = va_cpy (fun i => oI (st o i)) (fun i => oI (st dd i)) (oI sp).toNatClampNeg (oI dp).toNatClampNeg (oI n).toNatClampNeg := by
        funext j
        rw [up1_self, oI_cl hsp, oI_cl hdp, oI_cl hn]
        unfold cpf va_cpy
        split <;> rfl
      rw [this]
    rw [e] at q1
    refine k o1 (okLs_tl (okLs_tl (okLs_tl (okLs_tl (okLs_tl o2))))) (okS_up1 o3 (fun j => ?_)) H1 locs1 lsM q1 q3 hl
    unfold cpf
    split <;> exact o3 _ _
  · exact k.elim
theorem snd_sld {a b d : Nat} {i : Instr × Nat} (X : Cx p R s m args c cells slots cc nL cls nO ad cA D) (hX : SX s nO ad L sx) (h : ckI cls nL i 35 a b d = true) (hd : decode cc pc = .ok i) (k : i_sld L sx (Wx p l e R s m args below meth c cells slots QW nL nO ad cA D (pc + i.2)) ls stk st) : Wx p l e R s m args below meth c cells slots QW nL nO ad cA D pc ls stk st := by
  obtain ⟨hx, hb, hml, hown, hts, hWd, hj, hcl0, -⟩ := X
  simp only [ckI, decide_eq_true_eq] at h
  subst h
  unfold i_sld at k
  split at k
  · rename_i j o r
    obtain ⟨rfl, ⟨h1, h2⟩, k⟩ := k
    intro o1 o2 o3 H locs lsM hP hS hl
    have hjR : InR j := okLs_hd o2
    rcases hX with hX | ⟨n, xs, hL, hn, hV, hlt, hA, hsx⟩
    · exfalso
      omega
    · have k := k o1 (okLs_cons (hsx _).2 (okLs_tl (okLs_tl o2))) o3 H locs lsM hP hS hl
      refine va_sld hx hb hV hlt hA hS (oI_in hjR ⟨h1, by omega⟩) hd ?_
      rw [oI_cl hjR, ← (hsx j.toNat).1]
      exact k
  · exact k.elim
theorem snd_sln {a b d : Nat} {i : Instr × Nat} (X : Cx p R s m args c cells slots cc nL cls nO ad cA D) (hX : SX s nO ad L sx) (h : ckI cls nL i 36 a b d = true) (hd : decode cc pc = .ok i) (k : i_sln L (Wx p l e R s m args below meth c cells slots QW nL nO ad cA D (pc + i.2)) ls stk st) : Wx p l e R s m args below meth c cells slots QW nL nO ad cA D pc ls stk st := by
  obtain ⟨hx, hb, hml, hown, hts, hWd, hj, hcl0, -⟩ := X
  simp only [ckI, decide_eq_true_eq] at h
  subst h
  unfold i_sln at k
  split at k
  · rename_i o r
    obtain ⟨rfl, h1, k⟩ := k
    intro o1 o2 o3 H locs lsM hP hS hl
    rcases hX with hX | ⟨n, xs, hL, hn, hV, hlt, hA, hsx⟩
    · exfalso
      omega
    · have k := k o1 (okLs_cons ⟨by omega, by omega⟩ (okLs_tl o2)) o3 H locs lsM hP hS hl
      refine va_slen hx hb hV hlt hA hS hd ?_
      have e : ((L : Int) - 1) = (n : Int) := by omega
      rw [e] at k
      exact k
  · exact k.elim
theorem s1_sound {t a b d : Nat} {i : Instr × Nat} (X : Cx p R s m args c cells slots cc nL cls nO ad cA D) (hC : CS l R nO ad cA D rmD C) (hX : SX s nO ad L sx) (h : ckI cls nL i t a b d = true) (hd : decode cc pc = .ok i) (k : s1 C L sx t a b (Wx p l e R s m args below meth c cells slots QW nL nO ad cA D (pc + i.2)) ls stk st) : Wx p l e R s m args below meth c cells slots QW nL nO ad cA D pc ls stk st := by
  match t, h, k with
  | 0, h, k => exact isI_q X h hd k
  | 1, h, k => exact isI_q X h hd k
  | 2, h, k => exact snd_load X h hd k
  | 3, h, k => exact snd_store X h hd k
  | 4, h, k =>
    simp only [ckI, Bool.and_eq_true, decide_eq_true_eq] at h
    exact snd_inc X h.1.1 h.1.2 hd k
  | 5, h, k =>
    simp only [ckI, Bool.and_eq_true, decide_eq_true_eq] at h
    exact snd_inc X h.1.1 h.1.2 hd k
  | 6, h, k => exact snd_get X h hd k
  | 7, h, k => exact snd_getR X h hd k
  | 8, h, k => exact snd_put X h hd k
  | 9, h, k => exact snd_putZ X h hd k
  | 10, h, k => exact snd_ald (Or.inl ⟨rfl, rfl⟩) X h hd k
  | 11, h, k => exact snd_ald (Or.inr (Or.inl ⟨rfl, rfl⟩)) X h hd k
  | 12, h, k => exact snd_ast X h hd k
  | 13, h, k => exact snd_astB X h hd k
  | 14, h, k => exact snd_astZ X h hd k
  | 15, h, k => exact snd_ald (Or.inr (Or.inr ⟨rfl, rfl⟩)) X h hd k
  | 16, h, k => exact snd_alen X h hd k
  | 17, h, k => exact snd_bins (by simp) X h hd k
  | 18, h, k => exact snd_bins (by simp) X h hd k
  | 19, h, k => exact snd_bins (by simp) X h hd k
  | 20, h, k => exact snd_divs (by simp) X h hd k
  | 21, h, k => exact snd_divs (by simp) X h hd k
  | 22, h, k => exact snd_bins (by simp) X h hd k
  | 23, h, k => exact snd_bins (by simp) X h hd k
  | 24, h, k => exact snd_bins (by simp) X h hd k
  | 25, h, k => exact snd_bins (by simp) X h hd k
  | 26, h, k => exact snd_i2b X h hd k
  | 27, h, k => exact snd_dup X h hd k
  | 28, h, k => exact snd_pop X h hd k
  | 29, h, k => exact snd_dup2 X h hd k
  | 30, h, k => exact snd_call X hC h hd k
  | 31, h, k => exact snd_callI X hC h hd k
  | 32, h, k => exact snd_min X h hd k
  | 33, h, k => exact snd_max X h hd k
  | 34, h, k => exact snd_copy X h hd k
  | 35, h, k => exact snd_sld X hX h hd k
  | 36, h, k => exact snd_sln X hX h hd k
  | 37, h, k => exact snd_loadR X h hd k
  | 38, h, k => exact snd_storeR X h hd k
  | t + 39, h, k => exact absurd h (by simp [ckI])
/-! the ends -/
theorem snd_icmp {t : Nat} {off : Int} {tgt nx : Nat} (X : Cx p R s m args c cells slots cc nL cls nO ad cA D) (ht : t < 6) (hd : decode cc pc = .ok (.if_icmp (cOp t) off, 3)) (hj : (pc : Int) + off = (tgt : Int)) (hn : nx = pc + 3) {x y : Int} {r : List V} (k1 : cnd t x y → Wx p l e R s m args below meth c cells slots QW nL nO ad cA D tgt ls r st) (k2 : ¬ cnd t x y → Wx p l e R s m args below meth c cells slots QW nL nO ad cA D nx ls r st) : Wx p l e R s m args below meth c cells slots QW nL nO ad cA D pc ls (some (.inl y) :: some (.inl x) :: r) st := by
  obtain ⟨hx, hb, hml, hown, hts, hWd, hj', hcl0, -⟩ := X
  intro o1 o2 o3 H locs lsM hP hS hl
  have hy : InR y := okLs_hd o2
  have hx' : InR x := okLs_hd (okLs_tl o2)
  have o2' := okLs_tl (okLs_tl o2)
  subst hn
  have K1 : cnd t x y → _ := fun h => k1 h o1 o2' o3 H locs lsM hP hS hl
  have K2 : ¬ cnd t x y → _ := fun h => k2 h o1 o2' o3 H locs lsM hP hS hl
  match t, ht, hd, K1, K2 with
  | 0, _, hd, K1, K2 => exact lv_icmp_eq hx hb hd hj (fun h => K1 ((oI_inj hx' hy).mp h)) (fun h => K2 (fun h' => h ((oI_inj hx' hy).mpr h')))
  | 1, _, hd, K1, K2 => exact lv_icmp_ne hx hb hd hj (fun h => K1 (fun h' => h ((oI_inj hx' hy).mpr h'))) (fun h => K2 (fun h' => h' ((oI_inj hx' hy).mp h)))
  | 2, _, hd, K1, K2 => exact lv_icmp_lt hx hb hd hj (fun h => K1 ((oI_lt hx' hy).mp h)) (fun h => K2 (fun h' => h ((oI_lt hx' hy).mpr h')))
  | 3, _, hd, K1, K2 => exact lv_icmp_ge hx hb hd hj (fun h => K1 ((oI_le hy hx').mp h)) (fun h => K2 (fun h' => h ((oI_le hy hx').mpr h')))
  | 4, _, hd, K1, K2 => exact lv_icmp_gt hx hb hd hj (fun h => K1 ((oI_lt hy hx').mp h)) (fun h => K2 (fun h' => h ((oI_lt hy hx').mpr h')))
  | 5, _, hd, K1, K2 => exact lv_icmp_le hx hb hd hj (fun h => K1 ((oI_le hx' hy).mp h)) (fun h => K2 (fun h' => h ((oI_le hx' hy).mpr h')))
theorem snd_if {t : Nat} {off : Int} {tgt nx : Nat} (X : Cx p R s m args c cells slots cc nL cls nO ad cA D) (ht : t < 6) (hd : decode cc pc = .ok (.ifCond (cOp t) off, 3)) (hj : (pc : Int) + off = (tgt : Int)) (hn : nx = pc + 3) {x : Int} {r : List V} (k1 : cnd t x 0 → Wx p l e R s m args below meth c cells slots QW nL nO ad cA D tgt ls r st) (k2 : ¬ cnd t x 0 → Wx p l e R s m args below meth c cells slots QW nL nO ad cA D nx ls r st) : Wx p l e R s m args below meth c cells slots QW nL nO ad cA D pc ls (some (.inl x) :: r) st := by
  obtain ⟨hx, hb, hml, hown, hts, hWd, hj', hcl0, -⟩ := X
  intro o1 o2 o3 H locs lsM hP hS hl
  have hx' : InR x := okLs_hd o2
  have o2' := okLs_tl o2
  have hy := InR_0
  subst hn
  have K1 : cnd t x 0 → _ := fun h => k1 h o1 o2' o3 H locs lsM hP hS hl
  have K2 : ¬ cnd t x 0 → _ := fun h => k2 h o1 o2' o3 H locs lsM hP hS hl
  match t, ht, hd, K1, K2 with
  | 0, _, hd, K1, K2 => exact lv_if_eq hx hb hd hj (fun h => K1 ((oI_inj hx' hy).mp (by rw [oI_0]; exact h))) (fun h => K2 (fun h' => h (by rw [← oI_0]; exact (oI_inj hx' hy).mpr h')))
  | 1, _, hd, K1, K2 => exact lv_if_ne hx hb hd hj (fun h => K1 (fun h' => h (by rw [← oI_0]; exact (oI_inj hx' hy).mpr h'))) (fun h => K2 (fun h' => h' ((oI_inj hx' hy).mp (by rw [oI_0]; exact h))))
  | 2, _, hd, K1, K2 => exact lv_if_lt hx hb hd hj (fun h => K1 ((oI_lt hx' hy).mp (by rw [oI_0]; exact h))) (fun h => K2 (fun h' => h (by rw [← oI_0]; exact (oI_lt hx' hy).mpr h')))
  | 3, _, hd, K1, K2 => exact lv_if_ge hx hb hd hj (fun h => K1 ((oI_le hy hx').mp (by rw [oI_0]; exact h))) (fun h => K2 (fun h' => h (by rw [← oI_0]; exact (oI_le hy hx').mpr h')))
  | 4, _, hd, K1, K2 => exact lv_if_gt hx hb hd hj (fun h => K1 ((oI_lt hy hx').mp (by rw [oI_0]; exact h))) (fun h => K2 (fun h' => h (by rw [← oI_0]; exact (oI_lt hy hx').mpr h')))
  | 5, _, hd, K1, K2 => exact lv_if_le hx hb hd hj (fun h => K1 ((oI_le hx' hy).mp (by rw [oI_0]; exact h))) (fun h => K2 (fun h' => h (by rw [← oI_0]; exact (oI_le hx' hy).mpr h')))
theorem sw_tab {q : Nat → Nat} {pc : Nat} : ∀ (r : List Ai) (offs : List Int) (lo x : Int) (K : Nat → Kn) (dd : Nat) (ls s : List V) (st : St), ckSw q pc lo offs r = true → t_sw K x dd ls s st r → (offs.length = r.length) ∧ ((¬ x < lo ∧ x < lo + r.length) → ∃ off tgt, offs[(x - lo).toNat]? = some off ∧ (pc : Int) + off = (q tgt : Int) ∧ K tgt ls s st) ∧ ((x < lo ∨ lo + r.length ≤ x) → K dd ls s st)
  | [], [], lo, x, K, dd, ls, s, st, _, h2 => ⟨rfl, fun h => absurd h (by simp), fun _ => h2⟩
  | (key, tgt, _, _) :: r, o :: os, lo, x, K, dd, ls, s, st, h1, h2 => by
    simp only [ckSw, Bool.and_eq_true, decide_eq_true_eq, ckJ] at h1
    obtain ⟨⟨e1, e2⟩, h1⟩ := h1
    unfold t_sw at h2
    by_cases hx : x = (key : Int)
    · have hk := h2.1 hx
      have ih : os.length = r.length := by
        clear h2 hk
        have : ∀ (r : List Ai) (os : List Int) (lo : Int), ckSw q pc lo os r = true → os.length = r.length := by
          intro r
          induction r with
          | nil => intro os lo h; cases os with
            | nil => rfl
            | cons a b => simp [ckSw] at h
          | cons w r ih => intro os lo h; cases os with
            | nil => simp [ckSw] at h
            | cons a b =>
              simp only [ckSw, Bool.and_eq_true] at h
              simp [ih b _ h.2]
        exact this r os _ h1
      refine ⟨by simp [ih], fun _ => ⟨o, tgt, ?_, e2, hk⟩, fun h => ?_⟩
      · have : (x - lo).toNat = 0 := by omega
        rw [this]
        rfl
      · simp only [List.length_cons] at h
        omega
    · obtain ⟨i1, i2, i3⟩ := sw_tab r os (lo + 1) x K dd ls s st h1 (h2.2 hx)
      refine ⟨by simp [i1], fun h => ?_, fun h => i3 ?_⟩
      · simp only [List.length_cons] at h
        obtain ⟨off, tg, j1, j2, j3⟩ := i2 ⟨by omega, by omega⟩
        refine ⟨off, tg, ?_, j2, j3⟩
        have : (x - lo).toNat = (x - (lo + 1)).toNat + 1 := by omega
        rw [this]
        exact j1
      · simp only [List.length_cons] at h
        omega
  | [], _ :: _, _, _, _, _, _, _, _, h1, _ => by simp [ckSw] at h1
  | _ :: _, [], _, _, _, _, _, _, _, h1, _ => by simp [ckSw] at h1
theorem sw_look {q : Nat → Nat} {pc : Nat} {df : Int} {dd : Nat} (hdf : (pc : Int) + df = (q dd : Int)) : ∀ (r : List Ai) (ps : List (Int × Int)) (x : Int32) (K : Nat → Kn) (ls s : List V) (st : St), ckLk q pc ps r = true → t_sw K x.toInt dd ls s st r → ∃ tgt, (pc : Int) + Op.lookupswitch.offset ps df x.toInt = (q tgt : Int) ∧ K tgt ls s st
  | [], [], x, K, ls, s, st, _, h2 => ⟨dd, by simpa [Op.lookupswitch.offset] using hdf, h2⟩
  | (key, tgt, _, _) :: r, (v, o) :: os, x, K, ls, s, st, h1, h2 => by
    simp only [ckLk, Bool.and_eq_true, decide_eq_true_eq, ckJ] at h1
    obtain ⟨⟨e1, e2⟩, h1⟩ := h1
    unfold t_sw at h2
    by_cases hx : x.toInt = (key : Int)
    · refine ⟨tgt, ?_, h2.1 hx⟩
      have : Op.lookupswitch.offset ((v, o) :: os) df x.toInt = o := by
        simp [Op.lookupswitch.offset, ← e1, hx]
      rw [this]
      exact e2
    · obtain ⟨tg, j1, j2⟩ := sw_look hdf r os x K ls s st h1 (h2.2 hx)
      refine ⟨tg, ?_, j2⟩
      have : Op.lookupswitch.offset ((v, o) :: os) df x.toInt = Op.lookupswitch.offset os df x.toInt := by
        have hv : ¬ v = x.toInt := fun h => hx (by rw [← h, ← e1])
        simp [Op.lookupswitch.offset, List.find?, hv]
      rw [this]
      exact j1
  | [], _ :: _, _, _, _, _, _, h1, _ => by simp [ckLk] at h1
  | _ :: _, [], _, _, _, _, _, h1, _ => by simp [ckLk] at h1
end BLK
end
section
/-! whole blocks and methods -/
def retOK (rt : Option FieldType) (ins : Instr) (v : V) : Prop := (ins = .ireturn ∧ rt = some .int ∧ ∃ x, v = some (.inl x)) ∨ (ins = .ireturn ∧ rt = some .boolean ∧ ∃ x, ok01 x ∧ v = some (.inl x)) ∨ (ins = .areturn ∧ (∃ n, rt = some (.object n)) ∧ ∃ o, v = some (.inr o)) ∨ (ins = .return_ ∧ rt = none ∧ v = none)
section MTH
variable {p : Program} {l : Launch} {e : Env} {R : Room} {s : State} {m : MethodId} {args : Array Value} {below : List Frame} {meth : Method} {c : Code} {cells slots : Nat} {QW : State → Prop} {cc : ByteArray} {nL cls : Nat} {nO : Nat} {ad : Nat → Nat} {cA : Nat → ClassId} {D : va_G} {pc : Nat} {ls stk : List V} {st : St} {rmD : Room} {C : Cn} {L : Nat} {sx : Nat → Int} {rt : Option FieldType} {K : Nat → Kn} {Rr : Rn} {q : Nat → Nat}
/-- a return with what is due is the walk's end -/
def RT (p : Program) (l : Launch) (e : Env) (R : Room) (s : State) (m : MethodId) (args : Array Value) (below : List Frame) (meth : Method) (c : Code) (cells slots : Nat) (QW : State → Prop) (cc : ByteArray) (nO : Nat) (ad : Nat → Nat) (cA : Nat → ClassId) (D : va_G) (rt : Option FieldType) (Rr : Rn) : Prop :=
  ∀ (v : V) (st : St) (ins : Instr) (pc : Nat) (H : Heap) (locs : List Loc) (lsM : Array Slot), Rr v st → okV nO v → okS st → va_P D classes (wsO nO ad cA st) H → va_S (A0 nO ad) s.heap H locs → decode cc pc = .ok (ins, 1) → retOK rt ins v → W p l e R s m args below meth c H locs cells slots QW (F0 m pc lsM (evr ad v).toList)
theorem snd_sw {a b : Nat} {r : List Ai} {i : Instr × Nat} {x : Int} {rr : List V} (X : Cx p R s m args c cells slots cc nL cls nO ad cA D) (hJ : ∀ b ls stk st, K b ls stk st → Wx p l e R s m args below meth c cells slots QW nL nO ad cA D (q b) ls stk st) (h : ckT rt q pc i 68 a b r = true) (hd : decode cc pc = .ok i) (k : t_sw K x a ls rr st r) : Wx p l e R s m args below meth c cells slots QW nL nO ad cA D pc ls (some (.inl x) :: rr) st := by
  obtain ⟨hx, hb, hml, hown, hts, hWd, hj, hcl0, -⟩ := id X
  intro o1 o2 o3 H locs lsM hP hS hl
  have hxR : InR x := okLs_hd o2
  simp only [ckT] at h
  split at h
  · rename_i df lo hi offs ln
    simp only [Bool.and_eq_true, decide_eq_true_eq, ckJ] at h
    obtain ⟨⟨h1, h2⟩, h3⟩ := h
    obtain ⟨i1, i2, i3⟩ := sw_tab r offs.toList lo x K a ls rr st h2 k
    by_cases hin : ¬ x < lo ∧ x < lo + r.length
    · obtain ⟨off, tgt, j1, j2, j3⟩ := i2 hin
      refine lv_tableIn hx hb hd (x := oI x) (by rw [oI_toInt hxR]; exact hin.1) (by rw [oI_toInt hxR]; omega) (off := off) ?_ j2 (hJ _ _ _ _ j3 o1 (okLs_tl o2) o3 H locs lsM hP hS hl)
      rw [oI_toInt hxR, ← Array.getElem?_toList]
      exact j1
    · refine lv_tableOut hx hb hd (x := oI x) (by rw [oI_toInt hxR]; omega) h1 (hJ _ _ _ _ (i3 (by omega)) o1 (okLs_tl o2) o3 H locs lsM hP hS hl)
  · rename_i df ps ln
    simp only [Bool.and_eq_true, decide_eq_true_eq, ckJ] at h
    obtain ⟨⟨h1, h2⟩, h3⟩ := h
    have k' : t_sw K (oI x).toInt a ls rr st r := by rw [oI_toInt hxR]; exact k
    obtain ⟨tgt, j2, j3⟩ := sw_look h1 r ps.toList (oI x) K ls rr st h2 k'
    exact lv_lookup hx hb hd h3 rfl j2 (hJ _ _ _ _ j3 o1 (okLs_tl o2) o3 H locs lsM hP hS hl)
  · cases h
theorem tm_sound {t a b : Nat} {r : List Ai} {i : Instr × Nat} (X : Cx p R s m args c cells slots cc nL cls nO ad cA D) (hJ : ∀ b ls stk st, K b ls stk st → Wx p l e R s m args below meth c cells slots QW nL nO ad cA D (q b) ls stk st) (hR : RT p l e R s m args below meth c cells slots QW cc nO ad cA D rt Rr) (h : ckT rt q pc i t a b r = true) (hd : decode cc pc = .ok i) (k : tm K Rr t a b r ls stk st) : Wx p l e R s m args below meth c cells slots QW nL nO ad cA D pc ls stk st := by
  obtain ⟨hx, hb, hml, hown, hts, hWd, hj, hcl0, -⟩ := id X
  have cmp : ∀ t', t' < 6 → (match i with | (.if_icmp op off, 3) => decide (op = cOp t') && ckJ q pc off a && decide (q b = pc + 3) | _ => false) = true → t_cmp K t' a b ls stk st → Wx p l e R s m args below meth c cells slots QW nL nO ad cA D pc ls stk st := by
    intro t' ht h k
    split at h
    · rename_i op off
      simp only [Bool.and_eq_true, decide_eq_true_eq, ckJ] at h
      obtain ⟨⟨h1, h2⟩, h3⟩ := h
      subst h1
      unfold t_cmp at k
      split at k
      · exact snd_icmp X ht hd h2 h3 (fun z => hJ _ _ _ _ (k.1 z)) (fun z => hJ _ _ _ _ (k.2 z))
      · exact k.elim
    · cases h
  have cif : ∀ t', t' < 6 → (match i with | (.ifCond op off, 3) => decide (op = cOp t') && ckJ q pc off a && decide (q b = pc + 3) | _ => false) = true → t_if K t' a b ls stk st → Wx p l e R s m args below meth c cells slots QW nL nO ad cA D pc ls stk st := by
    intro t' ht h k
    split at h
    · rename_i op off
      simp only [Bool.and_eq_true, decide_eq_true_eq, ckJ] at h
      obtain ⟨⟨h1, h2⟩, h3⟩ := h
      subst h1
      unfold t_if at k
      split at k
      · exact snd_if X ht hd h2 h3 (fun z => hJ _ _ _ _ (k.1 z)) (fun z => hJ _ _ _ _ (k.2 z))
      · exact k.elim
    · cases h
  have ht : 51 ≤ t ∧ t ≤ 68 := by
    unfold ckT at h
    split at h <;> first | omega | (split at h <;> first | omega | (split at h <;> first | omega | cases h))
  obtain ⟨u, rfl⟩ : ∃ u, t = u + 51 := ⟨t - 51, by omega⟩
  have hu : u < 18 := by omega
  clear ht
  match u, hu, h, k with
  | 0, _, h, k =>
    have h : ckT rt q pc i 51 a b r = true := h
    have k : K a ls stk st := k
    simp only [ckT] at h
    split at h
    · rename_i off
      intro o1 o2 o3 H locs lsM hP hS hl
      exact lv_goto hx hb hd (of_decide_eq_true h) (hJ _ _ _ _ k o1 o2 o3 H locs lsM hP hS hl)
    · cases h
  | 1, _, h, k => exact cmp 0 (by decide) h k
  | 2, _, h, k => exact cmp 1 (by decide) h k
  | 3, _, h, k => exact cmp 2 (by decide) h k
  | 4, _, h, k => exact cmp 3 (by decide) h k
  | 5, _, h, k => exact cmp 4 (by decide) h k
  | 6, _, h, k => exact cmp 5 (by decide) h k
  | 7, _, h, k => exact cif 0 (by decide) h k
  | 8, _, h, k => exact cif 1 (by decide) h k
  | 9, _, h, k => exact cif 2 (by decide) h k
  | 10, _, h, k => exact cif 3 (by decide) h k
  | 11, _, h, k => exact cif 4 (by decide) h k
  | 12, _, h, k => exact cif 5 (by decide) h k
  | 13, _, h, k =>
    have h : ckT rt q pc i 64 a b r = true := h
    have k : tm K Rr 64 a b r ls stk st := k
    simp only [tm] at k
    simp only [ckT, Bool.and_eq_true, decide_eq_true_eq] at h
    obtain ⟨h, h1⟩ := h
    subst h
    split at k
    · rename_i x
      intro o1 o2 o3 H locs lsM hP hS hl
      exact hR _ _ _ _ H locs lsM k (okLs_hd o2) o3 hP hS hd (Or.inl ⟨rfl, h1, _, rfl⟩)
    · exact k.elim
  | 14, _, h, k =>
    have h : ckT rt q pc i 65 a b r = true := h
    have k : tm K Rr 65 a b r ls stk st := k
    simp only [tm] at k
    simp only [ckT, Bool.and_eq_true, decide_eq_true_eq] at h
    obtain ⟨h, h1⟩ := h
    subst h
    split at k
    · rename_i x
      intro o1 o2 o3 H locs lsM hP hS hl
      exact hR _ _ _ _ H locs lsM k.2 (okLs_hd o2) o3 hP hS hd (Or.inr (Or.inl ⟨rfl, h1, _, k.1, rfl⟩))
    · exact k.elim
  | 15, _, h, k =>
    have h : ckT rt q pc i 66 a b r = true := h
    have k : tm K Rr 66 a b r ls stk st := k
    simp only [tm] at k
    simp only [ckT, Bool.and_eq_true, decide_eq_true_eq] at h
    obtain ⟨h, h1⟩ := h
    subst h
    split at k
    · rename_i x
      intro o1 o2 o3 H locs lsM hP hS hl
      refine hR _ _ _ _ H locs lsM k (okLs_hd o2) o3 hP hS hd (Or.inr (Or.inr (Or.inl ⟨rfl, ?_, _, rfl⟩)))
      split at h1
      · exact ⟨_, rfl⟩
      · cases h1
    · exact k.elim
  | 16, _, h, k =>
    have h : ckT rt q pc i 67 a b r = true := h
    have k : tm K Rr 67 a b r ls stk st := k
    simp only [tm] at k
    simp only [ckT, Bool.and_eq_true, decide_eq_true_eq] at h
    obtain ⟨h, h1⟩ := h
    subst h
    split at k
    · intro o1 o2 o3 H locs lsM hP hS hl
      exact hR _ _ _ _ H locs lsM k trivial o3 hP hS hd (Or.inr (Or.inr (Or.inr ⟨rfl, h1, rfl⟩)))
    · exact k.elim
  | 17, _, h, k =>
    match stk, k with
    | some (.inl x) :: rr, k => exact snd_sw X hJ h hd k
    | [], k => exact False.elim k
    | none :: _, k => exact False.elim k
    | some (.inr _) :: _, k => exact False.elim k

theorem ex_sound (X : Cx p R s m args c cells slots cc nL cls nO ad cA D) (hC : CS l R nO ad cA D rmD C) (hm : Cm C) (hX : SX s nO ad L sx) (hJ : ∀ b ls stk st, K b ls stk st → Wx p l e R s m args below meth c cells slots QW nL nO ad cA D (q b) ls stk st) (hR : RT p l e R s m args below meth c cells slots QW cc nO ad cA D rt Rr) : ∀ (is : List Ai) (pc : Nat) (ls stk : List V) (st : St), ck cc cls nL rt q pc is = true → ex K Rr C L sx is ls stk st → Wx p l e R s m args below meth c cells slots QW nL nO ad cA D pc ls stk st
  | [], _, _, _, _, _, k => k.elim
  | (t, a, b, d) :: r, pc, ls, stk, st, h, k => by
    unfold ck at h
    unfold ex at k
    by_cases h50 : t = 50
    · rw [if_pos h50, decide_eq_true_eq] at h
      rw [if_neg (by omega)] at k
      subst h50
      have k : K a ls stk st := k
      rw [← h]
      exact hJ _ _ _ _ k
    · rw [if_neg h50] at h
      split at h
      · rename_i i hd
        by_cases ht : t < 50
        · rw [if_pos ht, Bool.and_eq_true] at h
          rw [if_pos ht] at k
          exact s1_sound X hC hX h.1 hd (s1_mono hm (fun ls stk st hk => ex_sound X hC hm hX hJ hR r (pc + i.2) ls stk st h.2 hk) _ _ _ _ _ _ k)
        · rw [if_neg ht] at h k
          exact tm_sound X hJ hR h hd k
      · cases h
end MTH
end
section
/-! the methods' meaning, and that the machine keeps it -/
def aok (k : Nat) (as : List V) : Bool := decide (as.length ≤ mL k) && as.all Option.isSome && (mS k || (match as with | some (.inr o) :: _ => kl o == mK k | _ => false))
def rmd (d : Nat) : Room := { frames := d, cells := 0, slots := 0, locals := 40 * d }
def MS : Nat → Cn
  | 0 => fun _ _ _ _ => False
  | d + 1 => fun k as st Q => aok k as = true ∧ AW (P k) Q (MS d) 0 (fun _ => 0) 0 (as ++ List.replicate (mL k - as.length) none) [] st
theorem MS_mono : ∀ d, Cm (MS d)
  | 0 => fun _ _ _ _ _ _ h => h
  | d + 1 => fun k a st Q Q' hQ h => ⟨h.1, AW.mono hQ (MS_mono d) h.2⟩
theorem MS_up : ∀ d k a st Q Q', (∀ v t, Q v t → Q' v t) → MS d k a st Q → MS (d + 1) k a st Q'
  | 0, _, _, _, _, _, _, h => h.elim
  | d + 1, k, a, st, Q, Q', hQ, h => ⟨h.1, AW.mono hQ (MS_up d) h.2⟩
theorem aok_rcv {k : Nat} {as : List V} (h : aok k as = true) : as.length ≤ mL k ∧ (∀ v ∈ as, ∃ x, v = some x) ∧ rcv k as := by
  unfold aok at h
  simp only [Bool.and_eq_true, decide_eq_true_eq, Bool.or_eq_true] at h
  obtain ⟨⟨h1, h2⟩, h3⟩ := h
  refine ⟨h1, fun v hv => ?_, ?_⟩
  · have := List.all_eq_true.mp h2 v hv
    cases v with
    | none => cases this
    | some x => exact ⟨x, rfl⟩
  · rcases h3 with h3 | h3
    · exact Or.inl h3
    · split at h3
      · rename_i o as'
        exact Or.inr ⟨o, as', rfl, by simpa using h3⟩
      · cases h3
theorem lv_args_mem (ad : Nat → Nat) : ∀ (as : List V) (i n : Nat) (x : Int ⊕ Nat), as[i]? = some (some x) → (n + i, ev ad (some x)) ∈ lv_args n (as.map (ev ad))
  | [], i, n, x, h => by simp at h
  | v :: as, 0, n, x, h => by
    have : v = some x := by simpa using h
    subst this
    exact List.mem_cons_self
  | v :: as, i + 1, n, x, h => by
    have h' : as[i]? = some (some x) := by simpa using h
    have := lv_args_mem ad as i (n + 1) x h'
    rw [List.map_cons]
    unfold lv_args
    rw [if_neg (by rw [ev_cat]; decide)]
    refine List.mem_cons_of_mem _ ?_
    rw [show n + (i + 1) = n + 1 + i by omega]
    exact this
theorem lg_sl_len (ad : Nat → Nat) (as : List V) : (lg_sl (as.map (ev ad))).length = as.length := by
  induction as with
  | nil => rfl
  | cons v as ih =>
    have e : lg_sl ((v :: as).map (ev ad)) = [.val (ev ad v)] ++ lg_sl (as.map (ev ad)) := by
      rw [List.map_cons]
      unfold lg_sl
      rw [List.flatMap_cons, if_neg (by rw [ev_cat]; decide)]
    rw [e, List.length_append, ih]
    simp
    omega
/-- the checker's say on all methods -/
def CKs : Prop := ∀ k, k < NM → ckBs k = true
theorem pcs_0 : ∀ k, k < NM → pcs k 0 = 0 := by
  have h : (List.range NM).all (fun k => decide (pcs k 0 = 0)) = true := by decide +kernel
  intro k hk
  exact of_decide_eq_true (List.all_eq_true.mp h k (List.mem_range.mpr hk))
theorem P_out {k b : Nat} (h : ¬ b < nblk k) (hk : (bL.getD k []).length = nblk k) : P k b = [] := by
  unfold P
  rw [List.getD_eq_getElem?_getD, List.getElem?_eq_none (by omega)]
  rfl
theorem P_len : ∀ k, k < NM → (bL.getD k []).length = nblk k := by
  have h : (List.range NM).all (fun k => decide ((bL.getD k []).length = nblk k)) = true := by decide +kernel
  intro k hk
  exact of_decide_eq_true (List.all_eq_true.mp h k (List.mem_range.mpr hk))
section MET
variable {p : Program} {l : Launch} {e : Env} {R : Room} {s : State} {m : MethodId} {args : Array Value} {below : List Frame} {meth : Method} {c : Code} {cells slots : Nat} {QW : State → Prop} {cc : ByteArray} {nL cls : Nat} {nO : Nat} {ad : Nat → Nat} {cA : Nat → ClassId} {D : va_G} {pc : Nat} {ls stk : List V} {st : St} {rmD : Room} {C : Cn} {L : Nat} {sx : Nat → Int} {rt : Option FieldType} {K : Nat → Kn} {Rr : Rn} {q : Nat → Nat}
theorem aw_sound {B : Nat → List Ai} {b : Nat} (X : Cx p R s m args c cells slots cc nL cls nO ad cA D) (hC : CS l R nO ad cA D rmD C) (hm : Cm C) (hX : SX s nO ad L sx) (hR : RT p l e R s m args below meth c cells slots QW cc nO ad cA D rt Rr) (hB : ∀ b, ck cc cls nL rt q (q b) (B b) = true ∨ B b = []) (h : AW B Rr C L sx b ls stk st) : Wx p l e R s m args below meth c cells slots QW nL nO ad cA D (q b) ls stk st := by
  refine h (fun b => Wx p l e R s m args below meth c cells slots QW nL nO ad cA D (q b)) (fun b ls stk st hx => ?_)
  rcases hB b with h1 | h1
  · exact ex_sound X hC hm hX (fun _ _ _ _ z => z) hR (B b) (q b) ls stk st h1 hx
  · rw [h1] at hx
    exact hx.elim
theorem met_MS (hck : CKs) (hj : inj nO ad) (hcl0 : Cl nO) : ∀ (d k : Nat) (as : List V) (st : St) (Q : Rn), k < NM → MS d k as st Q → okLs nO as → okS st → rcv k as ∧ Met l (yN k) (wM k) (rmd d) (PcC nO ad cA D as st) (QcC nO ad cA D Q) 0 0 (A0 nO ad)
  | 0, _, _, _, _, _, h, _, _ => h.elim
  | d + 1, k, as, st, Q, hk, h, oas, ost => by
    obtain ⟨h0, h⟩ := h
    obtain ⟨a1, a2, a3⟩ := aok_rcv h0
    refine ⟨a3, ?_⟩
    obtain ⟨m1, m2, m3, m4⟩ := MT_q hk
    have hcn := cN_ok (mK k) (by have := mK_lt k; omega)
    refine Met.ofW (cc := mC k) (maxL := mL k) (ret := mR k) (by rw [m4]; exact hcn.2.2) rfl ?_
    intro p e s m args below meth c s₁ B hml hv
    obtain ⟨rfl, hP, hWd⟩ := hv
    have hx := B.exec
    have hb := B.bytes
    have hr := B.returns
    have hts : ∀ w ∈ wM k, w.before (as.map (ev ad)).toArray s = true := atoms_spec (ws := wM k) B.pre
    have hown : s.vm.findClass (yN k).cls = some m.cls := findClass_of_methodNamed B.named
    rw [m4] at hown
    have hlocks := B.notSynchronized
    have X : Cx p (rmd (d + 1)) s m (as.map (ev ad)).toArray c 0 0 (mC k) (mL k) (mK k) nO ad cA D := ⟨hx, hb, hml, hown, fun w hw => hts w (List.mem_cons_of_mem _ hw), hWd, hj, hcl0, by show 1 ≤ d + 1; omega, by show 40 ≤ 40 * (d + 1); omega, Nat.zero_le _, Nat.zero_le _⟩
    have hC : CS l (rmd (d + 1)) nO ad cA D (rmd d) (MS d) := ⟨rfl, rfl, Nat.le_refl _, by show 40 + 40 * d ≤ 40 * (d + 1); omega, fun k as st Q hk h o1 o2 => met_MS hck hj hcl0 d k as st Q hk h o1 o2⟩
    have hl := lv_entry (as.map (ev ad)) (n := mL k) (by rw [lg_sl_len]; exact a1)
    rw [lg_entry_eq]
    generalize (lg_sl (as.map (ev ad)) ++ List.replicate (mL k - (lg_sl (as.map (ev ad))).length) Slot.unset).toArray = lsM at hl ⊢
    have hl : lv_has lsM (mL k) (lvl ad (as ++ List.replicate (mL k - as.length) none)) := lvl_entry ad a2 hl (fun i x hi => by have := lv_args_mem ad as i 0 x hi; rw [Nat.zero_add] at this; exact this)
    have hR : RT p l e (rmd (d + 1)) s m (as.map (ev ad)).toArray below meth c 0 0 (MQ below (QcC nO ad cA D Q) (as.map (ev ad)).toArray s 0 0 (A0 nO ad)) (mC k) nO ad cA D (mR k) Q := by
      intro v st' ins pc H locs lsM hQ ov ost' hP' hS' hd hrt
      have hq : ∀ t : State, t.heap = H → QcC nO ad cA D Q (as.map (ev ad)).toArray s (.returned (evr ad v)) t := fun t ht => ⟨⟨v, st', rfl, ov, ost', hQ, by rw [ht]; exact hP'⟩, hS'.F ht⟩
      rcases hrt with ⟨rfl, h1, x, rfl⟩ | ⟨rfl, h1, x, h2, rfl⟩ | ⟨rfl, ⟨n, h1⟩, o, rfl⟩ | ⟨rfl, h1, rfl⟩
      · exact W.iret hx hb (hr.trans h1) (fun t ht _ => hq t ht) (fun q hq => hS'.2.2 q hq) hd
      · exact W.zret hx hb (hr.trans h1) (by rcases h2 with rfl | rfl <;> decide) (fun t ht _ => hq t ht) (fun q hq => hS'.2.2 q hq) hd
      · exact W.aret hx hb (hr.trans h1) (Or.inl ⟨n, rfl⟩) (Or.inr ⟨_, rfl⟩) (fun t ht _ => hq t ht) (fun q hq => hS'.2.2 q hq) hd
      · exact W.vret hx hb (hr.trans h1) (fun t ht _ => hq t ht) (fun q hq => hS'.2.2 q hq) hd
    have hB : ∀ b, ck (mC k) (mK k) (mL k) (mR k) (pcs k) (pcs k b) (P k b) = true ∨ P k b = [] := by
      intro b
      by_cases hb : b < nblk k
      · have := List.all_eq_true.mp (hck k hk) b (List.mem_range.mpr hb)
        rw [Bool.or_eq_true] at this
        exact this.imp id (fun h => List.isEmpty_iff.mp h)
      · exact Or.inr (P_out hb (P_len k hk))
    have okR : okLs nO (as ++ List.replicate (mL k - as.length) none) := by
      intro v hv
      rcases List.mem_append.mp hv with hv | hv
      · exact oas v hv
      · rw [(List.mem_replicate.mp hv).2]
        trivial
    have := aw_sound X hC (MS_mono d) (Or.inl rfl) hR hB h okR (fun v hv => by cases hv) ost s.heap [] lsM hP va_S.rf hl
    rw [pcs_0 k hk] at this
    exact this
end MET
end
section
/-! rules for running blocks in the abstract machine -/
theorem AW.iff {B : Nat → List Ai} {R : Rn} {C : Cn} {L : Nat} {sx : Nat → Int} {b : Nat} {ls stk : List V} {st : St} (hC : Cm C) : AW B R C L sx b ls stk st = ex (AW B R C L sx) R C L sx (B b) ls stk st := by
  apply propext
  constructor
  · intro h
    refine h (fun b ls stk st => ex (AW B R C L sx) R C L sx (B b) ls stk st) (fun b ls stk st hx => ?_)
    exact ex_mono (fun _ _ _ _ h => AW.step hC h) (fun _ _ h => h) hC _ _ _ _ hx
  · exact AW.step hC
/-- a block of a method is run -/
theorem awu (k b : Nat) {R : Rn} {d L : Nat} {sx : Nat → Int} {ls stk : List V} {st : St} : AW (P k) R (MS d) L sx b ls stk st = ex (AW (P k) R (MS d) L sx) R (MS d) L sx (P k b) ls stk st := AW.iff (MS_mono d)
theorem wr_id {x : Int} (h1 : -2147483648 ≤ x) (h2 : x ≤ 2147483647) : wr x = x := by
  unfold wr
  exact Int.bmod_eq_of_le (by omega) (by omega)
section XS
variable (J : Nat → Kn) (R : Rn) (C : Cn) (L : Nat) (sx : Nat → Int) (a b d : Nat) (r : List Ai) (ls s : List V) (st : St) (x y v i n : Int) (o q : Nat) (u w : Int ⊕ Nat)
theorem x0 : ex J R C L sx ((0, a, b, d) :: r) ls (s) st = (ex J R C L sx r ls (some (.inl (a : Int)) :: s) st) := rfl
theorem x1 : ex J R C L sx ((1, a, b, d) :: r) ls (s) st = (ex J R C L sx r ls (some (.inl (-(a : Int))) :: s) st) := rfl
theorem x2 : ex J R C L sx ((2, a, b, d) :: r) ls (s) st = (i_load (ex J R C L sx r) a ls s st) := rfl
theorem x3 : ex J R C L sx ((3, a, b, d) :: r) ls (some (.inl x) :: s) st = (ex J R C L sx r (lp ls a (some (.inl x))) (s) st) := rfl
theorem x4 : ex J R C L sx ((4, a, b, d) :: r) ls (s) st = (i_inc (ex J R C L sx r) a b ls s st) := rfl
theorem x5 : ex J R C L sx ((5, a, b, d) :: r) ls (s) st = (i_inc (ex J R C L sx r) a (-(b : Int)) ls s st) := rfl
theorem x6 : ex J R C L sx ((6, a, b, d) :: r) ls (some (.inr o) :: s) st = (kl o = a ∧ ex J R C L sx r ls (some (.inl (st o b)) :: s) st) := rfl
theorem x7 : ex J R C L sx ((7, a, b, d) :: r) ls (some (.inr o) :: s) st = (kl o = a ∧ ex J R C L sx r ls (some (.inr (o + b)) :: s) st) := rfl
theorem x8 : ex J R C L sx ((8, a, b, d) :: r) ls (some (.inl v) :: some (.inr o) :: s) st = (kl o = a ∧ ex J R C L sx r ls (s) (up2 st o b v)) := rfl
theorem x9 : ex J R C L sx ((9, a, b, d) :: r) ls (some (.inl v) :: some (.inr o) :: s) st = (kl o = a ∧ ok01 v ∧ ex J R C L sx r ls (s) (up2 st o b v)) := rfl
theorem x10 : ex J R C L sx ((10, a, b, d) :: r) ls (some (.inl i) :: some (.inr o) :: s) st = (kl o = 50 ∧ (0 ≤ i ∧ i < len o) ∧ ex J R C L sx r ls (some (.inl (st o i.toNat)) :: s) st) := rfl
theorem x11 : ex J R C L sx ((11, a, b, d) :: r) ls (some (.inl i) :: some (.inr o) :: s) st = (kl o = 51 ∧ (0 ≤ i ∧ i < len o) ∧ ex J R C L sx r ls (some (.inl (st o i.toNat)) :: s) st) := rfl
theorem x15 : ex J R C L sx ((15, a, b, d) :: r) ls (some (.inl i) :: some (.inr o) :: s) st = (kl o = 52 ∧ (0 ≤ i ∧ i < len o) ∧ ex J R C L sx r ls (some (.inl (st o i.toNat)) :: s) st) := rfl
theorem x12 : ex J R C L sx ((12, a, b, d) :: r) ls (some (.inl v) :: some (.inl i) :: some (.inr o) :: s) st = (kl o = 50 ∧ (0 ≤ i ∧ i < len o) ∧ ex J R C L sx r ls (s) (up2 st o i.toNat v)) := rfl
theorem x13 : ex J R C L sx ((13, a, b, d) :: r) ls (some (.inl v) :: some (.inl i) :: some (.inr o) :: s) st = (kl o = 51 ∧ (0 ≤ i ∧ i < len o) ∧ ex J R C L sx r ls (s) (up2 st o i.toNat (w8 v))) := rfl
theorem x14 : ex J R C L sx ((14, a, b, d) :: r) ls (some (.inl v) :: some (.inl i) :: some (.inr o) :: s) st = (kl o = 52 ∧ (0 ≤ i ∧ i < len o) ∧ ok01 v ∧ ex J R C L sx r ls (s) (up2 st o i.toNat v)) := rfl
theorem x16 : ex J R C L sx ((16, a, b, d) :: r) ls (some (.inr o) :: s) st = ((kl o = 50 ∨ kl o = 51 ∨ kl o = 52) ∧ ex J R C L sx r ls (some (.inl (len o : Int)) :: s) st) := rfl
theorem x17 : ex J R C L sx ((17, a, b, d) :: r) ls (some (.inl y) :: some (.inl x) :: s) st = (ex J R C L sx r ls (some (.inl (wr (x + y))) :: s) st) := rfl
theorem x18 : ex J R C L sx ((18, a, b, d) :: r) ls (some (.inl y) :: some (.inl x) :: s) st = (ex J R C L sx r ls (some (.inl (wr (x - y))) :: s) st) := rfl
theorem x19 : ex J R C L sx ((19, a, b, d) :: r) ls (some (.inl y) :: some (.inl x) :: s) st = (ex J R C L sx r ls (some (.inl (wr (x * y))) :: s) st) := rfl
theorem x22 : ex J R C L sx ((22, a, b, d) :: r) ls (some (.inl y) :: some (.inl x) :: s) st = (ex J R C L sx r ls (some (.inl (band x y)) :: s) st) := rfl
theorem x23 : ex J R C L sx ((23, a, b, d) :: r) ls (some (.inl y) :: some (.inl x) :: s) st = (ex J R C L sx r ls (some (.inl (bor x y)) :: s) st) := rfl
theorem x24 : ex J R C L sx ((24, a, b, d) :: r) ls (some (.inl y) :: some (.inl x) :: s) st = (ex J R C L sx r ls (some (.inl (bshl x y)) :: s) st) := rfl
theorem x25 : ex J R C L sx ((25, a, b, d) :: r) ls (some (.inl y) :: some (.inl x) :: s) st = (ex J R C L sx r ls (some (.inl (bshr x y)) :: s) st) := rfl
theorem x20 : ex J R C L sx ((20, a, b, d) :: r) ls (some (.inl y) :: some (.inl x) :: s) st = (¬ y = 0 ∧ ex J R C L sx r ls (some (.inl (wr (x.tdiv y))) :: s) st) := rfl
theorem x21 : ex J R C L sx ((21, a, b, d) :: r) ls (some (.inl y) :: some (.inl x) :: s) st = (¬ y = 0 ∧ ex J R C L sx r ls (some (.inl (brem x y)) :: s) st) := rfl
theorem x26 : ex J R C L sx ((26, a, b, d) :: r) ls (some (.inl x) :: s) st = (ex J R C L sx r ls (some (.inl (w8 x)) :: s) st) := rfl
theorem x27 : ex J R C L sx ((27, a, b, d) :: r) ls (some u :: s) st = (ex J R C L sx r ls (some u :: some u :: s) st) := rfl
theorem x28 : ex J R C L sx ((28, a, b, d) :: r) ls (some u :: s) st = (ex J R C L sx r ls (s) st) := rfl
theorem x29 : ex J R C L sx ((29, a, b, d) :: r) ls (some u :: some w :: s) st = (ex J R C L sx r ls (some u :: some w :: some u :: some w :: s) st) := rfl
theorem x30_0 : ex J R C L sx ((30, a, 0, d) :: r) ls (s) st = (s.length ≤ 8 ∧ C a [] st (fun v st' => match v with | none => ex J R C L sx r ls s st' | some _ => False)) := rfl
theorem x31_0 : ex J R C L sx ((31, a, 0, d) :: r) ls (s) st = (s.length ≤ 8 ∧ C a [] st (fun v st' => match v with | some x => ex J R C L sx r ls (some x :: s) st' | none => False)) := rfl
theorem x30_1 (u0 : V) : ex J R C L sx ((30, a, 1, d) :: r) ls (u0 :: s) st = (s.length ≤ 8 ∧ C a [u0] st (fun v st' => match v with | none => ex J R C L sx r ls s st' | some _ => False)) := rfl
theorem x31_1 (u0 : V) : ex J R C L sx ((31, a, 1, d) :: r) ls (u0 :: s) st = (s.length ≤ 8 ∧ C a [u0] st (fun v st' => match v with | some x => ex J R C L sx r ls (some x :: s) st' | none => False)) := rfl
theorem x30_2 (u0 u1 : V) : ex J R C L sx ((30, a, 2, d) :: r) ls (u1 :: u0 :: s) st = (s.length ≤ 8 ∧ C a [u0, u1] st (fun v st' => match v with | none => ex J R C L sx r ls s st' | some _ => False)) := rfl
theorem x31_2 (u0 u1 : V) : ex J R C L sx ((31, a, 2, d) :: r) ls (u1 :: u0 :: s) st = (s.length ≤ 8 ∧ C a [u0, u1] st (fun v st' => match v with | some x => ex J R C L sx r ls (some x :: s) st' | none => False)) := rfl
theorem x30_3 (u0 u1 u2 : V) : ex J R C L sx ((30, a, 3, d) :: r) ls (u2 :: u1 :: u0 :: s) st = (s.length ≤ 8 ∧ C a [u0, u1, u2] st (fun v st' => match v with | none => ex J R C L sx r ls s st' | some _ => False)) := rfl
theorem x31_3 (u0 u1 u2 : V) : ex J R C L sx ((31, a, 3, d) :: r) ls (u2 :: u1 :: u0 :: s) st = (s.length ≤ 8 ∧ C a [u0, u1, u2] st (fun v st' => match v with | some x => ex J R C L sx r ls (some x :: s) st' | none => False)) := rfl
theorem x30_4 (u0 u1 u2 u3 : V) : ex J R C L sx ((30, a, 4, d) :: r) ls (u3 :: u2 :: u1 :: u0 :: s) st = (s.length ≤ 8 ∧ C a [u0, u1, u2, u3] st (fun v st' => match v with | none => ex J R C L sx r ls s st' | some _ => False)) := rfl
theorem x31_4 (u0 u1 u2 u3 : V) : ex J R C L sx ((31, a, 4, d) :: r) ls (u3 :: u2 :: u1 :: u0 :: s) st = (s.length ≤ 8 ∧ C a [u0, u1, u2, u3] st (fun v st' => match v with | some x => ex J R C L sx r ls (some x :: s) st' | none => False)) := rfl
theorem x30_5 (u0 u1 u2 u3 u4 : V) : ex J R C L sx ((30, a, 5, d) :: r) ls (u4 :: u3 :: u2 :: u1 :: u0 :: s) st = (s.length ≤ 8 ∧ C a [u0, u1, u2, u3, u4] st (fun v st' => match v with | none => ex J R C L sx r ls s st' | some _ => False)) := rfl
theorem x31_5 (u0 u1 u2 u3 u4 : V) : ex J R C L sx ((31, a, 5, d) :: r) ls (u4 :: u3 :: u2 :: u1 :: u0 :: s) st = (s.length ≤ 8 ∧ C a [u0, u1, u2, u3, u4] st (fun v st' => match v with | some x => ex J R C L sx r ls (some x :: s) st' | none => False)) := rfl
theorem x30_6 (u0 u1 u2 u3 u4 u5 : V) : ex J R C L sx ((30, a, 6, d) :: r) ls (u5 :: u4 :: u3 :: u2 :: u1 :: u0 :: s) st = (s.length ≤ 8 ∧ C a [u0, u1, u2, u3, u4, u5] st (fun v st' => match v with | none => ex J R C L sx r ls s st' | some _ => False)) := rfl
theorem x31_6 (u0 u1 u2 u3 u4 u5 : V) : ex J R C L sx ((31, a, 6, d) :: r) ls (u5 :: u4 :: u3 :: u2 :: u1 :: u0 :: s) st = (s.length ≤ 8 ∧ C a [u0, u1, u2, u3, u4, u5] st (fun v st' => match v with | some x => ex J R C L sx r ls (some x :: s) st' | none => False)) := rfl
theorem x32 : ex J R C L sx ((32, a, b, d) :: r) ls (some (.inl y) :: some (.inl x) :: s) st = (s.length ≤ 8 ∧ ex J R C L sx r ls (some (.inl (if x ≤ y then x else y)) :: s) st) := rfl
theorem x33 : ex J R C L sx ((33, a, b, d) :: r) ls (some (.inl y) :: some (.inl x) :: s) st = (s.length ≤ 8 ∧ ex J R C L sx r ls (some (.inl (if y ≤ x then x else y)) :: s) st) := rfl
theorem x34 : ex J R C L sx ((34, a, b, d) :: r) ls (some (.inl n) :: some (.inl v) :: some (.inr q) :: some (.inl i) :: some (.inr o) :: s) st = (s.length ≤ 8 ∧ ¬ o = q ∧ kl o = 50 ∧ kl q = 50 ∧ (0 ≤ n ∧ 0 ≤ v ∧ 0 ≤ i ∧ i + n ≤ len o ∧ v + n ≤ len q) ∧ ex J R C L sx r ls (s) (up1 st q (cpf (st o) (st q) i.toNat v.toNat n.toNat))) := rfl
theorem x35 : ex J R C L sx ((35, a, b, d) :: r) ls (some (.inl i) :: some (.inr o) :: s) st = (o = 500 ∧ (0 ≤ i ∧ i + 1 < L) ∧ ex J R C L sx r ls (some (.inl (sx i.toNat)) :: s) st) := rfl
theorem x36 : ex J R C L sx ((36, a, b, d) :: r) ls (some (.inr o) :: s) st = (o = 500 ∧ 0 < L ∧ ex J R C L sx r ls (some (.inl ((L : Int) - 1)) :: s) st) := rfl
theorem x37 : ex J R C L sx ((37, a, b, d) :: r) ls (s) st = (i_loadR (ex J R C L sx r) a ls s st) := rfl
theorem x38 : ex J R C L sx ((38, a, b, d) :: r) ls (some (.inr q) :: s) st = (ex J R C L sx r (lp ls a (some (.inr q))) (s) st) := rfl
theorem x50 : ex J R C L sx ((50, a, b, d) :: r) ls (s) st = (J a ls s st) := rfl
theorem x51 : ex J R C L sx ((51, a, b, d) :: r) ls (s) st = (J a ls s st) := rfl
theorem x52 : ex J R C L sx ((52, a, b, d) :: r) ls (some (.inl y) :: some (.inl x) :: s) st = (((x = y) → J a ls s st) ∧ (¬ (x = y) → J b ls s st)) := rfl
theorem x53 : ex J R C L sx ((53, a, b, d) :: r) ls (some (.inl y) :: some (.inl x) :: s) st = (((¬ x = y) → J a ls s st) ∧ (¬ (¬ x = y) → J b ls s st)) := rfl
theorem x54 : ex J R C L sx ((54, a, b, d) :: r) ls (some (.inl y) :: some (.inl x) :: s) st = (((x < y) → J a ls s st) ∧ (¬ (x < y) → J b ls s st)) := rfl
theorem x55 : ex J R C L sx ((55, a, b, d) :: r) ls (some (.inl y) :: some (.inl x) :: s) st = (((y ≤ x) → J a ls s st) ∧ (¬ (y ≤ x) → J b ls s st)) := rfl
theorem x56 : ex J R C L sx ((56, a, b, d) :: r) ls (some (.inl y) :: some (.inl x) :: s) st = (((y < x) → J a ls s st) ∧ (¬ (y < x) → J b ls s st)) := rfl
theorem x57 : ex J R C L sx ((57, a, b, d) :: r) ls (some (.inl y) :: some (.inl x) :: s) st = (((x ≤ y) → J a ls s st) ∧ (¬ (x ≤ y) → J b ls s st)) := rfl
theorem x58 : ex J R C L sx ((58, a, b, d) :: r) ls (some (.inl x) :: s) st = (((x = 0) → J a ls s st) ∧ (¬ (x = 0) → J b ls s st)) := rfl
theorem x59 : ex J R C L sx ((59, a, b, d) :: r) ls (some (.inl x) :: s) st = (((¬ x = 0) → J a ls s st) ∧ (¬ (¬ x = 0) → J b ls s st)) := rfl
theorem x60 : ex J R C L sx ((60, a, b, d) :: r) ls (some (.inl x) :: s) st = (((x < 0) → J a ls s st) ∧ (¬ (x < 0) → J b ls s st)) := rfl
theorem x61 : ex J R C L sx ((61, a, b, d) :: r) ls (some (.inl x) :: s) st = (((0 ≤ x) → J a ls s st) ∧ (¬ (0 ≤ x) → J b ls s st)) := rfl
theorem x62 : ex J R C L sx ((62, a, b, d) :: r) ls (some (.inl x) :: s) st = (((0 < x) → J a ls s st) ∧ (¬ (0 < x) → J b ls s st)) := rfl
theorem x63 : ex J R C L sx ((63, a, b, d) :: r) ls (some (.inl x) :: s) st = (((x ≤ 0) → J a ls s st) ∧ (¬ (x ≤ 0) → J b ls s st)) := rfl
theorem x64 : ex J R C L sx ((64, a, b, d) :: r) ls ([some (.inl x)]) st = (R (some (.inl x)) st) := rfl
theorem x65 : ex J R C L sx ((65, a, b, d) :: r) ls ([some (.inl x)]) st = (ok01 x ∧ R (some (.inl x)) st) := rfl
theorem x66 : ex J R C L sx ((66, a, b, d) :: r) ls ([some (.inr q)]) st = (R (some (.inr q)) st) := rfl
theorem x67 : ex J R C L sx ((67, a, b, d) :: r) ls ([]) st = (R none st) := rfl
theorem x68 : ex J R C L sx ((68, a, b, d) :: r) ls (some (.inl x) :: s) st = (t_sw J x a ls s st r) := rfl
end XS
/-! loads at known places -/
theorem ld_l {k : Kn} {a : Nat} {ls s : List V} {st : St} {x : Int} (h : lg ls a = some (.inl x)) : i_load k a ls s st = k ls (some (.inl x) :: s) st := by unfold i_load; rw [h]
/-- all of them -/
theorem xs : (∀ (J : Nat → Kn) (R : Rn) (C : Cn) (L : Nat) (sx : Nat → Int) (a : Nat) (b : Nat) (d : Nat) (r : List Ai) (ls : List V) (s : List V) (st : St), ex J R C L sx ((0, a, b, d) :: r) ls (s) st = (ex J R C L sx r ls (some (.inl (a : Int)) :: s) st)) ∧ (∀ (J : Nat → Kn) (R : Rn) (C : Cn) (L : Nat) (sx : Nat → Int) (a : Nat) (b : Nat) (d : Nat) (r : List Ai) (ls : List V) (s : List V) (st : St), ex J R C L sx ((1, a, b, d) :: r) ls (s) st = (ex J R C L sx r ls (some (.inl (-(a : Int))) :: s) st)) ∧ (∀ (J : Nat → Kn) (R : Rn) (C : Cn) (L : Nat) (sx : Nat → Int) (a : Nat) (b : Nat) (d : Nat) (r : List Ai) (ls : List V) (s : List V) (st : St), ex J R C L sx ((2, a, b, d) :: r) ls (s) st = (i_load (ex J R C L sx r) a ls s st)) ∧ (∀ (J : Nat → Kn) (R : Rn) (C : Cn) (L : Nat) (sx : Nat → Int) (a : Nat) (b : Nat) (d : Nat) (r : List Ai) (ls : List V) (s : List V) (st : St) (x : Int), ex J R C L sx ((3, a, b, d) :: r) ls (some (.inl x) :: s) st = (ex J R C L sx r (lp ls a (some (.inl x))) (s) st)) ∧ (∀ (J : Nat → Kn) (R : Rn) (C : Cn) (L : Nat) (sx : Nat → Int) (a : Nat) (b : Nat) (d : Nat) (r : List Ai) (ls : List V) (s : List V) (st : St), ex J R C L sx ((4, a, b, d) :: r) ls (s) st = (i_inc (ex J R C L sx r) a b ls s st)) ∧ (∀ (J : Nat → Kn) (R : Rn) (C : Cn) (L : Nat) (sx : Nat → Int) (a : Nat) (b : Nat) (d : Nat) (r : List Ai) (ls : List V) (s : List V) (st : St), ex J R C L sx ((5, a, b, d) :: r) ls (s) st = (i_inc (ex J R C L sx r) a (-(b : Int)) ls s st)) ∧ (∀ (J : Nat → Kn) (R : Rn) (C : Cn) (L : Nat) (sx : Nat → Int) (a : Nat) (b : Nat) (d : Nat) (r : List Ai) (ls : List V) (s : List V) (st : St) (o : Nat), ex J R C L sx ((6, a, b, d) :: r) ls (some (.inr o) :: s) st = (kl o = a ∧ ex J R C L sx r ls (some (.inl (st o b)) :: s) st)) ∧ (∀ (J : Nat → Kn) (R : Rn) (C : Cn) (L : Nat) (sx : Nat → Int) (a : Nat) (b : Nat) (d : Nat) (r : List Ai) (ls : List V) (s : List V) (st : St) (o : Nat), ex J R C L sx ((7, a, b, d) :: r) ls (some (.inr o) :: s) st = (kl o = a ∧ ex J R C L sx r ls (some (.inr (o + b)) :: s) st)) ∧ (∀ (J : Nat → Kn) (R : Rn) (C : Cn) (L : Nat) (sx : Nat → Int) (a : Nat) (b : Nat) (d : Nat) (r : List Ai) (ls : List V) (s : List V) (st : St) (v : Int) (o : Nat), ex J R C L sx ((8, a, b, d) :: r) ls (some (.inl v) :: some (.inr o) :: s) st = (kl o = a ∧ ex J R C L sx r ls (s) (up2 st o b v))) ∧ (∀ (J : Nat → Kn) (R : Rn) (C : Cn) (L : Nat) (sx : Nat → Int) (a : Nat) (b : Nat) (d : Nat) (r : List Ai) (ls : List V) (s : List V) (st : St) (v : Int) (o : Nat), ex J R C L sx ((9, a, b, d) :: r) ls (some (.inl v) :: some (.inr o) :: s) st = (kl o = a ∧ ok01 v ∧ ex J R C L sx r ls (s) (up2 st o b v))) ∧ (∀ (J : Nat → Kn) (R : Rn) (C : Cn) (L : Nat) (sx : Nat → Int) (a : Nat) (b : Nat) (d : Nat) (r : List Ai) (ls : List V) (s : List V) (st : St) (i : Int) (o : Nat), ex J R C L sx ((10, a, b, d) :: r) ls (some (.inl i) :: some (.inr o) :: s) st = (kl o = 50 ∧ (0 ≤ i ∧ i < len o) ∧ ex J R C L sx r ls (some (.inl (st o i.toNat)) :: s) st)) ∧ (∀ (J : Nat → Kn) (R : Rn) (C : Cn) (L : Nat) (sx : Nat → Int) (a : Nat) (b : Nat) (d : Nat) (r : List Ai) (ls : List V) (s : List V) (st : St) (i : Int) (o : Nat), ex J R C L sx ((11, a, b, d) :: r) ls (some (.inl i) :: some (.inr o) :: s) st = (kl o = 51 ∧ (0 ≤ i ∧ i < len o) ∧ ex J R C L sx r ls (some (.inl (st o i.toNat)) :: s) st)) ∧ (∀ (J : Nat → Kn) (R : Rn) (C : Cn) (L : Nat) (sx : Nat → Int) (a : Nat) (b : Nat) (d : Nat) (r : List Ai) (ls : List V) (s : List V) (st : St) (i : Int) (o : Nat), ex J R C L sx ((15, a, b, d) :: r) ls (some (.inl i) :: some (.inr o) :: s) st = (kl o = 52 ∧ (0 ≤ i ∧ i < len o) ∧ ex J R C L sx r ls (some (.inl (st o i.toNat)) :: s) st)) ∧ (∀ (J : Nat → Kn) (R : Rn) (C : Cn) (L : Nat) (sx : Nat → Int) (a : Nat) (b : Nat) (d : Nat) (r : List Ai) (ls : List V) (s : List V) (st : St) (v : Int) (i : Int) (o : Nat), ex J R C L sx ((12, a, b, d) :: r) ls (some (.inl v) :: some (.inl i) :: some (.inr o) :: s) st = (kl o = 50 ∧ (0 ≤ i ∧ i < len o) ∧ ex J R C L sx r ls (s) (up2 st o i.toNat v))) ∧ (∀ (J : Nat → Kn) (R : Rn) (C : Cn) (L : Nat) (sx : Nat → Int) (a : Nat) (b : Nat) (d : Nat) (r : List Ai) (ls : List V) (s : List V) (st : St) (v : Int) (i : Int) (o : Nat), ex J R C L sx ((13, a, b, d) :: r) ls (some (.inl v) :: some (.inl i) :: some (.inr o) :: s) st = (kl o = 51 ∧ (0 ≤ i ∧ i < len o) ∧ ex J R C L sx r ls (s) (up2 st o i.toNat (w8 v)))) ∧ (∀ (J : Nat → Kn) (R : Rn) (C : Cn) (L : Nat) (sx : Nat → Int) (a : Nat) (b : Nat) (d : Nat) (r : List Ai) (ls : List V) (s : List V) (st : St) (v : Int) (i : Int) (o : Nat), ex J R C L sx ((14, a, b, d) :: r) ls (some (.inl v) :: some (.inl i) :: some (.inr o) :: s) st = (kl o = 52 ∧ (0 ≤ i ∧ i < len o) ∧ ok01 v ∧ ex J R C L sx r ls (s) (up2 st o i.toNat v))) ∧ (∀ (J : Nat → Kn) (R : Rn) (C : Cn) (L : Nat) (sx : Nat → Int) (a : Nat) (b : Nat) (d : Nat) (r : List Ai) (ls : List V) (s : List V) (st : St) (o : Nat), ex J R C L sx ((16, a, b, d) :: r) ls (some (.inr o) :: s) st = ((kl o = 50 ∨ kl o = 51 ∨ kl o = 52) ∧ ex J R C L sx r ls (some (.inl (len o : Int)) :: s) st)) ∧ (∀ (J : Nat → Kn) (R : Rn) (C : Cn) (L : Nat) (sx : Nat → Int) (a : Nat) (b : Nat) (d : Nat) (r : List Ai) (ls : List V) (s : List V) (st : St) (x : Int) (y : Int), ex J R C L sx ((17, a, b, d) :: r) ls (some (.inl y) :: some (.inl x) :: s) st = (ex J R C L sx r ls (some (.inl (wr (x + y))) :: s) st)) ∧ (∀ (J : Nat → Kn) (R : Rn) (C : Cn) (L : Nat) (sx : Nat → Int) (a : Nat) (b : Nat) (d : Nat) (r : List Ai) (ls : List V) (s : List V) (st : St) (x : Int) (y : Int), ex J R C L sx ((18, a, b, d) :: r) ls (some (.inl y) :: some (.inl x) :: s) st = (ex J R C L sx r ls (some (.inl (wr (x - y))) :: s) st)) ∧ (∀ (J : Nat → Kn) (R : Rn) (C : Cn) (L : Nat) (sx : Nat → Int) (a : Nat) (b : Nat) (d : Nat) (r : List Ai) (ls : List V) (s : List V) (st : St) (x : Int) (y : Int), ex J R C L sx ((19, a, b, d) :: r) ls (some (.inl y) :: some (.inl x) :: s) st = (ex J R C L sx r ls (some (.inl (wr (x * y))) :: s) st)) ∧ (∀ (J : Nat → Kn) (R : Rn) (C : Cn) (L : Nat) (sx : Nat → Int) (a : Nat) (b : Nat) (d : Nat) (r : List Ai) (ls : List V) (s : List V) (st : St) (x : Int) (y : Int), ex J R C L sx ((22, a, b, d) :: r) ls (some (.inl y) :: some (.inl x) :: s) st = (ex J R C L sx r ls (some (.inl (band x y)) :: s) st)) ∧ (∀ (J : Nat → Kn) (R : Rn) (C : Cn) (L : Nat) (sx : Nat → Int) (a : Nat) (b : Nat) (d : Nat) (r : List Ai) (ls : List V) (s : List V) (st : St) (x : Int) (y : Int), ex J R C L sx ((23, a, b, d) :: r) ls (some (.inl y) :: some (.inl x) :: s) st = (ex J R C L sx r ls (some (.inl (bor x y)) :: s) st)) ∧ (∀ (J : Nat → Kn) (R : Rn) (C : Cn) (L : Nat) (sx : Nat → Int) (a : Nat) (b : Nat) (d : Nat) (r : List Ai) (ls : List V) (s : List V) (st : St) (x : Int) (y : Int), ex J R C L sx ((24, a, b, d) :: r) ls (some (.inl y) :: some (.inl x) :: s) st = (ex J R C L sx r ls (some (.inl (bshl x y)) :: s) st)) ∧ (∀ (J : Nat → Kn) (R : Rn) (C : Cn) (L : Nat) (sx : Nat → Int) (a : Nat) (b : Nat) (d : Nat) (r : List Ai) (ls : List V) (s : List V) (st : St) (x : Int) (y : Int), ex J R C L sx ((25, a, b, d) :: r) ls (some (.inl y) :: some (.inl x) :: s) st = (ex J R C L sx r ls (some (.inl (bshr x y)) :: s) st)) ∧ (∀ (J : Nat → Kn) (R : Rn) (C : Cn) (L : Nat) (sx : Nat → Int) (a : Nat) (b : Nat) (d : Nat) (r : List Ai) (ls : List V) (s : List V) (st : St) (x : Int) (y : Int), ex J R C L sx ((20, a, b, d) :: r) ls (some (.inl y) :: some (.inl x) :: s) st = (¬ y = 0 ∧ ex J R C L sx r ls (some (.inl (wr (x.tdiv y))) :: s) st)) ∧ (∀ (J : Nat → Kn) (R : Rn) (C : Cn) (L : Nat) (sx : Nat → Int) (a : Nat) (b : Nat) (d : Nat) (r : List Ai) (ls : List V) (s : List V) (st : St) (x : Int) (y : Int), ex J R C L sx ((21, a, b, d) :: r) ls (some (.inl y) :: some (.inl x) :: s) st = (¬ y = 0 ∧ ex J R C L sx r ls (some (.inl (brem x y)) :: s) st)) ∧ (∀ (J : Nat → Kn) (R : Rn) (C : Cn) (L : Nat) (sx : Nat → Int) (a : Nat) (b : Nat) (d : Nat) (r : List Ai) (ls : List V) (s : List V) (st : St) (x : Int), ex J R C L sx ((26, a, b, d) :: r) ls (some (.inl x) :: s) st = (ex J R C L sx r ls (some (.inl (w8 x)) :: s) st)) ∧ (∀ (J : Nat → Kn) (R : Rn) (C : Cn) (L : Nat) (sx : Nat → Int) (a : Nat) (b : Nat) (d : Nat) (r : List Ai) (ls : List V) (s : List V) (st : St) (u : Int ⊕ Nat), ex J R C L sx ((27, a, b, d) :: r) ls (some u :: s) st = (ex J R C L sx r ls (some u :: some u :: s) st)) ∧ (∀ (J : Nat → Kn) (R : Rn) (C : Cn) (L : Nat) (sx : Nat → Int) (a : Nat) (b : Nat) (d : Nat) (r : List Ai) (ls : List V) (s : List V) (st : St) (u : Int ⊕ Nat), ex J R C L sx ((28, a, b, d) :: r) ls (some u :: s) st = (ex J R C L sx r ls (s) st)) ∧ (∀ (J : Nat → Kn) (R : Rn) (C : Cn) (L : Nat) (sx : Nat → Int) (a : Nat) (b : Nat) (d : Nat) (r : List Ai) (ls : List V) (s : List V) (st : St) (u : Int ⊕ Nat) (w : Int ⊕ Nat), ex J R C L sx ((29, a, b, d) :: r) ls (some u :: some w :: s) st = (ex J R C L sx r ls (some u :: some w :: some u :: some w :: s) st)) ∧ (∀ (J : Nat → Kn) (R : Rn) (C : Cn) (L : Nat) (sx : Nat → Int) (a : Nat) (d : Nat) (r : List Ai) (ls : List V) (s : List V) (st : St), ex J R C L sx ((30, a, 0, d) :: r) ls (s) st = (s.length ≤ 8 ∧ C a [] st (fun v st' => match v with | none => ex J R C L sx r ls s st' | some _ => False))) ∧ (∀ (J : Nat → Kn) (R : Rn) (C : Cn) (L : Nat) (sx : Nat → Int) (a : Nat) (d : Nat) (r : List Ai) (ls : List V) (s : List V) (st : St), ex J R C L sx ((31, a, 0, d) :: r) ls (s) st = (s.length ≤ 8 ∧ C a [] st (fun v st' => match v with | some x => ex J R C L sx r ls (some x :: s) st' | none => False))) ∧ (∀ (J : Nat → Kn) (R : Rn) (C : Cn) (L : Nat) (sx : Nat → Int) (a : Nat) (d : Nat) (r : List Ai) (ls : List V) (s : List V) (st : St) (u0 : V), ex J R C L sx ((30, a, 1, d) :: r) ls (u0 :: s) st = (s.length ≤ 8 ∧ C a [u0] st (fun v st' => match v with | none => ex J R C L sx r ls s st' | some _ => False))) ∧ (∀ (J : Nat → Kn) (R : Rn) (C : Cn) (L : Nat) (sx : Nat → Int) (a : Nat) (d : Nat) (r : List Ai) (ls : List V) (s : List V) (st : St) (u0 : V), ex J R C L sx ((31, a, 1, d) :: r) ls (u0 :: s) st = (s.length ≤ 8 ∧ C a [u0] st (fun v st' => match v with | some x => ex J R C L sx r ls (some x :: s) st' | none => False))) ∧ (∀ (J : Nat → Kn) (R : Rn) (C : Cn) (L : Nat) (sx : Nat → Int) (a : Nat) (d : Nat) (r : List Ai) (ls : List V) (s : List V) (st : St) (u0 u1 : V), ex J R C L sx ((30, a, 2, d) :: r) ls (u1 :: u0 :: s) st = (s.length ≤ 8 ∧ C a [u0, u1] st (fun v st' => match v with | none => ex J R C L sx r ls s st' | some _ => False))) ∧ (∀ (J : Nat → Kn) (R : Rn) (C : Cn) (L : Nat) (sx : Nat → Int) (a : Nat) (d : Nat) (r : List Ai) (ls : List V) (s : List V) (st : St) (u0 u1 : V), ex J R C L sx ((31, a, 2, d) :: r) ls (u1 :: u0 :: s) st = (s.length ≤ 8 ∧ C a [u0, u1] st (fun v st' => match v with | some x => ex J R C L sx r ls (some x :: s) st' | none => False))) ∧ (∀ (J : Nat → Kn) (R : Rn) (C : Cn) (L : Nat) (sx : Nat → Int) (a : Nat) (d : Nat) (r : List Ai) (ls : List V) (s : List V) (st : St) (u0 u1 u2 : V), ex J R C L sx ((30, a, 3, d) :: r) ls (u2 :: u1 :: u0 :: s) st = (s.length ≤ 8 ∧ C a [u0, u1, u2] st (fun v st' => match v with | none => ex J R C L sx r ls s st' | some _ => False))) ∧ (∀ (J : Nat → Kn) (R : Rn) (C : Cn) (L : Nat) (sx : Nat → Int) (a : Nat) (d : Nat) (r : List Ai) (ls : List V) (s : List V) (st : St) (u0 u1 u2 : V), ex J R C L sx ((31, a, 3, d) :: r) ls (u2 :: u1 :: u0 :: s) st = (s.length ≤ 8 ∧ C a [u0, u1, u2] st (fun v st' => match v with | some x => ex J R C L sx r ls (some x :: s) st' | none => False))) ∧ (∀ (J : Nat → Kn) (R : Rn) (C : Cn) (L : Nat) (sx : Nat → Int) (a : Nat) (d : Nat) (r : List Ai) (ls : List V) (s : List V) (st : St) (u0 u1 u2 u3 : V), ex J R C L sx ((30, a, 4, d) :: r) ls (u3 :: u2 :: u1 :: u0 :: s) st = (s.length ≤ 8 ∧ C a [u0, u1, u2, u3] st (fun v st' => match v with | none => ex J R C L sx r ls s st' | some _ => False))) ∧ (∀ (J : Nat → Kn) (R : Rn) (C : Cn) (L : Nat) (sx : Nat → Int) (a : Nat) (d : Nat) (r : List Ai) (ls : List V) (s : List V) (st : St) (u0 u1 u2 u3 : V), ex J R C L sx ((31, a, 4, d) :: r) ls (u3 :: u2 :: u1 :: u0 :: s) st = (s.length ≤ 8 ∧ C a [u0, u1, u2, u3] st (fun v st' => match v with | some x => ex J R C L sx r ls (some x :: s) st' | none => False))) ∧ (∀ (J : Nat → Kn) (R : Rn) (C : Cn) (L : Nat) (sx : Nat → Int) (a : Nat) (d : Nat) (r : List Ai) (ls : List V) (s : List V) (st : St) (u0 u1 u2 u3 u4 : V), ex J R C L sx ((30, a, 5, d) :: r) ls (u4 :: u3 :: u2 :: u1 :: u0 :: s) st = (s.length ≤ 8 ∧ C a [u0, u1, u2, u3, u4] st (fun v st' => match v with | none => ex J R C L sx r ls s st' | some _ => False))) ∧ (∀ (J : Nat → Kn) (R : Rn) (C : Cn) (L : Nat) (sx : Nat → Int) (a : Nat) (d : Nat) (r : List Ai) (ls : List V) (s : List V) (st : St) (u0 u1 u2 u3 u4 : V), ex J R C L sx ((31, a, 5, d) :: r) ls (u4 :: u3 :: u2 :: u1 :: u0 :: s) st = (s.length ≤ 8 ∧ C a [u0, u1, u2, u3, u4] st (fun v st' => match v with | some x => ex J R C L sx r ls (some x :: s) st' | none => False))) ∧ (∀ (J : Nat → Kn) (R : Rn) (C : Cn) (L : Nat) (sx : Nat → Int) (a : Nat) (d : Nat) (r : List Ai) (ls : List V) (s : List V) (st : St) (u0 u1 u2 u3 u4 u5 : V), ex J R C L sx ((30, a, 6, d) :: r) ls (u5 :: u4 :: u3 :: u2 :: u1 :: u0 :: s) st = (s.length ≤ 8 ∧ C a [u0, u1, u2, u3, u4, u5] st (fun v st' => match v with | none => ex J R C L sx r ls s st' | some _ => False))) ∧ (∀ (J : Nat → Kn) (R : Rn) (C : Cn) (L : Nat) (sx : Nat → Int) (a : Nat) (d : Nat) (r : List Ai) (ls : List V) (s : List V) (st : St) (u0 u1 u2 u3 u4 u5 : V), ex J R C L sx ((31, a, 6, d) :: r) ls (u5 :: u4 :: u3 :: u2 :: u1 :: u0 :: s) st = (s.length ≤ 8 ∧ C a [u0, u1, u2, u3, u4, u5] st (fun v st' => match v with | some x => ex J R C L sx r ls (some x :: s) st' | none => False))) ∧ (∀ (J : Nat → Kn) (R : Rn) (C : Cn) (L : Nat) (sx : Nat → Int) (a : Nat) (b : Nat) (d : Nat) (r : List Ai) (ls : List V) (s : List V) (st : St) (x : Int) (y : Int), ex J R C L sx ((32, a, b, d) :: r) ls (some (.inl y) :: some (.inl x) :: s) st = (s.length ≤ 8 ∧ ex J R C L sx r ls (some (.inl (if x ≤ y then x else y)) :: s) st)) ∧ (∀ (J : Nat → Kn) (R : Rn) (C : Cn) (L : Nat) (sx : Nat → Int) (a : Nat) (b : Nat) (d : Nat) (r : List Ai) (ls : List V) (s : List V) (st : St) (x : Int) (y : Int), ex J R C L sx ((33, a, b, d) :: r) ls (some (.inl y) :: some (.inl x) :: s) st = (s.length ≤ 8 ∧ ex J R C L sx r ls (some (.inl (if y ≤ x then x else y)) :: s) st)) ∧ (∀ (J : Nat → Kn) (R : Rn) (C : Cn) (L : Nat) (sx : Nat → Int) (a : Nat) (b : Nat) (d : Nat) (r : List Ai) (ls : List V) (s : List V) (st : St) (v : Int) (i : Int) (n : Int) (o : Nat) (q : Nat), ex J R C L sx ((34, a, b, d) :: r) ls (some (.inl n) :: some (.inl v) :: some (.inr q) :: some (.inl i) :: some (.inr o) :: s) st = (s.length ≤ 8 ∧ ¬ o = q ∧ kl o = 50 ∧ kl q = 50 ∧ (0 ≤ n ∧ 0 ≤ v ∧ 0 ≤ i ∧ i + n ≤ len o ∧ v + n ≤ len q) ∧ ex J R C L sx r ls (s) (up1 st q (cpf (st o) (st q) i.toNat v.toNat n.toNat)))) ∧ (∀ (J : Nat → Kn) (R : Rn) (C : Cn) (L : Nat) (sx : Nat → Int) (a : Nat) (b : Nat) (d : Nat) (r : List Ai) (ls : List V) (s : List V) (st : St) (i : Int) (o : Nat), ex J R C L sx ((35, a, b, d) :: r) ls (some (.inl i) :: some (.inr o) :: s) st = (o = 500 ∧ (0 ≤ i ∧ i + 1 < L) ∧ ex J R C L sx r ls (some (.inl (sx i.toNat)) :: s) st)) ∧ (∀ (J : Nat → Kn) (R : Rn) (C : Cn) (L : Nat) (sx : Nat → Int) (a : Nat) (b : Nat) (d : Nat) (r : List Ai) (ls : List V) (s : List V) (st : St) (o : Nat), ex J R C L sx ((36, a, b, d) :: r) ls (some (.inr o) :: s) st = (o = 500 ∧ 0 < L ∧ ex J R C L sx r ls (some (.inl ((L : Int) - 1)) :: s) st)) ∧ (∀ (J : Nat → Kn) (R : Rn) (C : Cn) (L : Nat) (sx : Nat → Int) (a : Nat) (b : Nat) (d : Nat) (r : List Ai) (ls : List V) (s : List V) (st : St), ex J R C L sx ((37, a, b, d) :: r) ls (s) st = (i_loadR (ex J R C L sx r) a ls s st)) ∧ (∀ (J : Nat → Kn) (R : Rn) (C : Cn) (L : Nat) (sx : Nat → Int) (a : Nat) (b : Nat) (d : Nat) (r : List Ai) (ls : List V) (s : List V) (st : St) (q : Nat), ex J R C L sx ((38, a, b, d) :: r) ls (some (.inr q) :: s) st = (ex J R C L sx r (lp ls a (some (.inr q))) (s) st)) ∧ (∀ (J : Nat → Kn) (R : Rn) (C : Cn) (L : Nat) (sx : Nat → Int) (a : Nat) (b : Nat) (d : Nat) (r : List Ai) (ls : List V) (s : List V) (st : St), ex J R C L sx ((50, a, b, d) :: r) ls (s) st = (J a ls s st)) ∧ (∀ (J : Nat → Kn) (R : Rn) (C : Cn) (L : Nat) (sx : Nat → Int) (a : Nat) (b : Nat) (d : Nat) (r : List Ai) (ls : List V) (s : List V) (st : St), ex J R C L sx ((51, a, b, d) :: r) ls (s) st = (J a ls s st)) ∧ (∀ (J : Nat → Kn) (R : Rn) (C : Cn) (L : Nat) (sx : Nat → Int) (a : Nat) (b : Nat) (d : Nat) (r : List Ai) (ls : List V) (s : List V) (st : St) (x : Int) (y : Int), ex J R C L sx ((52, a, b, d) :: r) ls (some (.inl y) :: some (.inl x) :: s) st = (((x = y) → J a ls s st) ∧ (¬ (x = y) → J b ls s st))) ∧ (∀ (J : Nat → Kn) (R : Rn) (C : Cn) (L : Nat) (sx : Nat → Int) (a : Nat) (b : Nat) (d : Nat) (r : List Ai) (ls : List V) (s : List V) (st : St) (x : Int) (y : Int), ex J R C L sx ((53, a, b, d) :: r) ls (some (.inl y) :: some (.inl x) :: s) st = (((¬ x = y) → J a ls s st) ∧ (¬ (¬ x = y) → J b ls s st))) ∧ (∀ (J : Nat → Kn) (R : Rn) (C : Cn) (L : Nat) (sx : Nat → Int) (a : Nat) (b : Nat) (d : Nat) (r : List Ai) (ls : List V) (s : List V) (st : St) (x : Int) (y : Int), ex J R C L sx ((54, a, b, d) :: r) ls (some (.inl y) :: some (.inl x) :: s) st = (((x < y) → J a ls s st) ∧ (¬ (x < y) → J b ls s st))) ∧ (∀ (J : Nat → Kn) (R : Rn) (C : Cn) (L : Nat) (sx : Nat → Int) (a : Nat) (b : Nat) (d : Nat) (r : List Ai) (ls : List V) (s : List V) (st : St) (x : Int) (y : Int), ex J R C L sx ((55, a, b, d) :: r) ls (some (.inl y) :: some (.inl x) :: s) st = (((y ≤ x) → J a ls s st) ∧ (¬ (y ≤ x) → J b ls s st))) ∧ (∀ (J : Nat → Kn) (R : Rn) (C : Cn) (L : Nat) (sx : Nat → Int) (a : Nat) (b : Nat) (d : Nat) (r : List Ai) (ls : List V) (s : List V) (st : St) (x : Int) (y : Int), ex J R C L sx ((56, a, b, d) :: r) ls (some (.inl y) :: some (.inl x) :: s) st = (((y < x) → J a ls s st) ∧ (¬ (y < x) → J b ls s st))) ∧ (∀ (J : Nat → Kn) (R : Rn) (C : Cn) (L : Nat) (sx : Nat → Int) (a : Nat) (b : Nat) (d : Nat) (r : List Ai) (ls : List V) (s : List V) (st : St) (x : Int) (y : Int), ex J R C L sx ((57, a, b, d) :: r) ls (some (.inl y) :: some (.inl x) :: s) st = (((x ≤ y) → J a ls s st) ∧ (¬ (x ≤ y) → J b ls s st))) ∧ (∀ (J : Nat → Kn) (R : Rn) (C : Cn) (L : Nat) (sx : Nat → Int) (a : Nat) (b : Nat) (d : Nat) (r : List Ai) (ls : List V) (s : List V) (st : St) (x : Int), ex J R C L sx ((58, a, b, d) :: r) ls (some (.inl x) :: s) st = (((x = 0) → J a ls s st) ∧ (¬ (x = 0) → J b ls s st))) ∧ (∀ (J : Nat → Kn) (R : Rn) (C : Cn) (L : Nat) (sx : Nat → Int) (a : Nat) (b : Nat) (d : Nat) (r : List Ai) (ls : List V) (s : List V) (st : St) (x : Int), ex J R C L sx ((59, a, b, d) :: r) ls (some (.inl x) :: s) st = (((¬ x = 0) → J a ls s st) ∧ (¬ (¬ x = 0) → J b ls s st))) ∧ (∀ (J : Nat → Kn) (R : Rn) (C : Cn) (L : Nat) (sx : Nat → Int) (a : Nat) (b : Nat) (d : Nat) (r : List Ai) (ls : List V) (s : List V) (st : St) (x : Int), ex J R C L sx ((60, a, b, d) :: r) ls (some (.inl x) :: s) st = (((x < 0) → J a ls s st) ∧ (¬ (x < 0) → J b ls s st))) ∧ (∀ (J : Nat → Kn) (R : Rn) (C : Cn) (L : Nat) (sx : Nat → Int) (a : Nat) (b : Nat) (d : Nat) (r : List Ai) (ls : List V) (s : List V) (st : St) (x : Int), ex J R C L sx ((61, a, b, d) :: r) ls (some (.inl x) :: s) st = (((0 ≤ x) → J a ls s st) ∧ (¬ (0 ≤ x) → J b ls s st))) ∧ (∀ (J : Nat → Kn) (R : Rn) (C : Cn) (L : Nat) (sx : Nat → Int) (a : Nat) (b : Nat) (d : Nat) (r : List Ai) (ls : List V) (s : List V) (st : St) (x : Int), ex J R C L sx ((62, a, b, d) :: r) ls (some (.inl x) :: s) st = (((0 < x) → J a ls s st) ∧ (¬ (0 < x) → J b ls s st))) ∧ (∀ (J : Nat → Kn) (R : Rn) (C : Cn) (L : Nat) (sx : Nat → Int) (a : Nat) (b : Nat) (d : Nat) (r : List Ai) (ls : List V) (s : List V) (st : St) (x : Int), ex J R C L sx ((63, a, b, d) :: r) ls (some (.inl x) :: s) st = (((x ≤ 0) → J a ls s st) ∧ (¬ (x ≤ 0) → J b ls s st))) ∧ (∀ (J : Nat → Kn) (R : Rn) (C : Cn) (L : Nat) (sx : Nat → Int) (a : Nat) (b : Nat) (d : Nat) (r : List Ai) (ls : List V) (st : St) (x : Int), ex J R C L sx ((64, a, b, d) :: r) ls ([some (.inl x)]) st = (R (some (.inl x)) st)) ∧ (∀ (J : Nat → Kn) (R : Rn) (C : Cn) (L : Nat) (sx : Nat → Int) (a : Nat) (b : Nat) (d : Nat) (r : List Ai) (ls : List V) (st : St) (x : Int), ex J R C L sx ((65, a, b, d) :: r) ls ([some (.inl x)]) st = (ok01 x ∧ R (some (.inl x)) st)) ∧ (∀ (J : Nat → Kn) (R : Rn) (C : Cn) (L : Nat) (sx : Nat → Int) (a : Nat) (b : Nat) (d : Nat) (r : List Ai) (ls : List V) (st : St) (q : Nat), ex J R C L sx ((66, a, b, d) :: r) ls ([some (.inr q)]) st = (R (some (.inr q)) st)) ∧ (∀ (J : Nat → Kn) (R : Rn) (C : Cn) (L : Nat) (sx : Nat → Int) (a : Nat) (b : Nat) (d : Nat) (r : List Ai) (ls : List V) (st : St), ex J R C L sx ((67, a, b, d) :: r) ls ([]) st = (R none st)) ∧ (∀ (J : Nat → Kn) (R : Rn) (C : Cn) (L : Nat) (sx : Nat → Int) (a : Nat) (b : Nat) (d : Nat) (r : List Ai) (ls : List V) (s : List V) (st : St) (x : Int), ex J R C L sx ((68, a, b, d) :: r) ls (some (.inl x) :: s) st = (t_sw J x a ls s st r)) := ⟨fun _ _ _ _ _ _ _ _ _ _ _ _ => rfl, fun _ _ _ _ _ _ _ _ _ _ _ _ => rfl, fun _ _ _ _ _ _ _ _ _ _ _ _ => rfl, fun _ _ _ _ _ _ _ _ _ _ _ _ _ => rfl, fun _ _ _ _ _ _ _ _ _ _ _ _ => rfl, fun _ _ _ _ _ _ _ _ _ _ _ _ => rfl, fun _ _ _ _ _ _ _ _ _ _ _ _ _ => rfl, fun _ _ _ _ _ _ _ _ _ _ _ _ _ => rfl, fun _ _ _ _ _ _ _ _ _ _ _ _ _ _ => rfl, fun _ _ _ _ _ _ _ _ _ _ _ _ _ _ => rfl, fun _ _ _ _ _ _ _ _ _ _ _ _ _ _ => rfl, fun _ _ _ _ _ _ _ _ _ _ _ _ _ _ => rfl, fun _ _ _ _ _ _ _ _ _ _ _ _ _ _ => rfl, fun _ _ _ _ _ _ _ _ _ _ _ _ _ _ _ => rfl, fun _ _ _ _ _ _ _ _ _ _ _ _ _ _ _ => rfl, fun _ _ _ _ _ _ _ _ _ _ _ _ _ _ _ => rfl, fun _ _ _ _ _ _ _ _ _ _ _ _ _ => rfl, fun _ _ _ _ _ _ _ _ _ _ _ _ _ _ => rfl, fun _ _ _ _ _ _ _ _ _ _ _ _ _ _ => rfl, fun _ _ _ _ _ _ _ _ _ _ _ _ _ _ => rfl, fun _ _ _ _ _ _ _ _ _ _ _ _ _ _ => rfl, fun _ _ _ _ _ _ _ _ _ _ _ _ _ _ => rfl, fun _ _ _ _ _ _ _ _ _ _ _ _ _ _ => rfl, fun _ _ _ _ _ _ _ _ _ _ _ _ _ _ => rfl, fun _ _ _ _ _ _ _ _ _ _ _ _ _ _ => rfl, fun _ _ _ _ _ _ _ _ _ _ _ _ _ _ => rfl, fun _ _ _ _ _ _ _ _ _ _ _ _ _ => rfl, fun _ _ _ _ _ _ _ _ _ _ _ _ _ => rfl, fun _ _ _ _ _ _ _ _ _ _ _ _ _ => rfl, fun _ _ _ _ _ _ _ _ _ _ _ _ _ _ => rfl, fun _ _ _ _ _ _ _ _ _ _ _ => rfl, fun _ _ _ _ _ _ _ _ _ _ _ => rfl, fun _ _ _ _ _ _ _ _ _ _ _ _ => rfl, fun _ _ _ _ _ _ _ _ _ _ _ _ => rfl, fun _ _ _ _ _ _ _ _ _ _ _ _ _ => rfl, fun _ _ _ _ _ _ _ _ _ _ _ _ _ => rfl, fun _ _ _ _ _ _ _ _ _ _ _ _ _ _ => rfl, fun _ _ _ _ _ _ _ _ _ _ _ _ _ _ => rfl, fun _ _ _ _ _ _ _ _ _ _ _ _ _ _ _ => rfl, fun _ _ _ _ _ _ _ _ _ _ _ _ _ _ _ => rfl, fun _ _ _ _ _ _ _ _ _ _ _ _ _ _ _ _ => rfl, fun _ _ _ _ _ _ _ _ _ _ _ _ _ _ _ _ => rfl, fun _ _ _ _ _ _ _ _ _ _ _ _ _ _ _ _ _ => rfl, fun _ _ _ _ _ _ _ _ _ _ _ _ _ _ _ _ _ => rfl, fun _ _ _ _ _ _ _ _ _ _ _ _ _ _ => rfl, fun _ _ _ _ _ _ _ _ _ _ _ _ _ _ => rfl, fun _ _ _ _ _ _ _ _ _ _ _ _ _ _ _ _ _ => rfl, fun _ _ _ _ _ _ _ _ _ _ _ _ _ _ => rfl, fun _ _ _ _ _ _ _ _ _ _ _ _ _ => rfl, fun _ _ _ _ _ _ _ _ _ _ _ _ => rfl, fun _ _ _ _ _ _ _ _ _ _ _ _ _ => rfl, fun _ _ _ _ _ _ _ _ _ _ _ _ => rfl, fun _ _ _ _ _ _ _ _ _ _ _ _ => rfl, fun _ _ _ _ _ _ _ _ _ _ _ _ _ _ => rfl, fun _ _ _ _ _ _ _ _ _ _ _ _ _ _ => rfl, fun _ _ _ _ _ _ _ _ _ _ _ _ _ _ => rfl, fun _ _ _ _ _ _ _ _ _ _ _ _ _ _ => rfl, fun _ _ _ _ _ _ _ _ _ _ _ _ _ _ => rfl, fun _ _ _ _ _ _ _ _ _ _ _ _ _ _ => rfl, fun _ _ _ _ _ _ _ _ _ _ _ _ _ => rfl, fun _ _ _ _ _ _ _ _ _ _ _ _ _ => rfl, fun _ _ _ _ _ _ _ _ _ _ _ _ _ => rfl, fun _ _ _ _ _ _ _ _ _ _ _ _ _ => rfl, fun _ _ _ _ _ _ _ _ _ _ _ _ _ => rfl, fun _ _ _ _ _ _ _ _ _ _ _ _ _ => rfl, fun _ _ _ _ _ _ _ _ _ _ _ _ => rfl, fun _ _ _ _ _ _ _ _ _ _ _ _ => rfl, fun _ _ _ _ _ _ _ _ _ _ _ _ => rfl, fun _ _ _ _ _ _ _ _ _ _ _ => rfl, fun _ _ _ _ _ _ _ _ _ _ _ _ _ => rfl⟩
end
section
/-! the blocks, each by its number -/
theorem pe0 : P 0 0 = [(2, 1, 0, 0), (0, 1, 0, 0), (54, 2, 1, 0)] ∧ P 0 1 = [(2, 1, 0, 0), (0, 4, 0, 0), (57, 3, 2, 0)] ∧ P 0 2 = [(0, 0, 0, 0), (65, 0, 0, 0)] ∧ P 0 3 = [(37, 0, 0, 0), (2, 1, 0, 0), (8, 11, 15, 92), (37, 0, 0, 0), (7, 11, 5, 24), (30, 234, 1, 107), (37, 0, 0, 0), (7, 11, 57, 55), (30, 186, 1, 110), (37, 0, 0, 0), (7, 11, 60, 58), (30, 186, 1, 110), (37, 0, 0, 0), (7, 11, 63, 61), (30, 186, 1, 110), (37, 0, 0, 0), (7, 11, 8, 31), (37, 0, 0, 0), (7, 11, 5, 24), (1, 1, 0, 0), (30, 252, 3, 99), (37, 0, 0, 0), (7, 11, 13, 38), (37, 0, 0, 0), (7, 11, 8, 31), (30, 173, 2, 103), (0, 1, 0, 0), (65, 0, 0, 0)] := by refine ⟨?_, ?_, ?_, ?_⟩ <;> rfl
theorem pe1 : P 1 0 = [(37, 0, 0, 0), (7, 11, 1, 14), (6, 5, 1, 111), (0, 20, 0, 0), (17, 0, 0, 0), (0, 800, 0, 0), (57, 2, 1, 0)] ∧ P 1 1 = [(1, 1, 0, 0), (64, 0, 0, 0)] ∧ P 1 2 = [(37, 0, 0, 0), (7, 11, 1, 14), (2, 1, 0, 0), (30, 223, 2, 114), (37, 0, 0, 0), (7, 11, 1, 14), (2, 2, 0, 0), (30, 223, 2, 114), (37, 0, 0, 0), (7, 11, 1, 14), (2, 3, 0, 0), (30, 223, 2, 114), (37, 0, 0, 0), (7, 11, 1, 14), (2, 4, 0, 0), (30, 223, 2, 114), (37, 0, 0, 0), (7, 11, 1, 14), (2, 5, 0, 0), (30, 223, 2, 114), (37, 0, 0, 0), (7, 11, 1, 14), (6, 5, 1, 111), (64, 0, 0, 0)] := by refine ⟨?_, ?_, ?_⟩ <;> rfl
theorem pe2 : P 2 0 = [(2, 1, 0, 0), (60, 2, 1, 0)] ∧ P 2 1 = [(2, 1, 0, 0), (37, 0, 0, 0), (7, 11, 1, 14), (6, 5, 1, 111), (57, 3, 2, 0)] ∧ P 2 2 = [(1, 1, 0, 0), (64, 0, 0, 0)] ∧ P 2 3 = [(37, 0, 0, 0), (7, 11, 1, 14), (2, 1, 0, 0), (30, 221, 2, 117), (2, 1, 0, 0), (64, 0, 0, 0)] := by refine ⟨?_, ?_, ?_, ?_⟩ <;> rfl
theorem pe3 : P 3 0 = [(37, 0, 0, 0), (31, 6, 1, 120), (3, 2, 0, 0), (2, 2, 0, 0), (1, 1, 0, 0), (53, 2, 1, 0)] ∧ P 3 1 = [(1, 2, 0, 0), (51, 3, 0, 0)] ∧ P 3 2 = [(37, 0, 0, 0), (2, 2, 0, 0), (2, 1, 0, 0), (31, 7, 3, 124), (50, 3, 0, 0)] ∧ P 3 3 = [(64, 0, 0, 0)] := by refine ⟨?_, ?_, ?_, ?_⟩ <;> rfl
theorem pe4 : P 4 0 = [(37, 0, 0, 0), (7, 11, 5, 24), (2, 1, 0, 0), (31, 235, 2, 128), (59, 2, 1, 0)] ∧ P 4 1 = [(1, 1, 0, 0), (64, 0, 0, 0)] ∧ P 4 2 = [(37, 0, 0, 0), (7, 11, 5, 24), (2, 1, 0, 0), (30, 242, 2, 132), (37, 0, 0, 0), (7, 11, 8, 31), (37, 0, 0, 0), (7, 11, 5, 24), (1, 1, 0, 0), (30, 252, 3, 99), (37, 0, 0, 0), (7, 11, 13, 38), (37, 0, 0, 0), (7, 11, 8, 31), (30, 173, 2, 103), (37, 0, 0, 0), (7, 11, 5, 24), (6, 7, 2, 135), (64, 0, 0, 0)] := by refine ⟨?_, ?_, ?_⟩ <;> rfl
theorem pe5 : P 5 0 = [(2, 1, 0, 0), (60, 3, 1, 0)] ∧ P 5 1 = [(2, 1, 0, 0), (0, 5, 0, 0), (56, 3, 2, 0)] ∧ P 5 2 = [(37, 0, 0, 0), (7, 11, 60, 58), (6, 2, 2, 136), (59, 4, 3, 0)] ∧ P 5 3 = [(1, 1, 0, 0), (64, 0, 0, 0)] ∧ P 5 4 = [(37, 0, 0, 0), (7, 11, 5, 24), (6, 7, 2, 135), (3, 2, 0, 0), (0, 1, 0, 0), (3, 3, 0, 0), (0, 0, 0, 0), (3, 4, 0, 0), (50, 5, 0, 0)] ∧ P 5 5 = [(2, 4, 0, 0), (2, 1, 0, 0), (56, 13, 6, 0)] ∧ P 5 6 = [(0, 0, 0, 0), (3, 5, 0, 0), (50, 7, 0, 0)] ∧ P 5 7 = [(2, 5, 0, 0), (2, 3, 0, 0), (55, 12, 8, 0)] ∧ P 5 8 = [(2, 5, 0, 0), (2, 4, 0, 0), (37, 0, 0, 0), (6, 11, 15, 92), (31, 264, 3, 137), (3, 6, 0, 0), (37, 0, 0, 0), (7, 11, 5, 24), (2, 6, 0, 0), (31, 240, 2, 143), (59, 11, 9, 0)] ∧ P 5 9 = [(37, 0, 0, 0), (2, 6, 0, 0), (37, 0, 0, 0), (7, 11, 60, 58), (2, 6, 0, 0), (31, 193, 2, 146), (31, 7, 3, 124), (61, 11, 10, 0)] ∧ P 5 10 = [(37, 0, 0, 0), (7, 11, 5, 24), (6, 7, 2, 135), (2, 2, 0, 0), (18, 0, 0, 0), (64, 0, 0, 0)] ∧ P 5 11 = [(4, 5, 1, 0), (51, 7, 0, 0)] ∧ P 5 12 = [(2, 3, 0, 0), (37, 0, 0, 0), (6, 11, 15, 92), (19, 0, 0, 0), (3, 3, 0, 0), (4, 4, 1, 0), (51, 5, 0, 0)] ∧ P 5 13 = [(37, 0, 0, 0), (7, 11, 5, 24), (6, 7, 2, 135), (2, 2, 0, 0), (18, 0, 0, 0), (64, 0, 0, 0)] := by refine ⟨?_, ?_, ?_, ?_, ?_, ?_, ?_, ?_, ?_, ?_, ?_, ?_, ?_, ?_⟩ <;> rfl
theorem pe6 : P 6 0 = [(37, 0, 0, 0), (7, 11, 1, 14), (37, 0, 0, 0), (6, 11, 15, 92), (31, 227, 2, 149), (3, 1, 0, 0), (37, 0, 0, 0), (7, 11, 1, 14), (0, 0, 0, 0), (30, 221, 2, 117), (2, 1, 0, 0), (64, 0, 0, 0)] := rfl
theorem pe7 : P 7 0 = [(37, 0, 0, 0), (7, 11, 5, 24), (2, 1, 0, 0), (31, 239, 2, 153), (3, 3, 0, 0), (37, 0, 0, 0), (7, 11, 5, 24), (2, 1, 0, 0), (31, 240, 2, 143), (58, 5, 1, 0)] ∧ P 7 1 = [(37, 0, 0, 0), (7, 11, 5, 24), (2, 3, 0, 0), (31, 237, 2, 156), (2, 2, 0, 0), (53, 3, 2, 0)] ∧ P 7 2 = [(37, 0, 0, 0), (7, 11, 8, 31), (6, 9, 4, 159), (51, 4, 0, 0)] ∧ P 7 3 = [(1, 3, 0, 0), (50, 4, 0, 0)] ∧ P 7 4 = [(64, 0, 0, 0)] ∧ P 7 5 = [(37, 0, 0, 0), (7, 11, 5, 24), (6, 7, 2, 135), (0, 40, 0, 0), (54, 7, 6, 0)] ∧ P 7 6 = [(1, 4, 0, 0), (64, 0, 0, 0)] ∧ P 7 7 = [(37, 0, 0, 0), (7, 11, 8, 31), (6, 9, 4, 159), (37, 0, 0, 0), (7, 11, 8, 31), (2, 1, 0, 0), (31, 257, 2, 160), (17, 0, 0, 0), (0, 120, 0, 0), (57, 9, 8, 0)] ∧ P 7 8 = [(1, 5, 0, 0), (64, 0, 0, 0)] ∧ P 7 9 = [(37, 0, 0, 0), (7, 11, 5, 24), (2, 3, 0, 0), (2, 1, 0, 0), (2, 2, 0, 0), (30, 241, 4, 163), (37, 0, 0, 0), (7, 11, 8, 31), (2, 1, 0, 0), (30, 253, 2, 167), (37, 0, 0, 0), (7, 11, 8, 31), (37, 0, 0, 0), (7, 11, 5, 24), (1, 1, 0, 0), (30, 258, 3, 170), (37, 0, 0, 0), (7, 11, 13, 38), (37, 0, 0, 0), (7, 11, 8, 31), (30, 173, 2, 103), (37, 0, 0, 0), (7, 11, 8, 31), (6, 9, 4, 159), (64, 0, 0, 0)] := by refine ⟨?_, ?_, ?_, ?_, ?_, ?_, ?_, ?_, ?_, ?_⟩ <;> rfl
theorem pe8 : P 8 0 = [(37, 0, 0, 0), (7, 11, 5, 24), (2, 1, 0, 0), (31, 235, 2, 128), (59, 2, 1, 0)] ∧ P 8 1 = [(1, 2, 0, 0), (64, 0, 0, 0)] ∧ P 8 2 = [(37, 0, 0, 0), (7, 11, 5, 24), (2, 1, 0, 0), (31, 236, 2, 173), (3, 3, 0, 0), (2, 2, 0, 0), (68, 10, 0, 0), (0, 3, 0, 0), (1, 4, 0, 0), (2, 8, 0, 0), (3, 9, 0, 0)] ∧ P 8 3 = [(37, 0, 0, 0), (7, 11, 8, 31), (2, 3, 0, 0), (31, 256, 2, 176), (64, 0, 0, 0)] ∧ P 8 4 = [(37, 0, 0, 0), (7, 11, 5, 24), (2, 1, 0, 0), (31, 237, 2, 156), (58, 6, 5, 0)] ∧ P 8 5 = [(0, 1, 0, 0), (51, 7, 0, 0)] ∧ P 8 6 = [(0, 0, 0, 0), (50, 7, 0, 0)] ∧ P 8 7 = [(64, 0, 0, 0)] ∧ P 8 8 = [(2, 3, 0, 0), (31, 259, 1, 179), (64, 0, 0, 0)] ∧ P 8 9 = [(37, 0, 0, 0), (7, 11, 13, 38), (7, 1, 1, 182), (37, 0, 0, 0), (7, 11, 8, 31), (2, 3, 0, 0), (31, 256, 2, 176), (31, 163, 2, 186), (64, 0, 0, 0)] ∧ P 8 10 = [(1, 2, 0, 0), (64, 0, 0, 0)] := by refine ⟨?_, ?_, ?_, ?_, ?_, ?_, ?_, ?_, ?_, ?_, ?_⟩ <;> rfl
theorem pe9 : P 9 0 = [(2, 1, 0, 0), (68, 10, 0, 0), (0, 1, 0, 0), (1, 2, 0, 0), (2, 3, 0, 0), (3, 4, 0, 0), (4, 5, 0, 0), (5, 6, 0, 0), (6, 7, 0, 0), (7, 8, 0, 0), (8, 9, 0, 0)] ∧ P 9 1 = [(37, 0, 0, 0), (6, 11, 15, 92), (64, 0, 0, 0)] ∧ P 9 2 = [(37, 0, 0, 0), (7, 11, 5, 24), (6, 7, 2, 135), (64, 0, 0, 0)] ∧ P 9 3 = [(37, 0, 0, 0), (7, 11, 5, 24), (31, 238, 1, 191), (64, 0, 0, 0)] ∧ P 9 4 = [(37, 0, 0, 0), (7, 11, 8, 31), (6, 9, 4, 159), (64, 0, 0, 0)] ∧ P 9 5 = [(37, 0, 0, 0), (7, 11, 13, 38), (7, 1, 1, 182), (6, 0, 10, 194), (64, 0, 0, 0)] ∧ P 9 6 = [(37, 0, 0, 0), (7, 11, 13, 38), (30, 174, 1, 195), (37, 0, 0, 0), (7, 11, 13, 38), (6, 1, 8, 198), (64, 0, 0, 0)] ∧ P 9 7 = [(37, 0, 0, 0), (7, 11, 13, 38), (30, 174, 1, 195), (37, 0, 0, 0), (7, 11, 13, 38), (6, 1, 9, 201), (64, 0, 0, 0)] ∧ P 9 8 = [(37, 0, 0, 0), (7, 11, 13, 38), (6, 1, 10, 204), (64, 0, 0, 0)] ∧ P 9 9 = [(37, 0, 0, 0), (7, 11, 1, 14), (6, 5, 1, 111), (64, 0, 0, 0)] ∧ P 9 10 = [(1, 1, 0, 0), (64, 0, 0, 0)] := by refine ⟨?_, ?_, ?_, ?_, ?_, ?_, ?_, ?_, ?_, ?_, ?_⟩ <;> rfl
theorem pe10 : P 10 0 = [(37, 0, 0, 0), (7, 11, 8, 31), (2, 1, 0, 0), (31, 251, 2, 207), (59, 2, 1, 0)] ∧ P 10 1 = [(1, 2, 0, 0), (64, 0, 0, 0)] ∧ P 10 2 = [(2, 2, 0, 0), (68, 12, 0, 0), (0, 3, 0, 0), (1, 4, 0, 0), (2, 5, 0, 0), (3, 9, 0, 0), (4, 10, 0, 0), (5, 11, 0, 0)] ∧ P 10 3 = [(37, 0, 0, 0), (7, 11, 8, 31), (7, 9, 2, 208), (2, 1, 0, 0), (10, 0, 0, 0), (64, 0, 0, 0)] ∧ P 10 4 = [(37, 0, 0, 0), (7, 11, 8, 31), (7, 9, 3, 212), (2, 1, 0, 0), (10, 0, 0, 0), (64, 0, 0, 0)] ∧ P 10 5 = [(2, 1, 0, 0), (59, 7, 6, 0)] ∧ P 10 6 = [(1, 1, 0, 0), (51, 8, 0, 0)] ∧ P 10 7 = [(37, 0, 0, 0), (7, 11, 8, 31), (7, 9, 1, 215), (2, 1, 0, 0), (10, 0, 0, 0), (31, 261, 1, 218), (50, 8, 0, 0)] ∧ P 10 8 = [(64, 0, 0, 0)] ∧ P 10 9 = [(37, 0, 0, 0), (7, 11, 8, 31), (7, 9, 1, 215), (2, 1, 0, 0), (10, 0, 0, 0), (31, 259, 1, 179), (64, 0, 0, 0)] ∧ P 10 10 = [(37, 0, 0, 0), (7, 11, 13, 38), (7, 1, 1, 182), (2, 1, 0, 0), (31, 163, 2, 186), (64, 0, 0, 0)] ∧ P 10 11 = [(37, 0, 0, 0), (7, 11, 13, 38), (2, 1, 0, 0), (31, 176, 2, 221), (64, 0, 0, 0)] ∧ P 10 12 = [(1, 2, 0, 0), (64, 0, 0, 0)] := by refine ⟨?_, ?_, ?_, ?_, ?_, ?_, ?_, ?_, ?_, ?_, ?_, ?_, ?_⟩ <;> rfl
theorem pe11 : P 11 0 = [(37, 0, 0, 0), (7, 11, 8, 31), (2, 1, 0, 0), (31, 251, 2, 207), (59, 2, 1, 0)] ∧ P 11 1 = [(1, 1, 0, 0), (64, 0, 0, 0)] ∧ P 11 2 = [(37, 0, 0, 0), (7, 11, 3, 18), (0, 0, 0, 0), (30, 221, 2, 117), (37, 0, 0, 0), (7, 11, 3, 18), (37, 0, 0, 0), (7, 11, 8, 31), (7, 9, 1, 215), (2, 1, 0, 0), (10, 0, 0, 0), (30, 225, 2, 224), (37, 0, 0, 0), (7, 11, 3, 18), (6, 5, 1, 111), (64, 0, 0, 0)] := by refine ⟨?_, ?_, ?_⟩ <;> rfl
theorem pe12 : P 12 0 = [(2, 1, 0, 0), (31, 18, 1, 227), (58, 2, 1, 0)] ∧ P 12 1 = [(37, 0, 0, 0), (7, 11, 13, 38), (7, 1, 1, 182), (2, 2, 0, 0), (2, 3, 0, 0), (31, 162, 3, 230), (59, 3, 2, 0)] ∧ P 12 2 = [(1, 2, 0, 0), (64, 0, 0, 0)] ∧ P 12 3 = [(37, 0, 0, 0), (7, 11, 13, 38), (7, 1, 1, 182), (2, 1, 0, 0), (2, 2, 0, 0), (2, 3, 0, 0), (31, 170, 4, 234), (64, 0, 0, 0)] := by refine ⟨?_, ?_, ?_, ?_⟩ <;> rfl
theorem pe13 : P 13 0 = [(37, 0, 0, 0), (7, 11, 13, 38), (7, 1, 1, 182), (2, 1, 0, 0), (2, 2, 0, 0), (31, 162, 3, 230), (59, 2, 1, 0)] ∧ P 13 1 = [(1, 2, 0, 0), (64, 0, 0, 0)] ∧ P 13 2 = [(37, 0, 0, 0), (7, 11, 13, 38), (6, 1, 10, 204), (0, 200, 0, 0), (54, 4, 3, 0)] ∧ P 13 3 = [(1, 3, 0, 0), (64, 0, 0, 0)] ∧ P 13 4 = [(37, 0, 0, 0), (7, 11, 13, 38), (2, 1, 0, 0), (2, 2, 0, 0), (0, 0, 0, 0), (31, 181, 4, 237), (58, 6, 5, 0)] ∧ P 13 5 = [(37, 0, 0, 0), (7, 11, 13, 38), (7, 1, 1, 182), (6, 0, 10, 194), (51, 7, 0, 0)] ∧ P 13 6 = [(1, 1, 0, 0), (50, 7, 0, 0)] ∧ P 13 7 = [(64, 0, 0, 0)] := by refine ⟨?_, ?_, ?_, ?_, ?_, ?_, ?_, ?_⟩ <;> rfl
theorem pe14 : P 14 0 = [(2, 1, 0, 0), (31, 18, 1, 227), (59, 2, 1, 0)] ∧ P 14 1 = [(1, 2, 0, 0), (64, 0, 0, 0)] ∧ P 14 2 = [(37, 0, 0, 0), (7, 11, 13, 38), (30, 174, 1, 195), (37, 0, 0, 0), (7, 11, 13, 38), (6, 1, 9, 201), (59, 4, 3, 0)] ∧ P 14 3 = [(1, 1, 0, 0), (64, 0, 0, 0)] ∧ P 14 4 = [(37, 0, 0, 0), (7, 11, 13, 38), (6, 1, 10, 204), (0, 200, 0, 0), (54, 6, 5, 0)] ∧ P 14 5 = [(1, 3, 0, 0), (64, 0, 0, 0)] ∧ P 14 6 = [(37, 0, 0, 0), (7, 11, 13, 38), (2, 1, 0, 0), (30, 178, 2, 241), (37, 0, 0, 0), (7, 11, 13, 38), (7, 1, 1, 182), (6, 0, 10, 194), (64, 0, 0, 0)] := by refine ⟨?_, ?_, ?_, ?_, ?_, ?_, ?_⟩ <;> rfl
theorem pe15 : P 15 0 = [(2, 1, 0, 0), (31, 18, 1, 227), (58, 2, 1, 0)] ∧ P 15 1 = [(37, 0, 0, 0), (7, 11, 13, 38), (37, 0, 0, 0), (7, 11, 8, 31), (2, 1, 0, 0), (31, 177, 3, 244), (51, 3, 0, 0)] ∧ P 15 2 = [(1, 2, 0, 0), (50, 3, 0, 0)] ∧ P 15 3 = [(64, 0, 0, 0)] := by refine ⟨?_, ?_, ?_, ?_⟩ <;> rfl
theorem pe16 : P 16 0 = [(37, 0, 0, 0), (7, 11, 13, 38), (31, 184, 1, 248), (58, 2, 1, 0)] ∧ P 16 1 = [(37, 0, 0, 0), (7, 11, 13, 38), (6, 1, 10, 204), (51, 3, 0, 0)] ∧ P 16 2 = [(1, 1, 0, 0), (50, 3, 0, 0)] ∧ P 16 3 = [(64, 0, 0, 0)] := by refine ⟨?_, ?_, ?_, ?_⟩ <;> rfl
theorem pe17 : P 17 0 = [(37, 0, 0, 0), (7, 11, 13, 38), (2, 1, 0, 0), (2, 2, 0, 0), (31, 185, 3, 252), (64, 0, 0, 0)] := rfl
theorem pe18 : P 18 0 = [(2, 0, 0, 0), (60, 3, 1, 0)] ∧ P 18 1 = [(2, 0, 0, 0), (0, 2, 0, 0), (56, 3, 2, 0)] ∧ P 18 2 = [(0, 1, 0, 0), (51, 4, 0, 0)] ∧ P 18 3 = [(0, 0, 0, 0), (50, 4, 0, 0)] ∧ P 18 4 = [(65, 0, 0, 0)] := by refine ⟨?_, ?_, ?_, ?_, ?_⟩ <;> rfl
theorem pe19 : P 19 0 = [(2, 1, 0, 0), (31, 18, 1, 227), (58, 2, 1, 0)] ∧ P 19 1 = [(37, 0, 0, 0), (7, 11, 5, 24), (2, 2, 0, 0), (31, 235, 2, 128), (59, 3, 2, 0)] ∧ P 19 2 = [(1, 2, 0, 0), (64, 0, 0, 0)] ∧ P 19 3 = [(37, 0, 0, 0), (7, 11, 31, 42), (37, 0, 0, 0), (7, 11, 5, 24), (2, 2, 0, 0), (30, 252, 3, 99), (37, 0, 0, 0), (7, 11, 36, 45), (37, 0, 0, 0), (7, 11, 31, 42), (2, 1, 0, 0), (31, 177, 3, 244), (64, 0, 0, 0)] := by refine ⟨?_, ?_, ?_, ?_⟩ <;> rfl
theorem pe20 : P 20 0 = [(37, 0, 0, 0), (31, 6, 1, 120), (3, 1, 0, 0), (2, 1, 0, 0), (1, 1, 0, 0), (53, 2, 1, 0)] ∧ P 20 1 = [(1, 2, 0, 0), (64, 0, 0, 0)] ∧ P 20 2 = [(0, 0, 0, 0), (3, 2, 0, 0), (0, 0, 0, 0), (3, 3, 0, 0), (50, 3, 0, 0)] ∧ P 20 3 = [(2, 3, 0, 0), (0, 2, 0, 0), (56, 7, 4, 0)] ∧ P 20 4 = [(37, 0, 0, 0), (7, 11, 36, 45), (37, 0, 0, 0), (7, 11, 8, 31), (2, 3, 0, 0), (31, 177, 3, 244), (28, 0, 0, 0), (37, 0, 0, 0), (7, 11, 36, 45), (7, 1, 1, 182), (2, 1, 0, 0), (31, 171, 2, 256), (58, 6, 5, 0)] ∧ P 20 5 = [(2, 2, 0, 0), (0, 1, 0, 0), (2, 3, 0, 0), (24, 0, 0, 0), (23, 0, 0, 0), (3, 2, 0, 0), (50, 6, 0, 0)] ∧ P 20 6 = [(4, 3, 1, 0), (51, 3, 0, 0)] ∧ P 20 7 = [(2, 2, 0, 0), (64, 0, 0, 0)] := by refine ⟨?_, ?_, ?_, ?_, ?_, ?_, ?_, ?_⟩ <;> rfl
theorem pe21 : P 21 0 = [(2, 1, 0, 0), (31, 18, 1, 227), (59, 2, 1, 0)] ∧ P 21 1 = [(1, 2, 0, 0), (64, 0, 0, 0)] ∧ P 21 2 = [(0, 0, 0, 0), (3, 2, 0, 0), (0, 0, 0, 0), (3, 3, 0, 0), (50, 3, 0, 0)] ∧ P 21 3 = [(2, 3, 0, 0), (37, 0, 0, 0), (7, 11, 5, 24), (6, 7, 2, 135), (55, 7, 4, 0)] ∧ P 21 4 = [(37, 0, 0, 0), (7, 11, 31, 42), (37, 0, 0, 0), (7, 11, 5, 24), (2, 3, 0, 0), (30, 252, 3, 99), (37, 0, 0, 0), (7, 11, 36, 45), (37, 0, 0, 0), (7, 11, 31, 42), (2, 1, 0, 0), (31, 177, 3, 244), (28, 0, 0, 0), (37, 0, 0, 0), (7, 11, 36, 45), (7, 1, 1, 182), (37, 0, 0, 0), (7, 11, 5, 24), (2, 3, 0, 0), (31, 236, 2, 173), (31, 171, 2, 256), (37, 0, 0, 0), (7, 11, 5, 24), (2, 3, 0, 0), (31, 237, 2, 156), (53, 6, 5, 0)] ∧ P 21 5 = [(4, 2, 1, 0), (50, 6, 0, 0)] ∧ P 21 6 = [(4, 3, 1, 0), (51, 3, 0, 0)] ∧ P 21 7 = [(2, 2, 0, 0), (64, 0, 0, 0)] := by refine ⟨?_, ?_, ?_, ?_, ?_, ?_, ?_, ?_⟩ <;> rfl
theorem pe22 : P 22 0 = [(37, 0, 0, 0), (7, 11, 66, 67), (37, 0, 0, 0), (7, 11, 8, 31), (31, 243, 2, 257), (3, 1, 0, 0), (2, 1, 0, 0), (63, 2, 1, 0)] ∧ P 22 1 = [(37, 0, 0, 0), (7, 11, 66, 67), (37, 0, 0, 0), (7, 11, 57, 55), (30, 250, 2, 261), (50, 2, 0, 0)] ∧ P 22 2 = [(2, 1, 0, 0), (64, 0, 0, 0)] := by refine ⟨?_, ?_, ?_⟩ <;> rfl
theorem pe23 : P 23 0 = [(37, 0, 0, 0), (7, 11, 66, 67), (6, 8, 9, 265), (64, 0, 0, 0)] := rfl
theorem pe24 : P 24 0 = [(37, 0, 0, 0), (37, 0, 0, 0), (7, 11, 75, 74), (37, 0, 0, 0), (7, 11, 1, 14), (37, 0, 0, 0), (6, 11, 15, 92), (31, 228, 3, 268), (8, 11, 16, 96), (37, 0, 0, 0), (7, 11, 1, 14), (0, 0, 0, 0), (30, 221, 2, 117), (37, 0, 0, 0), (6, 11, 16, 96), (1, 1, 0, 0), (52, 2, 1, 0)] ∧ P 24 1 = [(1, 1, 0, 0), (64, 0, 0, 0)] ∧ P 24 2 = [(37, 0, 0, 0), (7, 11, 60, 58), (37, 0, 0, 0), (7, 11, 75, 74), (7, 6, 1, 272), (30, 188, 2, 275), (37, 0, 0, 0), (7, 11, 60, 58), (6, 2, 2, 136), (64, 0, 0, 0)] := by refine ⟨?_, ?_, ?_⟩ <;> rfl
theorem pe25 : P 25 0 = [(37, 0, 0, 0), (6, 11, 16, 96), (64, 0, 0, 0)] := rfl
theorem pe26 : P 26 0 = [(2, 1, 0, 0), (0, 3, 0, 0), (52, 2, 1, 0)] ∧ P 26 1 = [(37, 0, 0, 0), (2, 1, 0, 0), (31, 41, 2, 278), (59, 3, 2, 0)] ∧ P 26 2 = [(1, 1, 0, 0), (64, 0, 0, 0)] ∧ P 26 3 = [(37, 0, 0, 0), (7, 11, 63, 61), (37, 0, 0, 0), (2, 1, 0, 0), (31, 42, 2, 281), (30, 188, 2, 275), (37, 0, 0, 0), (7, 11, 63, 61), (6, 2, 2, 136), (64, 0, 0, 0)] := by refine ⟨?_, ?_, ?_, ?_⟩ <;> rfl
theorem pe27 : P 27 0 = [(37, 0, 0, 0), (2, 1, 0, 0), (31, 41, 2, 278), (59, 2, 1, 0)] ∧ P 27 1 = [(1, 2, 0, 0), (64, 0, 0, 0)] ∧ P 27 2 = [(37, 0, 0, 0), (2, 1, 0, 0), (31, 42, 2, 281), (38, 4, 0, 0), (37, 4, 0, 0), (2, 2, 0, 0), (31, 187, 2, 285), (58, 5, 3, 0)] ∧ P 27 3 = [(2, 3, 0, 0), (60, 5, 4, 0)] ∧ P 27 4 = [(2, 3, 0, 0), (37, 0, 0, 0), (6, 11, 15, 92), (57, 6, 5, 0)] ∧ P 27 5 = [(1, 2, 0, 0), (64, 0, 0, 0)] ∧ P 27 6 = [(2, 3, 0, 0), (59, 8, 7, 0)] ∧ P 27 7 = [(37, 4, 0, 0), (7, 2, 1, 286), (2, 2, 0, 0), (10, 0, 0, 0), (51, 9, 0, 0)] ∧ P 27 8 = [(37, 4, 0, 0), (2, 2, 0, 0), (2, 3, 0, 0), (0, 1, 0, 0), (18, 0, 0, 0), (31, 191, 3, 287), (50, 9, 0, 0)] ∧ P 27 9 = [(64, 0, 0, 0)] := by refine ⟨?_, ?_, ?_, ?_, ?_, ?_, ?_, ?_, ?_, ?_⟩ <;> rfl
theorem pe28 : P 28 0 = [(37, 0, 0, 0), (2, 1, 0, 0), (31, 41, 2, 278), (58, 2, 1, 0)] ∧ P 28 1 = [(37, 0, 0, 0), (2, 1, 0, 0), (31, 42, 2, 281), (6, 2, 2, 136), (51, 3, 0, 0)] ∧ P 28 2 = [(1, 1, 0, 0), (50, 3, 0, 0)] ∧ P 28 3 = [(64, 0, 0, 0)] := by refine ⟨?_, ?_, ?_, ?_⟩ <;> rfl
theorem pe29 : P 29 0 = [(37, 0, 0, 0), (31, 6, 1, 120), (3, 2, 0, 0), (37, 0, 0, 0), (2, 1, 0, 0), (31, 41, 2, 278), (59, 2, 1, 0)] ∧ P 29 1 = [(1, 1, 0, 0), (64, 0, 0, 0)] ∧ P 29 2 = [(2, 2, 0, 0), (1, 1, 0, 0), (53, 4, 3, 0)] ∧ P 29 3 = [(1, 2, 0, 0), (64, 0, 0, 0)] ∧ P 29 4 = [(37, 0, 0, 0), (2, 1, 0, 0), (31, 42, 2, 281), (2, 2, 0, 0), (31, 193, 2, 146), (58, 6, 5, 0)] ∧ P 29 5 = [(0, 1, 0, 0), (51, 7, 0, 0)] ∧ P 29 6 = [(0, 0, 0, 0), (50, 7, 0, 0)] ∧ P 29 7 = [(64, 0, 0, 0)] := by refine ⟨?_, ?_, ?_, ?_, ?_, ?_, ?_, ?_⟩ <;> rfl
theorem pe30 : P 30 0 = [(37, 0, 0, 0), (2, 1, 0, 0), (31, 41, 2, 278), (58, 3, 1, 0)] ∧ P 30 1 = [(2, 2, 0, 0), (60, 3, 2, 0)] ∧ P 30 2 = [(2, 2, 0, 0), (0, 10, 0, 0), (57, 4, 3, 0)] ∧ P 30 3 = [(1, 1, 0, 0), (64, 0, 0, 0)] ∧ P 30 4 = [(37, 0, 0, 0), (7, 11, 80, 81), (37, 0, 0, 0), (2, 1, 0, 0), (31, 42, 2, 281), (37, 0, 0, 0), (6, 11, 15, 92), (2, 2, 0, 0), (30, 196, 4, 290), (37, 0, 0, 0), (7, 11, 80, 81), (0, 0, 0, 0), (2, 2, 0, 0), (31, 197, 3, 294), (64, 0, 0, 0)] := by refine ⟨?_, ?_, ?_, ?_, ?_⟩ <;> rfl
theorem pe31 : P 31 0 = [(37, 0, 0, 0), (2, 1, 0, 0), (31, 41, 2, 278), (58, 2, 1, 0)] ∧ P 31 1 = [(2, 2, 0, 0), (61, 3, 2, 0)] ∧ P 31 2 = [(1, 1, 0, 0), (64, 0, 0, 0)] ∧ P 31 3 = [(37, 0, 0, 0), (7, 11, 80, 81), (37, 0, 0, 0), (2, 1, 0, 0), (31, 42, 2, 281), (37, 0, 0, 0), (6, 11, 15, 92), (2, 2, 0, 0), (31, 198, 4, 297), (3, 3, 0, 0), (2, 3, 0, 0), (1, 1, 0, 0), (53, 5, 4, 0)] ∧ P 31 4 = [(1, 2, 0, 0), (64, 0, 0, 0)] ∧ P 31 5 = [(37, 0, 0, 0), (7, 11, 3, 18), (0, 0, 0, 0), (30, 221, 2, 117), (37, 0, 0, 0), (7, 11, 3, 18), (2, 3, 0, 0), (30, 225, 2, 224), (37, 0, 0, 0), (7, 11, 3, 18), (6, 5, 1, 111), (64, 0, 0, 0)] := by refine ⟨?_, ?_, ?_, ?_, ?_, ?_⟩ <;> rfl
theorem pe32 : P 32 0 = [(37, 0, 0, 0), (2, 1, 0, 0), (31, 41, 2, 278), (59, 2, 1, 0)] ∧ P 32 1 = [(1, 1, 0, 0), (64, 0, 0, 0)] ∧ P 32 2 = [(37, 0, 0, 0), (2, 1, 0, 0), (31, 42, 2, 281), (38, 2, 0, 0), (0, 0, 0, 0), (3, 3, 0, 0), (0, 0, 0, 0), (3, 4, 0, 0), (50, 3, 0, 0)] ∧ P 32 3 = [(2, 4, 0, 0), (37, 0, 0, 0), (7, 11, 5, 24), (6, 7, 2, 135), (55, 7, 4, 0)] ∧ P 32 4 = [(37, 2, 0, 0), (37, 0, 0, 0), (7, 11, 5, 24), (2, 4, 0, 0), (31, 236, 2, 173), (31, 193, 2, 146), (37, 0, 0, 0), (7, 11, 5, 24), (2, 4, 0, 0), (31, 237, 2, 156), (52, 6, 5, 0)] ∧ P 32 5 = [(4, 3, 1, 0), (50, 6, 0, 0)] ∧ P 32 6 = [(4, 4, 1, 0), (51, 3, 0, 0)] ∧ P 32 7 = [(2, 3, 0, 0), (64, 0, 0, 0)] := by refine ⟨?_, ?_, ?_, ?_, ?_, ?_, ?_, ?_⟩ <;> rfl
theorem pe33 : P 33 0 = [(37, 0, 0, 0), (2, 1, 0, 0), (31, 41, 2, 278), (58, 2, 1, 0)] ∧ P 33 1 = [(37, 0, 0, 0), (7, 11, 80, 81), (37, 0, 0, 0), (2, 1, 0, 0), (31, 42, 2, 281), (37, 0, 0, 0), (6, 11, 15, 92), (31, 200, 3, 301), (51, 3, 0, 0)] ∧ P 33 2 = [(1, 1, 0, 0), (50, 3, 0, 0)] ∧ P 33 3 = [(64, 0, 0, 0)] := by refine ⟨?_, ?_, ?_, ?_⟩ <;> rfl
theorem pe34 : P 34 0 = [(37, 0, 0, 0), (2, 1, 0, 0), (31, 41, 2, 278), (58, 2, 1, 0)] ∧ P 34 1 = [(37, 0, 0, 0), (7, 11, 80, 81), (37, 0, 0, 0), (2, 1, 0, 0), (31, 42, 2, 281), (37, 0, 0, 0), (6, 11, 15, 92), (31, 203, 3, 305), (51, 3, 0, 0)] ∧ P 34 2 = [(1, 1, 0, 0), (50, 3, 0, 0)] ∧ P 34 3 = [(64, 0, 0, 0)] := by refine ⟨?_, ?_, ?_, ?_⟩ <;> rfl
theorem pe35 : P 35 0 = [(37, 0, 0, 0), (2, 1, 0, 0), (31, 41, 2, 278), (59, 2, 1, 0)] ∧ P 35 1 = [(1, 1, 0, 0), (64, 0, 0, 0)] ∧ P 35 2 = [(37, 0, 0, 0), (7, 11, 3, 18), (0, 0, 0, 0), (30, 221, 2, 117), (37, 0, 0, 0), (2, 1, 0, 0), (31, 42, 2, 281), (37, 0, 0, 0), (7, 11, 3, 18), (37, 0, 0, 0), (6, 11, 15, 92), (30, 194, 3, 308), (37, 0, 0, 0), (7, 11, 3, 18), (6, 5, 1, 111), (64, 0, 0, 0)] := by refine ⟨?_, ?_, ?_⟩ <;> rfl
theorem pe36 : P 36 0 = [(37, 0, 0, 0), (7, 11, 3, 18), (2, 1, 0, 0), (31, 220, 2, 312), (64, 0, 0, 0)] := rfl
theorem pe37 : P 37 0 = [(37, 0, 0, 0), (2, 1, 0, 0), (31, 41, 2, 278), (58, 2, 1, 0)] ∧ P 37 1 = [(37, 0, 0, 0), (2, 2, 0, 0), (31, 41, 2, 278), (59, 3, 2, 0)] ∧ P 37 2 = [(1, 1, 0, 0), (64, 0, 0, 0)] ∧ P 37 3 = [(37, 0, 0, 0), (7, 11, 87, 88), (37, 0, 0, 0), (2, 1, 0, 0), (31, 42, 2, 281), (37, 0, 0, 0), (2, 2, 0, 0), (31, 42, 2, 281), (37, 0, 0, 0), (6, 11, 15, 92), (31, 210, 4, 315), (3, 3, 0, 0), (2, 3, 0, 0), (1, 1, 0, 0), (53, 5, 4, 0)] ∧ P 37 4 = [(1, 2, 0, 0), (64, 0, 0, 0)] ∧ P 37 5 = [(37, 0, 0, 0), (7, 11, 87, 88), (2, 3, 0, 0), (37, 0, 0, 0), (7, 11, 3, 18), (30, 213, 3, 319), (37, 0, 0, 0), (7, 11, 3, 18), (6, 5, 1, 111), (64, 0, 0, 0)] := by refine ⟨?_, ?_, ?_, ?_, ?_, ?_⟩ <;> rfl
theorem pe38 : P 38 0 = [(37, 0, 0, 0), (2, 1, 0, 0), (31, 41, 2, 278), (58, 2, 1, 0)] ∧ P 38 1 = [(37, 0, 0, 0), (7, 11, 87, 88), (37, 0, 0, 0), (2, 1, 0, 0), (31, 42, 2, 281), (37, 0, 0, 0), (6, 11, 15, 92), (31, 214, 3, 323), (51, 3, 0, 0)] ∧ P 38 2 = [(1, 1, 0, 0), (50, 3, 0, 0)] ∧ P 38 3 = [(64, 0, 0, 0)] := by refine ⟨?_, ?_, ?_, ?_⟩ <;> rfl
theorem pe39 : P 39 0 = [(37, 0, 0, 0), (2, 1, 0, 0), (31, 41, 2, 278), (59, 2, 1, 0)] ∧ P 39 1 = [(1, 1, 0, 0), (64, 0, 0, 0)] ∧ P 39 2 = [(37, 0, 0, 0), (7, 11, 87, 88), (37, 0, 0, 0), (2, 1, 0, 0), (31, 42, 2, 281), (37, 0, 0, 0), (6, 11, 15, 92), (31, 214, 3, 323), (28, 0, 0, 0), (37, 0, 0, 0), (7, 11, 87, 88), (37, 0, 0, 0), (7, 11, 63, 61), (37, 0, 0, 0), (6, 11, 15, 92), (30, 219, 3, 326), (37, 0, 0, 0), (7, 11, 63, 61), (6, 2, 2, 136), (64, 0, 0, 0)] := by refine ⟨?_, ?_, ?_⟩ <;> rfl
theorem pe40 : P 40 0 = [(37, 0, 0, 0), (2, 1, 0, 0), (31, 41, 2, 278), (58, 4, 1, 0)] ∧ P 40 1 = [(37, 0, 0, 0), (2, 2, 0, 0), (31, 41, 2, 278), (58, 4, 2, 0)] ∧ P 40 2 = [(2, 3, 0, 0), (60, 4, 3, 0)] ∧ P 40 3 = [(2, 3, 0, 0), (0, 2, 0, 0), (57, 5, 4, 0)] ∧ P 40 4 = [(1, 1, 0, 0), (64, 0, 0, 0)] ∧ P 40 5 = [(37, 0, 0, 0), (7, 11, 87, 88), (37, 0, 0, 0), (2, 1, 0, 0), (31, 42, 2, 281), (37, 0, 0, 0), (2, 2, 0, 0), (31, 42, 2, 281), (2, 3, 0, 0), (37, 0, 0, 0), (6, 11, 15, 92), (0, 200, 0, 0), (31, 208, 6, 330), (59, 7, 6, 0)] ∧ P 40 6 = [(1, 3, 0, 0), (64, 0, 0, 0)] ∧ P 40 7 = [(37, 0, 0, 0), (7, 11, 63, 61), (37, 0, 0, 0), (7, 11, 87, 88), (7, 4, 1, 334), (30, 188, 2, 275), (37, 0, 0, 0), (7, 11, 63, 61), (6, 2, 2, 136), (64, 0, 0, 0)] := by refine ⟨?_, ?_, ?_, ?_, ?_, ?_, ?_, ?_⟩ <;> rfl
theorem pe41 : P 41 0 = [(2, 1, 0, 0), (68, 14, 0, 0), (0, 1, 0, 0), (1, 2, 0, 0), (2, 6, 0, 0), (3, 10, 0, 0)] ∧ P 41 1 = [(0, 1, 0, 0), (65, 0, 0, 0)] ∧ P 41 2 = [(37, 0, 0, 0), (7, 11, 57, 55), (6, 2, 2, 136), (63, 4, 3, 0)] ∧ P 41 3 = [(0, 1, 0, 0), (51, 5, 0, 0)] ∧ P 41 4 = [(0, 0, 0, 0), (50, 5, 0, 0)] ∧ P 41 5 = [(65, 0, 0, 0)] ∧ P 41 6 = [(37, 0, 0, 0), (7, 11, 60, 58), (6, 2, 2, 136), (63, 8, 7, 0)] ∧ P 41 7 = [(0, 1, 0, 0), (51, 9, 0, 0)] ∧ P 41 8 = [(0, 0, 0, 0), (50, 9, 0, 0)] ∧ P 41 9 = [(65, 0, 0, 0)] ∧ P 41 10 = [(37, 0, 0, 0), (7, 11, 63, 61), (6, 2, 2, 136), (63, 12, 11, 0)] ∧ P 41 11 = [(0, 1, 0, 0), (51, 13, 0, 0)] ∧ P 41 12 = [(0, 0, 0, 0), (50, 13, 0, 0)] ∧ P 41 13 = [(65, 0, 0, 0)] ∧ P 41 14 = [(0, 0, 0, 0), (65, 0, 0, 0)] := by refine ⟨?_, ?_, ?_, ?_, ?_, ?_, ?_, ?_, ?_, ?_, ?_, ?_, ?_, ?_, ?_⟩ <;> rfl
theorem pe42 : P 42 0 = [(2, 1, 0, 0), (68, 4, 0, 0), (1, 1, 0, 0), (2, 2, 0, 0), (3, 3, 0, 0)] ∧ P 42 1 = [(37, 0, 0, 0), (7, 11, 57, 55), (66, 0, 0, 0)] ∧ P 42 2 = [(37, 0, 0, 0), (7, 11, 60, 58), (66, 0, 0, 0)] ∧ P 42 3 = [(37, 0, 0, 0), (7, 11, 63, 61), (66, 0, 0, 0)] ∧ P 42 4 = [(37, 0, 0, 0), (7, 11, 13, 38), (7, 1, 1, 182), (37, 0, 0, 0), (7, 11, 54, 51), (30, 172, 2, 337), (37, 0, 0, 0), (7, 11, 54, 51), (66, 0, 0, 0)] := by refine ⟨?_, ?_, ?_, ?_, ?_⟩ <;> rfl
theorem pe43 : P 43 0 = [(2, 0, 0, 0), (2, 1, 0, 0), (54, 3, 1, 0)] ∧ P 43 1 = [(2, 0, 0, 0), (2, 2, 0, 0), (56, 3, 2, 0)] ∧ P 43 2 = [(0, 1, 0, 0), (51, 4, 0, 0)] ∧ P 43 3 = [(0, 0, 0, 0), (50, 4, 0, 0)] ∧ P 43 4 = [(65, 0, 0, 0)] := by refine ⟨?_, ?_, ?_, ?_, ?_⟩ <;> rfl
theorem pe44 : P 44 0 = [(0, 24, 0, 0), (3, 2, 0, 0), (50, 1, 0, 0)] ∧ P 44 1 = [(2, 2, 0, 0), (60, 3, 2, 0)] ∧ P 44 2 = [(37, 0, 0, 0), (7, 12, 1, 1), (37, 0, 0, 0), (6, 12, 1, 7), (2, 1, 0, 0), (2, 2, 0, 0), (25, 0, 0, 0), (26, 0, 0, 0), (13, 0, 0, 0), (37, 0, 0, 0), (27, 0, 0, 0), (6, 12, 1, 7), (0, 1, 0, 0), (17, 0, 0, 0), (8, 12, 1, 7), (5, 2, 8, 0), (51, 1, 0, 0)] ∧ P 44 3 = [(67, 0, 0, 0)] := by refine ⟨?_, ?_, ?_, ?_⟩ <;> rfl
theorem pe45 : P 45 0 = [(37, 0, 0, 0), (6, 12, 1, 7), (0, 20, 0, 0), (17, 0, 0, 0), (0, 800, 0, 0), (57, 2, 1, 0)] ∧ P 45 1 = [(1, 1, 0, 0), (64, 0, 0, 0)] ∧ P 45 2 = [(37, 0, 0, 0), (2, 1, 0, 0), (30, 44, 2, 11), (37, 0, 0, 0), (2, 2, 0, 0), (30, 44, 2, 11), (37, 0, 0, 0), (2, 3, 0, 0), (30, 44, 2, 11), (37, 0, 0, 0), (2, 4, 0, 0), (30, 44, 2, 11), (37, 0, 0, 0), (2, 5, 0, 0), (30, 44, 2, 11), (37, 0, 0, 0), (6, 12, 1, 7), (64, 0, 0, 0)] := by refine ⟨?_, ?_, ?_⟩ <;> rfl
theorem pe46 : P 46 0 = [(2, 1, 0, 0), (0, 0, 0, 0), (37, 0, 0, 0), (6, 12, 1, 7), (31, 43, 3, 15), (59, 2, 1, 0)] ∧ P 46 1 = [(1, 1, 0, 0), (64, 0, 0, 0)] ∧ P 46 2 = [(37, 0, 0, 0), (2, 1, 0, 0), (8, 12, 1, 7), (2, 1, 0, 0), (64, 0, 0, 0)] := by refine ⟨?_, ?_, ?_⟩ <;> rfl
theorem pe47 : P 47 0 = [(37, 0, 0, 0), (6, 12, 1, 7), (3, 1, 0, 0), (37, 0, 0, 0), (0, 0, 0, 0), (8, 12, 1, 7), (37, 0, 0, 0), (2, 1, 0, 0), (8, 12, 3, 19), (37, 0, 0, 0), (0, 0, 0, 0), (8, 12, 4, 22), (2, 1, 0, 0), (0, 10, 0, 0), (57, 2, 1, 0)] ∧ P 47 1 = [(0, 0, 0, 0), (65, 0, 0, 0)] ∧ P 47 2 = [(0, 0, 0, 0), (3, 2, 0, 0), (50, 3, 0, 0)] ∧ P 47 3 = [(2, 2, 0, 0), (2, 1, 0, 0), (55, 7, 4, 0)] ∧ P 47 4 = [(37, 0, 0, 0), (7, 12, 1, 1), (2, 2, 0, 0), (11, 0, 0, 0), (0, 97, 0, 0), (18, 0, 0, 0), (3, 3, 0, 0), (2, 3, 0, 0), (0, 0, 0, 0), (37, 0, 0, 0), (6, 12, 2, 25), (0, 1, 0, 0), (18, 0, 0, 0), (31, 43, 3, 15), (59, 6, 5, 0)] ∧ P 47 5 = [(0, 0, 0, 0), (65, 0, 0, 0)] ∧ P 47 6 = [(37, 0, 0, 0), (0, 4, 0, 0), (37, 0, 0, 0), (6, 12, 4, 22), (19, 0, 0, 0), (2, 3, 0, 0), (17, 0, 0, 0), (8, 12, 4, 22), (4, 2, 1, 0), (51, 3, 0, 0)] ∧ P 47 7 = [(0, 1, 0, 0), (65, 0, 0, 0)] := by refine ⟨?_, ?_, ?_, ?_, ?_, ?_, ?_, ?_⟩ <;> rfl
theorem pe48 : P 48 0 = [(2, 1, 0, 0), (0, 2, 0, 0), (2, 0, 0, 0), (0, 1, 0, 0), (18, 0, 0, 0), (2, 2, 0, 0), (18, 0, 0, 0), (19, 0, 0, 0), (25, 0, 0, 0), (0, 3, 0, 0), (22, 0, 0, 0), (64, 0, 0, 0)] := rfl
theorem pe49 : P 49 0 = [(2, 0, 0, 0), (2, 2, 0, 0), (54, 3, 1, 0)] ∧ P 49 1 = [(2, 0, 0, 0), (2, 2, 0, 0), (53, 4, 2, 0)] ∧ P 49 2 = [(2, 1, 0, 0), (2, 3, 0, 0), (55, 4, 3, 0)] ∧ P 49 3 = [(0, 1, 0, 0), (51, 5, 0, 0)] ∧ P 49 4 = [(0, 0, 0, 0), (50, 5, 0, 0)] ∧ P 49 5 = [(65, 0, 0, 0)] := by refine ⟨?_, ?_, ?_, ?_, ?_, ?_⟩ <;> rfl
theorem pe50 : P 50 0 = [(0, 0, 0, 0), (3, 3, 0, 0), (50, 1, 0, 0)] ∧ P 50 1 = [(2, 3, 0, 0), (37, 0, 0, 0), (6, 12, 8, 28), (55, 4, 2, 0)] ∧ P 50 2 = [(37, 0, 0, 0), (7, 12, 2, 31), (2, 3, 0, 0), (10, 0, 0, 0), (37, 0, 0, 0), (7, 12, 3, 35), (2, 3, 0, 0), (10, 0, 0, 0), (2, 1, 0, 0), (2, 2, 0, 0), (31, 49, 4, 38), (58, 4, 3, 0)] ∧ P 50 3 = [(4, 3, 1, 0), (51, 1, 0, 0)] ∧ P 50 4 = [(2, 3, 0, 0), (64, 0, 0, 0)] := by refine ⟨?_, ?_, ?_, ?_, ?_⟩ <;> rfl
theorem pe51 : P 51 0 = [(2, 1, 0, 0), (37, 0, 0, 0), (6, 12, 8, 28), (55, 4, 1, 0)] ∧ P 51 1 = [(37, 0, 0, 0), (7, 12, 2, 31), (2, 1, 0, 0), (10, 0, 0, 0), (2, 2, 0, 0), (53, 4, 2, 0)] ∧ P 51 2 = [(37, 0, 0, 0), (7, 12, 3, 35), (2, 1, 0, 0), (10, 0, 0, 0), (2, 3, 0, 0), (53, 4, 3, 0)] ∧ P 51 3 = [(0, 1, 0, 0), (51, 5, 0, 0)] ∧ P 51 4 = [(0, 0, 0, 0), (50, 5, 0, 0)] ∧ P 51 5 = [(65, 0, 0, 0)] := by refine ⟨?_, ?_, ?_, ?_, ?_, ?_⟩ <;> rfl
theorem pe52 : P 52 0 = [(37, 0, 0, 0), (6, 12, 8, 28), (3, 5, 0, 0), (50, 1, 0, 0)] ∧ P 52 1 = [(2, 5, 0, 0), (2, 1, 0, 0), (57, 3, 2, 0)] ∧ P 52 2 = [(37, 0, 0, 0), (2, 5, 0, 0), (0, 1, 0, 0), (18, 0, 0, 0), (2, 5, 0, 0), (30, 53, 3, 42), (5, 5, 1, 0), (51, 1, 0, 0)] ∧ P 52 3 = [(37, 0, 0, 0), (7, 12, 2, 31), (2, 1, 0, 0), (2, 2, 0, 0), (12, 0, 0, 0), (37, 0, 0, 0), (7, 12, 3, 35), (2, 1, 0, 0), (2, 3, 0, 0), (12, 0, 0, 0), (37, 0, 0, 0), (7, 12, 4, 46), (2, 1, 0, 0), (2, 4, 0, 0), (14, 0, 0, 0), (37, 0, 0, 0), (27, 0, 0, 0), (6, 12, 8, 28), (0, 1, 0, 0), (17, 0, 0, 0), (8, 12, 8, 28), (67, 0, 0, 0)] := by refine ⟨?_, ?_, ?_, ?_⟩ <;> rfl
theorem pe53 : P 53 0 = [(37, 0, 0, 0), (7, 12, 2, 31), (2, 2, 0, 0), (37, 0, 0, 0), (7, 12, 2, 31), (2, 1, 0, 0), (10, 0, 0, 0), (12, 0, 0, 0), (37, 0, 0, 0), (7, 12, 3, 35), (2, 2, 0, 0), (37, 0, 0, 0), (7, 12, 3, 35), (2, 1, 0, 0), (10, 0, 0, 0), (12, 0, 0, 0), (37, 0, 0, 0), (7, 12, 4, 46), (2, 2, 0, 0), (37, 0, 0, 0), (7, 12, 4, 46), (2, 1, 0, 0), (15, 0, 0, 0), (14, 0, 0, 0), (67, 0, 0, 0)] := rfl
theorem pe54 : P 54 0 = [(37, 0, 0, 0), (27, 0, 0, 0), (6, 12, 8, 28), (0, 1, 0, 0), (18, 0, 0, 0), (8, 12, 8, 28), (2, 1, 0, 0), (3, 2, 0, 0), (50, 1, 0, 0)] ∧ P 54 1 = [(2, 2, 0, 0), (37, 0, 0, 0), (6, 12, 8, 28), (55, 3, 2, 0)] ∧ P 54 2 = [(37, 0, 0, 0), (2, 2, 0, 0), (0, 1, 0, 0), (17, 0, 0, 0), (2, 2, 0, 0), (30, 53, 3, 42), (4, 2, 1, 0), (51, 1, 0, 0)] ∧ P 54 3 = [(67, 0, 0, 0)] := by refine ⟨?_, ?_, ?_, ?_⟩ <;> rfl
theorem pe55 : P 55 0 = [(0, 0, 0, 0), (3, 3, 0, 0), (50, 1, 0, 0)] ∧ P 55 1 = [(2, 3, 0, 0), (37, 0, 0, 0), (6, 12, 14, 50), (55, 4, 2, 0)] ∧ P 55 2 = [(37, 0, 0, 0), (7, 12, 5, 53), (2, 3, 0, 0), (10, 0, 0, 0), (37, 0, 0, 0), (7, 12, 6, 56), (2, 3, 0, 0), (10, 0, 0, 0), (2, 1, 0, 0), (2, 2, 0, 0), (31, 49, 4, 38), (58, 4, 3, 0)] ∧ P 55 3 = [(4, 3, 1, 0), (51, 1, 0, 0)] ∧ P 55 4 = [(2, 3, 0, 0), (64, 0, 0, 0)] := by refine ⟨?_, ?_, ?_, ?_, ?_⟩ <;> rfl
theorem pe56 : P 56 0 = [(2, 1, 0, 0), (37, 0, 0, 0), (6, 12, 14, 50), (55, 4, 1, 0)] ∧ P 56 1 = [(37, 0, 0, 0), (7, 12, 5, 53), (2, 1, 0, 0), (10, 0, 0, 0), (2, 2, 0, 0), (53, 4, 2, 0)] ∧ P 56 2 = [(37, 0, 0, 0), (7, 12, 6, 56), (2, 1, 0, 0), (10, 0, 0, 0), (2, 3, 0, 0), (53, 4, 3, 0)] ∧ P 56 3 = [(0, 1, 0, 0), (51, 5, 0, 0)] ∧ P 56 4 = [(0, 0, 0, 0), (50, 5, 0, 0)] ∧ P 56 5 = [(65, 0, 0, 0)] := by refine ⟨?_, ?_, ?_, ?_, ?_, ?_⟩ <;> rfl
theorem pe57 : P 57 0 = [(37, 0, 0, 0), (2, 1, 0, 0), (2, 2, 0, 0), (31, 55, 3, 59), (3, 3, 0, 0), (37, 0, 0, 0), (2, 3, 0, 0), (2, 1, 0, 0), (2, 2, 0, 0), (31, 56, 4, 63), (58, 2, 1, 0)] ∧ P 57 1 = [(67, 0, 0, 0)] ∧ P 57 2 = [(37, 0, 0, 0), (6, 12, 14, 50), (3, 4, 0, 0), (50, 3, 0, 0)] ∧ P 57 3 = [(2, 4, 0, 0), (2, 3, 0, 0), (57, 5, 4, 0)] ∧ P 57 4 = [(37, 0, 0, 0), (7, 12, 5, 53), (2, 4, 0, 0), (37, 0, 0, 0), (7, 12, 5, 53), (2, 4, 0, 0), (0, 1, 0, 0), (18, 0, 0, 0), (10, 0, 0, 0), (12, 0, 0, 0), (37, 0, 0, 0), (7, 12, 6, 56), (2, 4, 0, 0), (37, 0, 0, 0), (7, 12, 6, 56), (2, 4, 0, 0), (0, 1, 0, 0), (18, 0, 0, 0), (10, 0, 0, 0), (12, 0, 0, 0), (5, 4, 1, 0), (51, 3, 0, 0)] ∧ P 57 5 = [(37, 0, 0, 0), (7, 12, 5, 53), (2, 3, 0, 0), (2, 1, 0, 0), (12, 0, 0, 0), (37, 0, 0, 0), (7, 12, 6, 56), (2, 3, 0, 0), (2, 2, 0, 0), (12, 0, 0, 0), (37, 0, 0, 0), (27, 0, 0, 0), (6, 12, 14, 50), (0, 1, 0, 0), (17, 0, 0, 0), (8, 12, 14, 50), (67, 0, 0, 0)] := by refine ⟨?_, ?_, ?_, ?_, ?_, ?_⟩ <;> rfl
theorem pe58 : P 58 0 = [(0, 0, 0, 0), (3, 3, 0, 0), (0, 0, 0, 0), (3, 4, 0, 0), (50, 1, 0, 0)] ∧ P 58 1 = [(2, 4, 0, 0), (2, 1, 0, 0), (56, 6, 2, 0)] ∧ P 58 2 = [(2, 3, 0, 0), (37, 0, 0, 0), (37, 0, 0, 0), (2, 4, 0, 0), (2, 2, 0, 0), (0, 2, 0, 0), (2, 1, 0, 0), (2, 4, 0, 0), (18, 0, 0, 0), (19, 0, 0, 0), (25, 0, 0, 0), (31, 55, 3, 59), (2, 4, 0, 0), (2, 2, 0, 0), (0, 2, 0, 0), (2, 1, 0, 0), (2, 4, 0, 0), (18, 0, 0, 0), (19, 0, 0, 0), (25, 0, 0, 0), (31, 56, 4, 63), (58, 4, 3, 0)] ∧ P 58 3 = [(0, 0, 0, 0), (51, 5, 0, 0)] ∧ P 58 4 = [(0, 1, 0, 0), (50, 5, 0, 0)] ∧ P 58 5 = [(17, 0, 0, 0), (3, 3, 0, 0), (4, 4, 1, 0), (51, 1, 0, 0)] ∧ P 58 6 = [(2, 3, 0, 0), (64, 0, 0, 0)] := by refine ⟨?_, ?_, ?_, ?_, ?_, ?_, ?_⟩ <;> rfl
theorem pe59 : P 59 0 = [(37, 0, 0, 0), (0, 0, 0, 0), (8, 12, 14, 50), (37, 0, 0, 0), (0, 0, 0, 0), (0, 0, 0, 0), (30, 57, 3, 66), (0, 0, 0, 0), (3, 1, 0, 0), (50, 1, 0, 0)] ∧ P 59 1 = [(2, 1, 0, 0), (37, 0, 0, 0), (6, 12, 8, 28), (55, 6, 2, 0)] ∧ P 59 2 = [(0, 1, 0, 0), (3, 2, 0, 0), (50, 3, 0, 0)] ∧ P 59 3 = [(2, 2, 0, 0), (37, 0, 0, 0), (7, 12, 2, 31), (2, 1, 0, 0), (10, 0, 0, 0), (56, 5, 4, 0)] ∧ P 59 4 = [(37, 0, 0, 0), (2, 2, 0, 0), (37, 0, 0, 0), (7, 12, 3, 35), (2, 1, 0, 0), (10, 0, 0, 0), (0, 2, 0, 0), (37, 0, 0, 0), (7, 12, 2, 31), (2, 1, 0, 0), (10, 0, 0, 0), (2, 2, 0, 0), (18, 0, 0, 0), (19, 0, 0, 0), (25, 0, 0, 0), (30, 57, 3, 66), (4, 2, 1, 0), (51, 3, 0, 0)] ∧ P 59 5 = [(4, 1, 1, 0), (51, 1, 0, 0)] ∧ P 59 6 = [(0, 0, 0, 0), (3, 1, 0, 0), (50, 7, 0, 0)] ∧ P 59 7 = [(2, 1, 0, 0), (37, 0, 0, 0), (6, 12, 14, 50), (55, 9, 8, 0)] ∧ P 59 8 = [(37, 0, 0, 0), (7, 12, 7, 69), (2, 1, 0, 0), (0, 0, 0, 0), (12, 0, 0, 0), (4, 1, 1, 0), (51, 7, 0, 0)] ∧ P 59 9 = [(0, 0, 0, 0), (3, 1, 0, 0), (50, 10, 0, 0)] ∧ P 59 10 = [(2, 1, 0, 0), (0, 4, 0, 0), (37, 0, 0, 0), (6, 12, 14, 50), (19, 0, 0, 0), (55, 12, 11, 0)] ∧ P 59 11 = [(37, 0, 0, 0), (7, 12, 9, 72), (2, 1, 0, 0), (1, 1, 0, 0), (12, 0, 0, 0), (4, 1, 1, 0), (51, 10, 0, 0)] ∧ P 59 12 = [(37, 0, 0, 0), (7, 12, 8, 75), (0, 0, 0, 0), (1, 1, 0, 0), (12, 0, 0, 0), (0, 1, 0, 0), (3, 1, 0, 0), (50, 13, 0, 0)] ∧ P 59 13 = [(2, 1, 0, 0), (37, 0, 0, 0), (6, 12, 14, 50), (55, 15, 14, 0)] ∧ P 59 14 = [(37, 0, 0, 0), (7, 12, 8, 75), (2, 1, 0, 0), (37, 0, 0, 0), (37, 0, 0, 0), (7, 12, 5, 53), (2, 1, 0, 0), (10, 0, 0, 0), (0, 1, 0, 0), (18, 0, 0, 0), (37, 0, 0, 0), (7, 12, 6, 56), (2, 1, 0, 0), (10, 0, 0, 0), (0, 2, 0, 0), (25, 0, 0, 0), (31, 55, 3, 59), (12, 0, 0, 0), (37, 0, 0, 0), (7, 12, 9, 72), (0, 4, 0, 0), (37, 0, 0, 0), (7, 12, 8, 75), (2, 1, 0, 0), (10, 0, 0, 0), (19, 0, 0, 0), (37, 0, 0, 0), (7, 12, 6, 56), (2, 1, 0, 0), (10, 0, 0, 0), (0, 3, 0, 0), (22, 0, 0, 0), (17, 0, 0, 0), (2, 1, 0, 0), (12, 0, 0, 0), (4, 1, 1, 0), (51, 13, 0, 0)] ∧ P 59 15 = [(0, 0, 0, 0), (3, 1, 0, 0), (50, 16, 0, 0)] ∧ P 59 16 = [(2, 1, 0, 0), (37, 0, 0, 0), (6, 12, 8, 28), (55, 21, 17, 0)] ∧ P 59 17 = [(37, 0, 0, 0), (7, 12, 7, 69), (37, 0, 0, 0), (37, 0, 0, 0), (7, 12, 2, 31), (2, 1, 0, 0), (10, 0, 0, 0), (37, 0, 0, 0), (7, 12, 3, 35), (2, 1, 0, 0), (10, 0, 0, 0), (31, 55, 3, 59), (37, 0, 0, 0), (7, 12, 4, 46), (2, 1, 0, 0), (15, 0, 0, 0), (58, 19, 18, 0)] ∧ P 59 18 = [(0, 1, 0, 0), (51, 20, 0, 0)] ∧ P 59 19 = [(0, 2, 0, 0), (50, 20, 0, 0)] ∧ P 59 20 = [(12, 0, 0, 0), (4, 1, 1, 0), (51, 16, 0, 0)] ∧ P 59 21 = [(37, 0, 0, 0), (30, 60, 1, 78), (67, 0, 0, 0)] := by refine ⟨?_, ?_, ?_, ?_, ?_, ?_, ?_, ?_, ?_, ?_, ?_, ?_, ?_, ?_, ?_, ?_, ?_, ?_, ?_, ?_, ?_, ?_⟩ <;> rfl
theorem pe60 : P 60 0 = [(0, 0, 0, 0), (3, 1, 0, 0), (50, 1, 0, 0)] ∧ P 60 1 = [(2, 1, 0, 0), (37, 0, 0, 0), (6, 12, 14, 50), (55, 6, 2, 0)] ∧ P 60 2 = [(37, 0, 0, 0), (7, 12, 10, 82), (2, 1, 0, 0), (1, 1, 0, 0), (12, 0, 0, 0), (37, 0, 0, 0), (7, 12, 11, 85), (2, 1, 0, 0), (37, 0, 0, 0), (7, 12, 7, 69), (2, 1, 0, 0), (10, 0, 0, 0), (12, 0, 0, 0), (37, 0, 0, 0), (7, 12, 12, 88), (2, 1, 0, 0), (2, 1, 0, 0), (59, 4, 3, 0)] ∧ P 60 3 = [(0, 1, 0, 0), (51, 5, 0, 0)] ∧ P 60 4 = [(0, 0, 0, 0), (50, 5, 0, 0)] ∧ P 60 5 = [(14, 0, 0, 0), (4, 1, 1, 0), (51, 1, 0, 0)] ∧ P 60 6 = [(0, 0, 0, 0), (3, 1, 0, 0), (50, 7, 0, 0)] ∧ P 60 7 = [(2, 1, 0, 0), (0, 4, 0, 0), (37, 0, 0, 0), (6, 12, 14, 50), (19, 0, 0, 0), (55, 9, 8, 0)] ∧ P 60 8 = [(37, 0, 0, 0), (7, 12, 13, 91), (2, 1, 0, 0), (37, 0, 0, 0), (7, 12, 9, 72), (2, 1, 0, 0), (10, 0, 0, 0), (12, 0, 0, 0), (4, 1, 1, 0), (51, 7, 0, 0)] ∧ P 60 9 = [(37, 0, 0, 0), (37, 0, 0, 0), (6, 12, 14, 50), (8, 12, 19, 94), (37, 0, 0, 0), (0, 0, 0, 0), (8, 12, 24, 97), (67, 0, 0, 0)] := by refine ⟨?_, ?_, ?_, ?_, ?_, ?_, ?_, ?_, ?_, ?_⟩ <;> rfl
theorem pe61 : P 61 0 = [(2, 1, 0, 0), (3, 2, 0, 0), (50, 1, 0, 0)] ∧ P 61 1 = [(37, 0, 0, 0), (7, 12, 10, 82), (2, 2, 0, 0), (10, 0, 0, 0), (1, 1, 0, 0), (52, 3, 2, 0)] ∧ P 61 2 = [(37, 0, 0, 0), (7, 12, 10, 82), (2, 2, 0, 0), (10, 0, 0, 0), (3, 2, 0, 0), (51, 1, 0, 0)] ∧ P 61 3 = [(2, 2, 0, 0), (64, 0, 0, 0)] := by refine ⟨?_, ?_, ?_, ?_⟩ <;> rfl
theorem pe62 : P 62 0 = [(2, 1, 0, 0), (0, 0, 0, 0), (37, 0, 0, 0), (6, 12, 14, 50), (0, 1, 0, 0), (18, 0, 0, 0), (31, 43, 3, 15), (58, 3, 1, 0)] ∧ P 62 1 = [(37, 0, 0, 0), (7, 12, 10, 82), (2, 1, 0, 0), (10, 0, 0, 0), (1, 1, 0, 0), (53, 3, 2, 0)] ∧ P 62 2 = [(0, 1, 0, 0), (51, 4, 0, 0)] ∧ P 62 3 = [(0, 0, 0, 0), (50, 4, 0, 0)] ∧ P 62 4 = [(65, 0, 0, 0)] := by refine ⟨?_, ?_, ?_, ?_, ?_⟩ <;> rfl
theorem pe63 : P 63 0 = [(37, 0, 0, 0), (7, 12, 18, 100), (37, 0, 0, 0), (6, 12, 27, 103), (2, 1, 0, 0), (12, 0, 0, 0), (37, 0, 0, 0), (7, 12, 18, 100), (37, 0, 0, 0), (6, 12, 27, 103), (0, 1, 0, 0), (17, 0, 0, 0), (2, 2, 0, 0), (12, 0, 0, 0), (37, 0, 0, 0), (27, 0, 0, 0), (6, 12, 27, 103), (0, 2, 0, 0), (17, 0, 0, 0), (8, 12, 27, 103), (67, 0, 0, 0)] := rfl
theorem pe64 : P 64 0 = [(37, 0, 0, 0), (6, 12, 24, 97), (3, 3, 0, 0), (37, 0, 0, 0), (7, 12, 14, 106), (2, 3, 0, 0), (2, 2, 0, 0), (12, 0, 0, 0), (37, 0, 0, 0), (7, 12, 15, 109), (2, 3, 0, 0), (37, 0, 0, 0), (7, 12, 11, 85), (2, 1, 0, 0), (10, 0, 0, 0), (12, 0, 0, 0), (37, 0, 0, 0), (7, 12, 16, 112), (2, 3, 0, 0), (37, 0, 0, 0), (7, 12, 12, 88), (2, 1, 0, 0), (15, 0, 0, 0), (14, 0, 0, 0), (0, 0, 0, 0), (3, 4, 0, 0), (50, 1, 0, 0)] ∧ P 64 1 = [(2, 4, 0, 0), (37, 0, 0, 0), (6, 12, 2, 25), (55, 7, 2, 0)] ∧ P 64 2 = [(37, 0, 0, 0), (7, 12, 17, 115), (0, 4, 0, 0), (2, 3, 0, 0), (19, 0, 0, 0), (2, 4, 0, 0), (17, 0, 0, 0), (37, 0, 0, 0), (7, 12, 13, 91), (0, 4, 0, 0), (2, 1, 0, 0), (19, 0, 0, 0), (2, 4, 0, 0), (17, 0, 0, 0), (10, 0, 0, 0), (12, 0, 0, 0), (37, 0, 0, 0), (7, 12, 13, 91), (0, 4, 0, 0), (2, 1, 0, 0), (19, 0, 0, 0), (2, 4, 0, 0), (17, 0, 0, 0), (10, 0, 0, 0), (3, 5, 0, 0), (37, 0, 0, 0), (7, 12, 13, 91), (0, 4, 0, 0), (2, 2, 0, 0), (19, 0, 0, 0), (2, 4, 0, 0), (17, 0, 0, 0), (10, 0, 0, 0), (3, 6, 0, 0), (2, 5, 0, 0), (1, 1, 0, 0), (53, 4, 3, 0)] ∧ P 64 3 = [(37, 0, 0, 0), (7, 12, 13, 91), (0, 4, 0, 0), (2, 1, 0, 0), (19, 0, 0, 0), (2, 4, 0, 0), (17, 0, 0, 0), (2, 6, 0, 0), (12, 0, 0, 0), (51, 6, 0, 0)] ∧ P 64 4 = [(2, 6, 0, 0), (1, 1, 0, 0), (52, 6, 5, 0)] ∧ P 64 5 = [(37, 0, 0, 0), (2, 5, 0, 0), (2, 6, 0, 0), (30, 63, 3, 118), (50, 6, 0, 0)] ∧ P 64 6 = [(4, 4, 1, 0), (51, 1, 0, 0)] ∧ P 64 7 = [(37, 0, 0, 0), (27, 0, 0, 0), (6, 12, 24, 97), (0, 1, 0, 0), (17, 0, 0, 0), (8, 12, 24, 97), (37, 0, 0, 0), (7, 12, 10, 82), (2, 2, 0, 0), (2, 1, 0, 0), (12, 0, 0, 0), (37, 0, 0, 0), (27, 0, 0, 0), (6, 12, 25, 121), (37, 0, 0, 0), (7, 12, 11, 85), (2, 1, 0, 0), (10, 0, 0, 0), (58, 10, 8, 0)] ∧ P 64 8 = [(37, 0, 0, 0), (7, 12, 11, 85), (2, 2, 0, 0), (10, 0, 0, 0), (58, 10, 9, 0)] ∧ P 64 9 = [(0, 1, 0, 0), (51, 11, 0, 0)] ∧ P 64 10 = [(0, 0, 0, 0), (50, 11, 0, 0)] ∧ P 64 11 = [(17, 0, 0, 0), (8, 12, 25, 121), (37, 0, 0, 0), (7, 12, 11, 85), (2, 1, 0, 0), (37, 0, 0, 0), (7, 12, 11, 85), (2, 1, 0, 0), (10, 0, 0, 0), (59, 13, 12, 0)] ∧ P 64 12 = [(37, 0, 0, 0), (7, 12, 11, 85), (2, 2, 0, 0), (10, 0, 0, 0), (51, 14, 0, 0)] ∧ P 64 13 = [(37, 0, 0, 0), (7, 12, 11, 85), (2, 1, 0, 0), (10, 0, 0, 0), (50, 14, 0, 0)] ∧ P 64 14 = [(12, 0, 0, 0), (37, 0, 0, 0), (7, 12, 12, 88), (2, 1, 0, 0), (37, 0, 0, 0), (7, 12, 12, 88), (2, 1, 0, 0), (15, 0, 0, 0), (59, 16, 15, 0)] ∧ P 64 15 = [(37, 0, 0, 0), (7, 12, 12, 88), (2, 2, 0, 0), (15, 0, 0, 0), (58, 17, 16, 0)] ∧ P 64 16 = [(0, 1, 0, 0), (51, 18, 0, 0)] ∧ P 64 17 = [(0, 0, 0, 0), (50, 18, 0, 0)] ∧ P 64 18 = [(14, 0, 0, 0), (37, 0, 0, 0), (27, 0, 0, 0), (6, 12, 19, 94), (0, 1, 0, 0), (18, 0, 0, 0), (8, 12, 19, 94), (67, 0, 0, 0)] := by refine ⟨?_, ?_, ?_, ?_, ?_, ?_, ?_, ?_, ?_, ?_, ?_, ?_, ?_, ?_, ?_, ?_, ?_, ?_, ?_⟩ <;> rfl
theorem pe65 : P 65 0 = [(37, 0, 0, 0), (6, 12, 24, 97), (2, 1, 0, 0), (57, 5, 1, 0)] ∧ P 65 1 = [(37, 0, 0, 0), (27, 0, 0, 0), (6, 12, 24, 97), (0, 1, 0, 0), (18, 0, 0, 0), (8, 12, 24, 97), (37, 0, 0, 0), (7, 12, 14, 106), (37, 0, 0, 0), (6, 12, 24, 97), (10, 0, 0, 0), (3, 2, 0, 0), (37, 0, 0, 0), (7, 12, 10, 82), (2, 2, 0, 0), (10, 0, 0, 0), (3, 3, 0, 0), (37, 0, 0, 0), (7, 12, 10, 82), (2, 2, 0, 0), (1, 1, 0, 0), (12, 0, 0, 0), (37, 0, 0, 0), (7, 12, 11, 85), (2, 3, 0, 0), (37, 0, 0, 0), (7, 12, 15, 109), (37, 0, 0, 0), (6, 12, 24, 97), (10, 0, 0, 0), (12, 0, 0, 0), (37, 0, 0, 0), (7, 12, 12, 88), (2, 3, 0, 0), (37, 0, 0, 0), (7, 12, 16, 112), (37, 0, 0, 0), (6, 12, 24, 97), (15, 0, 0, 0), (14, 0, 0, 0), (0, 0, 0, 0), (3, 4, 0, 0), (50, 2, 0, 0)] ∧ P 65 2 = [(2, 4, 0, 0), (37, 0, 0, 0), (6, 12, 2, 25), (55, 4, 3, 0)] ∧ P 65 3 = [(37, 0, 0, 0), (7, 12, 13, 91), (0, 4, 0, 0), (2, 3, 0, 0), (19, 0, 0, 0), (2, 4, 0, 0), (17, 0, 0, 0), (37, 0, 0, 0), (7, 12, 17, 115), (0, 4, 0, 0), (37, 0, 0, 0), (6, 12, 24, 97), (19, 0, 0, 0), (2, 4, 0, 0), (17, 0, 0, 0), (10, 0, 0, 0), (12, 0, 0, 0), (4, 4, 1, 0), (51, 2, 0, 0)] ∧ P 65 4 = [(37, 0, 0, 0), (27, 0, 0, 0), (6, 12, 19, 94), (0, 1, 0, 0), (17, 0, 0, 0), (8, 12, 19, 94), (51, 0, 0, 0)] ∧ P 65 5 = [(67, 0, 0, 0)] := by refine ⟨?_, ?_, ?_, ?_, ?_, ?_⟩ <;> rfl
theorem pe66 : P 66 0 = [(37, 0, 0, 0), (6, 12, 24, 97), (3, 3, 0, 0), (37, 0, 0, 0), (0, 0, 0, 0), (8, 12, 25, 121), (37, 0, 0, 0), (0, 0, 0, 0), (8, 12, 27, 103), (37, 0, 0, 0), (2, 1, 0, 0), (2, 2, 0, 0), (30, 63, 3, 118), (50, 1, 0, 0)] ∧ P 66 1 = [(37, 0, 0, 0), (6, 12, 27, 103), (63, 15, 2, 0)] ∧ P 66 2 = [(37, 0, 0, 0), (27, 0, 0, 0), (6, 12, 27, 103), (0, 2, 0, 0), (18, 0, 0, 0), (8, 12, 27, 103), (37, 0, 0, 0), (37, 0, 0, 0), (7, 12, 18, 100), (37, 0, 0, 0), (6, 12, 27, 103), (10, 0, 0, 0), (31, 61, 2, 124), (3, 4, 0, 0), (37, 0, 0, 0), (37, 0, 0, 0), (7, 12, 18, 100), (37, 0, 0, 0), (6, 12, 27, 103), (0, 1, 0, 0), (17, 0, 0, 0), (10, 0, 0, 0), (31, 61, 2, 124), (3, 5, 0, 0), (2, 4, 0, 0), (2, 5, 0, 0), (53, 4, 3, 0)] ∧ P 66 3 = [(51, 1, 0, 0)] ∧ P 66 4 = [(2, 4, 0, 0), (2, 5, 0, 0), (55, 6, 5, 0)] ∧ P 66 5 = [(2, 4, 0, 0), (51, 7, 0, 0)] ∧ P 66 6 = [(2, 5, 0, 0), (50, 7, 0, 0)] ∧ P 66 7 = [(3, 6, 0, 0), (2, 4, 0, 0), (2, 5, 0, 0), (55, 9, 8, 0)] ∧ P 66 8 = [(2, 5, 0, 0), (51, 10, 0, 0)] ∧ P 66 9 = [(2, 4, 0, 0), (50, 10, 0, 0)] ∧ P 66 10 = [(3, 7, 0, 0), (37, 0, 0, 0), (7, 12, 11, 85), (2, 6, 0, 0), (10, 0, 0, 0), (37, 0, 0, 0), (7, 12, 11, 85), (2, 7, 0, 0), (10, 0, 0, 0), (17, 0, 0, 0), (0, 3, 0, 0), (53, 14, 11, 0)] ∧ P 66 11 = [(37, 0, 0, 0), (7, 12, 11, 85), (2, 6, 0, 0), (10, 0, 0, 0), (58, 14, 12, 0)] ∧ P 66 12 = [(37, 0, 0, 0), (7, 12, 11, 85), (2, 7, 0, 0), (10, 0, 0, 0), (58, 14, 13, 0)] ∧ P 66 13 = [(37, 0, 0, 0), (2, 3, 0, 0), (30, 65, 2, 128), (0, 0, 0, 0), (65, 0, 0, 0)] ∧ P 66 14 = [(37, 0, 0, 0), (2, 6, 0, 0), (2, 7, 0, 0), (30, 64, 3, 131), (51, 1, 0, 0)] ∧ P 66 15 = [(0, 1, 0, 0), (65, 0, 0, 0)] := by refine ⟨?_, ?_, ?_, ?_, ?_, ?_, ?_, ?_, ?_, ?_, ?_, ?_, ?_, ?_, ?_, ?_⟩ <;> rfl
theorem pe67 : P 67 0 = [(37, 0, 0, 0), (6, 12, 24, 97), (3, 4, 0, 0), (37, 0, 0, 0), (6, 12, 19, 94), (3, 5, 0, 0), (37, 0, 0, 0), (2, 2, 0, 0), (2, 3, 0, 0), (31, 66, 3, 134), (59, 2, 1, 0)] ∧ P 67 1 = [(1, 1, 0, 0), (64, 0, 0, 0)] ∧ P 67 2 = [(2, 1, 0, 0), (59, 4, 3, 0)] ∧ P 67 3 = [(0, 0, 0, 0), (51, 7, 0, 0)] ∧ P 67 4 = [(2, 1, 0, 0), (0, 1, 0, 0), (53, 6, 5, 0)] ∧ P 67 5 = [(37, 0, 0, 0), (6, 12, 25, 121), (51, 7, 0, 0)] ∧ P 67 6 = [(2, 5, 0, 0), (37, 0, 0, 0), (6, 12, 19, 94), (18, 0, 0, 0), (50, 7, 0, 0)] ∧ P 67 7 = [(3, 6, 0, 0), (37, 0, 0, 0), (2, 4, 0, 0), (30, 65, 2, 128), (2, 6, 0, 0), (64, 0, 0, 0)] := by refine ⟨?_, ?_, ?_, ?_, ?_, ?_, ?_, ?_⟩ <;> rfl
theorem pe68 : P 68 0 = [(37, 0, 0, 0), (2, 1, 0, 0), (31, 62, 2, 138), (58, 2, 1, 0)] ∧ P 68 1 = [(37, 0, 0, 0), (7, 12, 12, 88), (2, 1, 0, 0), (15, 0, 0, 0), (58, 3, 2, 0)] ∧ P 68 2 = [(0, 0, 0, 0), (65, 0, 0, 0)] ∧ P 68 3 = [(0, 0, 0, 0), (3, 2, 0, 0), (50, 4, 0, 0)] ∧ P 68 4 = [(2, 2, 0, 0), (37, 0, 0, 0), (6, 12, 14, 50), (55, 15, 5, 0)] ∧ P 68 5 = [(37, 0, 0, 0), (2, 2, 0, 0), (31, 62, 2, 138), (58, 14, 6, 0)] ∧ P 68 6 = [(37, 0, 0, 0), (7, 12, 12, 88), (2, 2, 0, 0), (15, 0, 0, 0), (59, 8, 7, 0)] ∧ P 68 7 = [(51, 14, 0, 0)] ∧ P 68 8 = [(0, 0, 0, 0), (3, 3, 0, 0), (50, 9, 0, 0)] ∧ P 68 9 = [(2, 3, 0, 0), (37, 0, 0, 0), (6, 12, 2, 25), (55, 14, 10, 0)] ∧ P 68 10 = [(37, 0, 0, 0), (7, 12, 13, 91), (0, 4, 0, 0), (2, 2, 0, 0), (19, 0, 0, 0), (2, 3, 0, 0), (17, 0, 0, 0), (10, 0, 0, 0), (1, 1, 0, 0), (52, 13, 11, 0)] ∧ P 68 11 = [(37, 0, 0, 0), (37, 0, 0, 0), (7, 12, 13, 91), (0, 4, 0, 0), (2, 2, 0, 0), (19, 0, 0, 0), (2, 3, 0, 0), (17, 0, 0, 0), (10, 0, 0, 0), (31, 61, 2, 124), (2, 1, 0, 0), (53, 13, 12, 0)] ∧ P 68 12 = [(0, 1, 0, 0), (65, 0, 0, 0)] ∧ P 68 13 = [(4, 3, 1, 0), (51, 9, 0, 0)] ∧ P 68 14 = [(4, 2, 1, 0), (51, 4, 0, 0)] ∧ P 68 15 = [(0, 0, 0, 0), (65, 0, 0, 0)] := by refine ⟨?_, ?_, ?_, ?_, ?_, ?_, ?_, ?_, ?_, ?_, ?_, ?_, ?_, ?_, ?_, ?_⟩ <;> rfl
theorem pe69 : P 69 0 = [(2, 1, 0, 0), (3, 2, 0, 0), (50, 1, 0, 0)] ∧ P 69 1 = [(2, 2, 0, 0), (37, 0, 0, 0), (6, 12, 14, 50), (55, 5, 2, 0)] ∧ P 69 2 = [(37, 0, 0, 0), (2, 2, 0, 0), (31, 68, 2, 142), (58, 4, 3, 0)] ∧ P 69 3 = [(2, 2, 0, 0), (64, 0, 0, 0)] ∧ P 69 4 = [(4, 2, 1, 0), (51, 1, 0, 0)] ∧ P 69 5 = [(1, 1, 0, 0), (64, 0, 0, 0)] := by refine ⟨?_, ?_, ?_, ?_, ?_, ?_⟩ <;> rfl
theorem pe70 : P 70 0 = [(37, 0, 0, 0), (7, 12, 19, 145), (0, 4, 0, 0), (37, 0, 0, 0), (6, 12, 29, 148), (19, 0, 0, 0), (2, 1, 0, 0), (12, 0, 0, 0), (37, 0, 0, 0), (7, 12, 19, 145), (0, 4, 0, 0), (37, 0, 0, 0), (6, 12, 29, 148), (19, 0, 0, 0), (0, 1, 0, 0), (17, 0, 0, 0), (2, 2, 0, 0), (12, 0, 0, 0), (37, 0, 0, 0), (7, 12, 19, 145), (0, 4, 0, 0), (37, 0, 0, 0), (6, 12, 29, 148), (19, 0, 0, 0), (0, 2, 0, 0), (17, 0, 0, 0), (2, 3, 0, 0), (12, 0, 0, 0), (37, 0, 0, 0), (7, 12, 19, 145), (0, 4, 0, 0), (37, 0, 0, 0), (6, 12, 29, 148), (19, 0, 0, 0), (0, 3, 0, 0), (17, 0, 0, 0), (2, 4, 0, 0), (12, 0, 0, 0), (37, 0, 0, 0), (27, 0, 0, 0), (6, 12, 29, 148), (0, 1, 0, 0), (17, 0, 0, 0), (8, 12, 29, 148), (67, 0, 0, 0)] := rfl
theorem pe71 : P 71 0 = [(37, 0, 0, 0), (2, 1, 0, 0), (2, 2, 0, 0), (31, 66, 3, 134), (3, 4, 0, 0), (37, 0, 0, 0), (0, 1, 0, 0), (2, 1, 0, 0), (2, 2, 0, 0), (2, 3, 0, 0), (30, 70, 5, 151), (37, 0, 0, 0), (6, 12, 19, 94), (64, 0, 0, 0)] := rfl
theorem pe72 : P 72 0 = [(37, 0, 0, 0), (7, 12, 12, 88), (2, 1, 0, 0), (0, 1, 0, 0), (14, 0, 0, 0), (37, 0, 0, 0), (0, 0, 0, 0), (2, 1, 0, 0), (1, 1, 0, 0), (0, 0, 0, 0), (30, 70, 5, 151), (37, 0, 0, 0), (6, 12, 19, 94), (64, 0, 0, 0)] := rfl
theorem pe73 : P 73 0 = [(37, 0, 0, 0), (0, 0, 0, 0), (31, 69, 2, 155), (3, 1, 0, 0), (0, 0, 0, 0), (3, 2, 0, 0), (50, 1, 0, 0)] ∧ P 73 1 = [(2, 2, 0, 0), (37, 0, 0, 0), (6, 12, 14, 50), (55, 7, 2, 0)] ∧ P 73 2 = [(37, 0, 0, 0), (2, 2, 0, 0), (31, 62, 2, 138), (58, 6, 3, 0)] ∧ P 73 3 = [(37, 0, 0, 0), (7, 12, 12, 88), (2, 2, 0, 0), (15, 0, 0, 0), (58, 6, 4, 0)] ∧ P 73 4 = [(37, 0, 0, 0), (0, 0, 0, 0), (2, 1, 0, 0), (2, 2, 0, 0), (31, 67, 4, 158), (1, 1, 0, 0), (52, 6, 5, 0)] ∧ P 73 5 = [(37, 0, 0, 0), (2, 1, 0, 0), (2, 2, 0, 0), (0, 0, 0, 0), (31, 71, 4, 162), (64, 0, 0, 0)] ∧ P 73 6 = [(4, 2, 1, 0), (51, 1, 0, 0)] ∧ P 73 7 = [(37, 0, 0, 0), (2, 1, 0, 0), (31, 72, 2, 165), (64, 0, 0, 0)] := by refine ⟨?_, ?_, ?_, ?_, ?_, ?_, ?_, ?_⟩ <;> rfl
theorem pe74 : P 74 0 = [(1, 1, 0, 0), (3, 2, 0, 0), (1, 1, 0, 0), (3, 3, 0, 0), (1, 1, 0, 0), (3, 4, 0, 0), (37, 0, 0, 0), (0, 0, 0, 0), (31, 69, 2, 155), (3, 5, 0, 0), (50, 1, 0, 0)] ∧ P 74 1 = [(2, 5, 0, 0), (1, 1, 0, 0), (52, 18, 2, 0)] ∧ P 74 2 = [(1, 1, 0, 0), (3, 6, 0, 0), (1, 1, 0, 0), (3, 7, 0, 0), (0, 0, 0, 0), (3, 8, 0, 0), (50, 3, 0, 0)] ∧ P 74 3 = [(2, 8, 0, 0), (37, 0, 0, 0), (6, 12, 14, 50), (55, 12, 4, 0)] ∧ P 74 4 = [(37, 0, 0, 0), (2, 8, 0, 0), (31, 62, 2, 138), (58, 7, 5, 0)] ∧ P 74 5 = [(37, 0, 0, 0), (7, 12, 12, 88), (2, 8, 0, 0), (15, 0, 0, 0), (58, 7, 6, 0)] ∧ P 74 6 = [(37, 0, 0, 0), (2, 1, 0, 0), (2, 5, 0, 0), (2, 8, 0, 0), (31, 67, 4, 158), (51, 8, 0, 0)] ∧ P 74 7 = [(1, 1, 0, 0), (50, 8, 0, 0)] ∧ P 74 8 = [(3, 9, 0, 0), (2, 9, 0, 0), (2, 6, 0, 0), (56, 10, 9, 0)] ∧ P 74 9 = [(51, 11, 0, 0)] ∧ P 74 10 = [(2, 9, 0, 0), (3, 6, 0, 0), (2, 8, 0, 0), (3, 7, 0, 0), (50, 11, 0, 0)] ∧ P 74 11 = [(4, 8, 1, 0), (51, 3, 0, 0)] ∧ P 74 12 = [(2, 6, 0, 0), (1, 1, 0, 0), (53, 14, 13, 0)] ∧ P 74 13 = [(37, 0, 0, 0), (2, 5, 0, 0), (31, 72, 2, 165), (64, 0, 0, 0)] ∧ P 74 14 = [(2, 6, 0, 0), (2, 2, 0, 0), (56, 16, 15, 0)] ∧ P 74 15 = [(51, 17, 0, 0)] ∧ P 74 16 = [(2, 6, 0, 0), (3, 2, 0, 0), (2, 5, 0, 0), (3, 3, 0, 0), (2, 7, 0, 0), (3, 4, 0, 0), (50, 17, 0, 0)] ∧ P 74 17 = [(37, 0, 0, 0), (2, 5, 0, 0), (0, 1, 0, 0), (17, 0, 0, 0), (31, 69, 2, 155), (3, 5, 0, 0), (51, 1, 0, 0)] ∧ P 74 18 = [(37, 0, 0, 0), (2, 3, 0, 0), (2, 4, 0, 0), (2, 2, 0, 0), (31, 71, 4, 162), (64, 0, 0, 0)] := by refine ⟨?_, ?_, ?_, ?_, ?_, ?_, ?_, ?_, ?_, ?_, ?_, ?_, ?_, ?_, ?_, ?_, ?_, ?_, ?_⟩ <;> rfl
theorem pe75 : P 75 0 = [(2, 1, 0, 0), (59, 2, 1, 0)] ∧ P 75 1 = [(37, 0, 0, 0), (31, 73, 1, 168), (51, 3, 0, 0)] ∧ P 75 2 = [(37, 0, 0, 0), (2, 1, 0, 0), (31, 74, 2, 172), (50, 3, 0, 0)] ∧ P 75 3 = [(64, 0, 0, 0)] := by refine ⟨?_, ?_, ?_, ?_⟩ <;> rfl
theorem pe76 : P 76 0 = [(37, 0, 0, 0), (30, 60, 1, 78), (37, 0, 0, 0), (0, 0, 0, 0), (8, 12, 29, 148), (37, 0, 0, 0), (6, 12, 19, 94), (3, 2, 0, 0), (50, 1, 0, 0)] ∧ P 76 1 = [(37, 0, 0, 0), (0, 0, 0, 0), (31, 69, 2, 155), (1, 1, 0, 0), (52, 3, 2, 0)] ∧ P 76 2 = [(37, 0, 0, 0), (2, 1, 0, 0), (31, 75, 2, 175), (3, 2, 0, 0), (51, 1, 0, 0)] ∧ P 76 3 = [(67, 0, 0, 0)] := by refine ⟨?_, ?_, ?_, ?_⟩ <;> rfl
theorem pe77 : P 77 0 = [(37, 0, 0, 0), (30, 60, 1, 78), (0, 0, 0, 0), (3, 2, 0, 0), (50, 1, 0, 0)] ∧ P 77 1 = [(2, 2, 0, 0), (2, 1, 0, 0), (55, 6, 2, 0)] ∧ P 77 2 = [(37, 0, 0, 0), (7, 12, 19, 145), (0, 4, 0, 0), (2, 2, 0, 0), (19, 0, 0, 0), (10, 0, 0, 0), (0, 1, 0, 0), (53, 4, 3, 0)] ∧ P 77 3 = [(37, 0, 0, 0), (37, 0, 0, 0), (7, 12, 19, 145), (0, 4, 0, 0), (2, 2, 0, 0), (19, 0, 0, 0), (0, 1, 0, 0), (17, 0, 0, 0), (10, 0, 0, 0), (37, 0, 0, 0), (7, 12, 19, 145), (0, 4, 0, 0), (2, 2, 0, 0), (19, 0, 0, 0), (0, 2, 0, 0), (17, 0, 0, 0), (10, 0, 0, 0), (31, 66, 3, 134), (3, 3, 0, 0), (51, 5, 0, 0)] ∧ P 77 4 = [(37, 0, 0, 0), (7, 12, 12, 88), (37, 0, 0, 0), (7, 12, 19, 145), (0, 4, 0, 0), (2, 2, 0, 0), (19, 0, 0, 0), (0, 1, 0, 0), (17, 0, 0, 0), (10, 0, 0, 0), (0, 1, 0, 0), (14, 0, 0, 0), (50, 5, 0, 0)] ∧ P 77 5 = [(4, 2, 1, 0), (51, 1, 0, 0)] ∧ P 77 6 = [(37, 0, 0, 0), (2, 1, 0, 0), (8, 12, 29, 148), (67, 0, 0, 0)] := by refine ⟨?_, ?_, ?_, ?_, ?_, ?_, ?_⟩ <;> rfl
theorem pe78 : P 78 0 = [(37, 0, 0, 0), (30, 59, 1, 178), (37, 0, 0, 0), (0, 0, 0, 0), (8, 12, 29, 148), (67, 0, 0, 0)] := rfl
theorem pe79 : P 79 0 = [(2, 0, 0, 0), (0, 0, 0, 0), (0, 2, 0, 0), (31, 43, 3, 15), (65, 0, 0, 0)] := rfl
theorem pe80 : P 80 0 = [(2, 1, 0, 0), (0, 1, 0, 0), (0, 4, 0, 0), (31, 43, 3, 15), (59, 2, 1, 0)] ∧ P 80 1 = [(0, 0, 0, 0), (65, 0, 0, 0)] ∧ P 80 2 = [(37, 0, 0, 0), (2, 1, 0, 0), (8, 12, 2, 25), (37, 0, 0, 0), (0, 0, 0, 0), (8, 12, 8, 28), (0, 1, 0, 0), (3, 2, 0, 0), (50, 3, 0, 0)] ∧ P 80 3 = [(2, 2, 0, 0), (0, 4, 0, 0), (55, 5, 4, 0)] ∧ P 80 4 = [(37, 0, 0, 0), (7, 12, 20, 186), (2, 2, 0, 0), (0, 0, 0, 0), (12, 0, 0, 0), (4, 2, 1, 0), (51, 3, 0, 0)] ∧ P 80 5 = [(37, 0, 0, 0), (30, 78, 1, 271), (0, 1, 0, 0), (65, 0, 0, 0)] := by refine ⟨?_, ?_, ?_, ?_, ?_, ?_⟩ <;> rfl
theorem pe81 : P 81 0 = [(37, 0, 0, 0), (2, 1, 0, 0), (2, 2, 0, 0), (31, 50, 3, 274), (3, 4, 0, 0), (37, 0, 0, 0), (2, 4, 0, 0), (2, 1, 0, 0), (2, 2, 0, 0), (31, 51, 4, 277), (58, 5, 1, 0)] ∧ P 81 1 = [(37, 0, 0, 0), (7, 12, 4, 46), (2, 4, 0, 0), (15, 0, 0, 0), (2, 3, 0, 0), (53, 3, 2, 0)] ∧ P 81 2 = [(37, 0, 0, 0), (6, 12, 14, 50), (51, 4, 0, 0)] ∧ P 81 3 = [(1, 3, 0, 0), (50, 4, 0, 0)] ∧ P 81 4 = [(64, 0, 0, 0)] ∧ P 81 5 = [(37, 0, 0, 0), (6, 12, 8, 28), (0, 40, 0, 0), (53, 7, 6, 0)] ∧ P 81 6 = [(1, 4, 0, 0), (64, 0, 0, 0)] ∧ P 81 7 = [(37, 0, 0, 0), (6, 12, 14, 50), (37, 0, 0, 0), (2, 1, 0, 0), (2, 2, 0, 0), (31, 58, 3, 280), (17, 0, 0, 0), (0, 120, 0, 0), (57, 9, 8, 0)] ∧ P 81 8 = [(1, 5, 0, 0), (64, 0, 0, 0)] ∧ P 81 9 = [(37, 0, 0, 0), (2, 4, 0, 0), (2, 1, 0, 0), (2, 2, 0, 0), (2, 3, 0, 0), (30, 52, 5, 283), (37, 0, 0, 0), (30, 78, 1, 271), (37, 0, 0, 0), (6, 12, 14, 50), (64, 0, 0, 0)] := by refine ⟨?_, ?_, ?_, ?_, ?_, ?_, ?_, ?_, ?_, ?_⟩ <;> rfl
theorem pe82 : P 82 0 = [(37, 0, 0, 0), (31, 47, 1, 287), (58, 2, 1, 0)] ∧ P 82 1 = [(37, 0, 0, 0), (37, 0, 0, 0), (6, 12, 3, 19), (37, 0, 0, 0), (6, 12, 4, 22), (2, 1, 0, 0), (31, 81, 4, 291), (51, 3, 0, 0)] ∧ P 82 2 = [(1, 2, 0, 0), (50, 3, 0, 0)] ∧ P 82 3 = [(64, 0, 0, 0)] := by refine ⟨?_, ?_, ?_, ?_⟩ <;> rfl
theorem pe83 : P 83 0 = [(2, 1, 0, 0), (0, 0, 0, 0), (37, 0, 0, 0), (6, 12, 8, 28), (0, 1, 0, 0), (18, 0, 0, 0), (31, 43, 3, 15), (59, 2, 1, 0)] ∧ P 83 1 = [(1, 1, 0, 0), (64, 0, 0, 0)] ∧ P 83 2 = [(37, 0, 0, 0), (2, 1, 0, 0), (30, 54, 2, 295), (37, 0, 0, 0), (30, 78, 1, 271), (37, 0, 0, 0), (6, 12, 8, 28), (64, 0, 0, 0)] := by refine ⟨?_, ?_, ?_⟩ <;> rfl
theorem pe84 : P 84 0 = [(2, 1, 0, 0), (0, 0, 0, 0), (37, 0, 0, 0), (6, 12, 8, 28), (0, 1, 0, 0), (18, 0, 0, 0), (31, 43, 3, 15), (59, 2, 1, 0)] ∧ P 84 1 = [(1, 2, 0, 0), (64, 0, 0, 0)] ∧ P 84 2 = [(37, 0, 0, 0), (37, 0, 0, 0), (7, 12, 2, 31), (2, 1, 0, 0), (10, 0, 0, 0), (37, 0, 0, 0), (7, 12, 3, 35), (2, 1, 0, 0), (10, 0, 0, 0), (31, 55, 3, 59), (3, 3, 0, 0), (2, 2, 0, 0), (68, 10, 0, 0), (0, 3, 0, 0), (1, 4, 0, 0), (2, 8, 0, 0), (3, 9, 0, 0)] ∧ P 84 3 = [(2, 3, 0, 0), (64, 0, 0, 0)] ∧ P 84 4 = [(37, 0, 0, 0), (7, 12, 4, 46), (2, 1, 0, 0), (15, 0, 0, 0), (58, 6, 5, 0)] ∧ P 84 5 = [(0, 1, 0, 0), (51, 7, 0, 0)] ∧ P 84 6 = [(0, 0, 0, 0), (50, 7, 0, 0)] ∧ P 84 7 = [(64, 0, 0, 0)] ∧ P 84 8 = [(37, 0, 0, 0), (7, 12, 2, 31), (2, 1, 0, 0), (10, 0, 0, 0), (64, 0, 0, 0)] ∧ P 84 9 = [(37, 0, 0, 0), (2, 3, 0, 0), (31, 61, 2, 124), (64, 0, 0, 0)] ∧ P 84 10 = [(1, 2, 0, 0), (64, 0, 0, 0)] := by refine ⟨?_, ?_, ?_, ?_, ?_, ?_, ?_, ?_, ?_, ?_, ?_⟩ <;> rfl
theorem pe85 : P 85 0 = [(0, 0, 0, 0), (3, 1, 0, 0), (0, 0, 0, 0), (3, 2, 0, 0), (50, 1, 0, 0)] ∧ P 85 1 = [(2, 2, 0, 0), (37, 0, 0, 0), (6, 12, 8, 28), (55, 6, 2, 0)] ∧ P 85 2 = [(2, 1, 0, 0), (37, 0, 0, 0), (7, 12, 4, 46), (2, 2, 0, 0), (15, 0, 0, 0), (58, 4, 3, 0)] ∧ P 85 3 = [(0, 1, 0, 0), (51, 5, 0, 0)] ∧ P 85 4 = [(0, 0, 0, 0), (50, 5, 0, 0)] ∧ P 85 5 = [(17, 0, 0, 0), (3, 1, 0, 0), (4, 2, 1, 0), (51, 1, 0, 0)] ∧ P 85 6 = [(2, 1, 0, 0), (64, 0, 0, 0)] := by refine ⟨?_, ?_, ?_, ?_, ?_, ?_, ?_⟩ <;> rfl
theorem pe86 : P 86 0 = [(0, 0, 0, 0), (3, 1, 0, 0), (0, 0, 0, 0), (3, 2, 0, 0), (50, 1, 0, 0)] ∧ P 86 1 = [(2, 2, 0, 0), (37, 0, 0, 0), (6, 12, 14, 50), (55, 7, 2, 0)] ∧ P 86 2 = [(2, 1, 0, 0), (37, 0, 0, 0), (2, 2, 0, 0), (31, 62, 2, 138), (58, 5, 3, 0)] ∧ P 86 3 = [(37, 0, 0, 0), (7, 12, 12, 88), (2, 2, 0, 0), (15, 0, 0, 0), (58, 5, 4, 0)] ∧ P 86 4 = [(0, 1, 0, 0), (51, 6, 0, 0)] ∧ P 86 5 = [(0, 0, 0, 0), (50, 6, 0, 0)] ∧ P 86 6 = [(17, 0, 0, 0), (3, 1, 0, 0), (4, 2, 1, 0), (51, 1, 0, 0)] ∧ P 86 7 = [(2, 1, 0, 0), (64, 0, 0, 0)] := by refine ⟨?_, ?_, ?_, ?_, ?_, ?_, ?_, ?_⟩ <;> rfl
theorem pe87 : P 87 0 = [(0, 0, 0, 0), (3, 1, 0, 0), (0, 0, 0, 0), (3, 2, 0, 0), (50, 1, 0, 0)] ∧ P 87 1 = [(2, 2, 0, 0), (37, 0, 0, 0), (6, 12, 14, 50), (55, 6, 2, 0)] ∧ P 87 2 = [(2, 1, 0, 0), (37, 0, 0, 0), (2, 2, 0, 0), (31, 68, 2, 142), (58, 4, 3, 0)] ∧ P 87 3 = [(0, 1, 0, 0), (51, 5, 0, 0)] ∧ P 87 4 = [(0, 0, 0, 0), (50, 5, 0, 0)] ∧ P 87 5 = [(17, 0, 0, 0), (3, 1, 0, 0), (4, 2, 1, 0), (51, 1, 0, 0)] ∧ P 87 6 = [(2, 1, 0, 0), (64, 0, 0, 0)] := by refine ⟨?_, ?_, ?_, ?_, ?_, ?_, ?_⟩ <;> rfl
theorem pe88 : P 88 0 = [(2, 1, 0, 0), (68, 10, 0, 0), (0, 1, 0, 0), (1, 2, 0, 0), (2, 3, 0, 0), (3, 4, 0, 0), (4, 5, 0, 0), (5, 6, 0, 0), (6, 7, 0, 0), (7, 8, 0, 0), (8, 9, 0, 0)] ∧ P 88 1 = [(37, 0, 0, 0), (6, 12, 2, 25), (64, 0, 0, 0)] ∧ P 88 2 = [(37, 0, 0, 0), (6, 12, 8, 28), (64, 0, 0, 0)] ∧ P 88 3 = [(37, 0, 0, 0), (31, 85, 1, 298), (64, 0, 0, 0)] ∧ P 88 4 = [(37, 0, 0, 0), (6, 12, 14, 50), (64, 0, 0, 0)] ∧ P 88 5 = [(37, 0, 0, 0), (6, 12, 19, 94), (64, 0, 0, 0)] ∧ P 88 6 = [(37, 0, 0, 0), (31, 86, 1, 301), (64, 0, 0, 0)] ∧ P 88 7 = [(37, 0, 0, 0), (31, 87, 1, 304), (64, 0, 0, 0)] ∧ P 88 8 = [(37, 0, 0, 0), (6, 12, 29, 148), (64, 0, 0, 0)] ∧ P 88 9 = [(37, 0, 0, 0), (6, 12, 1, 7), (64, 0, 0, 0)] ∧ P 88 10 = [(1, 1, 0, 0), (64, 0, 0, 0)] := by refine ⟨?_, ?_, ?_, ?_, ?_, ?_, ?_, ?_, ?_, ?_, ?_⟩ <;> rfl
theorem pe89 : P 89 0 = [(2, 1, 0, 0), (0, 0, 0, 0), (37, 0, 0, 0), (6, 12, 14, 50), (0, 1, 0, 0), (18, 0, 0, 0), (31, 43, 3, 15), (59, 2, 1, 0)] ∧ P 89 1 = [(1, 2, 0, 0), (64, 0, 0, 0)] ∧ P 89 2 = [(37, 0, 0, 0), (2, 1, 0, 0), (31, 61, 2, 124), (3, 3, 0, 0), (2, 2, 0, 0), (68, 17, 0, 0), (0, 3, 0, 0), (1, 4, 0, 0), (2, 5, 0, 0), (3, 9, 0, 0), (4, 10, 0, 0), (5, 11, 0, 0)] ∧ P 89 3 = [(37, 0, 0, 0), (7, 12, 7, 69), (2, 1, 0, 0), (10, 0, 0, 0), (64, 0, 0, 0)] ∧ P 89 4 = [(37, 0, 0, 0), (7, 12, 8, 75), (2, 1, 0, 0), (10, 0, 0, 0), (64, 0, 0, 0)] ∧ P 89 5 = [(2, 1, 0, 0), (59, 7, 6, 0)] ∧ P 89 6 = [(1, 1, 0, 0), (51, 8, 0, 0)] ∧ P 89 7 = [(37, 0, 0, 0), (7, 12, 6, 56), (2, 1, 0, 0), (10, 0, 0, 0), (0, 3, 0, 0), (22, 0, 0, 0), (50, 8, 0, 0)] ∧ P 89 8 = [(64, 0, 0, 0)] ∧ P 89 9 = [(37, 0, 0, 0), (7, 12, 5, 53), (2, 1, 0, 0), (10, 0, 0, 0), (64, 0, 0, 0)] ∧ P 89 10 = [(2, 3, 0, 0), (64, 0, 0, 0)] ∧ P 89 11 = [(37, 0, 0, 0), (7, 12, 12, 88), (2, 3, 0, 0), (15, 0, 0, 0), (58, 13, 12, 0)] ∧ P 89 12 = [(0, 1, 0, 0), (51, 16, 0, 0)] ∧ P 89 13 = [(37, 0, 0, 0), (2, 3, 0, 0), (31, 68, 2, 142), (58, 15, 14, 0)] ∧ P 89 14 = [(0, 2, 0, 0), (51, 16, 0, 0)] ∧ P 89 15 = [(0, 0, 0, 0), (50, 16, 0, 0)] ∧ P 89 16 = [(64, 0, 0, 0)] ∧ P 89 17 = [(1, 2, 0, 0), (64, 0, 0, 0)] := by refine ⟨?_, ?_, ?_, ?_, ?_, ?_, ?_, ?_, ?_, ?_, ?_, ?_, ?_, ?_, ?_, ?_, ?_, ?_⟩ <;> rfl
theorem pe90 : P 90 0 = [(2, 1, 0, 0), (0, 0, 0, 0), (37, 0, 0, 0), (6, 12, 14, 50), (0, 1, 0, 0), (18, 0, 0, 0), (31, 43, 3, 15), (59, 2, 1, 0)] ∧ P 90 1 = [(1, 1, 0, 0), (64, 0, 0, 0)] ∧ P 90 2 = [(37, 0, 0, 0), (0, 0, 0, 0), (8, 12, 62, 307), (0, 0, 0, 0), (3, 2, 0, 0), (50, 3, 0, 0)] ∧ P 90 3 = [(2, 2, 0, 0), (37, 0, 0, 0), (7, 12, 5, 53), (2, 1, 0, 0), (10, 0, 0, 0), (55, 5, 4, 0)] ∧ P 90 4 = [(37, 0, 0, 0), (0, 97, 0, 0), (37, 0, 0, 0), (7, 12, 5, 53), (2, 1, 0, 0), (10, 0, 0, 0), (37, 0, 0, 0), (7, 12, 6, 56), (2, 1, 0, 0), (10, 0, 0, 0), (2, 2, 0, 0), (31, 48, 3, 310), (17, 0, 0, 0), (30, 146, 2, 313), (4, 2, 1, 0), (51, 3, 0, 0)] ∧ P 90 5 = [(37, 0, 0, 0), (6, 12, 62, 307), (64, 0, 0, 0)] := by refine ⟨?_, ?_, ?_, ?_, ?_, ?_⟩ <;> rfl
theorem pe91 : P 91 0 = [(37, 0, 0, 0), (2, 1, 0, 0), (31, 62, 2, 138), (58, 4, 1, 0)] ∧ P 91 1 = [(37, 0, 0, 0), (2, 2, 0, 0), (31, 62, 2, 138), (58, 4, 2, 0)] ∧ P 91 2 = [(2, 1, 0, 0), (2, 2, 0, 0), (52, 4, 3, 0)] ∧ P 91 3 = [(0, 1, 0, 0), (51, 5, 0, 0)] ∧ P 91 4 = [(0, 0, 0, 0), (50, 5, 0, 0)] ∧ P 91 5 = [(65, 0, 0, 0)] := by refine ⟨?_, ?_, ?_, ?_, ?_, ?_⟩ <;> rfl
theorem pe92 : P 92 0 = [(2, 1, 0, 0), (31, 79, 1, 316), (58, 3, 1, 0)] ∧ P 92 1 = [(37, 0, 0, 0), (2, 2, 0, 0), (2, 3, 0, 0), (31, 91, 3, 319), (58, 3, 2, 0)] ∧ P 92 2 = [(37, 0, 0, 0), (2, 1, 0, 0), (2, 2, 0, 0), (2, 3, 0, 0), (31, 67, 4, 158), (51, 4, 0, 0)] ∧ P 92 3 = [(1, 2, 0, 0), (50, 4, 0, 0)] ∧ P 92 4 = [(64, 0, 0, 0)] := by refine ⟨?_, ?_, ?_, ?_, ?_⟩ <;> rfl
theorem pe93 : P 93 0 = [(37, 0, 0, 0), (2, 1, 0, 0), (2, 2, 0, 0), (31, 91, 3, 319), (59, 2, 1, 0)] ∧ P 93 1 = [(1, 2, 0, 0), (64, 0, 0, 0)] ∧ P 93 2 = [(37, 0, 0, 0), (6, 12, 29, 148), (0, 200, 0, 0), (53, 4, 3, 0)] ∧ P 93 3 = [(1, 3, 0, 0), (64, 0, 0, 0)] ∧ P 93 4 = [(37, 0, 0, 0), (0, 0, 0, 0), (2, 1, 0, 0), (2, 2, 0, 0), (31, 67, 4, 158), (1, 1, 0, 0), (53, 6, 5, 0)] ∧ P 93 5 = [(1, 1, 0, 0), (51, 7, 0, 0)] ∧ P 93 6 = [(37, 0, 0, 0), (2, 1, 0, 0), (2, 2, 0, 0), (0, 0, 0, 0), (31, 71, 4, 162), (50, 7, 0, 0)] ∧ P 93 7 = [(64, 0, 0, 0)] := by refine ⟨?_, ?_, ?_, ?_, ?_, ?_, ?_, ?_⟩ <;> rfl
theorem pe94 : P 94 0 = [(2, 1, 0, 0), (31, 79, 1, 316), (59, 2, 1, 0)] ∧ P 94 1 = [(1, 2, 0, 0), (64, 0, 0, 0)] ∧ P 94 2 = [(37, 0, 0, 0), (0, 0, 0, 0), (31, 69, 2, 155), (1, 1, 0, 0), (53, 4, 3, 0)] ∧ P 94 3 = [(1, 1, 0, 0), (64, 0, 0, 0)] ∧ P 94 4 = [(37, 0, 0, 0), (6, 12, 29, 148), (0, 200, 0, 0), (53, 6, 5, 0)] ∧ P 94 5 = [(1, 3, 0, 0), (51, 7, 0, 0)] ∧ P 94 6 = [(37, 0, 0, 0), (2, 1, 0, 0), (31, 75, 2, 175), (50, 7, 0, 0)] ∧ P 94 7 = [(64, 0, 0, 0)] := by refine ⟨?_, ?_, ?_, ?_, ?_, ?_, ?_, ?_⟩ <;> rfl
theorem pe95 : P 95 0 = [(2, 1, 0, 0), (31, 79, 1, 316), (59, 2, 1, 0)] ∧ P 95 1 = [(1, 2, 0, 0), (64, 0, 0, 0)] ∧ P 95 2 = [(37, 0, 0, 0), (2, 1, 0, 0), (30, 76, 2, 322), (37, 0, 0, 0), (6, 12, 19, 94), (64, 0, 0, 0)] := by refine ⟨?_, ?_, ?_⟩ <;> rfl
theorem pe96 : P 96 0 = [(37, 0, 0, 0), (6, 12, 29, 148), (59, 2, 1, 0)] ∧ P 96 1 = [(1, 1, 0, 0), (64, 0, 0, 0)] ∧ P 96 2 = [(37, 0, 0, 0), (37, 0, 0, 0), (6, 12, 29, 148), (0, 1, 0, 0), (18, 0, 0, 0), (30, 77, 2, 325), (37, 0, 0, 0), (6, 12, 29, 148), (64, 0, 0, 0)] := by refine ⟨?_, ?_, ?_⟩ <;> rfl
theorem pe97 : P 97 0 = [(2, 1, 0, 0), (0, 0, 0, 0), (37, 0, 0, 0), (6, 12, 29, 148), (0, 1, 0, 0), (18, 0, 0, 0), (31, 43, 3, 15), (58, 3, 1, 0)] ∧ P 97 1 = [(2, 2, 0, 0), (0, 0, 0, 0), (0, 3, 0, 0), (31, 43, 3, 15), (58, 3, 2, 0)] ∧ P 97 2 = [(37, 0, 0, 0), (7, 12, 19, 145), (0, 4, 0, 0), (2, 1, 0, 0), (19, 0, 0, 0), (2, 2, 0, 0), (17, 0, 0, 0), (10, 0, 0, 0), (51, 4, 0, 0)] ∧ P 97 3 = [(1, 2, 0, 0), (50, 4, 0, 0)] ∧ P 97 4 = [(64, 0, 0, 0)] := by refine ⟨?_, ?_, ?_, ?_, ?_⟩ <;> rfl
theorem pe98 : P 98 0 = [(37, 0, 0, 0), (7, 12, 21, 189), (0, 200, 0, 0), (2, 1, 0, 0), (19, 0, 0, 0), (2, 2, 0, 0), (17, 0, 0, 0), (10, 0, 0, 0), (64, 0, 0, 0)] := rfl
theorem pe99 : P 99 0 = [(2, 2, 0, 0), (1, 1, 0, 0), (53, 2, 1, 0)] ∧ P 99 1 = [(1, 1, 0, 0), (51, 3, 0, 0)] ∧ P 99 2 = [(37, 0, 0, 0), (7, 12, 22, 192), (0, 4, 0, 0), (0, 200, 0, 0), (2, 1, 0, 0), (19, 0, 0, 0), (2, 2, 0, 0), (17, 0, 0, 0), (19, 0, 0, 0), (2, 3, 0, 0), (17, 0, 0, 0), (10, 0, 0, 0), (50, 3, 0, 0)] ∧ P 99 3 = [(64, 0, 0, 0)] := by refine ⟨?_, ?_, ?_, ?_⟩ <;> rfl
theorem pe100 : P 100 0 = [(37, 0, 0, 0), (7, 12, 22, 192), (0, 4, 0, 0), (0, 200, 0, 0), (2, 1, 0, 0), (19, 0, 0, 0), (2, 2, 0, 0), (17, 0, 0, 0), (19, 0, 0, 0), (2, 3, 0, 0), (17, 0, 0, 0), (2, 4, 0, 0), (12, 0, 0, 0), (67, 0, 0, 0)] := rfl
theorem pe101 : P 101 0 = [(0, 0, 0, 0), (3, 1, 0, 0), (0, 0, 0, 0), (3, 2, 0, 0), (50, 1, 0, 0)] ∧ P 101 1 = [(2, 2, 0, 0), (37, 0, 0, 0), (6, 12, 14, 50), (55, 6, 2, 0)] ∧ P 101 2 = [(37, 0, 0, 0), (7, 12, 10, 82), (2, 2, 0, 0), (10, 0, 0, 0), (1, 1, 0, 0), (52, 4, 3, 0)] ∧ P 101 3 = [(51, 5, 0, 0)] ∧ P 101 4 = [(37, 0, 0, 0), (7, 12, 23, 195), (2, 2, 0, 0), (2, 1, 0, 0), (12, 0, 0, 0), (4, 1, 1, 0), (50, 5, 0, 0)] ∧ P 101 5 = [(4, 2, 1, 0), (51, 1, 0, 0)] ∧ P 101 6 = [(37, 0, 0, 0), (7, 12, 20, 186), (0, 0, 0, 0), (2, 1, 0, 0), (12, 0, 0, 0), (0, 0, 0, 0), (3, 2, 0, 0), (50, 7, 0, 0)] ∧ P 101 7 = [(2, 2, 0, 0), (37, 0, 0, 0), (6, 12, 14, 50), (55, 18, 8, 0)] ∧ P 101 8 = [(37, 0, 0, 0), (7, 12, 10, 82), (2, 2, 0, 0), (10, 0, 0, 0), (1, 1, 0, 0), (52, 10, 9, 0)] ∧ P 101 9 = [(51, 17, 0, 0)] ∧ P 101 10 = [(37, 0, 0, 0), (7, 12, 21, 189), (37, 0, 0, 0), (7, 12, 23, 195), (2, 2, 0, 0), (10, 0, 0, 0), (37, 0, 0, 0), (7, 12, 11, 85), (2, 2, 0, 0), (10, 0, 0, 0), (12, 0, 0, 0), (0, 0, 0, 0), (3, 3, 0, 0), (50, 11, 0, 0)] ∧ P 101 11 = [(2, 3, 0, 0), (0, 4, 0, 0), (55, 17, 12, 0)] ∧ P 101 12 = [(37, 0, 0, 0), (0, 0, 0, 0), (37, 0, 0, 0), (7, 12, 23, 195), (2, 2, 0, 0), (10, 0, 0, 0), (2, 3, 0, 0), (2, 3, 0, 0), (37, 0, 0, 0), (6, 12, 2, 25), (55, 15, 13, 0)] ∧ P 101 13 = [(37, 0, 0, 0), (7, 12, 13, 91), (0, 4, 0, 0), (2, 2, 0, 0), (19, 0, 0, 0), (2, 3, 0, 0), (17, 0, 0, 0), (10, 0, 0, 0), (1, 1, 0, 0), (52, 15, 14, 0)] ∧ P 101 14 = [(37, 0, 0, 0), (7, 12, 23, 195), (37, 0, 0, 0), (37, 0, 0, 0), (7, 12, 13, 91), (0, 4, 0, 0), (2, 2, 0, 0), (19, 0, 0, 0), (2, 3, 0, 0), (17, 0, 0, 0), (10, 0, 0, 0), (31, 61, 2, 124), (10, 0, 0, 0), (51, 16, 0, 0)] ∧ P 101 15 = [(1, 1, 0, 0), (50, 16, 0, 0)] ∧ P 101 16 = [(30, 100, 5, 328), (4, 3, 1, 0), (51, 11, 0, 0)] ∧ P 101 17 = [(4, 2, 1, 0), (51, 7, 0, 0)] ∧ P 101 18 = [(67, 0, 0, 0)] := by refine ⟨?_, ?_, ?_, ?_, ?_, ?_, ?_, ?_, ?_, ?_, ?_, ?_, ?_, ?_, ?_, ?_, ?_, ?_, ?_⟩ <;> rfl
theorem pe102 : P 102 0 = [(2, 1, 0, 0), (59, 2, 1, 0)] ∧ P 102 1 = [(37, 0, 0, 0), (30, 101, 1, 331), (50, 2, 0, 0)] ∧ P 102 2 = [(2, 1, 0, 0), (0, 0, 0, 0), (0, 3, 0, 0), (31, 43, 3, 15), (58, 5, 3, 0)] ∧ P 102 3 = [(37, 0, 0, 0), (7, 12, 20, 186), (2, 1, 0, 0), (10, 0, 0, 0), (63, 5, 4, 0)] ∧ P 102 4 = [(0, 1, 0, 0), (51, 6, 0, 0)] ∧ P 102 5 = [(0, 0, 0, 0), (50, 6, 0, 0)] ∧ P 102 6 = [(65, 0, 0, 0)] := by refine ⟨?_, ?_, ?_, ?_, ?_, ?_, ?_⟩ <;> rfl
theorem pe103 : P 103 0 = [(37, 0, 0, 0), (7, 12, 20, 186), (2, 2, 0, 0), (37, 0, 0, 0), (7, 12, 20, 186), (2, 1, 0, 0), (10, 0, 0, 0), (12, 0, 0, 0), (0, 0, 0, 0), (3, 3, 0, 0), (50, 1, 0, 0)] ∧ P 103 1 = [(2, 3, 0, 0), (0, 200, 0, 0), (55, 3, 2, 0)] ∧ P 103 2 = [(37, 0, 0, 0), (7, 12, 21, 189), (0, 200, 0, 0), (2, 2, 0, 0), (19, 0, 0, 0), (2, 3, 0, 0), (17, 0, 0, 0), (37, 0, 0, 0), (7, 12, 21, 189), (0, 200, 0, 0), (2, 1, 0, 0), (19, 0, 0, 0), (2, 3, 0, 0), (17, 0, 0, 0), (10, 0, 0, 0), (12, 0, 0, 0), (4, 3, 1, 0), (51, 1, 0, 0)] ∧ P 103 3 = [(0, 0, 0, 0), (3, 3, 0, 0), (50, 4, 0, 0)] ∧ P 103 4 = [(2, 3, 0, 0), (0, 800, 0, 0), (55, 6, 5, 0)] ∧ P 103 5 = [(37, 0, 0, 0), (7, 12, 22, 192), (0, 800, 0, 0), (2, 2, 0, 0), (19, 0, 0, 0), (2, 3, 0, 0), (17, 0, 0, 0), (37, 0, 0, 0), (7, 12, 22, 192), (0, 800, 0, 0), (2, 1, 0, 0), (19, 0, 0, 0), (2, 3, 0, 0), (17, 0, 0, 0), (10, 0, 0, 0), (12, 0, 0, 0), (4, 3, 1, 0), (51, 4, 0, 0)] ∧ P 103 6 = [(67, 0, 0, 0)] := by refine ⟨?_, ?_, ?_, ?_, ?_, ?_, ?_⟩ <;> rfl
theorem pe104 : P 104 0 = [(2, 1, 0, 0), (0, 0, 0, 0), (0, 2, 0, 0), (31, 43, 3, 15), (58, 2, 1, 0)] ∧ P 104 1 = [(37, 0, 0, 0), (2, 1, 0, 0), (31, 102, 2, 334), (59, 3, 2, 0)] ∧ P 104 2 = [(1, 1, 0, 0), (64, 0, 0, 0)] ∧ P 104 3 = [(37, 0, 0, 0), (2, 1, 0, 0), (0, 3, 0, 0), (30, 103, 3, 337), (37, 0, 0, 0), (7, 12, 20, 186), (0, 3, 0, 0), (10, 0, 0, 0), (64, 0, 0, 0)] := by refine ⟨?_, ?_, ?_, ?_⟩ <;> rfl
theorem pe105 : P 105 0 = [(37, 0, 0, 0), (2, 1, 0, 0), (31, 102, 2, 334), (58, 2, 1, 0)] ∧ P 105 1 = [(37, 0, 0, 0), (7, 12, 20, 186), (2, 1, 0, 0), (10, 0, 0, 0), (51, 3, 0, 0)] ∧ P 105 2 = [(1, 1, 0, 0), (50, 3, 0, 0)] ∧ P 105 3 = [(64, 0, 0, 0)] := by refine ⟨?_, ?_, ?_, ?_⟩ <;> rfl
theorem pe106 : P 106 0 = [(37, 0, 0, 0), (2, 1, 0, 0), (31, 102, 2, 334), (58, 3, 1, 0)] ∧ P 106 1 = [(2, 2, 0, 0), (0, 0, 0, 0), (37, 0, 0, 0), (7, 12, 20, 186), (2, 1, 0, 0), (10, 0, 0, 0), (0, 1, 0, 0), (18, 0, 0, 0), (31, 43, 3, 15), (58, 3, 2, 0)] ∧ P 106 2 = [(2, 3, 0, 0), (0, 0, 0, 0), (37, 0, 0, 0), (6, 12, 2, 25), (31, 43, 3, 15), (59, 4, 3, 0)] ∧ P 106 3 = [(1, 2, 0, 0), (64, 0, 0, 0)] ∧ P 106 4 = [(2, 3, 0, 0), (59, 6, 5, 0)] ∧ P 106 5 = [(37, 0, 0, 0), (2, 1, 0, 0), (2, 2, 0, 0), (31, 98, 3, 340), (51, 7, 0, 0)] ∧ P 106 6 = [(37, 0, 0, 0), (2, 1, 0, 0), (2, 2, 0, 0), (2, 3, 0, 0), (0, 1, 0, 0), (18, 0, 0, 0), (31, 99, 4, 343), (50, 7, 0, 0)] ∧ P 106 7 = [(64, 0, 0, 0)] := by refine ⟨?_, ?_, ?_, ?_, ?_, ?_, ?_, ?_⟩ <;> rfl
theorem pe107 : P 107 0 = [(0, 0, 0, 0), (3, 4, 0, 0), (0, 0, 0, 0), (3, 5, 0, 0), (50, 1, 0, 0)] ∧ P 107 1 = [(2, 5, 0, 0), (2, 2, 0, 0), (55, 4, 2, 0)] ∧ P 107 2 = [(2, 4, 0, 0), (1, 1, 0, 0), (52, 4, 3, 0)] ∧ P 107 3 = [(37, 0, 0, 0), (2, 1, 0, 0), (2, 4, 0, 0), (2, 2, 0, 0), (2, 3, 0, 0), (2, 5, 0, 0), (31, 48, 3, 310), (31, 99, 4, 343), (3, 4, 0, 0), (4, 5, 1, 0), (51, 1, 0, 0)] ∧ P 107 4 = [(2, 4, 0, 0), (1, 1, 0, 0), (52, 7, 5, 0)] ∧ P 107 5 = [(37, 0, 0, 0), (2, 1, 0, 0), (2, 4, 0, 0), (31, 98, 3, 340), (0, 1, 0, 0), (53, 7, 6, 0)] ∧ P 107 6 = [(0, 1, 0, 0), (51, 8, 0, 0)] ∧ P 107 7 = [(0, 0, 0, 0), (50, 8, 0, 0)] ∧ P 107 8 = [(65, 0, 0, 0)] := by refine ⟨?_, ?_, ?_, ?_, ?_, ?_, ?_, ?_, ?_⟩ <;> rfl
theorem pe108 : P 108 0 = [(37, 0, 0, 0), (31, 47, 1, 287), (3, 2, 0, 0), (37, 0, 0, 0), (2, 1, 0, 0), (31, 102, 2, 334), (59, 2, 1, 0)] ∧ P 108 1 = [(1, 1, 0, 0), (64, 0, 0, 0)] ∧ P 108 2 = [(2, 2, 0, 0), (58, 6, 3, 0)] ∧ P 108 3 = [(37, 0, 0, 0), (2, 1, 0, 0), (37, 0, 0, 0), (6, 12, 3, 19), (37, 0, 0, 0), (6, 12, 4, 22), (31, 107, 4, 346), (58, 5, 4, 0)] ∧ P 108 4 = [(0, 1, 0, 0), (51, 7, 0, 0)] ∧ P 108 5 = [(0, 0, 0, 0), (51, 7, 0, 0)] ∧ P 108 6 = [(1, 2, 0, 0), (50, 7, 0, 0)] ∧ P 108 7 = [(64, 0, 0, 0)] := by refine ⟨?_, ?_, ?_, ?_, ?_, ?_, ?_, ?_⟩ <;> rfl
theorem pe109 : P 109 0 = [(37, 0, 0, 0), (2, 1, 0, 0), (31, 102, 2, 334), (58, 2, 1, 0)] ∧ P 109 1 = [(2, 2, 0, 0), (0, 0, 0, 0), (0, 10, 0, 0), (31, 43, 3, 15), (59, 3, 2, 0)] ∧ P 109 2 = [(1, 1, 0, 0), (64, 0, 0, 0)] ∧ P 109 3 = [(0, 0, 0, 0), (3, 3, 0, 0), (50, 4, 0, 0)] ∧ P 109 4 = [(2, 3, 0, 0), (37, 0, 0, 0), (7, 12, 20, 186), (2, 1, 0, 0), (10, 0, 0, 0), (55, 9, 5, 0)] ∧ P 109 5 = [(37, 0, 0, 0), (7, 12, 24, 198), (2, 3, 0, 0), (2, 3, 0, 0), (59, 7, 6, 0)] ∧ P 109 6 = [(0, 1, 0, 0), (51, 8, 0, 0)] ∧ P 109 7 = [(0, 0, 0, 0), (50, 8, 0, 0)] ∧ P 109 8 = [(12, 0, 0, 0), (4, 3, 1, 0), (51, 4, 0, 0)] ∧ P 109 9 = [(0, 0, 0, 0), (3, 3, 0, 0), (50, 10, 0, 0)] ∧ P 109 10 = [(2, 3, 0, 0), (2, 2, 0, 0), (55, 26, 11, 0)] ∧ P 109 11 = [(0, 0, 0, 0), (3, 4, 0, 0), (50, 12, 0, 0)] ∧ P 109 12 = [(2, 4, 0, 0), (37, 0, 0, 0), (7, 12, 20, 186), (2, 1, 0, 0), (10, 0, 0, 0), (55, 14, 13, 0)] ∧ P 109 13 = [(37, 0, 0, 0), (7, 12, 25, 201), (2, 4, 0, 0), (0, 0, 0, 0), (12, 0, 0, 0), (4, 4, 1, 0), (51, 12, 0, 0)] ∧ P 109 14 = [(0, 0, 0, 0), (3, 4, 0, 0), (50, 15, 0, 0)] ∧ P 109 15 = [(2, 4, 0, 0), (37, 0, 0, 0), (7, 12, 20, 186), (2, 1, 0, 0), (10, 0, 0, 0), (55, 22, 16, 0)] ∧ P 109 16 = [(0, 0, 0, 0), (3, 5, 0, 0), (50, 17, 0, 0)] ∧ P 109 17 = [(2, 5, 0, 0), (37, 0, 0, 0), (6, 12, 2, 25), (55, 21, 18, 0)] ∧ P 109 18 = [(37, 0, 0, 0), (2, 1, 0, 0), (2, 4, 0, 0), (2, 5, 0, 0), (31, 99, 4, 343), (1, 1, 0, 0), (52, 20, 19, 0)] ∧ P 109 19 = [(37, 0, 0, 0), (7, 12, 25, 201), (37, 0, 0, 0), (2, 1, 0, 0), (2, 4, 0, 0), (2, 5, 0, 0), (31, 99, 4, 343), (29, 0, 0, 0), (10, 0, 0, 0), (37, 0, 0, 0), (7, 12, 24, 198), (2, 4, 0, 0), (10, 0, 0, 0), (17, 0, 0, 0), (12, 0, 0, 0), (50, 20, 0, 0)] ∧ P 109 20 = [(4, 5, 1, 0), (51, 17, 0, 0)] ∧ P 109 21 = [(4, 4, 1, 0), (51, 15, 0, 0)] ∧ P 109 22 = [(0, 0, 0, 0), (3, 4, 0, 0), (50, 23, 0, 0)] ∧ P 109 23 = [(2, 4, 0, 0), (37, 0, 0, 0), (7, 12, 20, 186), (2, 1, 0, 0), (10, 0, 0, 0), (55, 25, 24, 0)] ∧ P 109 24 = [(37, 0, 0, 0), (7, 12, 24, 198), (2, 4, 0, 0), (37, 0, 0, 0), (7, 12, 25, 201), (2, 4, 0, 0), (10, 0, 0, 0), (12, 0, 0, 0), (4, 4, 1, 0), (51, 23, 0, 0)] ∧ P 109 25 = [(4, 3, 1, 0), (51, 10, 0, 0)] ∧ P 109 26 = [(0, 0, 0, 0), (3, 3, 0, 0), (0, 0, 0, 0), (3, 4, 0, 0), (50, 27, 0, 0)] ∧ P 109 27 = [(2, 4, 0, 0), (37, 0, 0, 0), (7, 12, 20, 186), (2, 1, 0, 0), (10, 0, 0, 0), (55, 32, 28, 0)] ∧ P 109 28 = [(2, 3, 0, 0), (37, 0, 0, 0), (2, 1, 0, 0), (2, 4, 0, 0), (31, 98, 3, 340), (0, 1, 0, 0), (53, 30, 29, 0)] ∧ P 109 29 = [(37, 0, 0, 0), (7, 12, 24, 198), (2, 4, 0, 0), (10, 0, 0, 0), (51, 31, 0, 0)] ∧ P 109 30 = [(0, 0, 0, 0), (50, 31, 0, 0)] ∧ P 109 31 = [(17, 0, 0, 0), (3, 3, 0, 0), (4, 4, 1, 0), (51, 27, 0, 0)] ∧ P 109 32 = [(2, 3, 0, 0), (64, 0, 0, 0)] := by refine ⟨?_, ?_, ?_, ?_, ?_, ?_, ?_, ?_, ?_, ?_, ?_, ?_, ?_, ?_, ?_, ?_, ?_, ?_, ?_, ?_, ?_, ?_, ?_, ?_, ?_, ?_, ?_, ?_, ?_, ?_, ?_, ?_, ?_⟩ <;> rfl
theorem pe110 : P 110 0 = [(37, 0, 0, 0), (7, 12, 7, 69), (2, 1, 0, 0), (10, 0, 0, 0), (3, 3, 0, 0), (2, 3, 0, 0), (58, 3, 1, 0)] ∧ P 110 1 = [(37, 0, 0, 0), (7, 12, 29, 213), (0, 3, 0, 0), (2, 2, 0, 0), (19, 0, 0, 0), (0, 3, 0, 0), (17, 0, 0, 0), (2, 3, 0, 0), (18, 0, 0, 0), (10, 0, 0, 0), (63, 3, 2, 0)] ∧ P 110 2 = [(0, 0, 0, 0), (65, 0, 0, 0)] ∧ P 110 3 = [(37, 0, 0, 0), (7, 12, 29, 213), (0, 3, 0, 0), (2, 2, 0, 0), (19, 0, 0, 0), (2, 3, 0, 0), (17, 0, 0, 0), (29, 0, 0, 0), (10, 0, 0, 0), (0, 1, 0, 0), (17, 0, 0, 0), (12, 0, 0, 0), (37, 0, 0, 0), (7, 12, 26, 204), (2, 1, 0, 0), (2, 2, 0, 0), (12, 0, 0, 0), (37, 0, 0, 0), (7, 12, 27, 207), (2, 1, 0, 0), (0, 0, 0, 0), (14, 0, 0, 0), (2, 1, 0, 0), (59, 5, 4, 0)] ∧ P 110 4 = [(0, 1, 0, 0), (65, 0, 0, 0)] ∧ P 110 5 = [(37, 0, 0, 0), (7, 12, 26, 204), (37, 0, 0, 0), (7, 12, 8, 75), (2, 1, 0, 0), (10, 0, 0, 0), (10, 0, 0, 0), (3, 4, 0, 0), (37, 0, 0, 0), (7, 12, 6, 56), (2, 1, 0, 0), (10, 0, 0, 0), (0, 3, 0, 0), (22, 0, 0, 0), (3, 5, 0, 0), (37, 0, 0, 0), (7, 12, 27, 207), (2, 1, 0, 0), (37, 0, 0, 0), (0, 4, 0, 0), (2, 4, 0, 0), (2, 5, 0, 0), (31, 99, 4, 343), (1, 1, 0, 0), (53, 7, 6, 0)] ∧ P 110 6 = [(0, 1, 0, 0), (51, 8, 0, 0)] ∧ P 110 7 = [(0, 0, 0, 0), (50, 8, 0, 0)] ∧ P 110 8 = [(14, 0, 0, 0), (37, 0, 0, 0), (0, 4, 0, 0), (2, 4, 0, 0), (2, 5, 0, 0), (2, 2, 0, 0), (30, 100, 5, 328), (0, 1, 0, 0), (65, 0, 0, 0)] := by refine ⟨?_, ?_, ?_, ?_, ?_, ?_, ?_, ?_, ?_⟩ <;> rfl
theorem pe111 : P 111 0 = [(37, 0, 0, 0), (7, 12, 29, 213), (0, 3, 0, 0), (37, 0, 0, 0), (7, 12, 26, 204), (2, 1, 0, 0), (10, 0, 0, 0), (19, 0, 0, 0), (37, 0, 0, 0), (7, 12, 7, 69), (2, 1, 0, 0), (10, 0, 0, 0), (17, 0, 0, 0), (29, 0, 0, 0), (10, 0, 0, 0), (0, 1, 0, 0), (18, 0, 0, 0), (12, 0, 0, 0), (37, 0, 0, 0), (7, 12, 27, 207), (2, 1, 0, 0), (15, 0, 0, 0), (58, 2, 1, 0)] ∧ P 111 1 = [(37, 0, 0, 0), (0, 4, 0, 0), (37, 0, 0, 0), (7, 12, 26, 204), (37, 0, 0, 0), (7, 12, 8, 75), (2, 1, 0, 0), (10, 0, 0, 0), (10, 0, 0, 0), (37, 0, 0, 0), (7, 12, 6, 56), (2, 1, 0, 0), (10, 0, 0, 0), (0, 3, 0, 0), (22, 0, 0, 0), (1, 1, 0, 0), (30, 100, 5, 328), (50, 2, 0, 0)] ∧ P 111 2 = [(67, 0, 0, 0)] := by refine ⟨?_, ?_, ?_⟩ <;> rfl
theorem pe112 : P 112 0 = [(2, 1, 0, 0), (59, 5, 1, 0)] ∧ P 112 1 = [(2, 2, 0, 0), (59, 3, 2, 0)] ∧ P 112 2 = [(0, 0, 0, 0), (51, 4, 0, 0)] ∧ P 112 3 = [(1, 1, 0, 0), (50, 4, 0, 0)] ∧ P 112 4 = [(64, 0, 0, 0)] ∧ P 112 5 = [(37, 0, 0, 0), (0, 4, 0, 0), (37, 0, 0, 0), (7, 12, 26, 204), (37, 0, 0, 0), (7, 12, 8, 75), (2, 1, 0, 0), (10, 0, 0, 0), (10, 0, 0, 0), (37, 0, 0, 0), (7, 12, 6, 56), (2, 1, 0, 0), (10, 0, 0, 0), (0, 3, 0, 0), (22, 0, 0, 0), (31, 99, 4, 343), (3, 4, 0, 0), (2, 4, 0, 0), (1, 1, 0, 0), (52, 10, 6, 0)] ∧ P 112 6 = [(2, 2, 0, 0), (2, 4, 0, 0), (56, 8, 7, 0)] ∧ P 112 7 = [(2, 4, 0, 0), (51, 9, 0, 0)] ∧ P 112 8 = [(1, 1, 0, 0), (50, 9, 0, 0)] ∧ P 112 9 = [(64, 0, 0, 0)] ∧ P 112 10 = [(37, 0, 0, 0), (7, 12, 28, 210), (2, 1, 0, 0), (0, 1, 0, 0), (18, 0, 0, 0), (10, 0, 0, 0), (2, 3, 0, 0), (55, 12, 11, 0)] ∧ P 112 11 = [(37, 0, 0, 0), (7, 12, 28, 210), (2, 1, 0, 0), (0, 1, 0, 0), (18, 0, 0, 0), (10, 0, 0, 0), (51, 13, 0, 0)] ∧ P 112 12 = [(2, 3, 0, 0), (0, 1, 0, 0), (18, 0, 0, 0), (50, 13, 0, 0)] ∧ P 112 13 = [(3, 5, 0, 0), (2, 2, 0, 0), (2, 5, 0, 0), (56, 15, 14, 0)] ∧ P 112 14 = [(2, 2, 0, 0), (51, 16, 0, 0)] ∧ P 112 15 = [(1, 1, 0, 0), (50, 16, 0, 0)] ∧ P 112 16 = [(64, 0, 0, 0)] := by refine ⟨?_, ?_, ?_, ?_, ?_, ?_, ?_, ?_, ?_, ?_, ?_, ?_, ?_, ?_, ?_, ?_, ?_⟩ <;> rfl
theorem pe113 : P 113 0 = [(0, 0, 0, 0), (3, 2, 0, 0), (50, 1, 0, 0)] ∧ P 113 1 = [(2, 2, 0, 0), (0, 24, 0, 0), (55, 3, 2, 0)] ∧ P 113 2 = [(37, 0, 0, 0), (7, 12, 29, 213), (2, 2, 0, 0), (0, 0, 0, 0), (12, 0, 0, 0), (4, 2, 1, 0), (51, 1, 0, 0)] ∧ P 113 3 = [(0, 0, 0, 0), (3, 2, 0, 0), (50, 4, 0, 0)] ∧ P 113 4 = [(2, 2, 0, 0), (0, 8, 0, 0), (55, 9, 5, 0)] ∧ P 113 5 = [(0, 0, 0, 0), (3, 3, 0, 0), (50, 6, 0, 0)] ∧ P 113 6 = [(2, 3, 0, 0), (0, 4, 0, 0), (55, 8, 7, 0)] ∧ P 113 7 = [(37, 0, 0, 0), (0, 4, 0, 0), (2, 2, 0, 0), (2, 3, 0, 0), (1, 1, 0, 0), (30, 100, 5, 328), (4, 3, 1, 0), (51, 6, 0, 0)] ∧ P 113 8 = [(4, 2, 1, 0), (51, 4, 0, 0)] ∧ P 113 9 = [(0, 0, 0, 0), (3, 2, 0, 0), (0, 0, 0, 0), (3, 3, 0, 0), (50, 10, 0, 0)] ∧ P 113 10 = [(2, 2, 0, 0), (60, 32, 11, 0)] ∧ P 113 11 = [(2, 2, 0, 0), (37, 0, 0, 0), (6, 12, 14, 50), (55, 32, 12, 0)] ∧ P 113 12 = [(37, 0, 0, 0), (2, 2, 0, 0), (2, 3, 0, 0), (2, 1, 0, 0), (31, 112, 4, 349), (3, 4, 0, 0), (2, 4, 0, 0), (1, 1, 0, 0), (53, 19, 13, 0)] ∧ P 113 13 = [(5, 2, 1, 0), (2, 2, 0, 0), (61, 15, 14, 0)] ∧ P 113 14 = [(0, 0, 0, 0), (64, 0, 0, 0)] ∧ P 113 15 = [(37, 0, 0, 0), (2, 2, 0, 0), (30, 111, 2, 352), (37, 0, 0, 0), (2, 2, 0, 0), (31, 114, 2, 355), (58, 17, 16, 0)] ∧ P 113 16 = [(0, 8, 0, 0), (51, 18, 0, 0)] ∧ P 113 17 = [(37, 0, 0, 0), (7, 12, 26, 204), (2, 2, 0, 0), (10, 0, 0, 0), (0, 1, 0, 0), (17, 0, 0, 0), (50, 18, 0, 0)] ∧ P 113 18 = [(3, 3, 0, 0), (51, 10, 0, 0)] ∧ P 113 19 = [(37, 0, 0, 0), (6, 12, 40, 358), (0, 50000, 0, 361), (53, 21, 20, 0)] ∧ P 113 20 = [(1, 1, 0, 0), (64, 0, 0, 0)] ∧ P 113 21 = [(37, 0, 0, 0), (27, 0, 0, 0), (6, 12, 40, 358), (0, 1, 0, 0), (17, 0, 0, 0), (8, 12, 40, 358), (37, 0, 0, 0), (2, 2, 0, 0), (2, 4, 0, 0), (31, 110, 3, 362), (59, 26, 22, 0)] ∧ P 113 22 = [(37, 0, 0, 0), (2, 2, 0, 0), (31, 114, 2, 355), (58, 24, 23, 0)] ∧ P 113 23 = [(0, 8, 0, 0), (51, 25, 0, 0)] ∧ P 113 24 = [(2, 4, 0, 0), (0, 1, 0, 0), (17, 0, 0, 0), (50, 25, 0, 0)] ∧ P 113 25 = [(3, 3, 0, 0), (51, 10, 0, 0)] ∧ P 113 26 = [(37, 0, 0, 0), (7, 12, 28, 210), (2, 2, 0, 0), (2, 2, 0, 0), (59, 28, 27, 0)] ∧ P 113 27 = [(0, 1, 0, 0), (51, 31, 0, 0)] ∧ P 113 28 = [(2, 4, 0, 0), (37, 0, 0, 0), (7, 12, 28, 210), (2, 2, 0, 0), (0, 1, 0, 0), (18, 0, 0, 0), (10, 0, 0, 0), (53, 30, 29, 0)] ∧ P 113 29 = [(2, 4, 0, 0), (0, 1, 0, 0), (17, 0, 0, 0), (51, 31, 0, 0)] ∧ P 113 30 = [(37, 0, 0, 0), (7, 12, 28, 210), (2, 2, 0, 0), (0, 1, 0, 0), (18, 0, 0, 0), (10, 0, 0, 0), (50, 31, 0, 0)] ∧ P 113 31 = [(12, 0, 0, 0), (4, 2, 1, 0), (0, 0, 0, 0), (3, 3, 0, 0), (51, 10, 0, 0)] ∧ P 113 32 = [(0, 1, 0, 0), (64, 0, 0, 0)] := by refine ⟨?_, ?_, ?_, ?_, ?_, ?_, ?_, ?_, ?_, ?_, ?_, ?_, ?_, ?_, ?_, ?_, ?_, ?_, ?_, ?_, ?_, ?_, ?_, ?_, ?_, ?_, ?_, ?_, ?_, ?_, ?_, ?_, ?_⟩ <;> rfl
theorem pe114 : P 114 0 = [(2, 1, 0, 0), (63, 3, 1, 0)] ∧ P 114 1 = [(37, 0, 0, 0), (0, 4, 0, 0), (37, 0, 0, 0), (7, 12, 26, 204), (37, 0, 0, 0), (7, 12, 8, 75), (2, 1, 0, 0), (10, 0, 0, 0), (10, 0, 0, 0), (37, 0, 0, 0), (7, 12, 6, 56), (2, 1, 0, 0), (10, 0, 0, 0), (0, 3, 0, 0), (22, 0, 0, 0), (31, 99, 4, 343), (1, 1, 0, 0), (52, 3, 2, 0)] ∧ P 114 2 = [(0, 1, 0, 0), (51, 4, 0, 0)] ∧ P 114 3 = [(0, 0, 0, 0), (50, 4, 0, 0)] ∧ P 114 4 = [(65, 0, 0, 0)] := by refine ⟨?_, ?_, ?_, ?_, ?_⟩ <;> rfl
theorem pe115 : P 115 0 = [(37, 0, 0, 0), (0, 0, 0, 0), (8, 12, 40, 358), (0, 1, 0, 0), (3, 1, 0, 0), (50, 1, 0, 0)] ∧ P 115 1 = [(2, 1, 0, 0), (0, 8, 0, 0), (56, 16, 2, 0)] ∧ P 115 2 = [(37, 0, 0, 0), (2, 1, 0, 0), (31, 113, 2, 365), (3, 2, 0, 0), (2, 2, 0, 0), (1, 1, 0, 0), (53, 4, 3, 0)] ∧ P 115 3 = [(1, 3, 0, 0), (64, 0, 0, 0)] ∧ P 115 4 = [(2, 2, 0, 0), (59, 6, 5, 0)] ∧ P 115 5 = [(51, 15, 0, 0)] ∧ P 115 6 = [(37, 0, 0, 0), (7, 12, 20, 186), (0, 4, 0, 0), (37, 0, 0, 0), (7, 12, 28, 210), (37, 0, 0, 0), (6, 12, 14, 50), (0, 1, 0, 0), (18, 0, 0, 0), (10, 0, 0, 0), (12, 0, 0, 0), (0, 0, 0, 0), (3, 3, 0, 0), (50, 7, 0, 0)] ∧ P 115 7 = [(2, 3, 0, 0), (37, 0, 0, 0), (7, 12, 20, 186), (0, 4, 0, 0), (10, 0, 0, 0), (55, 14, 8, 0)] ∧ P 115 8 = [(37, 0, 0, 0), (7, 12, 21, 189), (0, 800, 0, 0), (2, 3, 0, 0), (17, 0, 0, 0), (37, 0, 0, 0), (7, 12, 29, 213), (0, 3, 0, 0), (2, 3, 0, 0), (19, 0, 0, 0), (0, 1, 0, 0), (17, 0, 0, 0), (10, 0, 0, 0), (63, 10, 9, 0)] ∧ P 115 9 = [(0, 1, 0, 0), (51, 13, 0, 0)] ∧ P 115 10 = [(37, 0, 0, 0), (7, 12, 29, 213), (0, 3, 0, 0), (2, 3, 0, 0), (19, 0, 0, 0), (0, 2, 0, 0), (17, 0, 0, 0), (10, 0, 0, 0), (63, 12, 11, 0)] ∧ P 115 11 = [(0, 2, 0, 0), (51, 13, 0, 0)] ∧ P 115 12 = [(0, 0, 0, 0), (50, 13, 0, 0)] ∧ P 115 13 = [(12, 0, 0, 0), (4, 3, 1, 0), (51, 7, 0, 0)] ∧ P 115 14 = [(37, 0, 0, 0), (0, 4, 0, 0), (0, 1, 0, 0), (30, 103, 3, 337), (37, 0, 0, 0), (7, 12, 20, 186), (0, 1, 0, 0), (10, 0, 0, 0), (64, 0, 0, 0)] ∧ P 115 15 = [(4, 1, 1, 0), (51, 1, 0, 0)] ∧ P 115 16 = [(1, 2, 0, 0), (64, 0, 0, 0)] := by refine ⟨?_, ?_, ?_, ?_, ?_, ?_, ?_, ?_, ?_, ?_, ?_, ?_, ?_, ?_, ?_, ?_, ?_⟩ <;> rfl
theorem pe116 : P 116 0 = [(37, 0, 0, 0), (6, 12, 40, 358), (64, 0, 0, 0)] := rfl
theorem pe117 : P 117 0 = [(37, 0, 0, 0), (6, 12, 41, 368), (37, 0, 0, 0), (6, 12, 43, 371), (55, 2, 1, 0)] ∧ P 117 1 = [(37, 0, 0, 0), (7, 12, 1, 1), (37, 0, 0, 0), (6, 12, 41, 368), (11, 0, 0, 0), (0, 255, 0, 0), (22, 0, 0, 0), (51, 3, 0, 0)] ∧ P 117 2 = [(1, 1, 0, 0), (50, 3, 0, 0)] ∧ P 117 3 = [(64, 0, 0, 0)] := by refine ⟨?_, ?_, ?_, ?_⟩ <;> rfl
theorem pe118 : P 118 0 = [(2, 0, 0, 0), (0, 48, 0, 0), (54, 3, 1, 0)] ∧ P 118 1 = [(2, 0, 0, 0), (0, 57, 0, 0), (56, 3, 2, 0)] ∧ P 118 2 = [(0, 1, 0, 0), (51, 4, 0, 0)] ∧ P 118 3 = [(0, 0, 0, 0), (50, 4, 0, 0)] ∧ P 118 4 = [(65, 0, 0, 0)] := by refine ⟨?_, ?_, ?_, ?_, ?_⟩ <;> rfl
theorem pe119 : P 119 0 = [(37, 0, 0, 0), (2, 1, 0, 0), (8, 12, 42, 216), (0, 0, 0, 0), (65, 0, 0, 0)] := rfl
theorem pe120 : P 120 0 = [(2, 0, 0, 0), (0, 63, 0, 0), (53, 2, 1, 0)] ∧ P 120 1 = [(0, 0, 0, 0), (51, 7, 0, 0)] ∧ P 120 2 = [(2, 0, 0, 0), (0, 43, 0, 0), (53, 4, 3, 0)] ∧ P 120 3 = [(0, 1, 0, 0), (51, 7, 0, 0)] ∧ P 120 4 = [(2, 0, 0, 0), (0, 45, 0, 0), (53, 6, 5, 0)] ∧ P 120 5 = [(0, 2, 0, 0), (51, 7, 0, 0)] ∧ P 120 6 = [(1, 1, 0, 0), (50, 7, 0, 0)] ∧ P 120 7 = [(64, 0, 0, 0)] := by refine ⟨?_, ?_, ?_, ?_, ?_, ?_, ?_, ?_⟩ <;> rfl
theorem pe121 : P 121 0 = [(37, 0, 0, 0), (27, 0, 0, 0), (6, 12, 41, 368), (0, 1, 0, 0), (17, 0, 0, 0), (8, 12, 41, 368), (37, 0, 0, 0), (6, 12, 41, 368), (3, 3, 0, 0), (37, 0, 0, 0), (31, 117, 1, 374), (31, 118, 1, 377), (59, 2, 1, 0)] ∧ P 121 1 = [(37, 0, 0, 0), (37, 0, 0, 0), (6, 12, 41, 368), (31, 119, 2, 380), (65, 0, 0, 0)] ∧ P 121 2 = [(37, 0, 0, 0), (31, 117, 1, 374), (0, 48, 0, 0), (18, 0, 0, 0), (3, 4, 0, 0), (37, 0, 0, 0), (27, 0, 0, 0), (6, 12, 41, 368), (0, 1, 0, 0), (17, 0, 0, 0), (8, 12, 41, 368), (2, 4, 0, 0), (63, 5, 3, 0)] ∧ P 121 3 = [(37, 0, 0, 0), (31, 117, 1, 374), (31, 118, 1, 377), (58, 5, 4, 0)] ∧ P 121 4 = [(0, 10, 0, 0), (2, 4, 0, 0), (19, 0, 0, 0), (37, 0, 0, 0), (31, 117, 1, 374), (17, 0, 0, 0), (0, 48, 0, 0), (18, 0, 0, 0), (3, 4, 0, 0), (37, 0, 0, 0), (27, 0, 0, 0), (6, 12, 41, 368), (0, 1, 0, 0), (17, 0, 0, 0), (8, 12, 41, 368), (50, 5, 0, 0)] ∧ P 121 5 = [(37, 0, 0, 0), (0, 4, 0, 0), (2, 1, 0, 0), (2, 2, 0, 0), (2, 4, 0, 0), (30, 100, 5, 328), (37, 0, 0, 0), (7, 12, 30, 219), (37, 0, 0, 0), (6, 12, 46, 383), (2, 4, 0, 0), (12, 0, 0, 0), (37, 0, 0, 0), (7, 12, 31, 222), (37, 0, 0, 0), (6, 12, 46, 383), (2, 3, 0, 0), (12, 0, 0, 0), (37, 0, 0, 0), (27, 0, 0, 0), (6, 12, 46, 383), (0, 1, 0, 0), (17, 0, 0, 0), (8, 12, 46, 383), (0, 1, 0, 0), (65, 0, 0, 0)] := by refine ⟨?_, ?_, ?_, ?_, ?_, ?_⟩ <;> rfl
theorem pe122 : P 122 0 = [(37, 0, 0, 0), (31, 117, 1, 374), (31, 120, 1, 386), (3, 2, 0, 0), (2, 2, 0, 0), (1, 1, 0, 0), (52, 2, 1, 0)] ∧ P 122 1 = [(2, 1, 0, 0), (0, 40, 0, 0), (53, 3, 2, 0)] ∧ P 122 2 = [(37, 0, 0, 0), (37, 0, 0, 0), (6, 12, 41, 368), (31, 119, 2, 380), (65, 0, 0, 0)] ∧ P 122 3 = [(37, 0, 0, 0), (7, 12, 21, 189), (0, 800, 0, 0), (2, 1, 0, 0), (17, 0, 0, 0), (2, 2, 0, 0), (12, 0, 0, 0), (0, 0, 0, 0), (3, 3, 0, 0), (50, 4, 0, 0)] ∧ P 122 4 = [(2, 3, 0, 0), (0, 4, 0, 0), (55, 6, 5, 0)] ∧ P 122 5 = [(37, 0, 0, 0), (0, 4, 0, 0), (2, 1, 0, 0), (2, 3, 0, 0), (1, 1, 0, 0), (30, 100, 5, 328), (4, 3, 1, 0), (51, 4, 0, 0)] ∧ P 122 6 = [(37, 0, 0, 0), (27, 0, 0, 0), (6, 12, 41, 368), (0, 1, 0, 0), (17, 0, 0, 0), (8, 12, 41, 368), (0, 0, 0, 0), (3, 3, 0, 0), (50, 7, 0, 0)] ∧ P 122 7 = [(37, 0, 0, 0), (31, 117, 1, 374), (0, 97, 0, 0), (18, 0, 0, 0), (2, 3, 0, 0), (37, 0, 0, 0), (6, 12, 2, 25), (0, 1, 0, 0), (18, 0, 0, 0), (31, 43, 3, 15), (58, 11, 8, 0)] ∧ P 122 8 = [(37, 0, 0, 0), (31, 117, 1, 374), (0, 97, 0, 0), (18, 0, 0, 0), (3, 4, 0, 0), (37, 0, 0, 0), (2, 1, 0, 0), (2, 4, 0, 0), (31, 121, 3, 389), (59, 10, 9, 0)] ∧ P 122 9 = [(0, 0, 0, 0), (65, 0, 0, 0)] ∧ P 122 10 = [(2, 4, 0, 0), (0, 1, 0, 0), (17, 0, 0, 0), (3, 3, 0, 0), (51, 7, 0, 0)] ∧ P 122 11 = [(37, 0, 0, 0), (31, 117, 1, 374), (0, 59, 0, 0), (52, 13, 12, 0)] ∧ P 122 12 = [(37, 0, 0, 0), (37, 0, 0, 0), (6, 12, 41, 368), (31, 119, 2, 380), (65, 0, 0, 0)] ∧ P 122 13 = [(37, 0, 0, 0), (27, 0, 0, 0), (6, 12, 41, 368), (0, 1, 0, 0), (17, 0, 0, 0), (8, 12, 41, 368), (0, 1, 0, 0), (65, 0, 0, 0)] := by refine ⟨?_, ?_, ?_, ?_, ?_, ?_, ?_, ?_, ?_, ?_, ?_, ?_, ?_, ?_⟩ <;> rfl
theorem pe123 : P 123 0 = [(37, 0, 0, 0), (0, 0, 0, 0), (8, 12, 41, 368), (37, 0, 0, 0), (1, 1, 0, 0), (8, 12, 42, 216), (37, 0, 0, 0), (0, 0, 0, 0), (8, 12, 46, 383), (0, 0, 0, 0), (3, 1, 0, 0), (50, 1, 0, 0)] ∧ P 123 1 = [(2, 1, 0, 0), (58, 3, 2, 0)] ∧ P 123 2 = [(37, 0, 0, 0), (6, 12, 41, 368), (37, 0, 0, 0), (6, 12, 43, 371), (55, 6, 3, 0)] ∧ P 123 3 = [(37, 0, 0, 0), (2, 1, 0, 0), (31, 122, 2, 392), (59, 5, 4, 0)] ∧ P 123 4 = [(0, 0, 0, 0), (65, 0, 0, 0)] ∧ P 123 5 = [(4, 1, 1, 0), (51, 1, 0, 0)] ∧ P 123 6 = [(37, 0, 0, 0), (7, 12, 20, 186), (0, 4, 0, 0), (2, 1, 0, 0), (12, 0, 0, 0), (0, 0, 0, 0), (3, 2, 0, 0), (50, 7, 0, 0)] ∧ P 123 7 = [(2, 2, 0, 0), (37, 0, 0, 0), (6, 12, 46, 383), (55, 11, 8, 0)] ∧ P 123 8 = [(37, 0, 0, 0), (7, 12, 30, 219), (2, 2, 0, 0), (10, 0, 0, 0), (2, 1, 0, 0), (54, 10, 9, 0)] ∧ P 123 9 = [(37, 0, 0, 0), (37, 0, 0, 0), (7, 12, 31, 222), (2, 2, 0, 0), (10, 0, 0, 0), (31, 119, 2, 380), (65, 0, 0, 0)] ∧ P 123 10 = [(4, 2, 1, 0), (51, 7, 0, 0)] ∧ P 123 11 = [(0, 1, 0, 0), (65, 0, 0, 0)] := by refine ⟨?_, ?_, ?_, ?_, ?_, ?_, ?_, ?_, ?_, ?_, ?_, ?_⟩ <;> rfl
theorem pe124 : P 124 0 = [(37, 0, 0, 0), (37, 0, 0, 0), (6, 12, 1, 7), (8, 12, 43, 371), (37, 0, 0, 0), (31, 123, 1, 395), (3, 1, 0, 0), (37, 0, 0, 0), (0, 0, 0, 0), (8, 12, 1, 7), (2, 1, 0, 0), (59, 2, 1, 0)] ∧ P 124 1 = [(1, 1, 0, 0), (64, 0, 0, 0)] ∧ P 124 2 = [(37, 0, 0, 0), (0, 4, 0, 0), (0, 2, 0, 0), (30, 103, 3, 337), (37, 0, 0, 0), (7, 12, 20, 186), (0, 2, 0, 0), (10, 0, 0, 0), (64, 0, 0, 0)] := by refine ⟨?_, ?_, ?_⟩ <;> rfl
theorem pe125 : P 125 0 = [(37, 0, 0, 0), (6, 12, 42, 216), (64, 0, 0, 0)] := rfl
theorem pe126 : P 126 0 = [(0, 0, 0, 0), (3, 1, 0, 0), (50, 1, 0, 0)] ∧ P 126 1 = [(2, 1, 0, 0), (0, 40401, 0, 225), (55, 3, 2, 0)] ∧ P 126 2 = [(37, 0, 0, 0), (7, 12, 36, 238), (2, 1, 0, 0), (1, 1, 0, 0), (12, 0, 0, 0), (4, 1, 1, 0), (51, 1, 0, 0)] ∧ P 126 3 = [(37, 0, 0, 0), (0, 0, 0, 0), (8, 12, 52, 398), (37, 0, 0, 0), (0, 0, 0, 0), (0, 0, 0, 0), (1, 1, 0, 0), (1, 1, 0, 0), (31, 127, 5, 401), (28, 0, 0, 0), (67, 0, 0, 0)] := by refine ⟨?_, ?_, ?_, ?_⟩ <;> rfl
theorem pe127 : P 127 0 = [(0, 201, 0, 0), (2, 1, 0, 0), (0, 1, 0, 0), (17, 0, 0, 0), (19, 0, 0, 0), (2, 2, 0, 0), (17, 0, 0, 0), (0, 1, 0, 0), (17, 0, 0, 0), (3, 5, 0, 0), (37, 0, 0, 0), (7, 12, 36, 238), (2, 5, 0, 0), (10, 0, 0, 0), (1, 1, 0, 0), (52, 2, 1, 0)] ∧ P 127 1 = [(37, 0, 0, 0), (7, 12, 36, 238), (2, 5, 0, 0), (10, 0, 0, 0), (64, 0, 0, 0)] ∧ P 127 2 = [(37, 0, 0, 0), (7, 12, 36, 238), (2, 5, 0, 0), (37, 0, 0, 0), (6, 12, 52, 398), (12, 0, 0, 0), (37, 0, 0, 0), (7, 12, 32, 226), (37, 0, 0, 0), (6, 12, 52, 398), (2, 1, 0, 0), (12, 0, 0, 0), (37, 0, 0, 0), (7, 12, 33, 229), (37, 0, 0, 0), (6, 12, 52, 398), (2, 2, 0, 0), (12, 0, 0, 0), (37, 0, 0, 0), (7, 12, 34, 232), (37, 0, 0, 0), (6, 12, 52, 398), (2, 3, 0, 0), (12, 0, 0, 0), (37, 0, 0, 0), (7, 12, 35, 235), (37, 0, 0, 0), (6, 12, 52, 398), (2, 4, 0, 0), (12, 0, 0, 0), (37, 0, 0, 0), (27, 0, 0, 0), (6, 12, 52, 398), (0, 1, 0, 0), (17, 0, 0, 0), (8, 12, 52, 398), (37, 0, 0, 0), (6, 12, 52, 398), (0, 1, 0, 0), (18, 0, 0, 0), (64, 0, 0, 0)] := by refine ⟨?_, ?_, ?_⟩ <;> rfl
theorem pe128 : P 128 0 = [(2, 2, 0, 0), (1, 1, 0, 0), (52, 3, 1, 0)] ∧ P 128 1 = [(37, 0, 0, 0), (2, 1, 0, 0), (2, 2, 0, 0), (31, 98, 3, 340), (0, 1, 0, 0), (53, 3, 2, 0)] ∧ P 128 2 = [(0, 1, 0, 0), (51, 4, 0, 0)] ∧ P 128 3 = [(0, 0, 0, 0), (50, 4, 0, 0)] ∧ P 128 4 = [(65, 0, 0, 0)] := by refine ⟨?_, ?_, ?_, ?_, ?_⟩ <;> rfl
theorem pe129 : P 129 0 = [(37, 0, 0, 0), (30, 126, 1, 405), (0, 0, 0, 0), (3, 3, 0, 0), (50, 1, 0, 0)] ∧ P 129 1 = [(2, 3, 0, 0), (37, 0, 0, 0), (6, 12, 52, 398), (55, 8, 2, 0)] ∧ P 129 2 = [(37, 0, 0, 0), (2, 1, 0, 0), (37, 0, 0, 0), (7, 12, 32, 226), (2, 3, 0, 0), (10, 0, 0, 0), (31, 128, 3, 408), (37, 0, 0, 0), (2, 2, 0, 0), (37, 0, 0, 0), (7, 12, 33, 229), (2, 3, 0, 0), (10, 0, 0, 0), (31, 128, 3, 408), (52, 4, 3, 0)] ∧ P 129 3 = [(2, 3, 0, 0), (64, 0, 0, 0)] ∧ P 129 4 = [(0, 0, 0, 0), (3, 4, 0, 0), (50, 5, 0, 0)] ∧ P 129 5 = [(2, 4, 0, 0), (37, 0, 0, 0), (6, 12, 2, 25), (55, 7, 6, 0)] ∧ P 129 6 = [(37, 0, 0, 0), (37, 0, 0, 0), (2, 1, 0, 0), (37, 0, 0, 0), (7, 12, 32, 226), (2, 3, 0, 0), (10, 0, 0, 0), (2, 4, 0, 0), (31, 99, 4, 343), (37, 0, 0, 0), (2, 2, 0, 0), (37, 0, 0, 0), (7, 12, 33, 229), (2, 3, 0, 0), (10, 0, 0, 0), (2, 4, 0, 0), (31, 99, 4, 343), (2, 3, 0, 0), (2, 4, 0, 0), (31, 127, 5, 401), (3, 5, 0, 0), (4, 4, 1, 0), (51, 5, 0, 0)] ∧ P 129 7 = [(4, 3, 1, 0), (51, 1, 0, 0)] ∧ P 129 8 = [(1, 1, 0, 0), (64, 0, 0, 0)] := by refine ⟨?_, ?_, ?_, ?_, ?_, ?_, ?_, ?_, ?_⟩ <;> rfl
theorem pe130 : P 130 0 = [(37, 0, 0, 0), (2, 1, 0, 0), (31, 102, 2, 334), (58, 3, 1, 0)] ∧ P 130 1 = [(37, 0, 0, 0), (2, 2, 0, 0), (31, 102, 2, 334), (58, 3, 2, 0)] ∧ P 130 2 = [(0, 1, 0, 0), (51, 4, 0, 0)] ∧ P 130 3 = [(0, 0, 0, 0), (50, 4, 0, 0)] ∧ P 130 4 = [(65, 0, 0, 0)] := by refine ⟨?_, ?_, ?_, ?_, ?_⟩ <;> rfl
theorem pe131 : P 131 0 = [(37, 0, 0, 0), (2, 1, 0, 0), (2, 2, 0, 0), (31, 130, 3, 411), (59, 2, 1, 0)] ∧ P 131 1 = [(1, 1, 0, 0), (64, 0, 0, 0)] ∧ P 131 2 = [(37, 0, 0, 0), (2, 1, 0, 0), (2, 2, 0, 0), (31, 129, 3, 414), (3, 3, 0, 0), (2, 3, 0, 0), (1, 1, 0, 0), (53, 4, 3, 0)] ∧ P 131 3 = [(1, 2, 0, 0), (64, 0, 0, 0)] ∧ P 131 4 = [(0, 0, 0, 0), (3, 4, 0, 0), (2, 3, 0, 0), (3, 5, 0, 0), (50, 5, 0, 0)] ∧ P 131 5 = [(37, 0, 0, 0), (7, 12, 34, 232), (2, 5, 0, 0), (10, 0, 0, 0), (1, 1, 0, 0), (52, 7, 6, 0)] ∧ P 131 6 = [(4, 4, 1, 0), (37, 0, 0, 0), (7, 12, 34, 232), (2, 5, 0, 0), (10, 0, 0, 0), (3, 5, 0, 0), (51, 5, 0, 0)] ∧ P 131 7 = [(37, 0, 0, 0), (2, 4, 0, 0), (8, 12, 62, 307), (2, 3, 0, 0), (3, 5, 0, 0), (50, 8, 0, 0)] ∧ P 131 8 = [(37, 0, 0, 0), (7, 12, 34, 232), (2, 5, 0, 0), (10, 0, 0, 0), (1, 1, 0, 0), (52, 10, 9, 0)] ∧ P 131 9 = [(5, 4, 1, 0), (37, 0, 0, 0), (7, 12, 45, 265), (2, 4, 0, 0), (0, 97, 0, 0), (37, 0, 0, 0), (7, 12, 35, 235), (2, 5, 0, 0), (10, 0, 0, 0), (17, 0, 0, 0), (26, 0, 0, 0), (13, 0, 0, 0), (37, 0, 0, 0), (7, 12, 34, 232), (2, 5, 0, 0), (10, 0, 0, 0), (3, 5, 0, 0), (51, 8, 0, 0)] ∧ P 131 10 = [(37, 0, 0, 0), (6, 12, 62, 307), (64, 0, 0, 0)] := by refine ⟨?_, ?_, ?_, ?_, ?_, ?_, ?_, ?_, ?_, ?_, ?_⟩ <;> rfl
theorem pe132 : P 132 0 = [(37, 0, 0, 0), (2, 1, 0, 0), (2, 2, 0, 0), (31, 130, 3, 411), (58, 2, 1, 0)] ∧ P 132 1 = [(2, 3, 0, 0), (0, 0, 0, 0), (0, 2, 0, 0), (31, 43, 3, 15), (59, 3, 2, 0)] ∧ P 132 2 = [(1, 1, 0, 0), (64, 0, 0, 0)] ∧ P 132 3 = [(37, 0, 0, 0), (30, 126, 1, 405), (0, 0, 0, 0), (3, 4, 0, 0), (50, 4, 0, 0)] ∧ P 132 4 = [(2, 4, 0, 0), (37, 0, 0, 0), (6, 12, 52, 398), (55, 26, 5, 0)] ∧ P 132 5 = [(37, 0, 0, 0), (6, 12, 52, 398), (0, 200, 0, 0), (57, 7, 6, 0)] ∧ P 132 6 = [(1, 3, 0, 0), (64, 0, 0, 0)] ∧ P 132 7 = [(37, 0, 0, 0), (2, 1, 0, 0), (37, 0, 0, 0), (7, 12, 32, 226), (2, 4, 0, 0), (10, 0, 0, 0), (31, 128, 3, 408), (3, 5, 0, 0), (37, 0, 0, 0), (2, 2, 0, 0), (37, 0, 0, 0), (7, 12, 33, 229), (2, 4, 0, 0), (10, 0, 0, 0), (31, 128, 3, 408), (3, 6, 0, 0), (37, 0, 0, 0), (7, 12, 21, 189), (0, 800, 0, 0), (2, 4, 0, 0), (17, 0, 0, 0), (2, 3, 0, 0), (59, 11, 8, 0)] ∧ P 132 8 = [(2, 5, 0, 0), (58, 18, 9, 0)] ∧ P 132 9 = [(2, 6, 0, 0), (58, 18, 10, 0)] ∧ P 132 10 = [(51, 17, 0, 0)] ∧ P 132 11 = [(2, 3, 0, 0), (0, 1, 0, 0), (53, 15, 12, 0)] ∧ P 132 12 = [(2, 5, 0, 0), (59, 17, 13, 0)] ∧ P 132 13 = [(2, 6, 0, 0), (58, 18, 14, 0)] ∧ P 132 14 = [(51, 17, 0, 0)] ∧ P 132 15 = [(2, 5, 0, 0), (58, 18, 16, 0)] ∧ P 132 16 = [(2, 6, 0, 0), (59, 18, 17, 0)] ∧ P 132 17 = [(0, 1, 0, 0), (51, 19, 0, 0)] ∧ P 132 18 = [(0, 2, 0, 0), (50, 19, 0, 0)] ∧ P 132 19 = [(12, 0, 0, 0), (0, 0, 0, 0), (3, 7, 0, 0), (50, 20, 0, 0)] ∧ P 132 20 = [(2, 7, 0, 0), (0, 4, 0, 0), (55, 25, 21, 0)] ∧ P 132 21 = [(37, 0, 0, 0), (0, 4, 0, 0), (2, 4, 0, 0), (2, 7, 0, 0), (2, 7, 0, 0), (37, 0, 0, 0), (6, 12, 2, 25), (55, 23, 22, 0)] ∧ P 132 22 = [(37, 0, 0, 0), (37, 0, 0, 0), (2, 1, 0, 0), (37, 0, 0, 0), (7, 12, 32, 226), (2, 4, 0, 0), (10, 0, 0, 0), (2, 7, 0, 0), (31, 99, 4, 343), (37, 0, 0, 0), (2, 2, 0, 0), (37, 0, 0, 0), (7, 12, 33, 229), (2, 4, 0, 0), (10, 0, 0, 0), (2, 7, 0, 0), (31, 99, 4, 343), (2, 4, 0, 0), (2, 7, 0, 0), (31, 127, 5, 401), (51, 24, 0, 0)] ∧ P 132 23 = [(1, 1, 0, 0), (50, 24, 0, 0)] ∧ P 132 24 = [(30, 100, 5, 328), (4, 7, 1, 0), (51, 20, 0, 0)] ∧ P 132 25 = [(4, 4, 1, 0), (51, 4, 0, 0)] ∧ P 132 26 = [(37, 0, 0, 0), (7, 12, 20, 186), (0, 4, 0, 0), (37, 0, 0, 0), (6, 12, 52, 398), (12, 0, 0, 0), (37, 0, 0, 0), (0, 4, 0, 0), (0, 3, 0, 0), (30, 103, 3, 337), (37, 0, 0, 0), (7, 12, 20, 186), (0, 3, 0, 0), (10, 0, 0, 0), (64, 0, 0, 0)] := by refine ⟨?_, ?_, ?_, ?_, ?_, ?_, ?_, ?_, ?_, ?_, ?_, ?_, ?_, ?_, ?_, ?_, ?_, ?_, ?_, ?_, ?_, ?_, ?_, ?_, ?_, ?_, ?_⟩ <;> rfl
theorem pe133 : P 133 0 = [(2, 2, 0, 0), (37, 0, 0, 0), (7, 12, 20, 186), (2, 1, 0, 0), (10, 0, 0, 0), (53, 2, 1, 0)] ∧ P 133 1 = [(1, 1, 0, 0), (51, 3, 0, 0)] ∧ P 133 2 = [(37, 0, 0, 0), (2, 1, 0, 0), (2, 2, 0, 0), (2, 3, 0, 0), (31, 99, 4, 343), (50, 3, 0, 0)] ∧ P 133 3 = [(3, 4, 0, 0), (2, 4, 0, 0), (1, 1, 0, 0), (53, 5, 4, 0)] ∧ P 133 4 = [(37, 0, 0, 0), (7, 12, 20, 186), (2, 1, 0, 0), (10, 0, 0, 0), (51, 6, 0, 0)] ∧ P 133 5 = [(2, 4, 0, 0), (50, 6, 0, 0)] ∧ P 133 6 = [(64, 0, 0, 0)] := by refine ⟨?_, ?_, ?_, ?_, ?_, ?_, ?_⟩ <;> rfl
theorem pe134 : P 134 0 = [(37, 0, 0, 0), (7, 12, 20, 186), (2, 1, 0, 0), (10, 0, 0, 0), (3, 2, 0, 0), (0, 0, 0, 0), (3, 3, 0, 0), (50, 1, 0, 0)] ∧ P 134 1 = [(2, 3, 0, 0), (2, 2, 0, 0), (56, 6, 2, 0)] ∧ P 134 2 = [(37, 0, 0, 0), (7, 12, 37, 241), (2, 3, 0, 0), (2, 3, 0, 0), (59, 4, 3, 0)] ∧ P 134 3 = [(0, 1, 0, 0), (51, 5, 0, 0)] ∧ P 134 4 = [(0, 0, 0, 0), (50, 5, 0, 0)] ∧ P 134 5 = [(14, 0, 0, 0), (4, 3, 1, 0), (51, 1, 0, 0)] ∧ P 134 6 = [(0, 1, 0, 0), (3, 3, 0, 0), (50, 7, 0, 0)] ∧ P 134 7 = [(2, 3, 0, 0), (58, 20, 8, 0)] ∧ P 134 8 = [(0, 0, 0, 0), (3, 3, 0, 0), (0, 0, 0, 0), (3, 4, 0, 0), (50, 9, 0, 0)] ∧ P 134 9 = [(2, 4, 0, 0), (2, 2, 0, 0), (56, 19, 10, 0)] ∧ P 134 10 = [(0, 0, 0, 0), (3, 5, 0, 0), (50, 11, 0, 0)] ∧ P 134 11 = [(2, 5, 0, 0), (37, 0, 0, 0), (6, 12, 2, 25), (55, 18, 12, 0)] ∧ P 134 12 = [(37, 0, 0, 0), (7, 12, 37, 241), (2, 4, 0, 0), (15, 0, 0, 0), (58, 18, 13, 0)] ∧ P 134 13 = [(2, 3, 0, 0), (59, 15, 14, 0)] ∧ P 134 14 = [(37, 0, 0, 0), (7, 12, 37, 241), (37, 0, 0, 0), (2, 1, 0, 0), (2, 4, 0, 0), (2, 5, 0, 0), (31, 133, 4, 417), (15, 0, 0, 0), (59, 16, 15, 0)] ∧ P 134 15 = [(0, 1, 0, 0), (51, 17, 0, 0)] ∧ P 134 16 = [(0, 0, 0, 0), (50, 17, 0, 0)] ∧ P 134 17 = [(3, 3, 0, 0), (37, 0, 0, 0), (7, 12, 37, 241), (37, 0, 0, 0), (2, 1, 0, 0), (2, 4, 0, 0), (2, 5, 0, 0), (31, 133, 4, 417), (0, 1, 0, 0), (14, 0, 0, 0), (4, 5, 1, 0), (51, 11, 0, 0)] ∧ P 134 18 = [(4, 4, 1, 0), (51, 9, 0, 0)] ∧ P 134 19 = [(51, 7, 0, 0)] ∧ P 134 20 = [(67, 0, 0, 0)] := by refine ⟨?_, ?_, ?_, ?_, ?_, ?_, ?_, ?_, ?_, ?_, ?_, ?_, ?_, ?_, ?_, ?_, ?_, ?_, ?_, ?_, ?_⟩ <;> rfl
theorem pe135 : P 135 0 = [(37, 0, 0, 0), (7, 12, 38, 244), (2, 2, 0, 0), (10, 0, 0, 0), (37, 0, 0, 0), (7, 12, 38, 244), (2, 3, 0, 0), (10, 0, 0, 0), (52, 2, 1, 0)] ∧ P 135 1 = [(0, 0, 0, 0), (65, 0, 0, 0)] ∧ P 135 2 = [(0, 0, 0, 0), (3, 4, 0, 0), (50, 3, 0, 0)] ∧ P 135 3 = [(2, 4, 0, 0), (37, 0, 0, 0), (6, 12, 2, 25), (55, 7, 4, 0)] ∧ P 135 4 = [(37, 0, 0, 0), (7, 12, 38, 244), (37, 0, 0, 0), (2, 1, 0, 0), (2, 2, 0, 0), (2, 4, 0, 0), (31, 133, 4, 417), (10, 0, 0, 0), (37, 0, 0, 0), (7, 12, 38, 244), (37, 0, 0, 0), (2, 1, 0, 0), (2, 3, 0, 0), (2, 4, 0, 0), (31, 133, 4, 417), (10, 0, 0, 0), (52, 6, 5, 0)] ∧ P 135 5 = [(0, 0, 0, 0), (65, 0, 0, 0)] ∧ P 135 6 = [(4, 4, 1, 0), (51, 3, 0, 0)] ∧ P 135 7 = [(0, 1, 0, 0), (65, 0, 0, 0)] := by refine ⟨?_, ?_, ?_, ?_, ?_, ?_, ?_, ?_⟩ <;> rfl
theorem pe136 : P 136 0 = [(37, 0, 0, 0), (2, 1, 0, 0), (30, 134, 2, 420), (37, 0, 0, 0), (7, 12, 20, 186), (2, 1, 0, 0), (10, 0, 0, 0), (3, 2, 0, 0), (0, 0, 0, 0), (3, 3, 0, 0), (50, 1, 0, 0)] ∧ P 136 1 = [(2, 3, 0, 0), (2, 2, 0, 0), (56, 7, 2, 0)] ∧ P 136 2 = [(37, 0, 0, 0), (7, 12, 38, 244), (2, 3, 0, 0), (2, 3, 0, 0), (2, 2, 0, 0), (55, 5, 3, 0)] ∧ P 136 3 = [(37, 0, 0, 0), (2, 1, 0, 0), (2, 3, 0, 0), (31, 98, 3, 340), (0, 1, 0, 0), (53, 5, 4, 0)] ∧ P 136 4 = [(0, 1, 0, 0), (51, 6, 0, 0)] ∧ P 136 5 = [(0, 0, 0, 0), (50, 6, 0, 0)] ∧ P 136 6 = [(12, 0, 0, 0), (4, 3, 1, 0), (51, 1, 0, 0)] ∧ P 136 7 = [(0, 0, 0, 0), (3, 3, 0, 0), (0, 1, 0, 0), (3, 4, 0, 0), (50, 8, 0, 0)] ∧ P 136 8 = [(2, 4, 0, 0), (2, 3, 0, 0), (52, 30, 9, 0)] ∧ P 136 9 = [(2, 4, 0, 0), (3, 3, 0, 0), (0, 0, 0, 0), (3, 4, 0, 0), (0, 0, 0, 0), (3, 5, 0, 0), (50, 10, 0, 0)] ∧ P 136 10 = [(2, 5, 0, 0), (2, 2, 0, 0), (56, 24, 11, 0)] ∧ P 136 11 = [(37, 0, 0, 0), (7, 12, 37, 241), (2, 5, 0, 0), (15, 0, 0, 0), (59, 13, 12, 0)] ∧ P 136 12 = [(51, 23, 0, 0)] ∧ P 136 13 = [(0, 0, 0, 0), (3, 6, 0, 0), (50, 14, 0, 0)] ∧ P 136 14 = [(2, 6, 0, 0), (2, 5, 0, 0), (55, 18, 15, 0)] ∧ P 136 15 = [(37, 0, 0, 0), (7, 12, 37, 241), (2, 6, 0, 0), (15, 0, 0, 0), (58, 17, 16, 0)] ∧ P 136 16 = [(37, 0, 0, 0), (2, 1, 0, 0), (2, 5, 0, 0), (2, 6, 0, 0), (31, 135, 4, 423), (59, 18, 17, 0)] ∧ P 136 17 = [(4, 6, 1, 0), (51, 14, 0, 0)] ∧ P 136 18 = [(37, 0, 0, 0), (7, 12, 39, 247), (2, 5, 0, 0), (2, 6, 0, 0), (2, 5, 0, 0), (55, 20, 19, 0)] ∧ P 136 19 = [(37, 0, 0, 0), (7, 12, 39, 247), (2, 6, 0, 0), (10, 0, 0, 0), (51, 21, 0, 0)] ∧ P 136 20 = [(2, 4, 0, 0), (50, 21, 0, 0)] ∧ P 136 21 = [(12, 0, 0, 0), (2, 6, 0, 0), (2, 5, 0, 0), (53, 23, 22, 0)] ∧ P 136 22 = [(4, 4, 1, 0), (50, 23, 0, 0)] ∧ P 136 23 = [(4, 5, 1, 0), (51, 10, 0, 0)] ∧ P 136 24 = [(0, 0, 0, 0), (3, 5, 0, 0), (50, 25, 0, 0)] ∧ P 136 25 = [(2, 5, 0, 0), (2, 2, 0, 0), (56, 29, 26, 0)] ∧ P 136 26 = [(37, 0, 0, 0), (7, 12, 37, 241), (2, 5, 0, 0), (15, 0, 0, 0), (58, 28, 27, 0)] ∧ P 136 27 = [(37, 0, 0, 0), (7, 12, 38, 244), (2, 5, 0, 0), (37, 0, 0, 0), (7, 12, 39, 247), (2, 5, 0, 0), (10, 0, 0, 0), (12, 0, 0, 0), (50, 28, 0, 0)] ∧ P 136 28 = [(4, 5, 1, 0), (51, 25, 0, 0)] ∧ P 136 29 = [(51, 8, 0, 0)] ∧ P 136 30 = [(2, 4, 0, 0), (64, 0, 0, 0)] := by refine ⟨?_, ?_, ?_, ?_, ?_, ?_, ?_, ?_, ?_, ?_, ?_, ?_, ?_, ?_, ?_, ?_, ?_, ?_, ?_, ?_, ?_, ?_, ?_, ?_, ?_, ?_, ?_, ?_, ?_, ?_, ?_⟩ <;> rfl
theorem pe137 : P 137 0 = [(37, 0, 0, 0), (2, 1, 0, 0), (31, 102, 2, 334), (58, 2, 1, 0)] ∧ P 137 1 = [(37, 0, 0, 0), (2, 1, 0, 0), (31, 136, 2, 426), (51, 3, 0, 0)] ∧ P 137 2 = [(1, 1, 0, 0), (50, 3, 0, 0)] ∧ P 137 3 = [(64, 0, 0, 0)] := by refine ⟨?_, ?_, ?_, ?_⟩ <;> rfl
theorem pe138 : P 138 0 = [(37, 0, 0, 0), (7, 12, 41, 253), (37, 0, 0, 0), (7, 12, 38, 244), (2, 1, 0, 0), (10, 0, 0, 0), (10, 0, 0, 0), (1, 1, 0, 0), (52, 2, 1, 0)] ∧ P 138 1 = [(2, 2, 0, 0), (64, 0, 0, 0)] ∧ P 138 2 = [(37, 0, 0, 0), (7, 12, 41, 253), (37, 0, 0, 0), (7, 12, 38, 244), (2, 1, 0, 0), (10, 0, 0, 0), (2, 2, 0, 0), (12, 0, 0, 0), (37, 0, 0, 0), (7, 12, 40, 250), (2, 2, 0, 0), (2, 1, 0, 0), (12, 0, 0, 0), (2, 2, 0, 0), (0, 1, 0, 0), (17, 0, 0, 0), (64, 0, 0, 0)] := by refine ⟨?_, ?_, ?_⟩ <;> rfl
theorem pe139 : P 139 0 = [(37, 0, 0, 0), (2, 1, 0, 0), (31, 102, 2, 334), (59, 2, 1, 0)] ∧ P 139 1 = [(1, 1, 0, 0), (64, 0, 0, 0)] ∧ P 139 2 = [(37, 0, 0, 0), (2, 1, 0, 0), (31, 136, 2, 426), (3, 2, 0, 0), (0, 0, 0, 0), (3, 3, 0, 0), (50, 3, 0, 0)] ∧ P 139 3 = [(2, 3, 0, 0), (2, 2, 0, 0), (55, 5, 4, 0)] ∧ P 139 4 = [(37, 0, 0, 0), (7, 12, 41, 253), (2, 3, 0, 0), (1, 1, 0, 0), (12, 0, 0, 0), (4, 3, 1, 0), (51, 3, 0, 0)] ∧ P 139 5 = [(37, 0, 0, 0), (0, 0, 0, 0), (0, 0, 0, 0), (31, 138, 3, 429), (3, 3, 0, 0), (0, 0, 0, 0), (3, 4, 0, 0), (50, 6, 0, 0)] ∧ P 139 6 = [(2, 4, 0, 0), (2, 3, 0, 0), (55, 20, 7, 0)] ∧ P 139 7 = [(37, 0, 0, 0), (7, 12, 40, 250), (2, 4, 0, 0), (10, 0, 0, 0), (3, 5, 0, 0), (37, 0, 0, 0), (7, 12, 21, 189), (0, 800, 0, 0), (2, 4, 0, 0), (17, 0, 0, 0), (2, 5, 0, 0), (37, 0, 0, 0), (7, 12, 20, 186), (2, 1, 0, 0), (10, 0, 0, 0), (55, 10, 8, 0)] ∧ P 139 8 = [(37, 0, 0, 0), (2, 1, 0, 0), (2, 5, 0, 0), (31, 98, 3, 340), (0, 1, 0, 0), (53, 10, 9, 0)] ∧ P 139 9 = [(0, 1, 0, 0), (51, 11, 0, 0)] ∧ P 139 10 = [(0, 2, 0, 0), (50, 11, 0, 0)] ∧ P 139 11 = [(12, 0, 0, 0), (0, 0, 0, 0), (3, 6, 0, 0), (50, 12, 0, 0)] ∧ P 139 12 = [(2, 6, 0, 0), (0, 4, 0, 0), (55, 19, 13, 0)] ∧ P 139 13 = [(2, 6, 0, 0), (37, 0, 0, 0), (6, 12, 2, 25), (55, 15, 14, 0)] ∧ P 139 14 = [(37, 0, 0, 0), (37, 0, 0, 0), (2, 1, 0, 0), (2, 5, 0, 0), (2, 6, 0, 0), (31, 133, 4, 417), (2, 3, 0, 0), (31, 138, 3, 429), (3, 3, 0, 0), (50, 15, 0, 0)] ∧ P 139 15 = [(37, 0, 0, 0), (0, 4, 0, 0), (2, 4, 0, 0), (2, 6, 0, 0), (2, 6, 0, 0), (37, 0, 0, 0), (6, 12, 2, 25), (55, 17, 16, 0)] ∧ P 139 16 = [(37, 0, 0, 0), (7, 12, 41, 253), (37, 0, 0, 0), (7, 12, 38, 244), (37, 0, 0, 0), (2, 1, 0, 0), (2, 5, 0, 0), (2, 6, 0, 0), (31, 133, 4, 417), (10, 0, 0, 0), (10, 0, 0, 0), (51, 18, 0, 0)] ∧ P 139 17 = [(1, 1, 0, 0), (50, 18, 0, 0)] ∧ P 139 18 = [(30, 100, 5, 328), (4, 6, 1, 0), (51, 12, 0, 0)] ∧ P 139 19 = [(4, 4, 1, 0), (51, 6, 0, 0)] ∧ P 139 20 = [(37, 0, 0, 0), (7, 12, 20, 186), (0, 4, 0, 0), (2, 3, 0, 0), (12, 0, 0, 0), (37, 0, 0, 0), (0, 4, 0, 0), (0, 3, 0, 0), (30, 103, 3, 337), (2, 3, 0, 0), (64, 0, 0, 0)] := by refine ⟨?_, ?_, ?_, ?_, ?_, ?_, ?_, ?_, ?_, ?_, ?_, ?_, ?_, ?_, ?_, ?_, ?_, ?_, ?_, ?_, ?_⟩ <;> rfl
theorem pe140 : P 140 0 = [(37, 0, 0, 0), (7, 12, 20, 186), (2, 1, 0, 0), (10, 0, 0, 0), (3, 2, 0, 0), (0, 0, 0, 0), (3, 3, 0, 0), (50, 1, 0, 0)] ∧ P 140 1 = [(2, 3, 0, 0), (2, 2, 0, 0), (56, 7, 2, 0)] ∧ P 140 2 = [(37, 0, 0, 0), (7, 12, 42, 256), (2, 3, 0, 0), (2, 3, 0, 0), (2, 2, 0, 0), (55, 5, 3, 0)] ∧ P 140 3 = [(37, 0, 0, 0), (2, 1, 0, 0), (2, 3, 0, 0), (31, 98, 3, 340), (0, 1, 0, 0), (53, 5, 4, 0)] ∧ P 140 4 = [(0, 1, 0, 0), (51, 6, 0, 0)] ∧ P 140 5 = [(0, 0, 0, 0), (50, 6, 0, 0)] ∧ P 140 6 = [(12, 0, 0, 0), (4, 3, 1, 0), (51, 1, 0, 0)] ∧ P 140 7 = [(0, 1, 0, 0), (3, 3, 0, 0), (50, 8, 0, 0)] ∧ P 140 8 = [(2, 3, 0, 0), (0, 10, 0, 0), (56, 16, 9, 0)] ∧ P 140 9 = [(0, 0, 0, 0), (3, 4, 0, 0), (50, 10, 0, 0)] ∧ P 140 10 = [(2, 4, 0, 0), (2, 2, 0, 0), (56, 15, 11, 0)] ∧ P 140 11 = [(0, 0, 0, 0), (3, 5, 0, 0), (0, 0, 0, 0), (3, 6, 0, 0), (50, 12, 0, 0)] ∧ P 140 12 = [(2, 6, 0, 0), (37, 0, 0, 0), (6, 12, 2, 25), (55, 14, 13, 0)] ∧ P 140 13 = [(2, 5, 0, 0), (37, 0, 0, 0), (7, 12, 42, 256), (0, 201, 0, 0), (2, 3, 0, 0), (0, 1, 0, 0), (18, 0, 0, 0), (19, 0, 0, 0), (37, 0, 0, 0), (2, 1, 0, 0), (2, 4, 0, 0), (2, 6, 0, 0), (31, 133, 4, 417), (17, 0, 0, 0), (10, 0, 0, 0), (17, 0, 0, 0), (3, 5, 0, 0), (4, 6, 1, 0), (51, 12, 0, 0)] ∧ P 140 14 = [(37, 0, 0, 0), (7, 12, 42, 256), (0, 201, 0, 0), (2, 3, 0, 0), (19, 0, 0, 0), (2, 4, 0, 0), (17, 0, 0, 0), (2, 5, 0, 0), (12, 0, 0, 0), (4, 4, 1, 0), (51, 10, 0, 0)] ∧ P 140 15 = [(4, 3, 1, 0), (51, 8, 0, 0)] ∧ P 140 16 = [(67, 0, 0, 0)] := by refine ⟨?_, ?_, ?_, ?_, ?_, ?_, ?_, ?_, ?_, ?_, ?_, ?_, ?_, ?_, ?_, ?_, ?_⟩ <;> rfl
theorem pe141 : P 141 0 = [(37, 0, 0, 0), (2, 1, 0, 0), (31, 102, 2, 334), (58, 2, 1, 0)] ∧ P 141 1 = [(2, 2, 0, 0), (61, 3, 2, 0)] ∧ P 141 2 = [(1, 1, 0, 0), (64, 0, 0, 0)] ∧ P 141 3 = [(37, 0, 0, 0), (2, 1, 0, 0), (30, 140, 2, 432), (2, 2, 0, 0), (3, 3, 0, 0), (0, 0, 0, 0), (3, 4, 0, 0), (50, 4, 0, 0)] ∧ P 141 4 = [(2, 4, 0, 0), (0, 10, 0, 0), (56, 7, 5, 0)] ∧ P 141 5 = [(2, 3, 0, 0), (37, 0, 0, 0), (7, 12, 42, 256), (0, 201, 0, 0), (2, 4, 0, 0), (19, 0, 0, 0), (10, 0, 0, 0), (54, 7, 6, 0)] ∧ P 141 6 = [(2, 3, 0, 0), (37, 0, 0, 0), (7, 12, 42, 256), (0, 201, 0, 0), (2, 4, 0, 0), (19, 0, 0, 0), (10, 0, 0, 0), (18, 0, 0, 0), (3, 3, 0, 0), (4, 4, 1, 0), (51, 4, 0, 0)] ∧ P 141 7 = [(2, 4, 0, 0), (0, 10, 0, 0), (57, 9, 8, 0)] ∧ P 141 8 = [(1, 2, 0, 0), (64, 0, 0, 0)] ∧ P 141 9 = [(37, 0, 0, 0), (0, 0, 0, 0), (8, 12, 62, 307), (0, 0, 0, 0), (3, 5, 0, 0), (2, 4, 0, 0), (0, 1, 0, 0), (18, 0, 0, 0), (3, 6, 0, 0), (50, 10, 0, 0)] ∧ P 141 10 = [(2, 6, 0, 0), (60, 15, 11, 0)] ∧ P 141 11 = [(0, 0, 0, 0), (3, 7, 0, 0), (50, 12, 0, 0)] ∧ P 141 12 = [(2, 3, 0, 0), (37, 0, 0, 0), (7, 12, 42, 256), (0, 201, 0, 0), (2, 6, 0, 0), (19, 0, 0, 0), (37, 0, 0, 0), (2, 1, 0, 0), (2, 5, 0, 0), (2, 7, 0, 0), (31, 133, 4, 417), (17, 0, 0, 0), (10, 0, 0, 0), (54, 14, 13, 0)] ∧ P 141 13 = [(2, 3, 0, 0), (37, 0, 0, 0), (7, 12, 42, 256), (0, 201, 0, 0), (2, 6, 0, 0), (19, 0, 0, 0), (37, 0, 0, 0), (2, 1, 0, 0), (2, 5, 0, 0), (2, 7, 0, 0), (31, 133, 4, 417), (17, 0, 0, 0), (10, 0, 0, 0), (18, 0, 0, 0), (3, 3, 0, 0), (4, 7, 1, 0), (51, 12, 0, 0)] ∧ P 141 14 = [(37, 0, 0, 0), (0, 97, 0, 0), (2, 7, 0, 0), (17, 0, 0, 0), (30, 146, 2, 313), (37, 0, 0, 0), (2, 1, 0, 0), (2, 5, 0, 0), (2, 7, 0, 0), (31, 133, 4, 417), (3, 5, 0, 0), (5, 6, 1, 0), (51, 10, 0, 0)] ∧ P 141 15 = [(37, 0, 0, 0), (6, 12, 62, 307), (64, 0, 0, 0)] := by refine ⟨?_, ?_, ?_, ?_, ?_, ?_, ?_, ?_, ?_, ?_, ?_, ?_, ?_, ?_, ?_, ?_⟩ <;> rfl
theorem pe142 : P 142 0 = [(37, 0, 0, 0), (2, 1, 0, 0), (31, 102, 2, 334), (59, 2, 1, 0)] ∧ P 142 1 = [(1, 1, 0, 0), (64, 0, 0, 0)] ∧ P 142 2 = [(0, 0, 0, 0), (3, 2, 0, 0), (0, 0, 0, 0), (3, 3, 0, 0), (50, 3, 0, 0)] ∧ P 142 3 = [(2, 3, 0, 0), (37, 0, 0, 0), (6, 12, 8, 28), (55, 8, 4, 0)] ∧ P 142 4 = [(2, 2, 0, 0), (37, 0, 0, 0), (2, 1, 0, 0), (37, 0, 0, 0), (7, 12, 2, 31), (2, 3, 0, 0), (10, 0, 0, 0), (37, 0, 0, 0), (7, 12, 3, 35), (2, 3, 0, 0), (10, 0, 0, 0), (31, 107, 4, 346), (37, 0, 0, 0), (7, 12, 4, 46), (2, 3, 0, 0), (15, 0, 0, 0), (52, 6, 5, 0)] ∧ P 142 5 = [(0, 1, 0, 0), (51, 7, 0, 0)] ∧ P 142 6 = [(0, 0, 0, 0), (50, 7, 0, 0)] ∧ P 142 7 = [(17, 0, 0, 0), (3, 2, 0, 0), (4, 3, 1, 0), (51, 3, 0, 0)] ∧ P 142 8 = [(2, 2, 0, 0), (64, 0, 0, 0)] := by refine ⟨?_, ?_, ?_, ?_, ?_, ?_, ?_, ?_, ?_⟩ <;> rfl
theorem pe143 : P 143 0 = [(37, 0, 0, 0), (2, 1, 0, 0), (30, 134, 2, 420), (37, 0, 0, 0), (7, 12, 20, 186), (2, 1, 0, 0), (10, 0, 0, 0), (3, 2, 0, 0), (0, 0, 0, 0), (3, 3, 0, 0), (50, 1, 0, 0)] ∧ P 143 1 = [(2, 3, 0, 0), (2, 2, 0, 0), (56, 7, 2, 0)] ∧ P 143 2 = [(37, 0, 0, 0), (7, 12, 43, 259), (2, 3, 0, 0), (2, 3, 0, 0), (2, 2, 0, 0), (55, 5, 3, 0)] ∧ P 143 3 = [(37, 0, 0, 0), (2, 1, 0, 0), (2, 3, 0, 0), (31, 98, 3, 340), (0, 1, 0, 0), (53, 5, 4, 0)] ∧ P 143 4 = [(0, 1, 0, 0), (51, 6, 0, 0)] ∧ P 143 5 = [(0, 0, 0, 0), (50, 6, 0, 0)] ∧ P 143 6 = [(14, 0, 0, 0), (4, 3, 1, 0), (51, 1, 0, 0)] ∧ P 143 7 = [(0, 1, 0, 0), (3, 3, 0, 0), (50, 8, 0, 0)] ∧ P 143 8 = [(2, 3, 0, 0), (58, 21, 9, 0)] ∧ P 143 9 = [(0, 0, 0, 0), (3, 3, 0, 0), (0, 0, 0, 0), (3, 4, 0, 0), (50, 10, 0, 0)] ∧ P 143 10 = [(2, 4, 0, 0), (2, 2, 0, 0), (55, 20, 11, 0)] ∧ P 143 11 = [(37, 0, 0, 0), (7, 12, 43, 259), (2, 4, 0, 0), (15, 0, 0, 0), (3, 5, 0, 0), (0, 0, 0, 0), (3, 6, 0, 0), (50, 12, 0, 0)] ∧ P 143 12 = [(2, 6, 0, 0), (37, 0, 0, 0), (6, 12, 2, 25), (55, 15, 13, 0)] ∧ P 143 13 = [(2, 5, 0, 0), (59, 15, 14, 0)] ∧ P 143 14 = [(37, 0, 0, 0), (7, 12, 43, 259), (37, 0, 0, 0), (2, 1, 0, 0), (2, 4, 0, 0), (2, 6, 0, 0), (31, 133, 4, 417), (15, 0, 0, 0), (3, 5, 0, 0), (4, 6, 1, 0), (51, 12, 0, 0)] ∧ P 143 15 = [(2, 3, 0, 0), (59, 17, 16, 0)] ∧ P 143 16 = [(2, 5, 0, 0), (37, 0, 0, 0), (7, 12, 43, 259), (2, 4, 0, 0), (15, 0, 0, 0), (52, 18, 17, 0)] ∧ P 143 17 = [(0, 1, 0, 0), (51, 19, 0, 0)] ∧ P 143 18 = [(0, 0, 0, 0), (50, 19, 0, 0)] ∧ P 143 19 = [(3, 3, 0, 0), (37, 0, 0, 0), (7, 12, 43, 259), (2, 4, 0, 0), (2, 5, 0, 0), (14, 0, 0, 0), (4, 4, 1, 0), (51, 10, 0, 0)] ∧ P 143 20 = [(51, 8, 0, 0)] ∧ P 143 21 = [(0, 0, 0, 0), (3, 4, 0, 0), (0, 0, 0, 0), (3, 5, 0, 0), (50, 22, 0, 0)] ∧ P 143 22 = [(2, 5, 0, 0), (2, 2, 0, 0), (55, 31, 23, 0)] ∧ P 143 23 = [(37, 0, 0, 0), (7, 12, 43, 259), (2, 5, 0, 0), (37, 0, 0, 0), (7, 12, 43, 259), (2, 5, 0, 0), (15, 0, 0, 0), (58, 26, 24, 0)] ∧ P 143 24 = [(37, 0, 0, 0), (7, 12, 37, 241), (2, 5, 0, 0), (15, 0, 0, 0), (58, 26, 25, 0)] ∧ P 143 25 = [(0, 1, 0, 0), (51, 27, 0, 0)] ∧ P 143 26 = [(0, 0, 0, 0), (50, 27, 0, 0)] ∧ P 143 27 = [(14, 0, 0, 0), (2, 4, 0, 0), (37, 0, 0, 0), (7, 12, 43, 259), (2, 5, 0, 0), (15, 0, 0, 0), (58, 29, 28, 0)] ∧ P 143 28 = [(0, 1, 0, 0), (51, 30, 0, 0)] ∧ P 143 29 = [(0, 0, 0, 0), (50, 30, 0, 0)] ∧ P 143 30 = [(17, 0, 0, 0), (3, 4, 0, 0), (4, 5, 1, 0), (51, 22, 0, 0)] ∧ P 143 31 = [(2, 4, 0, 0), (64, 0, 0, 0)] := by refine ⟨?_, ?_, ?_, ?_, ?_, ?_, ?_, ?_, ?_, ?_, ?_, ?_, ?_, ?_, ?_, ?_, ?_, ?_, ?_, ?_, ?_, ?_, ?_, ?_, ?_, ?_, ?_, ?_, ?_, ?_, ?_, ?_⟩ <;> rfl
theorem pe144 : P 144 0 = [(37, 0, 0, 0), (2, 1, 0, 0), (31, 102, 2, 334), (58, 2, 1, 0)] ∧ P 144 1 = [(37, 0, 0, 0), (2, 1, 0, 0), (31, 143, 2, 435), (51, 3, 0, 0)] ∧ P 144 2 = [(1, 1, 0, 0), (50, 3, 0, 0)] ∧ P 144 3 = [(64, 0, 0, 0)] := by refine ⟨?_, ?_, ?_, ?_⟩ <;> rfl
theorem pe145 : P 145 0 = [(37, 0, 0, 0), (2, 1, 0, 0), (31, 102, 2, 334), (59, 2, 1, 0)] ∧ P 145 1 = [(1, 1, 0, 0), (64, 0, 0, 0)] ∧ P 145 2 = [(37, 0, 0, 0), (2, 1, 0, 0), (31, 143, 2, 435), (3, 2, 0, 0), (2, 2, 0, 0), (59, 4, 3, 0)] ∧ P 145 3 = [(1, 2, 0, 0), (64, 0, 0, 0)] ∧ P 145 4 = [(37, 0, 0, 0), (7, 12, 20, 186), (2, 1, 0, 0), (10, 0, 0, 0), (3, 3, 0, 0), (0, 0, 0, 0), (3, 4, 0, 0), (50, 5, 0, 0)] ∧ P 145 5 = [(2, 4, 0, 0), (2, 3, 0, 0), (55, 7, 6, 0)] ∧ P 145 6 = [(37, 0, 0, 0), (7, 12, 44, 262), (2, 4, 0, 0), (0, 0, 0, 0), (12, 0, 0, 0), (4, 4, 1, 0), (51, 5, 0, 0)] ∧ P 145 7 = [(0, 1, 0, 0), (3, 4, 0, 0), (0, 0, 0, 0), (3, 5, 0, 0), (50, 8, 0, 0)] ∧ P 145 8 = [(2, 5, 0, 0), (2, 2, 0, 0), (56, 22, 9, 0)] ∧ P 145 9 = [(2, 4, 0, 0), (58, 22, 10, 0)] ∧ P 145 10 = [(0, 0, 0, 0), (3, 4, 0, 0), (0, 0, 0, 0), (3, 6, 0, 0), (50, 11, 0, 0)] ∧ P 145 11 = [(2, 6, 0, 0), (2, 3, 0, 0), (55, 21, 12, 0)] ∧ P 145 12 = [(0, 0, 0, 0), (3, 7, 0, 0), (50, 13, 0, 0)] ∧ P 145 13 = [(2, 7, 0, 0), (37, 0, 0, 0), (6, 12, 2, 25), (55, 20, 14, 0)] ∧ P 145 14 = [(37, 0, 0, 0), (7, 12, 43, 259), (2, 6, 0, 0), (15, 0, 0, 0), (58, 20, 15, 0)] ∧ P 145 15 = [(37, 0, 0, 0), (2, 1, 0, 0), (2, 6, 0, 0), (2, 7, 0, 0), (31, 133, 4, 417), (3, 8, 0, 0), (37, 0, 0, 0), (7, 12, 43, 259), (2, 8, 0, 0), (15, 0, 0, 0), (58, 19, 16, 0)] ∧ P 145 16 = [(37, 0, 0, 0), (7, 12, 44, 262), (2, 8, 0, 0), (10, 0, 0, 0), (0, 1, 0, 0), (17, 0, 0, 0), (37, 0, 0, 0), (7, 12, 44, 262), (2, 6, 0, 0), (10, 0, 0, 0), (56, 18, 17, 0)] ∧ P 145 17 = [(51, 19, 0, 0)] ∧ P 145 18 = [(37, 0, 0, 0), (7, 12, 44, 262), (2, 6, 0, 0), (37, 0, 0, 0), (7, 12, 44, 262), (2, 8, 0, 0), (10, 0, 0, 0), (0, 1, 0, 0), (17, 0, 0, 0), (12, 0, 0, 0), (0, 1, 0, 0), (3, 4, 0, 0), (50, 19, 0, 0)] ∧ P 145 19 = [(4, 7, 1, 0), (51, 13, 0, 0)] ∧ P 145 20 = [(4, 6, 1, 0), (51, 11, 0, 0)] ∧ P 145 21 = [(4, 5, 1, 0), (51, 8, 0, 0)] ∧ P 145 22 = [(2, 4, 0, 0), (58, 24, 23, 0)] ∧ P 145 23 = [(1, 3, 0, 0), (51, 25, 0, 0)] ∧ P 145 24 = [(37, 0, 0, 0), (7, 12, 44, 262), (0, 0, 0, 0), (10, 0, 0, 0), (50, 25, 0, 0)] ∧ P 145 25 = [(64, 0, 0, 0)] := by refine ⟨?_, ?_, ?_, ?_, ?_, ?_, ?_, ?_, ?_, ?_, ?_, ?_, ?_, ?_, ?_, ?_, ?_, ?_, ?_, ?_, ?_, ?_, ?_, ?_, ?_, ?_⟩ <;> rfl
theorem pe146 : P 146 0 = [(37, 0, 0, 0), (7, 12, 45, 265), (37, 0, 0, 0), (6, 12, 62, 307), (2, 1, 0, 0), (26, 0, 0, 0), (13, 0, 0, 0), (37, 0, 0, 0), (27, 0, 0, 0), (6, 12, 62, 307), (0, 1, 0, 0), (17, 0, 0, 0), (8, 12, 62, 307), (67, 0, 0, 0)] := rfl
theorem pe147 : P 147 0 = [(2, 1, 0, 0), (0, 99, 0, 0), (57, 2, 1, 0)] ∧ P 147 1 = [(37, 0, 0, 0), (0, 48, 0, 0), (2, 1, 0, 0), (0, 100, 0, 0), (20, 0, 0, 0), (17, 0, 0, 0), (30, 146, 2, 313), (50, 2, 0, 0)] ∧ P 147 2 = [(2, 1, 0, 0), (0, 9, 0, 0), (57, 4, 3, 0)] ∧ P 147 3 = [(37, 0, 0, 0), (0, 48, 0, 0), (2, 1, 0, 0), (0, 10, 0, 0), (20, 0, 0, 0), (0, 10, 0, 0), (21, 0, 0, 0), (17, 0, 0, 0), (30, 146, 2, 313), (50, 4, 0, 0)] ∧ P 147 4 = [(37, 0, 0, 0), (0, 48, 0, 0), (2, 1, 0, 0), (0, 10, 0, 0), (21, 0, 0, 0), (17, 0, 0, 0), (30, 146, 2, 313), (67, 0, 0, 0)] := by refine ⟨?_, ?_, ?_, ?_, ?_⟩ <;> rfl
theorem pe148 : P 148 0 = [(37, 0, 0, 0), (2, 1, 0, 0), (31, 102, 2, 334), (59, 2, 1, 0)] ∧ P 148 1 = [(1, 1, 0, 0), (64, 0, 0, 0)] ∧ P 148 2 = [(37, 0, 0, 0), (0, 0, 0, 0), (8, 12, 62, 307), (0, 0, 0, 0), (3, 2, 0, 0), (50, 3, 0, 0)] ∧ P 148 3 = [(2, 2, 0, 0), (37, 0, 0, 0), (7, 12, 20, 186), (2, 1, 0, 0), (10, 0, 0, 0), (55, 16, 4, 0)] ∧ P 148 4 = [(37, 0, 0, 0), (37, 0, 0, 0), (2, 1, 0, 0), (2, 2, 0, 0), (31, 98, 3, 340), (59, 6, 5, 0)] ∧ P 148 5 = [(0, 63, 0, 0), (51, 9, 0, 0)] ∧ P 148 6 = [(37, 0, 0, 0), (2, 1, 0, 0), (2, 2, 0, 0), (31, 98, 3, 340), (0, 1, 0, 0), (53, 8, 7, 0)] ∧ P 148 7 = [(0, 43, 0, 0), (51, 9, 0, 0)] ∧ P 148 8 = [(0, 45, 0, 0), (50, 9, 0, 0)] ∧ P 148 9 = [(30, 146, 2, 313), (0, 0, 0, 0), (3, 3, 0, 0), (50, 10, 0, 0)] ∧ P 148 10 = [(2, 3, 0, 0), (37, 0, 0, 0), (6, 12, 2, 25), (55, 15, 11, 0)] ∧ P 148 11 = [(37, 0, 0, 0), (2, 1, 0, 0), (2, 2, 0, 0), (2, 3, 0, 0), (31, 99, 4, 343), (1, 1, 0, 0), (53, 13, 12, 0)] ∧ P 148 12 = [(51, 14, 0, 0)] ∧ P 148 13 = [(37, 0, 0, 0), (0, 97, 0, 0), (2, 3, 0, 0), (17, 0, 0, 0), (30, 146, 2, 313), (37, 0, 0, 0), (37, 0, 0, 0), (2, 1, 0, 0), (2, 2, 0, 0), (2, 3, 0, 0), (31, 99, 4, 343), (30, 147, 2, 438), (50, 14, 0, 0)] ∧ P 148 14 = [(4, 3, 1, 0), (51, 10, 0, 0)] ∧ P 148 15 = [(37, 0, 0, 0), (0, 59, 0, 0), (30, 146, 2, 313), (4, 2, 1, 0), (51, 3, 0, 0)] ∧ P 148 16 = [(37, 0, 0, 0), (6, 12, 62, 307), (64, 0, 0, 0)] := by refine ⟨?_, ?_, ?_, ?_, ?_, ?_, ?_, ?_, ?_, ?_, ?_, ?_, ?_, ?_, ?_, ?_, ?_⟩ <;> rfl
theorem pe149 : P 149 0 = [(2, 1, 0, 0), (0, 0, 0, 0), (37, 0, 0, 0), (6, 12, 62, 307), (0, 1, 0, 0), (18, 0, 0, 0), (31, 43, 3, 15), (58, 2, 1, 0)] ∧ P 149 1 = [(37, 0, 0, 0), (7, 12, 45, 265), (2, 1, 0, 0), (11, 0, 0, 0), (51, 3, 0, 0)] ∧ P 149 2 = [(1, 1, 0, 0), (50, 3, 0, 0)] ∧ P 149 3 = [(64, 0, 0, 0)] := by refine ⟨?_, ?_, ?_, ?_⟩ <;> rfl
theorem pe150 : P 150 0 = [(2, 1, 0, 0), (0, 0, 0, 0), (0, 5, 0, 0), (31, 43, 3, 15), (58, 2, 1, 0)] ∧ P 150 1 = [(37, 0, 0, 0), (7, 12, 20, 186), (0, 2, 0, 0), (10, 0, 0, 0), (59, 3, 2, 0)] ∧ P 150 2 = [(1, 1, 0, 0), (64, 0, 0, 0)] ∧ P 150 3 = [(0, 0, 0, 0), (3, 2, 0, 0), (0, 0, 0, 0), (3, 3, 0, 0), (50, 4, 0, 0)] ∧ P 150 4 = [(2, 3, 0, 0), (2, 1, 0, 0), (56, 17, 5, 0)] ∧ P 150 5 = [(0, 1, 0, 0), (3, 4, 0, 0), (0, 0, 0, 0), (3, 5, 0, 0), (50, 6, 0, 0)] ∧ P 150 6 = [(2, 5, 0, 0), (2, 3, 0, 0), (55, 8, 7, 0)] ∧ P 150 7 = [(2, 4, 0, 0), (37, 0, 0, 0), (6, 12, 2, 25), (19, 0, 0, 0), (3, 4, 0, 0), (4, 5, 1, 0), (51, 6, 0, 0)] ∧ P 150 8 = [(0, 0, 0, 0), (3, 5, 0, 0), (50, 9, 0, 0)] ∧ P 150 9 = [(2, 5, 0, 0), (2, 4, 0, 0), (55, 16, 10, 0)] ∧ P 150 10 = [(37, 0, 0, 0), (2, 3, 0, 0), (2, 5, 0, 0), (31, 151, 3, 441), (3, 6, 0, 0), (37, 0, 0, 0), (37, 0, 0, 0), (2, 3, 0, 0), (2, 6, 0, 0), (31, 50, 3, 274), (2, 3, 0, 0), (2, 6, 0, 0), (31, 51, 4, 277), (58, 12, 11, 0)] ∧ P 150 11 = [(51, 15, 0, 0)] ∧ P 150 12 = [(37, 0, 0, 0), (2, 3, 0, 0), (2, 6, 0, 0), (37, 0, 0, 0), (0, 2, 0, 0), (2, 3, 0, 0), (2, 6, 0, 0), (31, 107, 4, 346), (31, 81, 4, 291), (61, 14, 13, 0)] ∧ P 150 13 = [(2, 2, 0, 0), (64, 0, 0, 0)] ∧ P 150 14 = [(4, 2, 1, 0), (50, 15, 0, 0)] ∧ P 150 15 = [(4, 5, 1, 0), (51, 9, 0, 0)] ∧ P 150 16 = [(4, 3, 1, 0), (51, 4, 0, 0)] ∧ P 150 17 = [(2, 2, 0, 0), (64, 0, 0, 0)] := by refine ⟨?_, ?_, ?_, ?_, ?_, ?_, ?_, ?_, ?_, ?_, ?_, ?_, ?_, ?_, ?_, ?_, ?_, ?_⟩ <;> rfl
theorem pe151 : P 151 0 = [(0, 0, 0, 0), (3, 3, 0, 0), (2, 2, 0, 0), (3, 4, 0, 0), (0, 0, 0, 0), (3, 5, 0, 0), (50, 1, 0, 0)] ∧ P 151 1 = [(2, 5, 0, 0), (2, 1, 0, 0), (55, 3, 2, 0)] ∧ P 151 2 = [(2, 3, 0, 0), (2, 4, 0, 0), (37, 0, 0, 0), (6, 12, 2, 25), (21, 0, 0, 0), (0, 2, 0, 0), (2, 5, 0, 0), (19, 0, 0, 0), (24, 0, 0, 0), (23, 0, 0, 0), (3, 3, 0, 0), (2, 4, 0, 0), (37, 0, 0, 0), (6, 12, 2, 25), (20, 0, 0, 0), (3, 4, 0, 0), (4, 5, 1, 0), (51, 1, 0, 0)] ∧ P 151 3 = [(2, 3, 0, 0), (64, 0, 0, 0)] := by refine ⟨?_, ?_, ?_, ?_⟩ <;> rfl
theorem pe152 : P 152 0 = [(37, 0, 0, 0), (37, 0, 0, 0), (6, 12, 29, 148), (8, 12, 64, 444), (0, 0, 0, 0), (3, 1, 0, 0), (50, 1, 0, 0)] ∧ P 152 1 = [(2, 1, 0, 0), (0, 4, 0, 0), (37, 0, 0, 0), (6, 12, 29, 148), (19, 0, 0, 0), (55, 3, 2, 0)] ∧ P 152 2 = [(37, 0, 0, 0), (7, 12, 46, 268), (2, 1, 0, 0), (37, 0, 0, 0), (7, 12, 19, 145), (2, 1, 0, 0), (10, 0, 0, 0), (12, 0, 0, 0), (4, 1, 1, 0), (51, 1, 0, 0)] ∧ P 152 3 = [(67, 0, 0, 0)] := by refine ⟨?_, ?_, ?_, ?_⟩ <;> rfl
theorem pe153 : P 153 0 = [(37, 0, 0, 0), (30, 59, 1, 178), (0, 0, 0, 0), (3, 1, 0, 0), (50, 1, 0, 0)] ∧ P 153 1 = [(2, 1, 0, 0), (0, 4, 0, 0), (37, 0, 0, 0), (6, 12, 64, 444), (19, 0, 0, 0), (55, 3, 2, 0)] ∧ P 153 2 = [(37, 0, 0, 0), (7, 12, 19, 145), (2, 1, 0, 0), (37, 0, 0, 0), (7, 12, 46, 268), (2, 1, 0, 0), (10, 0, 0, 0), (12, 0, 0, 0), (4, 1, 1, 0), (51, 1, 0, 0)] ∧ P 153 3 = [(37, 0, 0, 0), (37, 0, 0, 0), (6, 12, 64, 444), (30, 77, 2, 325), (67, 0, 0, 0)] := by refine ⟨?_, ?_, ?_, ?_⟩ <;> rfl
theorem pe154 : P 154 0 = [(37, 0, 0, 0), (37, 0, 0, 0), (7, 12, 2, 31), (2, 2, 0, 0), (10, 0, 0, 0), (8, 12, 65, 447), (37, 0, 0, 0), (37, 0, 0, 0), (7, 12, 3, 35), (2, 2, 0, 0), (10, 0, 0, 0), (8, 12, 66, 450), (37, 0, 0, 0), (37, 0, 0, 0), (7, 12, 4, 46), (2, 2, 0, 0), (15, 0, 0, 0), (9, 12, 67, 453), (37, 0, 0, 0), (2, 2, 0, 0), (30, 54, 2, 295), (37, 0, 0, 0), (30, 59, 1, 178), (37, 0, 0, 0), (2, 1, 0, 0), (30, 76, 2, 322), (67, 0, 0, 0)] := rfl
theorem pe155 : P 155 0 = [(37, 0, 0, 0), (2, 1, 0, 0), (37, 0, 0, 0), (6, 12, 65, 447), (37, 0, 0, 0), (6, 12, 66, 450), (37, 0, 0, 0), (6, 12, 67, 453), (30, 52, 5, 283), (67, 0, 0, 0)] := rfl
theorem pe156 : P 156 0 = [(0, 0, 0, 0), (3, 3, 0, 0), (0, 0, 0, 0), (3, 4, 0, 0), (50, 1, 0, 0)] ∧ P 156 1 = [(2, 4, 0, 0), (2, 1, 0, 0), (55, 7, 2, 0)] ∧ P 156 2 = [(2, 3, 0, 0), (1, 1, 0, 0), (52, 7, 3, 0)] ∧ P 156 3 = [(37, 0, 0, 0), (7, 12, 13, 91), (0, 4, 0, 0), (2, 3, 0, 0), (19, 0, 0, 0), (2, 1, 0, 0), (2, 2, 0, 0), (2, 4, 0, 0), (31, 48, 3, 310), (17, 0, 0, 0), (10, 0, 0, 0), (3, 5, 0, 0), (2, 5, 0, 0), (1, 1, 0, 0), (53, 5, 4, 0)] ∧ P 156 4 = [(1, 1, 0, 0), (51, 6, 0, 0)] ∧ P 156 5 = [(37, 0, 0, 0), (2, 5, 0, 0), (31, 61, 2, 124), (50, 6, 0, 0)] ∧ P 156 6 = [(3, 3, 0, 0), (4, 4, 1, 0), (51, 1, 0, 0)] ∧ P 156 7 = [(2, 3, 0, 0), (1, 1, 0, 0), (52, 10, 8, 0)] ∧ P 156 8 = [(37, 0, 0, 0), (7, 12, 11, 85), (2, 3, 0, 0), (10, 0, 0, 0), (0, 1, 0, 0), (53, 10, 9, 0)] ∧ P 156 9 = [(0, 1, 0, 0), (51, 11, 0, 0)] ∧ P 156 10 = [(0, 0, 0, 0), (50, 11, 0, 0)] ∧ P 156 11 = [(65, 0, 0, 0)] := by refine ⟨?_, ?_, ?_, ?_, ?_, ?_, ?_, ?_, ?_, ?_, ?_, ?_⟩ <;> rfl
theorem pe157 : P 157 0 = [(2, 1, 0, 0), (31, 79, 1, 316), (58, 2, 1, 0)] ∧ P 157 1 = [(2, 2, 0, 0), (0, 0, 0, 0), (37, 0, 0, 0), (6, 12, 8, 28), (0, 1, 0, 0), (18, 0, 0, 0), (31, 43, 3, 15), (59, 3, 2, 0)] ∧ P 157 2 = [(1, 2, 0, 0), (64, 0, 0, 0)] ∧ P 157 3 = [(37, 0, 0, 0), (30, 152, 1, 457), (37, 0, 0, 0), (2, 1, 0, 0), (2, 2, 0, 0), (30, 154, 3, 460), (37, 0, 0, 0), (6, 12, 19, 94), (3, 3, 0, 0), (37, 0, 0, 0), (2, 2, 0, 0), (30, 155, 2, 463), (37, 0, 0, 0), (30, 153, 1, 466), (2, 3, 0, 0), (64, 0, 0, 0)] := by refine ⟨?_, ?_, ?_, ?_⟩ <;> rfl
theorem pe158 : P 158 0 = [(37, 0, 0, 0), (31, 47, 1, 287), (59, 2, 1, 0)] ∧ P 158 1 = [(1, 2, 0, 0), (64, 0, 0, 0)] ∧ P 158 2 = [(37, 0, 0, 0), (30, 152, 1, 457), (0, 0, 0, 0), (3, 1, 0, 0), (0, 0, 0, 0), (3, 2, 0, 0), (50, 3, 0, 0)] ∧ P 158 3 = [(2, 2, 0, 0), (0, 3, 0, 0), (55, 8, 4, 0)] ∧ P 158 4 = [(37, 0, 0, 0), (2, 2, 0, 0), (30, 76, 2, 322), (2, 1, 0, 0), (37, 0, 0, 0), (37, 0, 0, 0), (6, 12, 3, 19), (37, 0, 0, 0), (6, 12, 4, 22), (31, 156, 3, 469), (58, 6, 5, 0)] ∧ P 158 5 = [(0, 1, 0, 0), (2, 2, 0, 0), (24, 0, 0, 0), (51, 7, 0, 0)] ∧ P 158 6 = [(0, 0, 0, 0), (50, 7, 0, 0)] ∧ P 158 7 = [(23, 0, 0, 0), (3, 1, 0, 0), (4, 2, 1, 0), (51, 3, 0, 0)] ∧ P 158 8 = [(37, 0, 0, 0), (30, 153, 1, 466), (2, 1, 0, 0), (64, 0, 0, 0)] := by refine ⟨?_, ?_, ?_, ?_, ?_, ?_, ?_, ?_, ?_⟩ <;> rfl
theorem pe159 : P 159 0 = [(2, 1, 0, 0), (31, 79, 1, 316), (59, 2, 1, 0)] ∧ P 159 1 = [(1, 2, 0, 0), (64, 0, 0, 0)] ∧ P 159 2 = [(37, 0, 0, 0), (30, 152, 1, 457), (0, 0, 0, 0), (3, 2, 0, 0), (0, 0, 0, 0), (3, 3, 0, 0), (50, 3, 0, 0)] ∧ P 159 3 = [(2, 3, 0, 0), (37, 0, 0, 0), (6, 12, 8, 28), (55, 8, 4, 0)] ∧ P 159 4 = [(37, 0, 0, 0), (2, 1, 0, 0), (2, 3, 0, 0), (30, 154, 3, 460), (2, 2, 0, 0), (37, 0, 0, 0), (37, 0, 0, 0), (6, 12, 65, 447), (37, 0, 0, 0), (6, 12, 66, 450), (31, 156, 3, 469), (37, 0, 0, 0), (6, 12, 67, 453), (53, 6, 5, 0)] ∧ P 159 5 = [(0, 1, 0, 0), (51, 7, 0, 0)] ∧ P 159 6 = [(0, 0, 0, 0), (50, 7, 0, 0)] ∧ P 159 7 = [(17, 0, 0, 0), (3, 2, 0, 0), (37, 0, 0, 0), (2, 3, 0, 0), (30, 155, 2, 463), (4, 3, 1, 0), (51, 3, 0, 0)] ∧ P 159 8 = [(37, 0, 0, 0), (30, 153, 1, 466), (2, 2, 0, 0), (64, 0, 0, 0)] := by refine ⟨?_, ?_, ?_, ?_, ?_, ?_, ?_, ?_, ?_⟩ <;> rfl
theorem pe160 : P 160 0 = [(37, 0, 0, 0), (37, 1, 0, 0), (6, 9, 4, 40), (0, 120, 0, 0), (32, 0, 0, 46), (8, 0, 9, 52), (37, 0, 0, 0), (37, 0, 0, 0), (6, 0, 9, 52), (8, 0, 10, 55), (37, 0, 0, 0), (0, 0, 0, 0), (8, 0, 11, 56), (37, 0, 0, 0), (0, 0, 0, 0), (8, 0, 12, 59), (0, 0, 0, 0), (3, 2, 0, 0), (50, 1, 0, 0)] ∧ P 160 1 = [(2, 2, 0, 0), (37, 0, 0, 0), (6, 0, 9, 52), (55, 8, 2, 0)] ∧ P 160 2 = [(37, 0, 0, 0), (7, 0, 1, 9), (2, 2, 0, 0), (2, 2, 0, 0), (12, 0, 0, 0), (37, 0, 0, 0), (7, 0, 2, 15), (2, 2, 0, 0), (37, 1, 0, 0), (7, 9, 2, 62), (2, 2, 0, 0), (10, 0, 0, 0), (12, 0, 0, 0), (37, 0, 0, 0), (7, 0, 3, 18), (2, 2, 0, 0), (2, 2, 0, 0), (59, 4, 3, 0)] ∧ P 160 3 = [(0, 1, 0, 0), (51, 5, 0, 0)] ∧ P 160 4 = [(0, 0, 0, 0), (50, 5, 0, 0)] ∧ P 160 5 = [(14, 0, 0, 0), (37, 0, 0, 0), (7, 0, 2, 15), (2, 2, 0, 0), (10, 0, 0, 0), (58, 7, 6, 0)] ∧ P 160 6 = [(37, 0, 0, 0), (27, 0, 0, 0), (6, 0, 11, 56), (0, 1, 0, 0), (17, 0, 0, 0), (8, 0, 11, 56), (50, 7, 0, 0)] ∧ P 160 7 = [(4, 2, 1, 0), (51, 1, 0, 0)] ∧ P 160 8 = [(37, 1, 0, 0), (7, 9, 4, 63), (0, 0, 0, 0), (37, 0, 0, 0), (7, 0, 4, 22), (0, 0, 0, 0), (37, 0, 0, 0), (6, 0, 9, 52), (0, 4, 0, 0), (19, 0, 0, 0), (34, 0, 0, 66), (67, 0, 0, 0)] := by refine ⟨?_, ?_, ?_, ?_, ?_, ?_, ?_, ?_, ?_⟩ <;> rfl
theorem pe161 : P 161 0 = [(2, 1, 0, 0), (60, 4, 1, 0)] ∧ P 161 1 = [(2, 1, 0, 0), (37, 0, 0, 0), (6, 0, 9, 52), (55, 4, 2, 0)] ∧ P 161 2 = [(37, 0, 0, 0), (7, 0, 1, 9), (2, 1, 0, 0), (10, 0, 0, 0), (2, 1, 0, 0), (53, 4, 3, 0)] ∧ P 161 3 = [(0, 1, 0, 0), (51, 5, 0, 0)] ∧ P 161 4 = [(0, 0, 0, 0), (50, 5, 0, 0)] ∧ P 161 5 = [(65, 0, 0, 0)] := by refine ⟨?_, ?_, ?_, ?_, ?_, ?_⟩ <;> rfl
theorem pe162 : P 162 0 = [(2, 1, 0, 0), (2, 2, 0, 0), (52, 4, 1, 0)] ∧ P 162 1 = [(37, 0, 0, 0), (2, 1, 0, 0), (31, 161, 2, 72), (58, 4, 2, 0)] ∧ P 162 2 = [(37, 0, 0, 0), (2, 2, 0, 0), (31, 161, 2, 72), (58, 4, 3, 0)] ∧ P 162 3 = [(0, 1, 0, 0), (51, 5, 0, 0)] ∧ P 162 4 = [(0, 0, 0, 0), (50, 5, 0, 0)] ∧ P 162 5 = [(65, 0, 0, 0)] := by refine ⟨?_, ?_, ?_, ?_, ?_, ?_⟩ <;> rfl
theorem pe163 : P 163 0 = [(2, 1, 0, 0), (3, 2, 0, 0), (0, 0, 0, 0), (3, 3, 0, 0), (50, 1, 0, 0)] ∧ P 163 1 = [(2, 3, 0, 0), (0, 120, 0, 0), (55, 6, 2, 0)] ∧ P 163 2 = [(2, 2, 0, 0), (60, 6, 3, 0)] ∧ P 163 3 = [(2, 2, 0, 0), (37, 0, 0, 0), (6, 0, 9, 52), (55, 6, 4, 0)] ∧ P 163 4 = [(37, 0, 0, 0), (7, 0, 1, 9), (2, 2, 0, 0), (10, 0, 0, 0), (2, 2, 0, 0), (52, 6, 5, 0)] ∧ P 163 5 = [(37, 0, 0, 0), (7, 0, 1, 9), (2, 2, 0, 0), (10, 0, 0, 0), (3, 2, 0, 0), (4, 3, 1, 0), (51, 1, 0, 0)] ∧ P 163 6 = [(2, 2, 0, 0), (64, 0, 0, 0)] := by refine ⟨?_, ?_, ?_, ?_, ?_, ?_, ?_⟩ <;> rfl
theorem pe164 : P 164 0 = [(37, 0, 0, 0), (2, 1, 0, 0), (31, 161, 2, 72), (58, 3, 1, 0)] ∧ P 164 1 = [(37, 0, 0, 0), (7, 0, 3, 18), (2, 1, 0, 0), (15, 0, 0, 0), (58, 3, 2, 0)] ∧ P 164 2 = [(0, 1, 0, 0), (51, 4, 0, 0)] ∧ P 164 3 = [(0, 0, 0, 0), (50, 4, 0, 0)] ∧ P 164 4 = [(65, 0, 0, 0)] := by refine ⟨?_, ?_, ?_, ?_, ?_⟩ <;> rfl
theorem pe165 : P 165 0 = [(37, 0, 0, 0), (2, 1, 0, 0), (31, 161, 2, 72), (58, 2, 1, 0)] ∧ P 165 1 = [(37, 0, 0, 0), (7, 0, 3, 18), (2, 1, 0, 0), (2, 2, 0, 0), (14, 0, 0, 0), (50, 2, 0, 0)] ∧ P 165 2 = [(67, 0, 0, 0)] := by refine ⟨?_, ?_, ?_⟩ <;> rfl
theorem pe166 : P 166 0 = [(37, 0, 0, 0), (2, 1, 0, 0), (31, 161, 2, 72), (58, 3, 1, 0)] ∧ P 166 1 = [(2, 2, 0, 0), (60, 3, 2, 0)] ∧ P 166 2 = [(2, 2, 0, 0), (0, 4, 0, 0), (54, 4, 3, 0)] ∧ P 166 3 = [(1, 1, 0, 0), (64, 0, 0, 0)] ∧ P 166 4 = [(37, 0, 0, 0), (37, 0, 0, 0), (7, 0, 4, 22), (2, 1, 0, 0), (0, 4, 0, 0), (19, 0, 0, 0), (2, 2, 0, 0), (17, 0, 0, 0), (10, 0, 0, 0), (31, 163, 2, 76), (64, 0, 0, 0)] := by refine ⟨?_, ?_, ?_, ?_, ?_⟩ <;> rfl
theorem pe167 : P 167 0 = [(2, 1, 0, 0), (60, 4, 1, 0)] ∧ P 167 1 = [(2, 1, 0, 0), (37, 0, 0, 0), (6, 0, 9, 52), (55, 4, 2, 0)] ∧ P 167 2 = [(2, 2, 0, 0), (60, 4, 3, 0)] ∧ P 167 3 = [(2, 2, 0, 0), (37, 0, 0, 0), (6, 0, 9, 52), (54, 5, 4, 0)] ∧ P 167 4 = [(0, 0, 0, 0), (65, 0, 0, 0)] ∧ P 167 5 = [(37, 0, 0, 0), (6, 0, 12, 59), (3, 3, 0, 0), (37, 0, 0, 0), (7, 0, 7, 31), (0, 0, 0, 0), (2, 1, 0, 0), (12, 0, 0, 0), (37, 0, 0, 0), (7, 0, 8, 34), (0, 0, 0, 0), (2, 2, 0, 0), (12, 0, 0, 0), (37, 0, 0, 0), (0, 1, 0, 0), (8, 0, 13, 80), (0, 0, 0, 0), (3, 4, 0, 0), (50, 6, 0, 0)] ∧ P 167 6 = [(2, 4, 0, 0), (0, 481, 0, 0), (55, 14, 7, 0)] ∧ P 167 7 = [(37, 0, 0, 0), (6, 0, 13, 80), (63, 14, 8, 0)] ∧ P 167 8 = [(37, 0, 0, 0), (27, 0, 0, 0), (6, 0, 13, 80), (0, 1, 0, 0), (18, 0, 0, 0), (8, 0, 13, 80), (37, 0, 0, 0), (37, 0, 0, 0), (7, 0, 7, 31), (37, 0, 0, 0), (6, 0, 13, 80), (10, 0, 0, 0), (31, 163, 2, 76), (3, 5, 0, 0), (37, 0, 0, 0), (37, 0, 0, 0), (7, 0, 8, 34), (37, 0, 0, 0), (6, 0, 13, 80), (10, 0, 0, 0), (31, 163, 2, 76), (3, 6, 0, 0), (2, 5, 0, 0), (2, 6, 0, 0), (53, 10, 9, 0)] ∧ P 167 9 = [(51, 13, 0, 0)] ∧ P 167 10 = [(37, 0, 0, 0), (7, 0, 2, 15), (2, 5, 0, 0), (10, 0, 0, 0), (37, 0, 0, 0), (7, 0, 2, 15), (2, 6, 0, 0), (10, 0, 0, 0), (23, 0, 0, 0), (0, 3, 0, 0), (53, 12, 11, 0)] ∧ P 167 11 = [(37, 0, 0, 0), (2, 3, 0, 0), (30, 169, 2, 83), (0, 0, 0, 0), (65, 0, 0, 0)] ∧ P 167 12 = [(37, 0, 0, 0), (2, 5, 0, 0), (2, 6, 0, 0), (32, 0, 0, 46), (2, 5, 0, 0), (2, 6, 0, 0), (33, 0, 0, 87), (30, 168, 3, 90), (50, 13, 0, 0)] ∧ P 167 13 = [(4, 4, 1, 0), (51, 6, 0, 0)] ∧ P 167 14 = [(0, 1, 0, 0), (65, 0, 0, 0)] := by refine ⟨?_, ?_, ?_, ?_, ?_, ?_, ?_, ?_, ?_, ?_, ?_, ?_, ?_, ?_, ?_⟩ <;> rfl
theorem pe168 : P 168 0 = [(37, 0, 0, 0), (6, 0, 12, 59), (60, 2, 1, 0)] ∧ P 168 1 = [(37, 0, 0, 0), (6, 0, 12, 59), (0, 120, 0, 0), (54, 3, 2, 0)] ∧ P 168 2 = [(67, 0, 0, 0)] ∧ P 168 3 = [(37, 0, 0, 0), (7, 0, 2, 15), (2, 1, 0, 0), (10, 0, 0, 0), (37, 0, 0, 0), (7, 0, 3, 18), (2, 1, 0, 0), (15, 0, 0, 0), (58, 5, 4, 0)] ∧ P 168 4 = [(0, 4, 0, 0), (51, 6, 0, 0)] ∧ P 168 5 = [(0, 0, 0, 0), (50, 6, 0, 0)] ∧ P 168 6 = [(23, 0, 0, 0), (3, 3, 0, 0), (37, 0, 0, 0), (7, 0, 2, 15), (2, 1, 0, 0), (10, 0, 0, 0), (59, 8, 7, 0)] ∧ P 168 7 = [(37, 0, 0, 0), (7, 0, 2, 15), (2, 1, 0, 0), (37, 0, 0, 0), (7, 0, 2, 15), (2, 2, 0, 0), (10, 0, 0, 0), (12, 0, 0, 0), (51, 10, 0, 0)] ∧ P 168 8 = [(37, 0, 0, 0), (7, 0, 2, 15), (2, 2, 0, 0), (10, 0, 0, 0), (58, 10, 9, 0)] ∧ P 168 9 = [(37, 0, 0, 0), (27, 0, 0, 0), (6, 0, 11, 56), (0, 1, 0, 0), (18, 0, 0, 0), (8, 0, 11, 56), (50, 10, 0, 0)] ∧ P 168 10 = [(37, 0, 0, 0), (7, 0, 3, 18), (2, 1, 0, 0), (37, 0, 0, 0), (7, 0, 3, 18), (2, 1, 0, 0), (15, 0, 0, 0), (59, 12, 11, 0)] ∧ P 168 11 = [(37, 0, 0, 0), (7, 0, 3, 18), (2, 2, 0, 0), (15, 0, 0, 0), (58, 13, 12, 0)] ∧ P 168 12 = [(0, 1, 0, 0), (51, 14, 0, 0)] ∧ P 168 13 = [(0, 0, 0, 0), (50, 14, 0, 0)] ∧ P 168 14 = [(14, 0, 0, 0), (0, 0, 0, 0), (3, 4, 0, 0), (50, 15, 0, 0)] ∧ P 168 15 = [(2, 4, 0, 0), (0, 4, 0, 0), (55, 23, 16, 0)] ∧ P 168 16 = [(2, 1, 0, 0), (0, 4, 0, 0), (19, 0, 0, 0), (2, 4, 0, 0), (17, 0, 0, 0), (3, 5, 0, 0), (37, 0, 0, 0), (7, 0, 4, 22), (2, 2, 0, 0), (0, 4, 0, 0), (19, 0, 0, 0), (2, 4, 0, 0), (17, 0, 0, 0), (10, 0, 0, 0), (3, 6, 0, 0), (2, 6, 0, 0), (1, 1, 0, 0), (53, 18, 17, 0)] ∧ P 168 17 = [(51, 22, 0, 0)] ∧ P 168 18 = [(37, 0, 0, 0), (7, 0, 4, 22), (2, 5, 0, 0), (10, 0, 0, 0), (1, 1, 0, 0), (53, 20, 19, 0)] ∧ P 168 19 = [(37, 0, 0, 0), (7, 0, 4, 22), (2, 5, 0, 0), (2, 6, 0, 0), (12, 0, 0, 0), (2, 3, 0, 0), (0, 8, 0, 0), (2, 4, 0, 0), (24, 0, 0, 0), (23, 0, 0, 0), (3, 3, 0, 0), (51, 22, 0, 0)] ∧ P 168 20 = [(37, 0, 0, 0), (6, 0, 13, 80), (0, 481, 0, 0), (55, 22, 21, 0)] ∧ P 168 21 = [(37, 0, 0, 0), (7, 0, 7, 31), (37, 0, 0, 0), (6, 0, 13, 80), (37, 0, 0, 0), (7, 0, 4, 22), (2, 5, 0, 0), (10, 0, 0, 0), (12, 0, 0, 0), (37, 0, 0, 0), (7, 0, 8, 34), (37, 0, 0, 0), (6, 0, 13, 80), (2, 6, 0, 0), (12, 0, 0, 0), (37, 0, 0, 0), (27, 0, 0, 0), (6, 0, 13, 80), (0, 1, 0, 0), (17, 0, 0, 0), (8, 0, 13, 80), (50, 22, 0, 0)] ∧ P 168 22 = [(4, 4, 1, 0), (51, 15, 0, 0)] ∧ P 168 23 = [(37, 0, 0, 0), (7, 0, 1, 9), (2, 2, 0, 0), (2, 1, 0, 0), (12, 0, 0, 0), (37, 0, 0, 0), (7, 0, 5, 25), (37, 0, 0, 0), (6, 0, 12, 59), (2, 2, 0, 0), (12, 0, 0, 0), (37, 0, 0, 0), (7, 0, 6, 28), (37, 0, 0, 0), (6, 0, 12, 59), (2, 3, 0, 0), (12, 0, 0, 0), (37, 0, 0, 0), (27, 0, 0, 0), (6, 0, 12, 59), (0, 1, 0, 0), (17, 0, 0, 0), (8, 0, 12, 59), (37, 0, 0, 0), (27, 0, 0, 0), (6, 0, 10, 55), (0, 1, 0, 0), (18, 0, 0, 0), (8, 0, 10, 55), (67, 0, 0, 0)] := by refine ⟨?_, ?_, ?_, ?_, ?_, ?_, ?_, ?_, ?_, ?_, ?_, ?_, ?_, ?_, ?_, ?_, ?_, ?_, ?_, ?_, ?_, ?_, ?_, ?_⟩ <;> rfl
theorem pe169 : P 169 0 = [(37, 0, 0, 0), (6, 0, 12, 59), (0, 120, 0, 0), (32, 0, 0, 46), (0, 1, 0, 0), (18, 0, 0, 0), (3, 2, 0, 0), (50, 1, 0, 0)] ∧ P 169 1 = [(2, 2, 0, 0), (60, 15, 2, 0)] ∧ P 169 2 = [(2, 2, 0, 0), (2, 1, 0, 0), (54, 15, 3, 0)] ∧ P 169 3 = [(37, 0, 0, 0), (7, 0, 5, 25), (2, 2, 0, 0), (10, 0, 0, 0), (3, 3, 0, 0), (37, 0, 0, 0), (7, 0, 1, 9), (2, 3, 0, 0), (10, 0, 0, 0), (3, 4, 0, 0), (37, 0, 0, 0), (7, 0, 6, 28), (2, 2, 0, 0), (10, 0, 0, 0), (3, 5, 0, 0), (37, 0, 0, 0), (7, 0, 2, 15), (2, 4, 0, 0), (2, 5, 0, 0), (0, 3, 0, 0), (22, 0, 0, 0), (12, 0, 0, 0), (37, 0, 0, 0), (7, 0, 3, 18), (2, 4, 0, 0), (2, 5, 0, 0), (0, 4, 0, 0), (22, 0, 0, 0), (58, 5, 4, 0)] ∧ P 169 4 = [(0, 1, 0, 0), (51, 6, 0, 0)] ∧ P 169 5 = [(0, 0, 0, 0), (50, 6, 0, 0)] ∧ P 169 6 = [(14, 0, 0, 0), (0, 0, 0, 0), (3, 6, 0, 0), (50, 7, 0, 0)] ∧ P 169 7 = [(2, 6, 0, 0), (0, 4, 0, 0), (55, 11, 8, 0)] ∧ P 169 8 = [(2, 5, 0, 0), (0, 8, 0, 0), (2, 6, 0, 0), (24, 0, 0, 0), (22, 0, 0, 0), (58, 10, 9, 0)] ∧ P 169 9 = [(37, 0, 0, 0), (7, 0, 4, 22), (2, 4, 0, 0), (0, 4, 0, 0), (19, 0, 0, 0), (2, 6, 0, 0), (17, 0, 0, 0), (1, 1, 0, 0), (12, 0, 0, 0), (50, 10, 0, 0)] ∧ P 169 10 = [(4, 6, 1, 0), (51, 7, 0, 0)] ∧ P 169 11 = [(37, 0, 0, 0), (7, 0, 2, 15), (2, 4, 0, 0), (10, 0, 0, 0), (58, 14, 12, 0)] ∧ P 169 12 = [(37, 0, 0, 0), (7, 0, 2, 15), (2, 3, 0, 0), (10, 0, 0, 0), (58, 14, 13, 0)] ∧ P 169 13 = [(37, 0, 0, 0), (27, 0, 0, 0), (6, 0, 11, 56), (0, 1, 0, 0), (17, 0, 0, 0), (8, 0, 11, 56), (50, 14, 0, 0)] ∧ P 169 14 = [(37, 0, 0, 0), (7, 0, 1, 9), (2, 3, 0, 0), (2, 3, 0, 0), (12, 0, 0, 0), (37, 0, 0, 0), (27, 0, 0, 0), (6, 0, 10, 55), (0, 1, 0, 0), (17, 0, 0, 0), (8, 0, 10, 55), (37, 0, 0, 0), (2, 2, 0, 0), (8, 0, 12, 59), (5, 2, 1, 0), (51, 1, 0, 0)] ∧ P 169 15 = [(67, 0, 0, 0)] := by refine ⟨?_, ?_, ?_, ?_, ?_, ?_, ?_, ?_, ?_, ?_, ?_, ?_, ?_, ?_, ?_, ?_⟩ <;> rfl
theorem pe170 : P 170 0 = [(37, 0, 0, 0), (6, 0, 12, 59), (3, 4, 0, 0), (37, 0, 0, 0), (6, 0, 10, 55), (3, 5, 0, 0), (37, 0, 0, 0), (6, 0, 11, 56), (3, 6, 0, 0), (37, 0, 0, 0), (2, 2, 0, 0), (2, 3, 0, 0), (31, 167, 3, 94), (59, 2, 1, 0)] ∧ P 170 1 = [(1, 1, 0, 0), (64, 0, 0, 0)] ∧ P 170 2 = [(0, 0, 0, 0), (3, 7, 0, 0), (2, 1, 0, 0), (0, 1, 0, 0), (53, 4, 3, 0)] ∧ P 170 3 = [(2, 6, 0, 0), (37, 0, 0, 0), (6, 0, 11, 56), (18, 0, 0, 0), (3, 7, 0, 0), (51, 6, 0, 0)] ∧ P 170 4 = [(2, 1, 0, 0), (0, 2, 0, 0), (53, 6, 5, 0)] ∧ P 170 5 = [(2, 5, 0, 0), (37, 0, 0, 0), (6, 0, 10, 55), (18, 0, 0, 0), (3, 7, 0, 0), (50, 6, 0, 0)] ∧ P 170 6 = [(37, 0, 0, 0), (2, 4, 0, 0), (30, 169, 2, 83), (2, 7, 0, 0), (64, 0, 0, 0)] := by refine ⟨?_, ?_, ?_, ?_, ?_, ?_, ?_⟩ <;> rfl
theorem pe171 : P 171 0 = [(2, 1, 0, 0), (31, 259, 1, 98), (3, 2, 0, 0), (0, 0, 0, 0), (3, 3, 0, 0), (0, 0, 0, 0), (3, 4, 0, 0), (50, 1, 0, 0)] ∧ P 171 1 = [(2, 4, 0, 0), (2, 2, 0, 0), (55, 4, 2, 0)] ∧ P 171 2 = [(2, 3, 0, 0), (1, 1, 0, 0), (52, 4, 3, 0)] ∧ P 171 3 = [(37, 0, 0, 0), (2, 3, 0, 0), (2, 1, 0, 0), (2, 4, 0, 0), (31, 260, 2, 103), (31, 166, 3, 106), (3, 3, 0, 0), (4, 4, 1, 0), (51, 1, 0, 0)] ∧ P 171 4 = [(37, 0, 0, 0), (2, 3, 0, 0), (31, 161, 2, 72), (58, 7, 5, 0)] ∧ P 171 5 = [(37, 0, 0, 0), (7, 0, 2, 15), (2, 3, 0, 0), (10, 0, 0, 0), (0, 1, 0, 0), (53, 7, 6, 0)] ∧ P 171 6 = [(0, 1, 0, 0), (51, 8, 0, 0)] ∧ P 171 7 = [(0, 0, 0, 0), (50, 8, 0, 0)] ∧ P 171 8 = [(65, 0, 0, 0)] := by refine ⟨?_, ?_, ?_, ?_, ?_, ?_, ?_, ?_, ?_⟩ <;> rfl
theorem pe172 : P 172 0 = [(37, 1, 0, 0), (30, 186, 1, 109), (0, 0, 0, 0), (3, 2, 0, 0), (50, 1, 0, 0)] ∧ P 172 1 = [(2, 2, 0, 0), (37, 0, 0, 0), (6, 0, 9, 52), (55, 5, 2, 0)] ∧ P 172 2 = [(37, 0, 0, 0), (7, 0, 1, 9), (2, 2, 0, 0), (10, 0, 0, 0), (2, 2, 0, 0), (53, 4, 3, 0)] ∧ P 172 3 = [(37, 0, 0, 0), (7, 0, 9, 37), (2, 2, 0, 0), (37, 1, 0, 0), (6, 2, 2, 114), (12, 0, 0, 0), (37, 1, 0, 0), (37, 0, 0, 0), (7, 0, 2, 15), (2, 2, 0, 0), (10, 0, 0, 0), (30, 189, 2, 115), (50, 4, 0, 0)] ∧ P 172 4 = [(4, 2, 1, 0), (51, 1, 0, 0)] ∧ P 172 5 = [(0, 0, 0, 0), (3, 2, 0, 0), (50, 6, 0, 0)] ∧ P 172 6 = [(2, 2, 0, 0), (37, 0, 0, 0), (6, 0, 9, 52), (55, 15, 7, 0)] ∧ P 172 7 = [(0, 0, 0, 0), (3, 3, 0, 0), (50, 8, 0, 0)] ∧ P 172 8 = [(2, 3, 0, 0), (0, 4, 0, 0), (55, 14, 9, 0)] ∧ P 172 9 = [(37, 0, 0, 0), (7, 0, 1, 9), (2, 2, 0, 0), (10, 0, 0, 0), (2, 2, 0, 0), (53, 14, 10, 0)] ∧ P 172 10 = [(37, 0, 0, 0), (2, 2, 0, 0), (2, 3, 0, 0), (31, 166, 3, 106), (3, 4, 0, 0), (37, 1, 0, 0), (37, 0, 0, 0), (7, 0, 9, 37), (2, 2, 0, 0), (10, 0, 0, 0), (2, 3, 0, 0), (37, 0, 0, 0), (2, 4, 0, 0), (31, 161, 2, 72), (58, 12, 11, 0)] ∧ P 172 11 = [(37, 0, 0, 0), (7, 0, 9, 37), (2, 4, 0, 0), (10, 0, 0, 0), (51, 13, 0, 0)] ∧ P 172 12 = [(1, 1, 0, 0), (50, 13, 0, 0)] ∧ P 172 13 = [(30, 190, 4, 118), (4, 3, 1, 0), (51, 8, 0, 0)] ∧ P 172 14 = [(4, 2, 1, 0), (51, 6, 0, 0)] ∧ P 172 15 = [(67, 0, 0, 0)] := by refine ⟨?_, ?_, ?_, ?_, ?_, ?_, ?_, ?_, ?_, ?_, ?_, ?_, ?_, ?_, ?_, ?_⟩ <;> rfl
theorem pe173 : P 173 0 = [(37, 0, 0, 0), (7, 1, 1, 12), (37, 1, 0, 0), (30, 160, 2, 41), (37, 0, 0, 0), (0, 0, 0, 0), (8, 1, 10, 45), (67, 0, 0, 0)] := rfl
theorem pe174 : P 174 0 = [(37, 0, 0, 0), (0, 0, 0, 0), (8, 1, 8, 49), (37, 0, 0, 0), (0, 0, 0, 0), (8, 1, 9, 52), (0, 0, 0, 0), (3, 1, 0, 0), (50, 1, 0, 0)] ∧ P 174 1 = [(2, 1, 0, 0), (0, 120, 0, 0), (55, 3, 2, 0)] ∧ P 174 2 = [(37, 0, 0, 0), (7, 1, 13, 25), (2, 1, 0, 0), (0, 0, 0, 0), (14, 0, 0, 0), (4, 1, 1, 0), (51, 1, 0, 0)] ∧ P 174 3 = [(0, 0, 0, 0), (3, 1, 0, 0), (50, 4, 0, 0)] ∧ P 174 4 = [(2, 1, 0, 0), (37, 0, 0, 0), (7, 1, 1, 12), (6, 0, 9, 55), (55, 8, 5, 0)] ∧ P 174 5 = [(37, 0, 0, 0), (7, 1, 1, 12), (2, 1, 0, 0), (31, 164, 2, 58), (58, 7, 6, 0)] ∧ P 174 6 = [(37, 0, 0, 0), (7, 1, 11, 18), (37, 0, 0, 0), (6, 1, 8, 49), (2, 1, 0, 0), (12, 0, 0, 0), (37, 0, 0, 0), (27, 0, 0, 0), (6, 1, 8, 49), (0, 1, 0, 0), (17, 0, 0, 0), (8, 1, 8, 49), (37, 0, 0, 0), (2, 1, 0, 0), (30, 175, 2, 62), (50, 7, 0, 0)] ∧ P 174 7 = [(4, 1, 1, 0), (51, 4, 0, 0)] ∧ P 174 8 = [(0, 0, 0, 0), (3, 1, 0, 0), (50, 9, 0, 0)] ∧ P 174 9 = [(2, 1, 0, 0), (37, 0, 0, 0), (7, 1, 1, 12), (6, 0, 9, 55), (55, 14, 10, 0)] ∧ P 174 10 = [(37, 0, 0, 0), (7, 1, 13, 25), (2, 1, 0, 0), (15, 0, 0, 0), (58, 13, 11, 0)] ∧ P 174 11 = [(37, 0, 0, 0), (7, 1, 1, 12), (2, 1, 0, 0), (31, 164, 2, 58), (59, 13, 12, 0)] ∧ P 174 12 = [(37, 0, 0, 0), (7, 1, 12, 22), (37, 0, 0, 0), (6, 1, 9, 52), (2, 1, 0, 0), (12, 0, 0, 0), (37, 0, 0, 0), (27, 0, 0, 0), (6, 1, 9, 52), (0, 1, 0, 0), (17, 0, 0, 0), (8, 1, 9, 52), (50, 13, 0, 0)] ∧ P 174 13 = [(4, 1, 1, 0), (51, 9, 0, 0)] ∧ P 174 14 = [(67, 0, 0, 0)] := by refine ⟨?_, ?_, ?_, ?_, ?_, ?_, ?_, ?_, ?_, ?_, ?_, ?_, ?_, ?_, ?_⟩ <;> rfl
theorem pe175 : P 175 0 = [(0, 0, 0, 0), (3, 2, 0, 0), (50, 1, 0, 0)] ∧ P 175 1 = [(2, 2, 0, 0), (0, 4, 0, 0), (55, 6, 2, 0)] ∧ P 175 2 = [(37, 0, 0, 0), (7, 1, 1, 12), (2, 1, 0, 0), (2, 2, 0, 0), (31, 166, 3, 66), (3, 3, 0, 0), (2, 3, 0, 0), (60, 5, 3, 0)] ∧ P 175 3 = [(2, 3, 0, 0), (0, 120, 0, 0), (55, 5, 4, 0)] ∧ P 175 4 = [(37, 0, 0, 0), (7, 1, 13, 25), (2, 3, 0, 0), (0, 1, 0, 0), (14, 0, 0, 0), (50, 5, 0, 0)] ∧ P 175 5 = [(4, 2, 1, 0), (51, 1, 0, 0)] ∧ P 175 6 = [(67, 0, 0, 0)] := by refine ⟨?_, ?_, ?_, ?_, ?_, ?_, ?_⟩ <;> rfl
theorem pe176 : P 176 0 = [(37, 0, 0, 0), (7, 1, 1, 12), (2, 1, 0, 0), (31, 163, 2, 70), (3, 2, 0, 0), (37, 0, 0, 0), (7, 1, 1, 12), (2, 2, 0, 0), (31, 164, 2, 58), (58, 2, 1, 0)] ∧ P 176 1 = [(0, 1, 0, 0), (64, 0, 0, 0)] ∧ P 176 2 = [(37, 0, 0, 0), (30, 174, 1, 74), (2, 2, 0, 0), (60, 6, 3, 0)] ∧ P 176 3 = [(2, 2, 0, 0), (0, 120, 0, 0), (55, 6, 4, 0)] ∧ P 176 4 = [(37, 0, 0, 0), (7, 1, 13, 25), (2, 2, 0, 0), (15, 0, 0, 0), (58, 6, 5, 0)] ∧ P 176 5 = [(0, 2, 0, 0), (51, 7, 0, 0)] ∧ P 176 6 = [(0, 0, 0, 0), (50, 7, 0, 0)] ∧ P 176 7 = [(64, 0, 0, 0)] := by refine ⟨?_, ?_, ?_, ?_, ?_, ?_, ?_, ?_⟩ <;> rfl
theorem pe177 : P 177 0 = [(37, 0, 0, 0), (37, 1, 0, 0), (30, 173, 2, 77), (37, 0, 0, 0), (30, 174, 1, 74), (0, 0, 0, 0), (3, 3, 0, 0), (50, 1, 0, 0)] ∧ P 177 1 = [(2, 3, 0, 0), (0, 200, 0, 0), (55, 4, 2, 0)] ∧ P 177 2 = [(37, 0, 0, 0), (6, 1, 9, 52), (63, 4, 3, 0)] ∧ P 177 3 = [(37, 0, 0, 0), (2, 2, 0, 0), (30, 178, 2, 78), (37, 0, 0, 0), (30, 174, 1, 74), (4, 3, 1, 0), (51, 1, 0, 0)] ∧ P 177 4 = [(37, 0, 0, 0), (7, 1, 1, 12), (6, 0, 10, 81), (64, 0, 0, 0)] := by refine ⟨?_, ?_, ?_, ?_, ?_⟩ <;> rfl
theorem pe178 : P 178 0 = [(2, 1, 0, 0), (59, 2, 1, 0)] ∧ P 178 1 = [(37, 0, 0, 0), (30, 179, 1, 84), (51, 3, 0, 0)] ∧ P 178 2 = [(37, 0, 0, 0), (2, 1, 0, 0), (30, 180, 2, 87), (50, 3, 0, 0)] ∧ P 178 3 = [(67, 0, 0, 0)] := by refine ⟨?_, ?_, ?_, ?_⟩ <;> rfl
theorem pe179 : P 179 0 = [(0, 0, 0, 0), (3, 1, 0, 0), (50, 1, 0, 0)] ∧ P 179 1 = [(2, 1, 0, 0), (37, 0, 0, 0), (6, 1, 8, 49), (55, 5, 2, 0)] ∧ P 179 2 = [(37, 0, 0, 0), (37, 0, 0, 0), (7, 1, 12, 22), (0, 0, 0, 0), (10, 0, 0, 0), (37, 0, 0, 0), (7, 1, 11, 18), (2, 1, 0, 0), (10, 0, 0, 0), (0, 0, 0, 0), (31, 181, 4, 90), (58, 4, 3, 0)] ∧ P 179 3 = [(67, 0, 0, 0)] ∧ P 179 4 = [(4, 1, 1, 0), (51, 1, 0, 0)] ∧ P 179 5 = [(37, 0, 0, 0), (37, 0, 0, 0), (7, 1, 12, 22), (0, 0, 0, 0), (10, 0, 0, 0), (30, 182, 2, 94), (67, 0, 0, 0)] := by refine ⟨?_, ?_, ?_, ?_, ?_, ?_⟩ <;> rfl
theorem pe180 : P 180 0 = [(1, 1, 0, 0), (3, 2, 0, 0), (1, 1, 0, 0), (3, 3, 0, 0), (1, 1, 0, 0), (3, 4, 0, 0), (0, 0, 0, 0), (3, 5, 0, 0), (50, 1, 0, 0)] ∧ P 180 1 = [(2, 5, 0, 0), (37, 0, 0, 0), (6, 1, 9, 52), (55, 14, 2, 0)] ∧ P 180 2 = [(0, 0, 0, 0), (3, 6, 0, 0), (0, 0, 0, 0), (3, 7, 0, 0), (50, 3, 0, 0)] ∧ P 180 3 = [(2, 7, 0, 0), (37, 0, 0, 0), (6, 1, 8, 49), (55, 11, 4, 0)] ∧ P 180 4 = [(37, 0, 0, 0), (7, 1, 1, 12), (2, 1, 0, 0), (37, 0, 0, 0), (7, 1, 12, 22), (2, 5, 0, 0), (10, 0, 0, 0), (37, 0, 0, 0), (7, 1, 11, 18), (2, 7, 0, 0), (10, 0, 0, 0), (31, 170, 4, 97), (3, 8, 0, 0), (2, 6, 0, 0), (59, 6, 5, 0)] ∧ P 180 5 = [(2, 8, 0, 0), (1, 1, 0, 0), (52, 7, 6, 0)] ∧ P 180 6 = [(0, 1, 0, 0), (51, 8, 0, 0)] ∧ P 180 7 = [(0, 0, 0, 0), (50, 8, 0, 0)] ∧ P 180 8 = [(3, 6, 0, 0), (2, 8, 0, 0), (2, 2, 0, 0), (57, 10, 9, 0)] ∧ P 180 9 = [(2, 8, 0, 0), (3, 2, 0, 0), (37, 0, 0, 0), (7, 1, 12, 22), (2, 5, 0, 0), (10, 0, 0, 0), (3, 3, 0, 0), (37, 0, 0, 0), (7, 1, 11, 18), (2, 7, 0, 0), (10, 0, 0, 0), (3, 4, 0, 0), (50, 10, 0, 0)] ∧ P 180 10 = [(4, 7, 1, 0), (51, 3, 0, 0)] ∧ P 180 11 = [(2, 6, 0, 0), (59, 13, 12, 0)] ∧ P 180 12 = [(37, 0, 0, 0), (37, 0, 0, 0), (7, 1, 12, 22), (2, 5, 0, 0), (10, 0, 0, 0), (30, 182, 2, 94), (67, 0, 0, 0)] ∧ P 180 13 = [(4, 5, 1, 0), (51, 1, 0, 0)] ∧ P 180 14 = [(37, 0, 0, 0), (2, 3, 0, 0), (2, 4, 0, 0), (2, 2, 0, 0), (31, 181, 4, 90), (28, 0, 0, 0), (67, 0, 0, 0)] := by refine ⟨?_, ?_, ?_, ?_, ?_, ?_, ?_, ?_, ?_, ?_, ?_, ?_, ?_, ?_, ?_⟩ <;> rfl
theorem pe181 : P 181 0 = [(37, 0, 0, 0), (7, 1, 1, 12), (6, 0, 12, 101), (3, 4, 0, 0), (37, 0, 0, 0), (6, 1, 10, 45), (0, 200, 0, 0), (55, 3, 1, 0)] ∧ P 181 1 = [(37, 0, 0, 0), (7, 1, 1, 12), (2, 1, 0, 0), (2, 2, 0, 0), (31, 162, 3, 104), (58, 3, 2, 0)] ∧ P 181 2 = [(37, 0, 0, 0), (7, 1, 1, 12), (2, 1, 0, 0), (2, 2, 0, 0), (31, 167, 3, 108), (59, 4, 3, 0)] ∧ P 181 3 = [(0, 0, 0, 0), (65, 0, 0, 0)] ∧ P 181 4 = [(37, 0, 0, 0), (2, 1, 0, 0), (2, 2, 0, 0), (2, 3, 0, 0), (2, 4, 0, 0), (30, 183, 5, 111), (0, 1, 0, 0), (65, 0, 0, 0)] := by refine ⟨?_, ?_, ?_, ?_, ?_⟩ <;> rfl
theorem pe182 : P 182 0 = [(37, 0, 0, 0), (6, 1, 10, 45), (0, 200, 0, 0), (55, 2, 1, 0)] ∧ P 182 1 = [(37, 0, 0, 0), (7, 1, 1, 12), (2, 1, 0, 0), (0, 1, 0, 0), (30, 165, 3, 115), (37, 0, 0, 0), (2, 1, 0, 0), (1, 1, 0, 0), (0, 0, 0, 0), (37, 0, 0, 0), (7, 1, 1, 12), (6, 0, 12, 101), (30, 183, 5, 111), (50, 2, 0, 0)] ∧ P 182 2 = [(67, 0, 0, 0)] := by refine ⟨?_, ?_, ?_⟩ <;> rfl
theorem pe183 : P 183 0 = [(37, 0, 0, 0), (7, 1, 14, 29), (37, 0, 0, 0), (6, 1, 10, 45), (2, 1, 0, 0), (12, 0, 0, 0), (37, 0, 0, 0), (7, 1, 15, 32), (37, 0, 0, 0), (6, 1, 10, 45), (2, 2, 0, 0), (12, 0, 0, 0), (37, 0, 0, 0), (7, 1, 16, 35), (37, 0, 0, 0), (6, 1, 10, 45), (2, 3, 0, 0), (12, 0, 0, 0), (37, 0, 0, 0), (7, 1, 17, 38), (37, 0, 0, 0), (6, 1, 10, 45), (2, 4, 0, 0), (12, 0, 0, 0), (37, 0, 0, 0), (27, 0, 0, 0), (6, 1, 10, 45), (0, 1, 0, 0), (17, 0, 0, 0), (8, 1, 10, 45), (67, 0, 0, 0)] := rfl
theorem pe184 : P 184 0 = [(37, 0, 0, 0), (6, 1, 10, 45), (62, 2, 1, 0)] ∧ P 184 1 = [(0, 0, 0, 0), (65, 0, 0, 0)] ∧ P 184 2 = [(37, 0, 0, 0), (27, 0, 0, 0), (6, 1, 10, 45), (0, 1, 0, 0), (18, 0, 0, 0), (8, 1, 10, 45), (37, 0, 0, 0), (7, 1, 15, 32), (37, 0, 0, 0), (6, 1, 10, 45), (10, 0, 0, 0), (1, 1, 0, 0), (53, 4, 3, 0)] ∧ P 184 3 = [(37, 0, 0, 0), (7, 1, 1, 12), (37, 0, 0, 0), (7, 1, 14, 29), (37, 0, 0, 0), (6, 1, 10, 45), (10, 0, 0, 0), (0, 0, 0, 0), (30, 165, 3, 115), (51, 5, 0, 0)] ∧ P 184 4 = [(37, 0, 0, 0), (7, 1, 1, 12), (37, 0, 0, 0), (7, 1, 17, 38), (37, 0, 0, 0), (6, 1, 10, 45), (10, 0, 0, 0), (30, 169, 2, 119), (50, 5, 0, 0)] ∧ P 184 5 = [(0, 1, 0, 0), (65, 0, 0, 0)] := by refine ⟨?_, ?_, ?_, ?_, ?_, ?_⟩ <;> rfl
theorem pe185 : P 185 0 = [(2, 1, 0, 0), (60, 2, 1, 0)] ∧ P 185 1 = [(2, 1, 0, 0), (37, 0, 0, 0), (6, 1, 10, 45), (54, 3, 2, 0)] ∧ P 185 2 = [(1, 2, 0, 0), (64, 0, 0, 0)] ∧ P 185 3 = [(2, 2, 0, 0), (68, 11, 0, 0), (0, 4, 0, 0), (1, 8, 0, 0), (2, 9, 0, 0), (3, 10, 0, 0)] ∧ P 185 4 = [(37, 0, 0, 0), (7, 1, 15, 32), (2, 1, 0, 0), (10, 0, 0, 0), (1, 1, 0, 0), (53, 6, 5, 0)] ∧ P 185 5 = [(0, 0, 0, 0), (51, 7, 0, 0)] ∧ P 185 6 = [(0, 1, 0, 0), (50, 7, 0, 0)] ∧ P 185 7 = [(64, 0, 0, 0)] ∧ P 185 8 = [(37, 0, 0, 0), (7, 1, 14, 29), (2, 1, 0, 0), (10, 0, 0, 0), (64, 0, 0, 0)] ∧ P 185 9 = [(37, 0, 0, 0), (7, 1, 15, 32), (2, 1, 0, 0), (10, 0, 0, 0), (64, 0, 0, 0)] ∧ P 185 10 = [(37, 0, 0, 0), (7, 1, 16, 35), (2, 1, 0, 0), (10, 0, 0, 0), (64, 0, 0, 0)] ∧ P 185 11 = [(1, 2, 0, 0), (64, 0, 0, 0)] := by refine ⟨?_, ?_, ?_, ?_, ?_, ?_, ?_, ?_, ?_, ?_, ?_, ?_⟩ <;> rfl
theorem pe186 : P 186 0 = [(37, 0, 0, 0), (0, 0, 0, 0), (8, 2, 2, 24), (67, 0, 0, 0)] := rfl
theorem pe187 : P 187 0 = [(2, 1, 0, 0), (60, 4, 1, 0)] ∧ P 187 1 = [(2, 1, 0, 0), (37, 0, 0, 0), (6, 2, 2, 24), (55, 4, 2, 0)] ∧ P 187 2 = [(2, 1, 0, 0), (37, 0, 0, 0), (7, 2, 1, 15), (16, 0, 0, 0), (55, 4, 3, 0)] ∧ P 187 3 = [(0, 1, 0, 0), (51, 5, 0, 0)] ∧ P 187 4 = [(0, 0, 0, 0), (50, 5, 0, 0)] ∧ P 187 5 = [(65, 0, 0, 0)] := by refine ⟨?_, ?_, ?_, ?_, ?_, ?_⟩ <;> rfl
theorem pe188 : P 188 0 = [(37, 0, 0, 0), (37, 1, 0, 0), (6, 2, 2, 24), (37, 0, 0, 0), (7, 2, 1, 15), (16, 0, 0, 0), (32, 0, 0, 28), (8, 2, 2, 24), (37, 1, 0, 0), (7, 2, 1, 15), (0, 0, 0, 0), (37, 0, 0, 0), (7, 2, 1, 15), (0, 0, 0, 0), (37, 0, 0, 0), (6, 2, 2, 24), (34, 0, 0, 31), (37, 1, 0, 0), (7, 2, 2, 21), (0, 0, 0, 0), (37, 0, 0, 0), (7, 2, 2, 21), (0, 0, 0, 0), (37, 0, 0, 0), (6, 2, 2, 24), (0, 4, 0, 0), (19, 0, 0, 0), (34, 0, 0, 31), (67, 0, 0, 0)] := rfl
theorem pe189 : P 189 0 = [(37, 0, 0, 0), (6, 2, 2, 24), (60, 2, 1, 0)] ∧ P 189 1 = [(37, 0, 0, 0), (6, 2, 2, 24), (37, 0, 0, 0), (7, 2, 1, 15), (16, 0, 0, 0), (54, 3, 2, 0)] ∧ P 189 2 = [(67, 0, 0, 0)] ∧ P 189 3 = [(37, 0, 0, 0), (7, 2, 1, 15), (37, 0, 0, 0), (6, 2, 2, 24), (2, 1, 0, 0), (12, 0, 0, 0), (0, 0, 0, 0), (3, 2, 0, 0), (50, 4, 0, 0)] ∧ P 189 4 = [(2, 2, 0, 0), (0, 4, 0, 0), (55, 6, 5, 0)] ∧ P 189 5 = [(37, 0, 0, 0), (7, 2, 2, 21), (37, 0, 0, 0), (6, 2, 2, 24), (0, 4, 0, 0), (19, 0, 0, 0), (2, 2, 0, 0), (17, 0, 0, 0), (1, 1, 0, 0), (12, 0, 0, 0), (4, 2, 1, 0), (51, 4, 0, 0)] ∧ P 189 6 = [(37, 0, 0, 0), (27, 0, 0, 0), (6, 2, 2, 24), (0, 1, 0, 0), (17, 0, 0, 0), (8, 2, 2, 24), (67, 0, 0, 0)] := by refine ⟨?_, ?_, ?_, ?_, ?_, ?_, ?_⟩ <;> rfl
theorem pe190 : P 190 0 = [(37, 0, 0, 0), (2, 1, 0, 0), (31, 187, 2, 37), (58, 4, 1, 0)] ∧ P 190 1 = [(2, 2, 0, 0), (60, 4, 2, 0)] ∧ P 190 2 = [(2, 2, 0, 0), (0, 4, 0, 0), (55, 4, 3, 0)] ∧ P 190 3 = [(37, 0, 0, 0), (7, 2, 2, 21), (2, 1, 0, 0), (0, 4, 0, 0), (19, 0, 0, 0), (2, 2, 0, 0), (17, 0, 0, 0), (2, 3, 0, 0), (12, 0, 0, 0), (50, 4, 0, 0)] ∧ P 190 4 = [(67, 0, 0, 0)] := by refine ⟨?_, ?_, ?_, ?_, ?_⟩ <;> rfl
theorem pe191 : P 191 0 = [(37, 0, 0, 0), (2, 1, 0, 0), (31, 187, 2, 37), (58, 3, 1, 0)] ∧ P 191 1 = [(2, 2, 0, 0), (60, 3, 2, 0)] ∧ P 191 2 = [(2, 2, 0, 0), (0, 4, 0, 0), (54, 4, 3, 0)] ∧ P 191 3 = [(1, 1, 0, 0), (64, 0, 0, 0)] ∧ P 191 4 = [(37, 0, 0, 0), (7, 2, 2, 21), (2, 1, 0, 0), (0, 4, 0, 0), (19, 0, 0, 0), (2, 2, 0, 0), (17, 0, 0, 0), (10, 0, 0, 0), (3, 3, 0, 0), (37, 0, 0, 0), (2, 3, 0, 0), (31, 187, 2, 37), (58, 6, 5, 0)] ∧ P 191 5 = [(2, 3, 0, 0), (51, 7, 0, 0)] ∧ P 191 6 = [(1, 1, 0, 0), (50, 7, 0, 0)] ∧ P 191 7 = [(64, 0, 0, 0)] := by refine ⟨?_, ?_, ?_, ?_, ?_, ?_, ?_, ?_⟩ <;> rfl
theorem pe192 : P 192 0 = [(37, 0, 0, 0), (2, 1, 0, 0), (31, 187, 2, 37), (58, 3, 1, 0)] ∧ P 192 1 = [(37, 0, 0, 0), (7, 2, 1, 15), (2, 1, 0, 0), (10, 0, 0, 0), (0, 1, 0, 0), (53, 3, 2, 0)] ∧ P 192 2 = [(0, 1, 0, 0), (51, 4, 0, 0)] ∧ P 192 3 = [(0, 0, 0, 0), (50, 4, 0, 0)] ∧ P 192 4 = [(65, 0, 0, 0)] := by refine ⟨?_, ?_, ?_, ?_, ?_⟩ <;> rfl
theorem pe193 : P 193 0 = [(2, 1, 0, 0), (31, 259, 1, 41), (3, 2, 0, 0), (0, 0, 0, 0), (3, 3, 0, 0), (0, 0, 0, 0), (3, 4, 0, 0), (50, 1, 0, 0)] ∧ P 193 1 = [(2, 4, 0, 0), (2, 2, 0, 0), (55, 4, 2, 0)] ∧ P 193 2 = [(2, 3, 0, 0), (1, 1, 0, 0), (52, 4, 3, 0)] ∧ P 193 3 = [(37, 0, 0, 0), (2, 3, 0, 0), (2, 1, 0, 0), (2, 4, 0, 0), (31, 260, 2, 47), (31, 191, 3, 50), (3, 3, 0, 0), (4, 4, 1, 0), (51, 1, 0, 0)] ∧ P 193 4 = [(37, 0, 0, 0), (2, 3, 0, 0), (31, 192, 2, 53), (65, 0, 0, 0)] := by refine ⟨?_, ?_, ?_, ?_, ?_⟩ <;> rfl
theorem pe194 : P 194 0 = [(0, 0, 0, 0), (3, 3, 0, 0), (50, 1, 0, 0)] ∧ P 194 1 = [(2, 3, 0, 0), (37, 0, 0, 0), (6, 2, 2, 24), (55, 9, 2, 0)] ∧ P 194 2 = [(2, 3, 0, 0), (37, 0, 0, 0), (7, 2, 1, 15), (16, 0, 0, 0), (55, 9, 3, 0)] ∧ P 194 3 = [(37, 1, 0, 0), (37, 0, 0, 0), (7, 2, 1, 15), (2, 3, 0, 0), (10, 0, 0, 0), (31, 195, 1, 56), (30, 222, 2, 59), (0, 0, 0, 0), (3, 4, 0, 0), (50, 4, 0, 0)] ∧ P 194 4 = [(2, 4, 0, 0), (2, 2, 0, 0), (55, 8, 5, 0)] ∧ P 194 5 = [(37, 0, 0, 0), (2, 3, 0, 0), (2, 4, 0, 0), (31, 191, 3, 50), (3, 5, 0, 0), (2, 5, 0, 0), (1, 1, 0, 0), (52, 7, 6, 0)] ∧ P 194 6 = [(37, 1, 0, 0), (0, 97, 0, 0), (2, 4, 0, 0), (17, 0, 0, 0), (30, 222, 2, 59), (37, 1, 0, 0), (2, 5, 0, 0), (30, 224, 2, 65), (50, 7, 0, 0)] ∧ P 194 7 = [(4, 4, 1, 0), (51, 4, 0, 0)] ∧ P 194 8 = [(37, 1, 0, 0), (0, 59, 0, 0), (30, 222, 2, 59), (4, 3, 1, 0), (51, 1, 0, 0)] ∧ P 194 9 = [(67, 0, 0, 0)] := by refine ⟨?_, ?_, ?_, ?_, ?_, ?_, ?_, ?_, ?_, ?_⟩ <;> rfl
theorem pe195 : P 195 0 = [(2, 0, 0, 0), (0, 1, 0, 0), (53, 2, 1, 0)] ∧ P 195 1 = [(0, 43, 0, 0), (64, 0, 0, 0)] ∧ P 195 2 = [(2, 0, 0, 0), (0, 2, 0, 0), (53, 4, 3, 0)] ∧ P 195 3 = [(0, 45, 0, 0), (51, 5, 0, 0)] ∧ P 195 4 = [(0, 63, 0, 0), (50, 5, 0, 0)] ∧ P 195 5 = [(64, 0, 0, 0)] := by refine ⟨?_, ?_, ?_, ?_, ?_, ?_⟩ <;> rfl
theorem pe196 : P 196 0 = [(0, 0, 0, 0), (3, 4, 0, 0), (50, 1, 0, 0)] ∧ P 196 1 = [(2, 4, 0, 0), (37, 1, 0, 0), (6, 2, 2, 31), (55, 7, 2, 0)] ∧ P 196 2 = [(2, 4, 0, 0), (0, 201, 0, 0), (55, 7, 3, 0)] ∧ P 196 3 = [(37, 0, 0, 0), (7, 3, 1, 9), (2, 4, 0, 0), (37, 1, 0, 0), (2, 4, 0, 0), (31, 192, 2, 37), (58, 5, 4, 0)] ∧ P 196 4 = [(0, 1, 0, 0), (51, 6, 0, 0)] ∧ P 196 5 = [(0, 0, 0, 0), (50, 6, 0, 0)] ∧ P 196 6 = [(12, 0, 0, 0), (4, 4, 1, 0), (51, 1, 0, 0)] ∧ P 196 7 = [(0, 1, 0, 0), (3, 4, 0, 0), (50, 8, 0, 0)] ∧ P 196 8 = [(2, 4, 0, 0), (2, 3, 0, 0), (56, 18, 9, 0)] ∧ P 196 9 = [(2, 4, 0, 0), (0, 10, 0, 0), (56, 18, 10, 0)] ∧ P 196 10 = [(0, 0, 0, 0), (3, 5, 0, 0), (50, 11, 0, 0)] ∧ P 196 11 = [(2, 5, 0, 0), (37, 1, 0, 0), (6, 2, 2, 31), (55, 17, 12, 0)] ∧ P 196 12 = [(2, 5, 0, 0), (0, 201, 0, 0), (55, 17, 13, 0)] ∧ P 196 13 = [(0, 0, 0, 0), (3, 6, 0, 0), (0, 0, 0, 0), (3, 7, 0, 0), (50, 14, 0, 0)] ∧ P 196 14 = [(2, 7, 0, 0), (2, 2, 0, 0), (55, 16, 15, 0)] ∧ P 196 15 = [(2, 6, 0, 0), (37, 0, 0, 0), (37, 1, 0, 0), (2, 5, 0, 0), (2, 7, 0, 0), (31, 191, 3, 41), (2, 4, 0, 0), (0, 1, 0, 0), (18, 0, 0, 0), (31, 197, 3, 45), (17, 0, 0, 0), (3, 6, 0, 0), (4, 7, 1, 0), (51, 14, 0, 0)] ∧ P 196 16 = [(37, 0, 0, 0), (7, 3, 1, 9), (2, 4, 0, 0), (0, 201, 0, 0), (19, 0, 0, 0), (2, 5, 0, 0), (17, 0, 0, 0), (2, 6, 0, 0), (12, 0, 0, 0), (4, 5, 1, 0), (51, 11, 0, 0)] ∧ P 196 17 = [(4, 4, 1, 0), (51, 8, 0, 0)] ∧ P 196 18 = [(67, 0, 0, 0)] := by refine ⟨?_, ?_, ?_, ?_, ?_, ?_, ?_, ?_, ?_, ?_, ?_, ?_, ?_, ?_, ?_, ?_, ?_, ?_, ?_⟩ <;> rfl
theorem pe197 : P 197 0 = [(2, 1, 0, 0), (60, 4, 1, 0)] ∧ P 197 1 = [(2, 1, 0, 0), (0, 201, 0, 0), (55, 4, 2, 0)] ∧ P 197 2 = [(2, 2, 0, 0), (60, 4, 3, 0)] ∧ P 197 3 = [(2, 2, 0, 0), (0, 10, 0, 0), (57, 5, 4, 0)] ∧ P 197 4 = [(0, 0, 0, 0), (64, 0, 0, 0)] ∧ P 197 5 = [(37, 0, 0, 0), (7, 3, 1, 9), (2, 2, 0, 0), (0, 201, 0, 0), (19, 0, 0, 0), (2, 1, 0, 0), (17, 0, 0, 0), (10, 0, 0, 0), (64, 0, 0, 0)] := by refine ⟨?_, ?_, ?_, ?_, ?_, ?_⟩ <;> rfl
theorem pe198 : P 198 0 = [(37, 0, 0, 0), (37, 1, 0, 0), (2, 2, 0, 0), (0, 10, 0, 0), (30, 196, 4, 48), (2, 3, 0, 0), (3, 4, 0, 0), (0, 0, 0, 0), (3, 5, 0, 0), (50, 1, 0, 0)] ∧ P 198 1 = [(2, 5, 0, 0), (0, 10, 0, 0), (56, 5, 2, 0)] ∧ P 198 2 = [(2, 4, 0, 0), (37, 0, 0, 0), (0, 0, 0, 0), (2, 5, 0, 0), (31, 197, 3, 45), (55, 4, 3, 0)] ∧ P 198 3 = [(37, 0, 0, 0), (37, 1, 0, 0), (2, 2, 0, 0), (2, 5, 0, 0), (2, 4, 0, 0), (31, 199, 5, 52), (64, 0, 0, 0)] ∧ P 198 4 = [(2, 4, 0, 0), (37, 0, 0, 0), (0, 0, 0, 0), (2, 5, 0, 0), (31, 197, 3, 45), (18, 0, 0, 0), (3, 4, 0, 0), (4, 5, 1, 0), (51, 1, 0, 0)] ∧ P 198 5 = [(1, 1, 0, 0), (64, 0, 0, 0)] := by refine ⟨?_, ?_, ?_, ?_, ?_, ?_⟩ <;> rfl
theorem pe199 : P 199 0 = [(0, 0, 0, 0), (3, 5, 0, 0), (0, 0, 0, 0), (3, 6, 0, 0), (2, 4, 0, 0), (3, 7, 0, 0), (2, 3, 0, 0), (0, 1, 0, 0), (18, 0, 0, 0), (3, 8, 0, 0), (50, 1, 0, 0)] ∧ P 199 1 = [(2, 8, 0, 0), (60, 7, 2, 0)] ∧ P 199 2 = [(0, 0, 0, 0), (3, 9, 0, 0), (50, 3, 0, 0)] ∧ P 199 3 = [(2, 9, 0, 0), (2, 2, 0, 0), (0, 1, 0, 0), (18, 0, 0, 0), (55, 6, 4, 0)] ∧ P 199 4 = [(2, 7, 0, 0), (37, 0, 0, 0), (37, 1, 0, 0), (2, 6, 0, 0), (2, 9, 0, 0), (31, 191, 3, 41), (2, 8, 0, 0), (31, 197, 3, 45), (54, 6, 5, 0)] ∧ P 199 5 = [(2, 7, 0, 0), (37, 0, 0, 0), (37, 1, 0, 0), (2, 6, 0, 0), (2, 9, 0, 0), (31, 191, 3, 41), (2, 8, 0, 0), (31, 197, 3, 45), (18, 0, 0, 0), (3, 7, 0, 0), (4, 9, 1, 0), (51, 3, 0, 0)] ∧ P 199 6 = [(2, 5, 0, 0), (2, 9, 0, 0), (31, 262, 2, 56), (3, 5, 0, 0), (37, 1, 0, 0), (2, 6, 0, 0), (2, 9, 0, 0), (31, 191, 3, 41), (3, 6, 0, 0), (5, 8, 1, 0), (51, 1, 0, 0)] ∧ P 199 7 = [(2, 5, 0, 0), (64, 0, 0, 0)] := by refine ⟨?_, ?_, ?_, ?_, ?_, ?_, ?_, ?_⟩ <;> rfl
theorem pe200 : P 200 0 = [(37, 0, 0, 0), (37, 1, 0, 0), (2, 2, 0, 0), (31, 202, 3, 61), (3, 3, 0, 0), (0, 0, 0, 0), (3, 4, 0, 0), (0, 0, 0, 0), (3, 5, 0, 0), (50, 1, 0, 0)] ∧ P 200 1 = [(2, 5, 0, 0), (0, 201, 0, 0), (55, 3, 2, 0)] ∧ P 200 2 = [(37, 0, 0, 0), (7, 3, 3, 19), (2, 5, 0, 0), (0, 0, 0, 0), (14, 0, 0, 0), (4, 5, 1, 0), (51, 1, 0, 0)] ∧ P 200 3 = [(0, 1, 0, 0), (3, 5, 0, 0), (0, 0, 0, 0), (3, 6, 0, 0), (50, 4, 0, 0)] ∧ P 200 4 = [(2, 6, 0, 0), (0, 201, 0, 0), (56, 13, 5, 0)] ∧ P 200 5 = [(2, 5, 0, 0), (58, 13, 6, 0)] ∧ P 200 6 = [(0, 0, 0, 0), (3, 5, 0, 0), (2, 3, 0, 0), (0, 1, 0, 0), (18, 0, 0, 0), (3, 7, 0, 0), (50, 7, 0, 0)] ∧ P 200 7 = [(2, 7, 0, 0), (60, 12, 8, 0)] ∧ P 200 8 = [(37, 0, 0, 0), (7, 3, 3, 19), (37, 0, 0, 0), (7, 3, 4, 22), (2, 7, 0, 0), (10, 0, 0, 0), (15, 0, 0, 0), (59, 11, 9, 0)] ∧ P 200 9 = [(37, 0, 0, 0), (37, 1, 0, 0), (2, 2, 0, 0), (37, 0, 0, 0), (7, 3, 4, 22), (2, 7, 0, 0), (10, 0, 0, 0), (31, 201, 4, 65), (58, 11, 10, 0)] ∧ P 200 10 = [(37, 0, 0, 0), (7, 3, 3, 19), (37, 0, 0, 0), (7, 3, 4, 22), (2, 7, 0, 0), (10, 0, 0, 0), (0, 1, 0, 0), (14, 0, 0, 0), (0, 1, 0, 0), (3, 5, 0, 0), (4, 4, 1, 0), (50, 11, 0, 0)] ∧ P 200 11 = [(5, 7, 1, 0), (51, 7, 0, 0)] ∧ P 200 12 = [(4, 6, 1, 0), (51, 4, 0, 0)] ∧ P 200 13 = [(2, 4, 0, 0), (64, 0, 0, 0)] := by refine ⟨?_, ?_, ?_, ?_, ?_, ?_, ?_, ?_, ?_, ?_, ?_, ?_, ?_, ?_⟩ <;> rfl
theorem pe201 : P 201 0 = [(37, 1, 0, 0), (2, 3, 0, 0), (31, 192, 2, 37), (58, 2, 1, 0)] ∧ P 201 1 = [(0, 1, 0, 0), (65, 0, 0, 0)] ∧ P 201 2 = [(0, 0, 0, 0), (3, 4, 0, 0), (50, 3, 0, 0)] ∧ P 201 3 = [(2, 4, 0, 0), (2, 2, 0, 0), (55, 8, 4, 0)] ∧ P 201 4 = [(37, 1, 0, 0), (2, 3, 0, 0), (2, 4, 0, 0), (31, 191, 3, 41), (3, 5, 0, 0), (37, 1, 0, 0), (2, 5, 0, 0), (31, 187, 2, 69), (58, 7, 5, 0)] ∧ P 201 5 = [(37, 0, 0, 0), (7, 3, 3, 19), (2, 5, 0, 0), (15, 0, 0, 0), (58, 7, 6, 0)] ∧ P 201 6 = [(0, 1, 0, 0), (65, 0, 0, 0)] ∧ P 201 7 = [(4, 4, 1, 0), (51, 3, 0, 0)] ∧ P 201 8 = [(0, 0, 0, 0), (65, 0, 0, 0)] := by refine ⟨?_, ?_, ?_, ?_, ?_, ?_, ?_, ?_, ?_⟩ <;> rfl
theorem pe202 : P 202 0 = [(0, 0, 0, 0), (3, 3, 0, 0), (50, 1, 0, 0)] ∧ P 202 1 = [(2, 3, 0, 0), (0, 201, 0, 0), (55, 3, 2, 0)] ∧ P 202 2 = [(37, 0, 0, 0), (7, 3, 2, 15), (2, 3, 0, 0), (0, 0, 0, 0), (14, 0, 0, 0), (4, 3, 1, 0), (51, 1, 0, 0)] ∧ P 202 3 = [(37, 0, 0, 0), (7, 3, 2, 15), (0, 0, 0, 0), (0, 1, 0, 0), (14, 0, 0, 0), (37, 0, 0, 0), (7, 3, 4, 22), (0, 0, 0, 0), (0, 0, 0, 0), (12, 0, 0, 0), (0, 1, 0, 0), (3, 3, 0, 0), (0, 0, 0, 0), (3, 4, 0, 0), (50, 4, 0, 0)] ∧ P 202 4 = [(2, 4, 0, 0), (2, 3, 0, 0), (55, 14, 5, 0)] ∧ P 202 5 = [(2, 4, 0, 0), (0, 201, 0, 0), (55, 14, 6, 0)] ∧ P 202 6 = [(0, 0, 0, 0), (3, 5, 0, 0), (50, 7, 0, 0)] ∧ P 202 7 = [(2, 5, 0, 0), (2, 2, 0, 0), (55, 13, 8, 0)] ∧ P 202 8 = [(37, 1, 0, 0), (37, 0, 0, 0), (7, 3, 4, 22), (2, 4, 0, 0), (10, 0, 0, 0), (2, 5, 0, 0), (31, 191, 3, 41), (3, 6, 0, 0), (37, 1, 0, 0), (2, 6, 0, 0), (31, 187, 2, 69), (58, 12, 9, 0)] ∧ P 202 9 = [(37, 0, 0, 0), (7, 3, 2, 15), (2, 6, 0, 0), (15, 0, 0, 0), (59, 12, 10, 0)] ∧ P 202 10 = [(2, 3, 0, 0), (0, 201, 0, 0), (55, 12, 11, 0)] ∧ P 202 11 = [(37, 0, 0, 0), (7, 3, 2, 15), (2, 6, 0, 0), (0, 1, 0, 0), (14, 0, 0, 0), (37, 0, 0, 0), (7, 3, 4, 22), (2, 3, 0, 0), (2, 6, 0, 0), (12, 0, 0, 0), (4, 3, 1, 0), (50, 12, 0, 0)] ∧ P 202 12 = [(4, 5, 1, 0), (51, 7, 0, 0)] ∧ P 202 13 = [(4, 4, 1, 0), (51, 4, 0, 0)] ∧ P 202 14 = [(2, 3, 0, 0), (64, 0, 0, 0)] := by refine ⟨?_, ?_, ?_, ?_, ?_, ?_, ?_, ?_, ?_, ?_, ?_, ?_, ?_, ?_, ?_⟩ <;> rfl
theorem pe203 : P 203 0 = [(37, 0, 0, 0), (37, 1, 0, 0), (2, 2, 0, 0), (31, 200, 3, 72), (3, 3, 0, 0), (2, 3, 0, 0), (59, 2, 1, 0)] ∧ P 203 1 = [(1, 2, 0, 0), (64, 0, 0, 0)] ∧ P 203 2 = [(0, 0, 0, 0), (3, 4, 0, 0), (50, 3, 0, 0)] ∧ P 203 3 = [(2, 4, 0, 0), (0, 201, 0, 0), (55, 8, 4, 0)] ∧ P 203 4 = [(37, 0, 0, 0), (7, 3, 5, 25), (2, 4, 0, 0), (2, 4, 0, 0), (59, 6, 5, 0)] ∧ P 203 5 = [(0, 1, 0, 0), (51, 7, 0, 0)] ∧ P 203 6 = [(0, 0, 0, 0), (50, 7, 0, 0)] ∧ P 203 7 = [(14, 0, 0, 0), (4, 4, 1, 0), (51, 3, 0, 0)] ∧ P 203 8 = [(0, 0, 0, 0), (3, 4, 0, 0), (50, 9, 0, 0)] ∧ P 203 9 = [(2, 4, 0, 0), (2, 3, 0, 0), (55, 14, 10, 0)] ∧ P 203 10 = [(2, 4, 0, 0), (0, 201, 0, 0), (55, 14, 11, 0)] ∧ P 203 11 = [(37, 0, 0, 0), (37, 1, 0, 0), (2, 2, 0, 0), (31, 204, 3, 75), (59, 13, 12, 0)] ∧ P 203 12 = [(2, 4, 0, 0), (64, 0, 0, 0)] ∧ P 203 13 = [(4, 4, 1, 0), (51, 9, 0, 0)] ∧ P 203 14 = [(1, 3, 0, 0), (64, 0, 0, 0)] := by refine ⟨?_, ?_, ?_, ?_, ?_, ?_, ?_, ?_, ?_, ?_, ?_, ?_, ?_, ?_, ?_⟩ <;> rfl
theorem pe204 : P 204 0 = [(0, 0, 0, 0), (3, 3, 0, 0), (50, 1, 0, 0)] ∧ P 204 1 = [(2, 3, 0, 0), (0, 201, 0, 0), (55, 3, 2, 0)] ∧ P 204 2 = [(37, 0, 0, 0), (7, 3, 6, 28), (2, 3, 0, 0), (0, 0, 0, 0), (14, 0, 0, 0), (4, 3, 1, 0), (51, 1, 0, 0)] ∧ P 204 3 = [(0, 0, 0, 0), (3, 3, 0, 0), (0, 0, 0, 0), (3, 4, 0, 0), (50, 4, 0, 0)] ∧ P 204 4 = [(2, 4, 0, 0), (37, 1, 0, 0), (6, 2, 2, 31), (55, 14, 5, 0)] ∧ P 204 5 = [(2, 4, 0, 0), (0, 201, 0, 0), (55, 14, 6, 0)] ∧ P 204 6 = [(0, 0, 0, 0), (3, 5, 0, 0), (50, 7, 0, 0)] ∧ P 204 7 = [(2, 5, 0, 0), (2, 2, 0, 0), (55, 13, 8, 0)] ∧ P 204 8 = [(37, 0, 0, 0), (7, 3, 5, 25), (2, 4, 0, 0), (15, 0, 0, 0), (58, 13, 9, 0)] ∧ P 204 9 = [(37, 1, 0, 0), (2, 4, 0, 0), (2, 5, 0, 0), (31, 191, 3, 41), (3, 6, 0, 0), (37, 1, 0, 0), (2, 6, 0, 0), (31, 187, 2, 69), (58, 12, 10, 0)] ∧ P 204 10 = [(37, 0, 0, 0), (7, 3, 3, 19), (2, 6, 0, 0), (15, 0, 0, 0), (58, 12, 11, 0)] ∧ P 204 11 = [(37, 0, 0, 0), (7, 3, 6, 28), (2, 6, 0, 0), (0, 1, 0, 0), (14, 0, 0, 0), (0, 1, 0, 0), (3, 3, 0, 0), (50, 12, 0, 0)] ∧ P 204 12 = [(4, 5, 1, 0), (51, 7, 0, 0)] ∧ P 204 13 = [(4, 4, 1, 0), (51, 4, 0, 0)] ∧ P 204 14 = [(0, 0, 0, 0), (3, 4, 0, 0), (50, 15, 0, 0)] ∧ P 204 15 = [(2, 4, 0, 0), (0, 201, 0, 0), (55, 17, 16, 0)] ∧ P 204 16 = [(37, 0, 0, 0), (7, 3, 5, 25), (2, 4, 0, 0), (37, 0, 0, 0), (7, 3, 6, 28), (2, 4, 0, 0), (15, 0, 0, 0), (14, 0, 0, 0), (4, 4, 1, 0), (51, 15, 0, 0)] ∧ P 204 17 = [(2, 3, 0, 0), (65, 0, 0, 0)] := by refine ⟨?_, ?_, ?_, ?_, ?_, ?_, ?_, ?_, ?_, ?_, ?_, ?_, ?_, ?_, ?_, ?_, ?_, ?_⟩ <;> rfl
theorem pe205 : P 205 0 = [(37, 0, 0, 0), (0, 0, 0, 0), (8, 4, 9, 45), (0, 0, 0, 0), (3, 1, 0, 0), (50, 1, 0, 0)] ∧ P 205 1 = [(2, 1, 0, 0), (0, 202, 0, 0), (55, 3, 2, 0)] ∧ P 205 2 = [(37, 0, 0, 0), (7, 4, 8, 33), (2, 1, 0, 0), (1, 1, 0, 0), (12, 0, 0, 0), (4, 1, 1, 0), (51, 1, 0, 0)] ∧ P 205 3 = [(67, 0, 0, 0)] := by refine ⟨?_, ?_, ?_, ?_⟩ <;> rfl
theorem pe206 : P 206 0 = [(2, 1, 0, 0), (1, 1, 0, 0), (54, 2, 1, 0)] ∧ P 206 1 = [(2, 1, 0, 0), (0, 201, 0, 0), (54, 3, 2, 0)] ∧ P 206 2 = [(1, 1, 0, 0), (64, 0, 0, 0)] ∧ P 206 3 = [(37, 0, 0, 0), (7, 4, 8, 33), (2, 1, 0, 0), (0, 1, 0, 0), (17, 0, 0, 0), (10, 0, 0, 0), (3, 3, 0, 0), (50, 4, 0, 0)] ∧ P 206 4 = [(2, 3, 0, 0), (60, 9, 5, 0)] ∧ P 206 5 = [(2, 3, 0, 0), (37, 0, 0, 0), (6, 4, 9, 45), (55, 9, 6, 0)] ∧ P 206 6 = [(37, 0, 0, 0), (7, 4, 5, 24), (2, 3, 0, 0), (10, 0, 0, 0), (2, 2, 0, 0), (53, 8, 7, 0)] ∧ P 206 7 = [(2, 3, 0, 0), (64, 0, 0, 0)] ∧ P 206 8 = [(37, 0, 0, 0), (7, 4, 7, 30), (2, 3, 0, 0), (10, 0, 0, 0), (3, 3, 0, 0), (51, 4, 0, 0)] ∧ P 206 9 = [(37, 0, 0, 0), (2, 1, 0, 0), (2, 2, 0, 0), (0, 0, 0, 0), (31, 207, 4, 49), (3, 3, 0, 0), (2, 3, 0, 0), (1, 1, 0, 0), (52, 11, 10, 0)] ∧ P 206 10 = [(37, 0, 0, 0), (7, 4, 7, 30), (2, 3, 0, 0), (37, 0, 0, 0), (7, 4, 8, 33), (2, 1, 0, 0), (0, 1, 0, 0), (17, 0, 0, 0), (10, 0, 0, 0), (12, 0, 0, 0), (37, 0, 0, 0), (7, 4, 8, 33), (2, 1, 0, 0), (0, 1, 0, 0), (17, 0, 0, 0), (2, 3, 0, 0), (12, 0, 0, 0), (50, 11, 0, 0)] ∧ P 206 11 = [(2, 3, 0, 0), (64, 0, 0, 0)] := by refine ⟨?_, ?_, ?_, ?_, ?_, ?_, ?_, ?_, ?_, ?_, ?_, ?_⟩ <;> rfl
theorem pe207 : P 207 0 = [(37, 0, 0, 0), (6, 4, 9, 45), (60, 2, 1, 0)] ∧ P 207 1 = [(37, 0, 0, 0), (6, 4, 9, 45), (0, 404, 0, 0), (54, 3, 2, 0)] ∧ P 207 2 = [(1, 1, 0, 0), (64, 0, 0, 0)] ∧ P 207 3 = [(37, 0, 0, 0), (7, 4, 4, 20), (37, 0, 0, 0), (6, 4, 9, 45), (2, 1, 0, 0), (12, 0, 0, 0), (37, 0, 0, 0), (7, 4, 5, 24), (37, 0, 0, 0), (6, 4, 9, 45), (2, 2, 0, 0), (12, 0, 0, 0), (37, 0, 0, 0), (7, 4, 6, 27), (37, 0, 0, 0), (6, 4, 9, 45), (2, 3, 0, 0), (12, 0, 0, 0), (37, 0, 0, 0), (27, 0, 0, 0), (6, 4, 9, 45), (0, 1, 0, 0), (17, 0, 0, 0), (8, 4, 9, 45), (37, 0, 0, 0), (6, 4, 9, 45), (0, 1, 0, 0), (18, 0, 0, 0), (64, 0, 0, 0)] := by refine ⟨?_, ?_, ?_, ?_⟩ <;> rfl
theorem pe208 : P 208 0 = [(37, 0, 0, 0), (7, 4, 1, 16), (30, 186, 1, 53), (37, 0, 0, 0), (30, 205, 1, 56), (37, 0, 0, 0), (0, 0, 0, 0), (0, 0, 0, 0), (31, 206, 3, 59), (28, 0, 0, 0), (0, 0, 0, 0), (3, 6, 0, 0), (50, 1, 0, 0)] ∧ P 208 1 = [(2, 6, 0, 0), (37, 0, 0, 0), (6, 4, 9, 45), (55, 12, 2, 0)] ∧ P 208 2 = [(2, 6, 0, 0), (0, 201, 0, 0), (55, 12, 3, 0)] ∧ P 208 3 = [(37, 0, 0, 0), (7, 4, 1, 16), (37, 1, 0, 0), (37, 0, 0, 0), (7, 4, 4, 20), (2, 6, 0, 0), (10, 0, 0, 0), (31, 192, 2, 63), (37, 2, 0, 0), (37, 0, 0, 0), (7, 4, 5, 24), (2, 6, 0, 0), (10, 0, 0, 0), (31, 192, 2, 63), (2, 3, 0, 0), (31, 209, 3, 67), (58, 5, 4, 0)] ∧ P 208 4 = [(0, 1, 0, 0), (51, 6, 0, 0)] ∧ P 208 5 = [(0, 2, 0, 0), (50, 6, 0, 0)] ∧ P 208 6 = [(30, 189, 2, 70), (0, 0, 0, 0), (3, 7, 0, 0), (50, 7, 0, 0)] ∧ P 208 7 = [(2, 7, 0, 0), (2, 4, 0, 0), (55, 9, 8, 0)] ∧ P 208 8 = [(37, 0, 0, 0), (7, 4, 1, 16), (2, 6, 0, 0), (2, 7, 0, 0), (37, 0, 0, 0), (37, 1, 0, 0), (37, 0, 0, 0), (7, 4, 4, 20), (2, 6, 0, 0), (10, 0, 0, 0), (2, 7, 0, 0), (31, 191, 3, 73), (37, 2, 0, 0), (37, 0, 0, 0), (7, 4, 5, 24), (2, 6, 0, 0), (10, 0, 0, 0), (2, 7, 0, 0), (31, 191, 3, 73), (31, 206, 3, 59), (30, 190, 4, 76), (4, 7, 1, 0), (51, 7, 0, 0)] ∧ P 208 9 = [(37, 0, 0, 0), (6, 4, 9, 45), (2, 5, 0, 0), (57, 11, 10, 0)] ∧ P 208 10 = [(0, 0, 0, 0), (65, 0, 0, 0)] ∧ P 208 11 = [(4, 6, 1, 0), (51, 1, 0, 0)] ∧ P 208 12 = [(0, 1, 0, 0), (65, 0, 0, 0)] := by refine ⟨?_, ?_, ?_, ?_, ?_, ?_, ?_, ?_, ?_, ?_, ?_, ?_, ?_⟩ <;> rfl
theorem pe209 : P 209 0 = [(2, 2, 0, 0), (59, 6, 1, 0)] ∧ P 209 1 = [(2, 0, 0, 0), (58, 4, 2, 0)] ∧ P 209 2 = [(2, 1, 0, 0), (58, 4, 3, 0)] ∧ P 209 3 = [(0, 1, 0, 0), (51, 5, 0, 0)] ∧ P 209 4 = [(0, 0, 0, 0), (50, 5, 0, 0)] ∧ P 209 5 = [(65, 0, 0, 0)] ∧ P 209 6 = [(2, 2, 0, 0), (0, 1, 0, 0), (53, 11, 7, 0)] ∧ P 209 7 = [(2, 0, 0, 0), (59, 9, 8, 0)] ∧ P 209 8 = [(2, 1, 0, 0), (58, 10, 9, 0)] ∧ P 209 9 = [(0, 1, 0, 0), (51, 15, 0, 0)] ∧ P 209 10 = [(0, 0, 0, 0), (51, 15, 0, 0)] ∧ P 209 11 = [(2, 0, 0, 0), (58, 14, 12, 0)] ∧ P 209 12 = [(2, 1, 0, 0), (59, 14, 13, 0)] ∧ P 209 13 = [(0, 1, 0, 0), (51, 15, 0, 0)] ∧ P 209 14 = [(0, 0, 0, 0), (50, 15, 0, 0)] ∧ P 209 15 = [(65, 0, 0, 0)] := by refine ⟨?_, ?_, ?_, ?_, ?_, ?_, ?_, ?_, ?_, ?_, ?_, ?_, ?_, ?_, ?_, ?_⟩ <;> rfl
theorem pe210 : P 210 0 = [(37, 0, 0, 0), (0, 0, 0, 0), (8, 4, 9, 45), (0, 0, 0, 0), (3, 4, 0, 0), (50, 1, 0, 0)] ∧ P 210 1 = [(2, 4, 0, 0), (0, 404, 0, 0), (55, 3, 2, 0)] ∧ P 210 2 = [(37, 0, 0, 0), (7, 4, 9, 36), (2, 4, 0, 0), (2, 4, 0, 0), (12, 0, 0, 0), (4, 4, 1, 0), (51, 1, 0, 0)] ∧ P 210 3 = [(37, 0, 0, 0), (0, 0, 0, 0), (0, 0, 0, 0), (31, 211, 3, 80), (28, 0, 0, 0), (37, 0, 0, 0), (0, 0, 0, 0), (0, 0, 0, 0), (0, 0, 0, 0), (31, 207, 4, 49), (28, 0, 0, 0), (37, 1, 0, 0), (0, 0, 0, 0), (31, 192, 2, 63), (37, 2, 0, 0), (0, 0, 0, 0), (31, 192, 2, 63), (52, 5, 4, 0)] ∧ P 210 4 = [(0, 0, 0, 0), (64, 0, 0, 0)] ∧ P 210 5 = [(0, 0, 0, 0), (3, 4, 0, 0), (50, 6, 0, 0)] ∧ P 210 6 = [(2, 4, 0, 0), (37, 0, 0, 0), (6, 4, 9, 45), (55, 15, 7, 0)] ∧ P 210 7 = [(2, 4, 0, 0), (0, 404, 0, 0), (55, 15, 8, 0)] ∧ P 210 8 = [(0, 0, 0, 0), (3, 5, 0, 0), (50, 9, 0, 0)] ∧ P 210 9 = [(2, 5, 0, 0), (2, 3, 0, 0), (55, 14, 10, 0)] ∧ P 210 10 = [(37, 1, 0, 0), (37, 0, 0, 0), (7, 4, 4, 20), (2, 4, 0, 0), (10, 0, 0, 0), (2, 5, 0, 0), (31, 191, 3, 73), (3, 6, 0, 0), (37, 2, 0, 0), (37, 0, 0, 0), (7, 4, 5, 24), (2, 4, 0, 0), (10, 0, 0, 0), (2, 5, 0, 0), (31, 191, 3, 73), (3, 7, 0, 0), (37, 0, 0, 0), (2, 6, 0, 0), (2, 7, 0, 0), (31, 211, 3, 80), (58, 13, 11, 0)] ∧ P 210 11 = [(37, 0, 0, 0), (2, 6, 0, 0), (2, 7, 0, 0), (2, 4, 0, 0), (0, 4, 0, 0), (19, 0, 0, 0), (2, 5, 0, 0), (17, 0, 0, 0), (31, 207, 4, 49), (3, 8, 0, 0), (37, 1, 0, 0), (2, 6, 0, 0), (31, 192, 2, 63), (37, 2, 0, 0), (2, 7, 0, 0), (31, 192, 2, 63), (52, 13, 12, 0)] ∧ P 210 12 = [(2, 8, 0, 0), (64, 0, 0, 0)] ∧ P 210 13 = [(4, 5, 1, 0), (51, 9, 0, 0)] ∧ P 210 14 = [(4, 4, 1, 0), (51, 6, 0, 0)] ∧ P 210 15 = [(1, 1, 0, 0), (64, 0, 0, 0)] := by refine ⟨?_, ?_, ?_, ?_, ?_, ?_, ?_, ?_, ?_, ?_, ?_, ?_, ?_, ?_, ?_, ?_⟩ <;> rfl
theorem pe211 : P 211 0 = [(37, 0, 0, 0), (2, 1, 0, 0), (0, 1, 0, 0), (17, 0, 0, 0), (31, 212, 2, 84), (3, 3, 0, 0), (37, 0, 0, 0), (2, 2, 0, 0), (0, 1, 0, 0), (17, 0, 0, 0), (0, 202, 0, 0), (17, 0, 0, 0), (31, 212, 2, 84), (3, 4, 0, 0), (37, 0, 0, 0), (7, 4, 9, 36), (2, 3, 0, 0), (2, 4, 0, 0), (12, 0, 0, 0), (2, 3, 0, 0), (2, 4, 0, 0), (52, 2, 1, 0)] ∧ P 211 1 = [(0, 1, 0, 0), (51, 3, 0, 0)] ∧ P 211 2 = [(0, 0, 0, 0), (50, 3, 0, 0)] ∧ P 211 3 = [(65, 0, 0, 0)] := by refine ⟨?_, ?_, ?_, ?_⟩ <;> rfl
theorem pe212 : P 212 0 = [(2, 1, 0, 0), (3, 2, 0, 0), (0, 0, 0, 0), (3, 3, 0, 0), (50, 1, 0, 0)] ∧ P 212 1 = [(2, 3, 0, 0), (0, 404, 0, 0), (55, 4, 2, 0)] ∧ P 212 2 = [(37, 0, 0, 0), (7, 4, 9, 36), (2, 2, 0, 0), (10, 0, 0, 0), (2, 2, 0, 0), (52, 4, 3, 0)] ∧ P 212 3 = [(37, 0, 0, 0), (7, 4, 9, 36), (2, 2, 0, 0), (37, 0, 0, 0), (7, 4, 9, 36), (37, 0, 0, 0), (7, 4, 9, 36), (2, 2, 0, 0), (10, 0, 0, 0), (10, 0, 0, 0), (12, 0, 0, 0), (37, 0, 0, 0), (7, 4, 9, 36), (2, 2, 0, 0), (10, 0, 0, 0), (3, 2, 0, 0), (4, 3, 1, 0), (51, 1, 0, 0)] ∧ P 212 4 = [(2, 2, 0, 0), (64, 0, 0, 0)] := by refine ⟨?_, ?_, ?_, ?_, ?_⟩ <;> rfl
theorem pe213 : P 213 0 = [(37, 2, 0, 0), (0, 0, 0, 0), (30, 221, 2, 88), (2, 1, 0, 0), (3, 3, 0, 0), (0, 0, 0, 0), (3, 4, 0, 0), (50, 1, 0, 0)] ∧ P 213 1 = [(2, 4, 0, 0), (0, 404, 0, 0), (55, 5, 2, 0)] ∧ P 213 2 = [(2, 3, 0, 0), (63, 5, 3, 0)] ∧ P 213 3 = [(2, 3, 0, 0), (0, 404, 0, 0), (55, 5, 4, 0)] ∧ P 213 4 = [(37, 2, 0, 0), (0, 97, 0, 0), (37, 0, 0, 0), (7, 4, 6, 27), (2, 3, 0, 0), (10, 0, 0, 0), (0, 4, 0, 0), (21, 0, 0, 0), (17, 0, 0, 0), (30, 222, 2, 93), (37, 0, 0, 0), (7, 4, 6, 27), (2, 3, 0, 0), (10, 0, 0, 0), (0, 4, 0, 0), (20, 0, 0, 0), (3, 3, 0, 0), (4, 4, 1, 0), (51, 1, 0, 0)] ∧ P 213 5 = [(37, 2, 0, 0), (30, 226, 1, 96), (67, 0, 0, 0)] := by refine ⟨?_, ?_, ?_, ?_, ?_, ?_⟩ <;> rfl
theorem pe214 : P 214 0 = [(37, 0, 0, 0), (37, 1, 0, 0), (37, 1, 0, 0), (0, 0, 0, 0), (2, 2, 0, 0), (0, 201, 0, 0), (31, 208, 6, 99), (28, 0, 0, 0), (37, 0, 0, 0), (30, 215, 1, 103), (0, 0, 0, 0), (3, 3, 0, 0), (0, 0, 0, 0), (3, 4, 0, 0), (50, 1, 0, 0)] ∧ P 214 1 = [(2, 4, 0, 0), (0, 201, 0, 0), (55, 7, 2, 0)] ∧ P 214 2 = [(2, 3, 0, 0), (37, 0, 0, 0), (6, 4, 10, 106), (55, 7, 3, 0)] ∧ P 214 3 = [(37, 0, 0, 0), (6, 4, 10, 106), (3, 3, 0, 0), (0, 0, 0, 0), (3, 5, 0, 0), (50, 4, 0, 0)] ∧ P 214 4 = [(2, 5, 0, 0), (2, 2, 0, 0), (55, 6, 5, 0)] ∧ P 214 5 = [(37, 0, 0, 0), (2, 5, 0, 0), (30, 216, 2, 109), (4, 5, 1, 0), (51, 4, 0, 0)] ∧ P 214 6 = [(4, 4, 1, 0), (51, 1, 0, 0)] ∧ P 214 7 = [(37, 0, 0, 0), (6, 4, 10, 106), (64, 0, 0, 0)] := by refine ⟨?_, ?_, ?_, ?_, ?_, ?_, ?_, ?_⟩ <;> rfl
theorem pe215 : P 215 0 = [(37, 0, 0, 0), (30, 205, 1, 56), (0, 0, 0, 0), (3, 1, 0, 0), (50, 1, 0, 0)] ∧ P 215 1 = [(2, 1, 0, 0), (37, 0, 0, 0), (7, 4, 1, 16), (6, 2, 2, 112), (55, 4, 2, 0)] ∧ P 215 2 = [(2, 1, 0, 0), (0, 201, 0, 0), (55, 4, 3, 0)] ∧ P 215 3 = [(37, 0, 0, 0), (7, 4, 11, 42), (2, 1, 0, 0), (37, 0, 0, 0), (0, 0, 0, 0), (37, 0, 0, 0), (7, 4, 1, 16), (7, 2, 1, 115), (2, 1, 0, 0), (10, 0, 0, 0), (31, 206, 3, 59), (12, 0, 0, 0), (4, 1, 1, 0), (51, 1, 0, 0)] ∧ P 215 4 = [(37, 0, 0, 0), (30, 218, 1, 118), (67, 0, 0, 0)] := by refine ⟨?_, ?_, ?_, ?_, ?_⟩ <;> rfl
theorem pe216 : P 216 0 = [(37, 0, 0, 0), (30, 205, 1, 56), (0, 0, 0, 0), (3, 2, 0, 0), (50, 1, 0, 0)] ∧ P 216 1 = [(2, 2, 0, 0), (37, 0, 0, 0), (7, 4, 1, 16), (6, 2, 2, 112), (55, 4, 2, 0)] ∧ P 216 2 = [(2, 2, 0, 0), (0, 201, 0, 0), (55, 4, 3, 0)] ∧ P 216 3 = [(37, 0, 0, 0), (7, 4, 11, 42), (2, 2, 0, 0), (37, 0, 0, 0), (37, 0, 0, 0), (7, 4, 10, 39), (2, 2, 0, 0), (10, 0, 0, 0), (37, 0, 0, 0), (37, 0, 0, 0), (7, 4, 1, 16), (2, 2, 0, 0), (2, 1, 0, 0), (31, 191, 3, 73), (31, 217, 2, 121), (31, 206, 3, 59), (12, 0, 0, 0), (4, 2, 1, 0), (51, 1, 0, 0)] ∧ P 216 4 = [(37, 0, 0, 0), (30, 218, 1, 118), (67, 0, 0, 0)] := by refine ⟨?_, ?_, ?_, ?_, ?_⟩ <;> rfl
theorem pe217 : P 217 0 = [(37, 0, 0, 0), (7, 4, 1, 16), (2, 1, 0, 0), (31, 187, 2, 124), (58, 2, 1, 0)] ∧ P 217 1 = [(37, 0, 0, 0), (7, 4, 10, 39), (2, 1, 0, 0), (10, 0, 0, 0), (51, 3, 0, 0)] ∧ P 217 2 = [(1, 1, 0, 0), (50, 3, 0, 0)] ∧ P 217 3 = [(64, 0, 0, 0)] := by refine ⟨?_, ?_, ?_, ?_⟩ <;> rfl
theorem pe218 : P 218 0 = [(37, 0, 0, 0), (7, 4, 11, 42), (0, 0, 0, 0), (37, 0, 0, 0), (7, 4, 10, 39), (0, 0, 0, 0), (0, 201, 0, 0), (34, 0, 0, 127), (37, 0, 0, 0), (37, 0, 0, 0), (6, 4, 9, 45), (8, 4, 10, 106), (67, 0, 0, 0)] := rfl
theorem pe219 : P 219 0 = [(37, 1, 0, 0), (30, 186, 1, 53), (0, 0, 0, 0), (3, 3, 0, 0), (50, 1, 0, 0)] ∧ P 219 1 = [(2, 3, 0, 0), (37, 0, 0, 0), (7, 4, 1, 16), (6, 2, 2, 112), (55, 8, 2, 0)] ∧ P 219 2 = [(2, 3, 0, 0), (0, 201, 0, 0), (55, 8, 3, 0)] ∧ P 219 3 = [(37, 0, 0, 0), (7, 4, 10, 39), (2, 3, 0, 0), (10, 0, 0, 0), (37, 1, 0, 0), (6, 2, 2, 112), (53, 7, 4, 0)] ∧ P 219 4 = [(37, 1, 0, 0), (37, 0, 0, 0), (7, 4, 1, 16), (7, 2, 1, 115), (2, 3, 0, 0), (10, 0, 0, 0), (30, 189, 2, 70), (0, 0, 0, 0), (3, 4, 0, 0), (50, 5, 0, 0)] ∧ P 219 5 = [(2, 4, 0, 0), (2, 2, 0, 0), (55, 7, 6, 0)] ∧ P 219 6 = [(37, 1, 0, 0), (37, 0, 0, 0), (7, 4, 10, 39), (2, 3, 0, 0), (10, 0, 0, 0), (2, 4, 0, 0), (37, 0, 0, 0), (37, 0, 0, 0), (7, 4, 1, 16), (2, 3, 0, 0), (2, 4, 0, 0), (31, 191, 3, 73), (31, 217, 2, 121), (30, 190, 4, 76), (4, 4, 1, 0), (51, 5, 0, 0)] ∧ P 219 7 = [(4, 3, 1, 0), (51, 1, 0, 0)] ∧ P 219 8 = [(67, 0, 0, 0)] := by refine ⟨?_, ?_, ?_, ?_, ?_, ?_, ?_, ?_, ?_⟩ <;> rfl
theorem pe220 : P 220 0 = [(2, 1, 0, 0), (60, 4, 1, 0)] ∧ P 220 1 = [(2, 1, 0, 0), (37, 0, 0, 0), (6, 5, 1, 21), (55, 4, 2, 0)] ∧ P 220 2 = [(2, 1, 0, 0), (37, 0, 0, 0), (7, 5, 1, 15), (16, 0, 0, 0), (55, 4, 3, 0)] ∧ P 220 3 = [(37, 0, 0, 0), (7, 5, 1, 15), (2, 1, 0, 0), (10, 0, 0, 0), (51, 5, 0, 0)] ∧ P 220 4 = [(1, 1, 0, 0), (50, 5, 0, 0)] ∧ P 220 5 = [(64, 0, 0, 0)] := by refine ⟨?_, ?_, ?_, ?_, ?_, ?_⟩ <;> rfl
theorem pe221 : P 221 0 = [(37, 0, 0, 0), (2, 1, 0, 0), (8, 5, 1, 21), (67, 0, 0, 0)] := rfl
theorem pe222 : P 222 0 = [(37, 0, 0, 0), (6, 5, 1, 21), (60, 3, 1, 0)] ∧ P 222 1 = [(37, 0, 0, 0), (6, 5, 1, 21), (37, 0, 0, 0), (7, 5, 1, 15), (16, 0, 0, 0), (55, 3, 2, 0)] ∧ P 222 2 = [(37, 0, 0, 0), (7, 5, 1, 15), (37, 0, 0, 0), (6, 5, 1, 21), (2, 1, 0, 0), (0, 255, 0, 0), (22, 0, 0, 0), (12, 0, 0, 0), (37, 0, 0, 0), (27, 0, 0, 0), (6, 5, 1, 21), (0, 1, 0, 0), (17, 0, 0, 0), (8, 5, 1, 21), (50, 3, 0, 0)] ∧ P 222 3 = [(67, 0, 0, 0)] := by refine ⟨?_, ?_, ?_, ?_⟩ <;> rfl
theorem pe223 : P 223 0 = [(37, 0, 0, 0), (2, 1, 0, 0), (0, 24, 0, 0), (25, 0, 0, 0), (30, 222, 2, 25), (37, 0, 0, 0), (2, 1, 0, 0), (0, 16, 0, 0), (25, 0, 0, 0), (30, 222, 2, 25), (37, 0, 0, 0), (2, 1, 0, 0), (0, 8, 0, 0), (25, 0, 0, 0), (30, 222, 2, 25), (37, 0, 0, 0), (2, 1, 0, 0), (30, 222, 2, 25), (67, 0, 0, 0)] := rfl
theorem pe224 : P 224 0 = [(2, 1, 0, 0), (0, 100, 0, 0), (54, 2, 1, 0)] ∧ P 224 1 = [(37, 0, 0, 0), (0, 48, 0, 0), (2, 1, 0, 0), (0, 100, 0, 0), (20, 0, 0, 0), (0, 10, 0, 0), (21, 0, 0, 0), (17, 0, 0, 0), (30, 222, 2, 25), (50, 2, 0, 0)] ∧ P 224 2 = [(2, 1, 0, 0), (0, 10, 0, 0), (54, 4, 3, 0)] ∧ P 224 3 = [(37, 0, 0, 0), (0, 48, 0, 0), (2, 1, 0, 0), (0, 10, 0, 0), (20, 0, 0, 0), (0, 10, 0, 0), (21, 0, 0, 0), (17, 0, 0, 0), (30, 222, 2, 25), (50, 4, 0, 0)] ∧ P 224 4 = [(37, 0, 0, 0), (0, 48, 0, 0), (2, 1, 0, 0), (0, 10, 0, 0), (21, 0, 0, 0), (17, 0, 0, 0), (30, 222, 2, 25), (67, 0, 0, 0)] := by refine ⟨?_, ?_, ?_, ?_, ?_⟩ <;> rfl
theorem pe225 : P 225 0 = [(2, 1, 0, 0), (31, 259, 1, 29), (3, 2, 0, 0), (0, 0, 0, 0), (3, 3, 0, 0), (50, 1, 0, 0)] ∧ P 225 1 = [(2, 3, 0, 0), (2, 2, 0, 0), (55, 3, 2, 0)] ∧ P 225 2 = [(37, 0, 0, 0), (0, 97, 0, 0), (2, 1, 0, 0), (2, 3, 0, 0), (31, 260, 2, 35), (17, 0, 0, 0), (30, 222, 2, 25), (4, 3, 1, 0), (51, 1, 0, 0)] ∧ P 225 3 = [(67, 0, 0, 0)] := by refine ⟨?_, ?_, ?_, ?_⟩ <;> rfl
theorem pe226 : P 226 0 = [(0, 0, 0, 0), (3, 1, 0, 0), (37, 0, 0, 0), (6, 5, 1, 21), (0, 1, 0, 0), (18, 0, 0, 0), (3, 2, 0, 0), (50, 1, 0, 0)] ∧ P 226 1 = [(2, 1, 0, 0), (60, 5, 2, 0)] ∧ P 226 2 = [(2, 1, 0, 0), (2, 2, 0, 0), (55, 5, 3, 0)] ∧ P 226 3 = [(2, 2, 0, 0), (37, 0, 0, 0), (7, 5, 1, 15), (16, 0, 0, 0), (55, 5, 4, 0)] ∧ P 226 4 = [(37, 0, 0, 0), (7, 5, 1, 15), (2, 1, 0, 0), (10, 0, 0, 0), (3, 3, 0, 0), (37, 0, 0, 0), (7, 5, 1, 15), (2, 1, 0, 0), (37, 0, 0, 0), (7, 5, 1, 15), (2, 2, 0, 0), (10, 0, 0, 0), (12, 0, 0, 0), (37, 0, 0, 0), (7, 5, 1, 15), (2, 2, 0, 0), (2, 3, 0, 0), (12, 0, 0, 0), (4, 1, 1, 0), (5, 2, 1, 0), (51, 1, 0, 0)] ∧ P 226 5 = [(67, 0, 0, 0)] := by refine ⟨?_, ?_, ?_, ?_, ?_, ?_⟩ <;> rfl
theorem pe227 : P 227 0 = [(37, 0, 0, 0), (6, 5, 1, 21), (0, 10, 0, 0), (57, 2, 1, 0)] ∧ P 227 1 = [(1, 1, 0, 0), (64, 0, 0, 0)] ∧ P 227 2 = [(0, 0, 0, 0), (3, 2, 0, 0), (0, 0, 0, 0), (3, 3, 0, 0), (50, 3, 0, 0)] ∧ P 227 3 = [(2, 3, 0, 0), (37, 0, 0, 0), (6, 5, 1, 21), (55, 8, 4, 0)] ∧ P 227 4 = [(37, 0, 0, 0), (2, 3, 0, 0), (31, 220, 2, 38), (0, 97, 0, 0), (18, 0, 0, 0), (3, 4, 0, 0), (2, 4, 0, 0), (60, 6, 5, 0)] ∧ P 227 5 = [(2, 4, 0, 0), (2, 1, 0, 0), (54, 7, 6, 0)] ∧ P 227 6 = [(1, 1, 0, 0), (64, 0, 0, 0)] ∧ P 227 7 = [(2, 2, 0, 0), (2, 4, 0, 0), (31, 262, 2, 41), (3, 2, 0, 0), (4, 3, 1, 0), (51, 3, 0, 0)] ∧ P 227 8 = [(2, 2, 0, 0), (64, 0, 0, 0)] := by refine ⟨?_, ?_, ?_, ?_, ?_, ?_, ?_, ?_, ?_⟩ <;> rfl
theorem pe228 : P 228 0 = [(37, 0, 0, 0), (7, 6, 1, 14), (30, 186, 1, 24), (37, 0, 0, 0), (0, 0, 0, 0), (8, 6, 2, 27), (0, 0, 0, 0), (3, 3, 0, 0), (50, 1, 0, 0)] ∧ P 228 1 = [(2, 3, 0, 0), (0, 40, 0, 0), (55, 7, 2, 0)] ∧ P 228 2 = [(2, 3, 0, 0), (58, 4, 3, 0)] ∧ P 228 3 = [(37, 0, 0, 0), (6, 6, 2, 27), (37, 1, 0, 0), (6, 5, 1, 31), (55, 7, 4, 0)] ∧ P 228 4 = [(37, 0, 0, 0), (37, 1, 0, 0), (2, 2, 0, 0), (31, 229, 3, 36), (59, 6, 5, 0)] ∧ P 228 5 = [(37, 0, 0, 0), (6, 6, 2, 27), (64, 0, 0, 0)] ∧ P 228 6 = [(4, 3, 1, 0), (51, 1, 0, 0)] ∧ P 228 7 = [(37, 0, 0, 0), (6, 6, 2, 27), (37, 1, 0, 0), (6, 5, 1, 31), (55, 9, 8, 0)] ∧ P 228 8 = [(37, 0, 0, 0), (6, 6, 2, 27), (51, 10, 0, 0)] ∧ P 228 9 = [(37, 0, 0, 0), (2, 2, 0, 0), (31, 231, 2, 40), (50, 10, 0, 0)] ∧ P 228 10 = [(64, 0, 0, 0)] := by refine ⟨?_, ?_, ?_, ?_, ?_, ?_, ?_, ?_, ?_, ?_, ?_⟩ <;> rfl
theorem pe229 : P 229 0 = [(37, 1, 0, 0), (37, 0, 0, 0), (6, 6, 2, 27), (31, 220, 2, 44), (31, 232, 1, 47), (3, 3, 0, 0), (2, 3, 0, 0), (1, 1, 0, 0), (53, 2, 1, 0)] ∧ P 229 1 = [(0, 0, 0, 0), (65, 0, 0, 0)] ∧ P 229 2 = [(37, 0, 0, 0), (27, 0, 0, 0), (6, 6, 2, 27), (0, 1, 0, 0), (17, 0, 0, 0), (8, 6, 2, 27), (37, 0, 0, 0), (7, 6, 1, 14), (2, 3, 0, 0), (30, 189, 2, 50), (0, 0, 0, 0), (3, 4, 0, 0), (50, 3, 0, 0)] ∧ P 229 3 = [(2, 4, 0, 0), (2, 2, 0, 0), (55, 8, 4, 0)] ∧ P 229 4 = [(37, 1, 0, 0), (37, 0, 0, 0), (6, 6, 2, 27), (31, 220, 2, 44), (0, 97, 0, 0), (2, 4, 0, 0), (17, 0, 0, 0), (53, 7, 5, 0)] ∧ P 229 5 = [(37, 0, 0, 0), (27, 0, 0, 0), (6, 6, 2, 27), (0, 1, 0, 0), (17, 0, 0, 0), (8, 6, 2, 27), (37, 0, 0, 0), (37, 1, 0, 0), (37, 0, 0, 0), (7, 6, 1, 14), (6, 2, 2, 53), (0, 1, 0, 0), (18, 0, 0, 0), (2, 4, 0, 0), (31, 230, 4, 54), (59, 7, 6, 0)] ∧ P 229 6 = [(0, 0, 0, 0), (65, 0, 0, 0)] ∧ P 229 7 = [(4, 4, 1, 0), (51, 3, 0, 0)] ∧ P 229 8 = [(37, 1, 0, 0), (37, 0, 0, 0), (6, 6, 2, 27), (31, 220, 2, 44), (0, 59, 0, 0), (52, 10, 9, 0)] ∧ P 229 9 = [(0, 0, 0, 0), (65, 0, 0, 0)] ∧ P 229 10 = [(37, 0, 0, 0), (27, 0, 0, 0), (6, 6, 2, 27), (0, 1, 0, 0), (17, 0, 0, 0), (8, 6, 2, 27), (0, 1, 0, 0), (65, 0, 0, 0)] := by refine ⟨?_, ?_, ?_, ?_, ?_, ?_, ?_, ?_, ?_, ?_, ?_⟩ <;> rfl
theorem pe230 : P 230 0 = [(37, 1, 0, 0), (37, 0, 0, 0), (6, 6, 2, 27), (31, 220, 2, 44), (31, 233, 1, 58), (3, 4, 0, 0), (2, 2, 0, 0), (0, 4, 0, 0), (19, 0, 0, 0), (2, 3, 0, 0), (17, 0, 0, 0), (3, 5, 0, 0), (2, 4, 0, 0), (1, 1, 0, 0), (52, 3, 1, 0)] ∧ P 230 1 = [(2, 5, 0, 0), (60, 3, 2, 0)] ∧ P 230 2 = [(2, 5, 0, 0), (37, 0, 0, 0), (7, 6, 4, 20), (16, 0, 0, 0), (54, 4, 3, 0)] ∧ P 230 3 = [(0, 0, 0, 0), (65, 0, 0, 0)] ∧ P 230 4 = [(37, 0, 0, 0), (7, 6, 4, 20), (2, 5, 0, 0), (37, 0, 0, 0), (6, 6, 2, 27), (12, 0, 0, 0), (37, 0, 0, 0), (27, 0, 0, 0), (6, 6, 2, 27), (0, 1, 0, 0), (17, 0, 0, 0), (8, 6, 2, 27), (2, 4, 0, 0), (59, 6, 5, 0)] ∧ P 230 5 = [(1, 1, 0, 0), (51, 7, 0, 0)] ∧ P 230 6 = [(37, 1, 0, 0), (37, 0, 0, 0), (6, 6, 2, 27), (31, 220, 2, 44), (31, 233, 1, 58), (50, 7, 0, 0)] ∧ P 230 7 = [(3, 6, 0, 0), (2, 6, 0, 0), (1, 1, 0, 0), (52, 9, 8, 0)] ∧ P 230 8 = [(37, 0, 0, 0), (27, 0, 0, 0), (6, 6, 2, 27), (0, 1, 0, 0), (17, 0, 0, 0), (8, 6, 2, 27), (50, 9, 0, 0)] ∧ P 230 9 = [(37, 0, 0, 0), (7, 6, 1, 14), (2, 2, 0, 0), (2, 3, 0, 0), (2, 6, 0, 0), (1, 1, 0, 0), (53, 11, 10, 0)] ∧ P 230 10 = [(2, 4, 0, 0), (51, 12, 0, 0)] ∧ P 230 11 = [(0, 10, 0, 0), (2, 4, 0, 0), (19, 0, 0, 0), (2, 6, 0, 0), (17, 0, 0, 0), (50, 12, 0, 0)] ∧ P 230 12 = [(30, 190, 4, 61), (0, 1, 0, 0), (65, 0, 0, 0)] := by refine ⟨?_, ?_, ?_, ?_, ?_, ?_, ?_, ?_, ?_, ?_, ?_, ?_, ?_⟩ <;> rfl
theorem pe231 : P 231 0 = [(0, 0, 0, 0), (3, 2, 0, 0), (50, 1, 0, 0)] ∧ P 231 1 = [(2, 2, 0, 0), (37, 0, 0, 0), (7, 6, 1, 14), (6, 2, 2, 53), (55, 10, 2, 0)] ∧ P 231 2 = [(2, 2, 0, 0), (0, 40, 0, 0), (55, 10, 3, 0)] ∧ P 231 3 = [(0, 0, 0, 0), (3, 3, 0, 0), (50, 4, 0, 0)] ∧ P 231 4 = [(2, 3, 0, 0), (2, 1, 0, 0), (55, 9, 5, 0)] ∧ P 231 5 = [(2, 3, 0, 0), (0, 4, 0, 0), (55, 9, 6, 0)] ∧ P 231 6 = [(2, 2, 0, 0), (0, 4, 0, 0), (19, 0, 0, 0), (2, 3, 0, 0), (17, 0, 0, 0), (3, 4, 0, 0), (37, 0, 0, 0), (7, 6, 1, 14), (7, 2, 2, 65), (2, 4, 0, 0), (10, 0, 0, 0), (37, 0, 0, 0), (7, 6, 1, 14), (6, 2, 2, 53), (54, 8, 7, 0)] ∧ P 231 7 = [(37, 0, 0, 0), (7, 6, 4, 20), (2, 4, 0, 0), (10, 0, 0, 0), (64, 0, 0, 0)] ∧ P 231 8 = [(4, 3, 1, 0), (51, 4, 0, 0)] ∧ P 231 9 = [(4, 2, 1, 0), (51, 1, 0, 0)] ∧ P 231 10 = [(1, 1, 0, 0), (64, 0, 0, 0)] := by refine ⟨?_, ?_, ?_, ?_, ?_, ?_, ?_, ?_, ?_, ?_, ?_⟩ <;> rfl
theorem pe232 : P 232 0 = [(2, 0, 0, 0), (68, 4, 0, 0), (43, 2, 0, 0), (45, 3, 0, 0), (63, 1, 0, 0)] ∧ P 232 1 = [(0, 0, 0, 0), (64, 0, 0, 0)] ∧ P 232 2 = [(0, 1, 0, 0), (64, 0, 0, 0)] ∧ P 232 3 = [(0, 2, 0, 0), (64, 0, 0, 0)] ∧ P 232 4 = [(1, 1, 0, 0), (64, 0, 0, 0)] := by refine ⟨?_, ?_, ?_, ?_, ?_⟩ <;> rfl
theorem pe233 : P 233 0 = [(2, 0, 0, 0), (0, 48, 0, 0), (54, 3, 1, 0)] ∧ P 233 1 = [(2, 0, 0, 0), (0, 57, 0, 0), (56, 3, 2, 0)] ∧ P 233 2 = [(2, 0, 0, 0), (0, 48, 0, 0), (18, 0, 0, 0), (51, 4, 0, 0)] ∧ P 233 3 = [(1, 1, 0, 0), (50, 4, 0, 0)] ∧ P 233 4 = [(64, 0, 0, 0)] := by refine ⟨?_, ?_, ?_, ?_, ?_⟩ <;> rfl
theorem pe234 : P 234 0 = [(37, 0, 0, 0), (0, 0, 0, 0), (8, 7, 2, 19), (67, 0, 0, 0)] := rfl
theorem pe235 : P 235 0 = [(2, 1, 0, 0), (60, 4, 1, 0)] ∧ P 235 1 = [(2, 1, 0, 0), (37, 0, 0, 0), (6, 7, 2, 19), (55, 4, 2, 0)] ∧ P 235 2 = [(2, 1, 0, 0), (0, 40, 0, 0), (55, 4, 3, 0)] ∧ P 235 3 = [(0, 1, 0, 0), (51, 5, 0, 0)] ∧ P 235 4 = [(0, 0, 0, 0), (50, 5, 0, 0)] ∧ P 235 5 = [(65, 0, 0, 0)] := by refine ⟨?_, ?_, ?_, ?_, ?_, ?_⟩ <;> rfl
theorem pe236 : P 236 0 = [(37, 0, 0, 0), (2, 1, 0, 0), (31, 235, 2, 23), (58, 2, 1, 0)] ∧ P 236 1 = [(37, 0, 0, 0), (7, 7, 1, 9), (2, 1, 0, 0), (10, 0, 0, 0), (51, 3, 0, 0)] ∧ P 236 2 = [(1, 1, 0, 0), (50, 3, 0, 0)] ∧ P 236 3 = [(64, 0, 0, 0)] := by refine ⟨?_, ?_, ?_, ?_⟩ <;> rfl
theorem pe237 : P 237 0 = [(37, 0, 0, 0), (2, 1, 0, 0), (31, 235, 2, 23), (58, 3, 1, 0)] ∧ P 237 1 = [(37, 0, 0, 0), (7, 7, 2, 15), (2, 1, 0, 0), (15, 0, 0, 0), (58, 3, 2, 0)] ∧ P 237 2 = [(0, 1, 0, 0), (51, 4, 0, 0)] ∧ P 237 3 = [(0, 0, 0, 0), (50, 4, 0, 0)] ∧ P 237 4 = [(65, 0, 0, 0)] := by refine ⟨?_, ?_, ?_, ?_, ?_⟩ <;> rfl
theorem pe238 : P 238 0 = [(0, 0, 0, 0), (3, 1, 0, 0), (0, 0, 0, 0), (3, 2, 0, 0), (50, 1, 0, 0)] ∧ P 238 1 = [(2, 2, 0, 0), (37, 0, 0, 0), (6, 7, 2, 19), (55, 5, 2, 0)] ∧ P 238 2 = [(37, 0, 0, 0), (2, 2, 0, 0), (31, 237, 2, 27), (58, 4, 3, 0)] ∧ P 238 3 = [(4, 1, 1, 0), (50, 4, 0, 0)] ∧ P 238 4 = [(4, 2, 1, 0), (51, 1, 0, 0)] ∧ P 238 5 = [(2, 1, 0, 0), (64, 0, 0, 0)] := by refine ⟨?_, ?_, ?_, ?_, ?_, ?_⟩ <;> rfl
theorem pe239 : P 239 0 = [(0, 0, 0, 0), (3, 2, 0, 0), (50, 1, 0, 0)] ∧ P 239 1 = [(2, 2, 0, 0), (37, 0, 0, 0), (6, 7, 2, 19), (55, 5, 2, 0)] ∧ P 239 2 = [(2, 2, 0, 0), (0, 40, 0, 0), (55, 5, 3, 0)] ∧ P 239 3 = [(37, 0, 0, 0), (7, 7, 1, 9), (2, 2, 0, 0), (10, 0, 0, 0), (2, 1, 0, 0), (55, 5, 4, 0)] ∧ P 239 4 = [(4, 2, 1, 0), (51, 1, 0, 0)] ∧ P 239 5 = [(2, 2, 0, 0), (64, 0, 0, 0)] := by refine ⟨?_, ?_, ?_, ?_, ?_, ?_⟩ <;> rfl
theorem pe240 : P 240 0 = [(37, 0, 0, 0), (37, 0, 0, 0), (2, 1, 0, 0), (31, 239, 2, 30), (31, 236, 2, 34), (2, 1, 0, 0), (53, 2, 1, 0)] ∧ P 240 1 = [(0, 1, 0, 0), (51, 3, 0, 0)] ∧ P 240 2 = [(0, 0, 0, 0), (50, 3, 0, 0)] ∧ P 240 3 = [(65, 0, 0, 0)] := by refine ⟨?_, ?_, ?_, ?_⟩ <;> rfl
theorem pe241 : P 241 0 = [(37, 0, 0, 0), (6, 7, 2, 19), (0, 40, 0, 0), (55, 3, 1, 0)] ∧ P 241 1 = [(2, 1, 0, 0), (60, 3, 2, 0)] ∧ P 241 2 = [(2, 1, 0, 0), (37, 0, 0, 0), (6, 7, 2, 19), (57, 4, 3, 0)] ∧ P 241 3 = [(67, 0, 0, 0)] ∧ P 241 4 = [(37, 0, 0, 0), (6, 7, 2, 19), (3, 4, 0, 0), (50, 5, 0, 0)] ∧ P 241 5 = [(2, 4, 0, 0), (2, 1, 0, 0), (57, 7, 6, 0)] ∧ P 241 6 = [(37, 0, 0, 0), (7, 7, 1, 9), (2, 4, 0, 0), (37, 0, 0, 0), (7, 7, 1, 9), (2, 4, 0, 0), (0, 1, 0, 0), (18, 0, 0, 0), (10, 0, 0, 0), (12, 0, 0, 0), (37, 0, 0, 0), (7, 7, 2, 15), (2, 4, 0, 0), (37, 0, 0, 0), (7, 7, 2, 15), (2, 4, 0, 0), (0, 1, 0, 0), (18, 0, 0, 0), (15, 0, 0, 0), (14, 0, 0, 0), (5, 4, 1, 0), (51, 5, 0, 0)] ∧ P 241 7 = [(37, 0, 0, 0), (7, 7, 1, 9), (2, 1, 0, 0), (2, 2, 0, 0), (12, 0, 0, 0), (37, 0, 0, 0), (7, 7, 2, 15), (2, 1, 0, 0), (2, 3, 0, 0), (14, 0, 0, 0), (37, 0, 0, 0), (27, 0, 0, 0), (6, 7, 2, 19), (0, 1, 0, 0), (17, 0, 0, 0), (8, 7, 2, 19), (67, 0, 0, 0)] := by refine ⟨?_, ?_, ?_, ?_, ?_, ?_, ?_, ?_⟩ <;> rfl
theorem pe242 : P 242 0 = [(37, 0, 0, 0), (2, 1, 0, 0), (31, 235, 2, 23), (59, 2, 1, 0)] ∧ P 242 1 = [(67, 0, 0, 0)] ∧ P 242 2 = [(37, 0, 0, 0), (27, 0, 0, 0), (6, 7, 2, 19), (0, 1, 0, 0), (18, 0, 0, 0), (8, 7, 2, 19), (2, 1, 0, 0), (3, 2, 0, 0), (50, 3, 0, 0)] ∧ P 242 3 = [(2, 2, 0, 0), (37, 0, 0, 0), (6, 7, 2, 19), (55, 5, 4, 0)] ∧ P 242 4 = [(37, 0, 0, 0), (7, 7, 1, 9), (2, 2, 0, 0), (37, 0, 0, 0), (7, 7, 1, 9), (2, 2, 0, 0), (0, 1, 0, 0), (17, 0, 0, 0), (10, 0, 0, 0), (12, 0, 0, 0), (37, 0, 0, 0), (7, 7, 2, 15), (2, 2, 0, 0), (37, 0, 0, 0), (7, 7, 2, 15), (2, 2, 0, 0), (0, 1, 0, 0), (17, 0, 0, 0), (15, 0, 0, 0), (14, 0, 0, 0), (4, 2, 1, 0), (51, 3, 0, 0)] ∧ P 242 5 = [(67, 0, 0, 0)] := by refine ⟨?_, ?_, ?_, ?_, ?_, ?_⟩ <;> rfl
theorem pe243 : P 243 0 = [(37, 0, 0, 0), (0, 0, 0, 0), (8, 8, 9, 37), (0, 1, 0, 0), (3, 2, 0, 0), (50, 1, 0, 0)] ∧ P 243 1 = [(2, 2, 0, 0), (0, 8, 0, 0), (56, 5, 2, 0)] ∧ P 243 2 = [(37, 0, 0, 0), (37, 1, 0, 0), (2, 2, 0, 0), (31, 244, 3, 41), (3, 3, 0, 0), (2, 3, 0, 0), (1, 2, 0, 0), (52, 4, 3, 0)] ∧ P 243 3 = [(2, 3, 0, 0), (64, 0, 0, 0)] ∧ P 243 4 = [(4, 2, 1, 0), (51, 1, 0, 0)] ∧ P 243 5 = [(1, 2, 0, 0), (64, 0, 0, 0)] := by refine ⟨?_, ?_, ?_, ?_, ?_, ?_⟩ <;> rfl
theorem pe244 : P 244 0 = [(37, 1, 0, 0), (6, 9, 4, 45), (0, 120, 0, 0), (32, 0, 0, 50), (3, 3, 0, 0), (37, 0, 0, 0), (30, 245, 1, 56), (37, 0, 0, 0), (37, 1, 0, 0), (0, 0, 0, 0), (2, 2, 0, 0), (30, 246, 4, 59), (0, 0, 0, 0), (3, 4, 0, 0), (0, 0, 0, 0), (3, 5, 0, 0), (50, 1, 0, 0)] ∧ P 244 1 = [(2, 5, 0, 0), (0, 100002, 0, 63), (55, 12, 2, 0)] ∧ P 244 2 = [(2, 4, 0, 0), (2, 3, 0, 0), (55, 12, 3, 0)] ∧ P 244 3 = [(37, 0, 0, 0), (7, 8, 2, 15), (2, 4, 0, 0), (10, 0, 0, 0), (37, 0, 0, 0), (7, 8, 3, 18), (2, 4, 0, 0), (10, 0, 0, 0), (57, 7, 4, 0)] ∧ P 244 4 = [(5, 4, 1, 0), (2, 4, 0, 0), (61, 6, 5, 0)] ∧ P 244 5 = [(1, 2, 0, 0), (64, 0, 0, 0)] ∧ P 244 6 = [(37, 0, 0, 0), (37, 1, 0, 0), (2, 4, 0, 0), (30, 249, 3, 64), (51, 11, 0, 0)] ∧ P 244 7 = [(37, 0, 0, 0), (6, 8, 9, 37), (0, 50000, 0, 68), (54, 9, 8, 0)] ∧ P 244 8 = [(1, 3, 0, 0), (64, 0, 0, 0)] ∧ P 244 9 = [(37, 0, 0, 0), (37, 1, 0, 0), (2, 4, 0, 0), (31, 248, 3, 69), (58, 11, 10, 0)] ∧ P 244 10 = [(4, 4, 1, 0), (37, 0, 0, 0), (37, 1, 0, 0), (2, 4, 0, 0), (2, 2, 0, 0), (30, 246, 4, 59), (50, 11, 0, 0)] ∧ P 244 11 = [(4, 5, 1, 0), (51, 1, 0, 0)] ∧ P 244 12 = [(2, 4, 0, 0), (2, 3, 0, 0), (54, 14, 13, 0)] ∧ P 244 13 = [(37, 0, 0, 0), (6, 8, 8, 73), (51, 15, 0, 0)] ∧ P 244 14 = [(1, 3, 0, 0), (50, 15, 0, 0)] ∧ P 244 15 = [(64, 0, 0, 0)] := by refine ⟨?_, ?_, ?_, ?_, ?_, ?_, ?_, ?_, ?_, ?_, ?_, ?_, ?_, ?_, ?_, ?_⟩ <;> rfl
theorem pe245 : P 245 0 = [(37, 0, 0, 0), (0, 0, 0, 0), (8, 8, 8, 73), (0, 0, 0, 0), (3, 1, 0, 0), (50, 1, 0, 0)] ∧ P 245 1 = [(2, 1, 0, 0), (0, 8, 0, 0), (55, 3, 2, 0)] ∧ P 245 2 = [(37, 0, 0, 0), (7, 8, 7, 31), (2, 1, 0, 0), (0, 0, 0, 0), (12, 0, 0, 0), (4, 1, 1, 0), (51, 1, 0, 0)] ∧ P 245 3 = [(0, 0, 0, 0), (3, 1, 0, 0), (50, 4, 0, 0)] ∧ P 245 4 = [(2, 1, 0, 0), (0, 32, 0, 0), (55, 6, 5, 0)] ∧ P 245 5 = [(37, 0, 0, 0), (7, 8, 8, 34), (2, 1, 0, 0), (1, 1, 0, 0), (12, 0, 0, 0), (4, 1, 1, 0), (51, 4, 0, 0)] ∧ P 245 6 = [(67, 0, 0, 0)] := by refine ⟨?_, ?_, ?_, ?_, ?_, ?_, ?_⟩ <;> rfl
theorem pe246 : P 246 0 = [(37, 1, 0, 0), (2, 2, 0, 0), (31, 251, 2, 76), (59, 2, 1, 0)] ∧ P 246 1 = [(67, 0, 0, 0)] ∧ P 246 2 = [(37, 0, 0, 0), (37, 1, 0, 0), (2, 2, 0, 0), (31, 247, 3, 80), (3, 4, 0, 0), (2, 4, 0, 0), (1, 1, 0, 0), (53, 4, 3, 0)] ∧ P 246 3 = [(1, 1, 0, 0), (51, 5, 0, 0)] ∧ P 246 4 = [(37, 0, 0, 0), (7, 8, 8, 34), (2, 4, 0, 0), (10, 0, 0, 0), (50, 5, 0, 0)] ∧ P 246 5 = [(3, 5, 0, 0), (37, 0, 0, 0), (7, 8, 2, 15), (2, 2, 0, 0), (2, 5, 0, 0), (1, 1, 0, 0), (53, 7, 6, 0)] ∧ P 246 6 = [(0, 0, 0, 0), (51, 8, 0, 0)] ∧ P 246 7 = [(2, 5, 0, 0), (50, 8, 0, 0)] ∧ P 246 8 = [(12, 0, 0, 0), (37, 0, 0, 0), (7, 8, 3, 18), (2, 2, 0, 0), (2, 5, 0, 0), (1, 1, 0, 0), (53, 10, 9, 0)] ∧ P 246 9 = [(37, 0, 0, 0), (6, 8, 8, 73), (2, 3, 0, 0), (0, 1, 0, 0), (18, 0, 0, 0), (32, 0, 0, 50), (51, 11, 0, 0)] ∧ P 246 10 = [(2, 5, 0, 0), (50, 11, 0, 0)] ∧ P 246 11 = [(12, 0, 0, 0), (67, 0, 0, 0)] := by refine ⟨?_, ?_, ?_, ?_, ?_, ?_, ?_, ?_, ?_, ?_, ?_, ?_⟩ <;> rfl
theorem pe247 : P 247 0 = [(37, 1, 0, 0), (7, 9, 3, 83), (2, 2, 0, 0), (10, 0, 0, 0), (3, 3, 0, 0), (2, 3, 0, 0), (1, 1, 0, 0), (53, 2, 1, 0)] ∧ P 247 1 = [(1, 1, 0, 0), (51, 3, 0, 0)] ∧ P 247 2 = [(37, 0, 0, 0), (7, 8, 1, 9), (2, 3, 0, 0), (10, 0, 0, 0), (0, 4, 0, 0), (19, 0, 0, 0), (37, 1, 0, 0), (7, 9, 1, 86), (2, 2, 0, 0), (10, 0, 0, 0), (31, 261, 1, 89), (17, 0, 0, 0), (50, 3, 0, 0)] ∧ P 247 3 = [(64, 0, 0, 0)] := by refine ⟨?_, ?_, ?_, ?_⟩ <;> rfl
theorem pe248 : P 248 0 = [(37, 0, 0, 0), (27, 0, 0, 0), (6, 8, 9, 37), (0, 1, 0, 0), (17, 0, 0, 0), (8, 8, 9, 37), (37, 0, 0, 0), (7, 8, 2, 15), (2, 2, 0, 0), (10, 0, 0, 0), (3, 3, 0, 0), (37, 0, 0, 0), (7, 8, 2, 15), (2, 2, 0, 0), (29, 0, 0, 0), (10, 0, 0, 0), (0, 1, 0, 0), (17, 0, 0, 0), (12, 0, 0, 0), (2, 3, 0, 0), (60, 3, 1, 0)] ∧ P 248 1 = [(2, 3, 0, 0), (0, 8, 0, 0), (55, 3, 2, 0)] ∧ P 248 2 = [(37, 0, 0, 0), (7, 8, 7, 31), (2, 3, 0, 0), (10, 0, 0, 0), (37, 1, 0, 0), (7, 9, 2, 95), (2, 2, 0, 0), (10, 0, 0, 0), (23, 0, 0, 0), (0, 3, 0, 0), (53, 4, 3, 0)] ∧ P 248 3 = [(0, 0, 0, 0), (65, 0, 0, 0)] ∧ P 248 4 = [(37, 0, 0, 0), (7, 8, 1, 9), (2, 2, 0, 0), (2, 3, 0, 0), (12, 0, 0, 0), (37, 0, 0, 0), (7, 8, 6, 28), (2, 2, 0, 0), (2, 3, 0, 0), (37, 0, 0, 0), (6, 8, 8, 73), (53, 6, 5, 0)] ∧ P 248 5 = [(0, 1, 0, 0), (51, 7, 0, 0)] ∧ P 248 6 = [(0, 0, 0, 0), (50, 7, 0, 0)] ∧ P 248 7 = [(14, 0, 0, 0), (37, 0, 0, 0), (7, 8, 6, 28), (2, 2, 0, 0), (15, 0, 0, 0), (58, 9, 8, 0)] ∧ P 248 8 = [(37, 0, 0, 0), (27, 0, 0, 0), (6, 8, 8, 73), (0, 1, 0, 0), (17, 0, 0, 0), (8, 8, 8, 73), (50, 9, 0, 0)] ∧ P 248 9 = [(37, 0, 0, 0), (7, 8, 4, 21), (2, 2, 0, 0), (37, 0, 0, 0), (7, 8, 7, 31), (2, 3, 0, 0), (10, 0, 0, 0), (59, 12, 10, 0)] ∧ P 248 10 = [(37, 1, 0, 0), (7, 9, 2, 95), (2, 2, 0, 0), (10, 0, 0, 0), (58, 12, 11, 0)] ∧ P 248 11 = [(0, 1, 0, 0), (51, 13, 0, 0)] ∧ P 248 12 = [(0, 0, 0, 0), (50, 13, 0, 0)] ∧ P 248 13 = [(14, 0, 0, 0), (37, 0, 0, 0), (7, 8, 4, 21), (2, 2, 0, 0), (15, 0, 0, 0), (58, 15, 14, 0)] ∧ P 248 14 = [(37, 0, 0, 0), (7, 8, 7, 31), (2, 3, 0, 0), (37, 1, 0, 0), (7, 9, 2, 95), (2, 2, 0, 0), (10, 0, 0, 0), (12, 0, 0, 0), (50, 15, 0, 0)] ∧ P 248 15 = [(37, 0, 0, 0), (37, 1, 0, 0), (2, 2, 0, 0), (31, 247, 3, 80), (3, 4, 0, 0), (37, 0, 0, 0), (7, 8, 5, 25), (2, 2, 0, 0), (2, 4, 0, 0), (1, 1, 0, 0), (52, 18, 16, 0)] ∧ P 248 16 = [(37, 0, 0, 0), (7, 8, 8, 34), (2, 4, 0, 0), (10, 0, 0, 0), (1, 1, 0, 0), (53, 18, 17, 0)] ∧ P 248 17 = [(0, 1, 0, 0), (51, 19, 0, 0)] ∧ P 248 18 = [(0, 0, 0, 0), (50, 19, 0, 0)] ∧ P 248 19 = [(14, 0, 0, 0), (37, 0, 0, 0), (7, 8, 5, 25), (2, 2, 0, 0), (15, 0, 0, 0), (58, 21, 20, 0)] ∧ P 248 20 = [(37, 0, 0, 0), (7, 8, 8, 34), (2, 4, 0, 0), (2, 3, 0, 0), (12, 0, 0, 0), (50, 21, 0, 0)] ∧ P 248 21 = [(0, 1, 0, 0), (65, 0, 0, 0)] := by refine ⟨?_, ?_, ?_, ?_, ?_, ?_, ?_, ?_, ?_, ?_, ?_, ?_, ?_, ?_, ?_, ?_, ?_, ?_, ?_, ?_, ?_, ?_⟩ <;> rfl
theorem pe249 : P 249 0 = [(37, 0, 0, 0), (7, 8, 5, 25), (2, 2, 0, 0), (15, 0, 0, 0), (58, 2, 1, 0)] ∧ P 249 1 = [(37, 0, 0, 0), (7, 8, 8, 34), (37, 0, 0, 0), (37, 1, 0, 0), (2, 2, 0, 0), (31, 247, 3, 80), (1, 1, 0, 0), (12, 0, 0, 0), (50, 2, 0, 0)] ∧ P 249 2 = [(37, 0, 0, 0), (7, 8, 4, 21), (2, 2, 0, 0), (15, 0, 0, 0), (58, 4, 3, 0)] ∧ P 249 3 = [(37, 0, 0, 0), (7, 8, 7, 31), (37, 0, 0, 0), (7, 8, 1, 9), (2, 2, 0, 0), (10, 0, 0, 0), (0, 0, 0, 0), (12, 0, 0, 0), (50, 4, 0, 0)] ∧ P 249 4 = [(37, 0, 0, 0), (7, 8, 6, 28), (2, 2, 0, 0), (15, 0, 0, 0), (58, 6, 5, 0)] ∧ P 249 5 = [(37, 0, 0, 0), (27, 0, 0, 0), (6, 8, 8, 73), (0, 1, 0, 0), (18, 0, 0, 0), (8, 8, 8, 73), (50, 6, 0, 0)] ∧ P 249 6 = [(67, 0, 0, 0)] := by refine ⟨?_, ?_, ?_, ?_, ?_, ?_, ?_⟩ <;> rfl
theorem pe250 : P 250 0 = [(37, 1, 0, 0), (30, 186, 1, 96), (0, 0, 0, 0), (3, 2, 0, 0), (50, 1, 0, 0)] ∧ P 250 1 = [(2, 2, 0, 0), (37, 0, 0, 0), (6, 8, 8, 73), (55, 7, 2, 0)] ∧ P 250 2 = [(2, 2, 0, 0), (0, 8, 0, 0), (55, 7, 3, 0)] ∧ P 250 3 = [(37, 1, 0, 0), (37, 0, 0, 0), (7, 8, 7, 31), (2, 2, 0, 0), (10, 0, 0, 0), (30, 189, 2, 101), (0, 0, 0, 0), (3, 3, 0, 0), (50, 4, 0, 0)] ∧ P 250 4 = [(2, 3, 0, 0), (0, 4, 0, 0), (55, 6, 5, 0)] ∧ P 250 5 = [(37, 1, 0, 0), (2, 2, 0, 0), (2, 3, 0, 0), (37, 0, 0, 0), (7, 8, 8, 34), (2, 2, 0, 0), (0, 4, 0, 0), (19, 0, 0, 0), (2, 3, 0, 0), (17, 0, 0, 0), (10, 0, 0, 0), (30, 190, 4, 105), (4, 3, 1, 0), (51, 4, 0, 0)] ∧ P 250 6 = [(4, 2, 1, 0), (51, 1, 0, 0)] ∧ P 250 7 = [(67, 0, 0, 0)] := by refine ⟨?_, ?_, ?_, ?_, ?_, ?_, ?_, ?_⟩ <;> rfl
theorem pe251 : P 251 0 = [(2, 1, 0, 0), (60, 4, 1, 0)] ∧ P 251 1 = [(2, 1, 0, 0), (37, 0, 0, 0), (6, 9, 4, 24), (55, 4, 2, 0)] ∧ P 251 2 = [(2, 1, 0, 0), (0, 120, 0, 0), (55, 4, 3, 0)] ∧ P 251 3 = [(0, 1, 0, 0), (51, 5, 0, 0)] ∧ P 251 4 = [(0, 0, 0, 0), (50, 5, 0, 0)] ∧ P 251 5 = [(65, 0, 0, 0)] := by refine ⟨?_, ?_, ?_, ?_, ?_, ?_⟩ <;> rfl
theorem pe252 : P 252 0 = [(37, 0, 0, 0), (0, 1, 0, 0), (8, 9, 4, 24), (37, 0, 0, 0), (7, 9, 1, 9), (0, 0, 0, 0), (0, 0, 0, 0), (12, 0, 0, 0), (0, 0, 0, 0), (3, 3, 0, 0), (50, 1, 0, 0)] ∧ P 252 1 = [(2, 3, 0, 0), (37, 1, 0, 0), (6, 7, 2, 28), (55, 5, 2, 0)] ∧ P 252 2 = [(2, 3, 0, 0), (2, 2, 0, 0), (52, 4, 3, 0)] ∧ P 252 3 = [(37, 0, 0, 0), (37, 1, 0, 0), (2, 3, 0, 0), (31, 236, 2, 31), (30, 253, 2, 35), (50, 4, 0, 0)] ∧ P 252 4 = [(4, 3, 1, 0), (51, 1, 0, 0)] ∧ P 252 5 = [(37, 0, 0, 0), (37, 1, 0, 0), (2, 2, 0, 0), (30, 258, 3, 39), (67, 0, 0, 0)] := by refine ⟨?_, ?_, ?_, ?_, ?_, ?_⟩ <;> rfl
theorem pe253 : P 253 0 = [(2, 1, 0, 0), (31, 259, 1, 43), (3, 2, 0, 0), (0, 1, 0, 0), (3, 3, 0, 0), (50, 1, 0, 0)] ∧ P 253 1 = [(2, 3, 0, 0), (2, 2, 0, 0), (56, 3, 2, 0)] ∧ P 253 2 = [(37, 0, 0, 0), (2, 1, 0, 0), (2, 3, 0, 0), (31, 263, 2, 48), (30, 254, 2, 52), (4, 3, 1, 0), (51, 1, 0, 0)] ∧ P 253 3 = [(67, 0, 0, 0)] := by refine ⟨?_, ?_, ?_, ?_⟩ <;> rfl
theorem pe254 : P 254 0 = [(37, 0, 0, 0), (2, 1, 0, 0), (31, 255, 2, 55), (3, 2, 0, 0), (37, 0, 0, 0), (6, 9, 4, 24), (0, 120, 0, 0), (55, 3, 1, 0)] ∧ P 254 1 = [(2, 2, 0, 0), (37, 0, 0, 0), (6, 9, 4, 24), (55, 4, 2, 0)] ∧ P 254 2 = [(37, 0, 0, 0), (7, 9, 1, 9), (2, 2, 0, 0), (10, 0, 0, 0), (2, 1, 0, 0), (53, 4, 3, 0)] ∧ P 254 3 = [(67, 0, 0, 0)] ∧ P 254 4 = [(37, 0, 0, 0), (6, 9, 4, 24), (3, 3, 0, 0), (50, 5, 0, 0)] ∧ P 254 5 = [(2, 3, 0, 0), (2, 2, 0, 0), (57, 7, 6, 0)] ∧ P 254 6 = [(37, 0, 0, 0), (7, 9, 1, 9), (2, 3, 0, 0), (37, 0, 0, 0), (7, 9, 1, 9), (2, 3, 0, 0), (0, 1, 0, 0), (18, 0, 0, 0), (10, 0, 0, 0), (12, 0, 0, 0), (5, 3, 1, 0), (51, 5, 0, 0)] ∧ P 254 7 = [(37, 0, 0, 0), (7, 9, 1, 9), (2, 2, 0, 0), (2, 1, 0, 0), (12, 0, 0, 0), (37, 0, 0, 0), (27, 0, 0, 0), (6, 9, 4, 24), (0, 1, 0, 0), (17, 0, 0, 0), (8, 9, 4, 24), (67, 0, 0, 0)] := by refine ⟨?_, ?_, ?_, ?_, ?_, ?_, ?_, ?_⟩ <;> rfl
theorem pe255 : P 255 0 = [(0, 0, 0, 0), (3, 2, 0, 0), (37, 0, 0, 0), (6, 9, 4, 24), (0, 120, 0, 0), (32, 0, 0, 58), (3, 3, 0, 0), (50, 1, 0, 0)] ∧ P 255 1 = [(2, 2, 0, 0), (2, 3, 0, 0), (55, 6, 2, 0)] ∧ P 255 2 = [(2, 2, 0, 0), (2, 3, 0, 0), (17, 0, 0, 0), (0, 1, 0, 0), (25, 0, 0, 0), (3, 4, 0, 0), (37, 0, 0, 0), (7, 9, 1, 9), (2, 4, 0, 0), (10, 0, 0, 0), (2, 1, 0, 0), (55, 4, 3, 0)] ∧ P 255 3 = [(2, 4, 0, 0), (0, 1, 0, 0), (17, 0, 0, 0), (3, 2, 0, 0), (51, 5, 0, 0)] ∧ P 255 4 = [(2, 4, 0, 0), (3, 3, 0, 0), (50, 5, 0, 0)] ∧ P 255 5 = [(51, 1, 0, 0)] ∧ P 255 6 = [(2, 2, 0, 0), (64, 0, 0, 0)] := by refine ⟨?_, ?_, ?_, ?_, ?_, ?_, ?_⟩ <;> rfl
theorem pe256 : P 256 0 = [(37, 0, 0, 0), (2, 1, 0, 0), (31, 255, 2, 55), (3, 2, 0, 0), (37, 0, 0, 0), (2, 2, 0, 0), (31, 251, 2, 63), (58, 3, 1, 0)] ∧ P 256 1 = [(37, 0, 0, 0), (7, 9, 1, 9), (2, 2, 0, 0), (10, 0, 0, 0), (2, 1, 0, 0), (53, 3, 2, 0)] ∧ P 256 2 = [(2, 2, 0, 0), (51, 4, 0, 0)] ∧ P 256 3 = [(1, 1, 0, 0), (50, 4, 0, 0)] ∧ P 256 4 = [(64, 0, 0, 0)] := by refine ⟨?_, ?_, ?_, ?_, ?_⟩ <;> rfl
theorem pe257 : P 257 0 = [(2, 1, 0, 0), (31, 259, 1, 43), (3, 2, 0, 0), (0, 0, 0, 0), (3, 3, 0, 0), (0, 1, 0, 0), (3, 4, 0, 0), (50, 1, 0, 0)] ∧ P 257 1 = [(2, 4, 0, 0), (2, 2, 0, 0), (56, 5, 2, 0)] ∧ P 257 2 = [(37, 0, 0, 0), (2, 1, 0, 0), (2, 4, 0, 0), (31, 263, 2, 48), (31, 256, 2, 67), (1, 1, 0, 0), (53, 4, 3, 0)] ∧ P 257 3 = [(4, 3, 1, 0), (50, 4, 0, 0)] ∧ P 257 4 = [(4, 4, 1, 0), (51, 1, 0, 0)] ∧ P 257 5 = [(2, 3, 0, 0), (64, 0, 0, 0)] := by refine ⟨?_, ?_, ?_, ?_, ?_, ?_⟩ <;> rfl
theorem pe258 : P 258 0 = [(0, 0, 0, 0), (3, 3, 0, 0), (50, 1, 0, 0)] ∧ P 258 1 = [(2, 3, 0, 0), (37, 0, 0, 0), (6, 9, 4, 24), (55, 7, 2, 0)] ∧ P 258 2 = [(2, 3, 0, 0), (0, 120, 0, 0), (55, 7, 3, 0)] ∧ P 258 3 = [(37, 0, 0, 0), (7, 9, 2, 15), (2, 3, 0, 0), (0, 0, 0, 0), (12, 0, 0, 0), (37, 0, 0, 0), (7, 9, 3, 18), (2, 3, 0, 0), (1, 1, 0, 0), (12, 0, 0, 0), (0, 0, 0, 0), (3, 4, 0, 0), (50, 4, 0, 0)] ∧ P 258 4 = [(2, 4, 0, 0), (0, 4, 0, 0), (55, 6, 5, 0)] ∧ P 258 5 = [(37, 0, 0, 0), (7, 9, 4, 21), (2, 3, 0, 0), (0, 4, 0, 0), (19, 0, 0, 0), (2, 4, 0, 0), (17, 0, 0, 0), (1, 1, 0, 0), (12, 0, 0, 0), (4, 4, 1, 0), (51, 4, 0, 0)] ∧ P 258 6 = [(4, 3, 1, 0), (51, 1, 0, 0)] ∧ P 258 7 = [(0, 1, 0, 0), (3, 3, 0, 0), (50, 8, 0, 0)] ∧ P 258 8 = [(2, 3, 0, 0), (37, 0, 0, 0), (6, 9, 4, 24), (55, 13, 9, 0)] ∧ P 258 9 = [(2, 3, 0, 0), (0, 120, 0, 0), (55, 13, 10, 0)] ∧ P 258 10 = [(37, 0, 0, 0), (37, 0, 0, 0), (7, 9, 1, 9), (2, 3, 0, 0), (10, 0, 0, 0), (37, 0, 0, 0), (7, 9, 1, 9), (2, 3, 0, 0), (10, 0, 0, 0), (31, 259, 1, 43), (0, 1, 0, 0), (18, 0, 0, 0), (31, 263, 2, 48), (31, 256, 2, 67), (3, 4, 0, 0), (2, 4, 0, 0), (1, 1, 0, 0), (52, 12, 11, 0)] ∧ P 258 11 = [(37, 0, 0, 0), (7, 9, 3, 18), (2, 3, 0, 0), (2, 4, 0, 0), (12, 0, 0, 0), (37, 0, 0, 0), (7, 9, 4, 21), (2, 4, 0, 0), (0, 4, 0, 0), (19, 0, 0, 0), (37, 0, 0, 0), (7, 9, 1, 9), (2, 3, 0, 0), (10, 0, 0, 0), (31, 261, 1, 70), (17, 0, 0, 0), (2, 3, 0, 0), (12, 0, 0, 0), (50, 12, 0, 0)] ∧ P 258 12 = [(4, 3, 1, 0), (51, 8, 0, 0)] ∧ P 258 13 = [(0, 0, 0, 0), (3, 3, 0, 0), (50, 14, 0, 0)] ∧ P 258 14 = [(2, 3, 0, 0), (37, 1, 0, 0), (6, 7, 2, 28), (55, 24, 15, 0)] ∧ P 258 15 = [(2, 3, 0, 0), (2, 2, 0, 0), (53, 17, 16, 0)] ∧ P 258 16 = [(1, 1, 0, 0), (51, 18, 0, 0)] ∧ P 258 17 = [(37, 0, 0, 0), (37, 1, 0, 0), (2, 3, 0, 0), (31, 236, 2, 31), (31, 256, 2, 67), (50, 18, 0, 0)] ∧ P 258 18 = [(3, 4, 0, 0), (2, 4, 0, 0), (1, 1, 0, 0), (52, 23, 19, 0)] ∧ P 258 19 = [(37, 0, 0, 0), (7, 9, 2, 15), (2, 4, 0, 0), (37, 1, 0, 0), (2, 3, 0, 0), (31, 237, 2, 73), (58, 21, 20, 0)] ∧ P 258 20 = [(0, 1, 0, 0), (51, 22, 0, 0)] ∧ P 258 21 = [(0, 2, 0, 0), (50, 22, 0, 0)] ∧ P 258 22 = [(12, 0, 0, 0), (50, 23, 0, 0)] ∧ P 258 23 = [(4, 3, 1, 0), (51, 14, 0, 0)] ∧ P 258 24 = [(67, 0, 0, 0)] := by refine ⟨?_, ?_, ?_, ?_, ?_, ?_, ?_, ?_, ?_, ?_, ?_, ?_, ?_, ?_, ?_, ?_, ?_, ?_, ?_, ?_, ?_, ?_, ?_, ?_, ?_⟩ <;> rfl
theorem pe259 : P 259 0 = [(2, 0, 0, 0), (0, 20, 0, 0), (25, 0, 0, 0), (64, 0, 0, 0)] := rfl
theorem pe260 : P 260 0 = [(2, 0, 0, 0), (0, 2, 0, 0), (2, 0, 0, 0), (31, 259, 1, 11), (0, 1, 0, 0), (18, 0, 0, 0), (2, 1, 0, 0), (18, 0, 0, 0), (19, 0, 0, 0), (25, 0, 0, 0), (0, 3, 0, 0), (22, 0, 0, 0), (64, 0, 0, 0)] := rfl
theorem pe261 : P 261 0 = [(2, 0, 0, 0), (0, 3, 0, 0), (22, 0, 0, 0), (64, 0, 0, 0)] := rfl
theorem pe262 : P 262 0 = [(2, 0, 0, 0), (31, 259, 1, 11), (0, 1, 0, 0), (17, 0, 0, 0), (0, 20, 0, 0), (24, 0, 0, 0), (2, 0, 0, 0), (0, 1048575, 0, 15), (22, 0, 0, 0), (0, 2, 0, 0), (24, 0, 0, 0), (0, 1048575, 0, 15), (22, 0, 0, 0), (23, 0, 0, 0), (2, 1, 0, 0), (0, 3, 0, 0), (22, 0, 0, 0), (23, 0, 0, 0), (64, 0, 0, 0)] := rfl
theorem pe263 : P 263 0 = [(2, 1, 0, 0), (0, 20, 0, 0), (24, 0, 0, 0), (2, 0, 0, 0), (0, 1048575, 0, 15), (22, 0, 0, 0), (0, 2, 0, 0), (2, 0, 0, 0), (31, 259, 1, 11), (2, 1, 0, 0), (18, 0, 0, 0), (19, 0, 0, 0), (25, 0, 0, 0), (23, 0, 0, 0), (64, 0, 0, 0)] := rfl
theorem pe264 : P 264 0 = [(0, 0, 0, 0), (3, 3, 0, 0), (2, 0, 0, 0), (3, 4, 0, 0), (0, 0, 0, 0), (3, 5, 0, 0), (50, 1, 0, 0)] ∧ P 264 1 = [(2, 5, 0, 0), (2, 1, 0, 0), (55, 4, 2, 0)] ∧ P 264 2 = [(2, 2, 0, 0), (63, 4, 3, 0)] ∧ P 264 3 = [(2, 3, 0, 0), (2, 4, 0, 0), (2, 2, 0, 0), (21, 0, 0, 0), (0, 2, 0, 0), (2, 5, 0, 0), (19, 0, 0, 0), (24, 0, 0, 0), (23, 0, 0, 0), (3, 3, 0, 0), (2, 4, 0, 0), (2, 2, 0, 0), (20, 0, 0, 0), (3, 4, 0, 0), (4, 5, 1, 0), (51, 1, 0, 0)] ∧ P 264 4 = [(2, 1, 0, 0), (0, 20, 0, 0), (24, 0, 0, 0), (2, 3, 0, 0), (23, 0, 0, 0), (64, 0, 0, 0)] := by refine ⟨?_, ?_, ?_, ?_, ?_⟩ <;> rfl
end
section
/-! what a run can't reach stays as it was -/
def RIn (G : Nat → Prop) (v : V) : Prop := match v with
  | some (.inr o) => G o
  | _ => True
def RL (G : Nat → Prop) (l : List V) : Prop := ∀ v ∈ l, RIn G v
def offOK (a b : Nat) : Bool := (fkL.getD a []).any (fun x => decide (x = b))
def Gc (G : Nat → Prop) : Prop := ∀ o b, G o → offOK (kl o) b = true → G (o + b)
def Ag (G : Nat → Prop) (s0 st : St) : Prop := ∀ j, ¬ G j → st j = s0 j
theorem RL_cons {G : Nat → Prop} {v : V} {l : List V} (h : RIn G v) (hl : RL G l) : RL G (v :: l) := by
  intro w hw
  rcases List.mem_cons.mp hw with rfl | hw
  · exact h
  · exact hl w hw
theorem RL_tl {G : Nat → Prop} {v : V} {l : List V} (h : RL G (v :: l)) : RL G l := fun w hw => h w (List.mem_cons_of_mem _ hw)
theorem RL_hd {G : Nat → Prop} {v : V} {l : List V} (h : RL G (v :: l)) : RIn G v := h v List.mem_cons_self
theorem RL_lp {G : Nat → Prop} {ls : List V} {a : Nat} {v : V} (h : RL G ls) (hv : RIn G v) : RL G (lp ls a v) := by
  intro w hw
  rcases lp_mem hw with rfl | hw
  · exact hv
  · exact h w hw
theorem Ag_up2 {G : Nat → Prop} {s0 st : St} {o i : Nat} {v : Int} (h : Ag G s0 st) (ho : G o) : Ag G s0 (up2 st o i v) := by
  intro j hj
  rw [up2_ne (fun e => hj (by rw [e]; exact ho))]
  exact h j hj
theorem Ag_up1 {G : Nat → Prop} {s0 st : St} {o : Nat} {f : Nat → Int} (h : Ag G s0 st) (ho : G o) : Ag G s0 (up1 st o f) := by
  intro j hj
  rw [up1_ne (fun e => hj (by rw [e]; exact ho))]
  exact h j hj
def ai7 (q : Ai) : Bool := if q.1 = 7 then offOK q.2.1 q.2.2.1 else true
def CFr (G : Nat → Prop) (C : Cn) : Prop := ∀ k as st Q, C k as st Q → RL G as → C k as st (fun v st' => Q v st' ∧ RIn G v ∧ Ag G st st')
section FRM
variable {G : Nat → Prop} {C : Cn} {L : Nat} {sx : Nat → Int} {s0 : St}
theorem s1_fr (hG : Gc G) (hm : Cm C) (hC : CFr G C) {k k' : Kn} (hk : ∀ ls stk st, RL G ls → RL G stk → Ag G s0 st → k ls stk st → k' ls stk st) {t a b d : Nat} (h7 : ai7 (t, a, b, d) = true) {ls stk : List V} {st : St} (hl : RL G ls) (hs : RL G stk) (ha : Ag G s0 st) (h : s1 C L sx t a b k ls stk st) : s1 C L sx t a b k' ls stk st := by
  unfold s1 at h ⊢
  split at h
  case h_1 => exact hk _ _ _ hl (RL_cons trivial hs) ha h
  case h_2 => exact hk _ _ _ hl (RL_cons trivial hs) ha h
  case h_3 =>
    unfold i_load at h ⊢
    split at h
    · exact hk _ _ _ hl (RL_cons trivial hs) ha h
    · exact h.elim
  case h_4 =>
    unfold i_store at h ⊢
    split at h
    · exact hk _ _ _ (RL_lp hl trivial) (RL_tl hs) ha h
    · exact h.elim
  case h_5 =>
    unfold i_inc at h ⊢
    split at h
    · exact hk _ _ _ (RL_lp hl trivial) hs ha h
    · exact h.elim
  case h_6 =>
    unfold i_inc at h ⊢
    split at h
    · exact hk _ _ _ (RL_lp hl trivial) hs ha h
    · exact h.elim
  case h_7 =>
    unfold i_get at h ⊢
    split at h
    · exact ⟨h.1, hk _ _ _ hl (RL_cons trivial (RL_tl hs)) ha h.2⟩
    · exact h.elim
  case h_8 =>
    unfold i_getR at h ⊢
    split at h
    · rename_i o s
      have h7' : offOK a b = true := h7
      exact ⟨h.1, hk _ _ _ hl (RL_cons (hG o b (RL_hd hs) (by rw [h.1]; exact h7')) (RL_tl hs)) ha h.2⟩
    · exact h.elim
  case h_9 =>
    unfold i_put at h ⊢
    split at h
    · exact ⟨h.1, hk _ _ _ hl (RL_tl (RL_tl hs)) (Ag_up2 ha (RL_hd (RL_tl hs))) h.2⟩
    · exact h.elim
  case h_10 =>
    unfold i_putZ at h ⊢
    split at h
    · exact ⟨h.1, h.2.1, hk _ _ _ hl (RL_tl (RL_tl hs)) (Ag_up2 ha (RL_hd (RL_tl hs))) h.2.2⟩
    · exact h.elim
  all_goals first
    | exact h.elim
    | (unfold i_ald at h ⊢
       split at h
       · exact ⟨h.1, h.2.1, hk _ _ _ hl (RL_cons trivial (RL_tl (RL_tl hs))) ha h.2.2⟩
       · exact h.elim)
    | (unfold i_ast at h ⊢
       split at h
       · exact ⟨h.1, h.2.1, hk _ _ _ hl (RL_tl (RL_tl (RL_tl hs))) (Ag_up2 ha (RL_hd (RL_tl (RL_tl hs)))) h.2.2⟩
       · exact h.elim)
    | (unfold i_astB at h ⊢
       split at h
       · exact ⟨h.1, h.2.1, hk _ _ _ hl (RL_tl (RL_tl (RL_tl hs))) (Ag_up2 ha (RL_hd (RL_tl (RL_tl hs)))) h.2.2⟩
       · exact h.elim)
    | (unfold i_astZ at h ⊢
       split at h
       · exact ⟨h.1, h.2.1, h.2.2.1, hk _ _ _ hl (RL_tl (RL_tl (RL_tl hs))) (Ag_up2 ha (RL_hd (RL_tl (RL_tl hs)))) h.2.2.2⟩
       · exact h.elim)
    | (unfold i_alen at h ⊢
       split at h
       · exact ⟨h.1, hk _ _ _ hl (RL_cons trivial (RL_tl hs)) ha h.2⟩
       · exact h.elim)
    | (unfold i_bin at h ⊢
       split at h
       · exact hk _ _ _ hl (RL_cons trivial (RL_tl (RL_tl hs))) ha h
       · exact h.elim)
    | (unfold i_div at h ⊢
       split at h
       · exact ⟨h.1, hk _ _ _ hl (RL_cons trivial (RL_tl (RL_tl hs))) ha h.2⟩
       · exact h.elim)
    | (unfold i_i2b at h ⊢
       split at h
       · exact hk _ _ _ hl (RL_cons trivial (RL_tl hs)) ha h
       · exact h.elim)
    | (unfold i_dup at h ⊢
       split at h
       · exact hk _ _ _ hl (RL_cons (RL_hd hs) hs) ha h
       · exact h.elim)
    | (unfold i_pop at h ⊢
       split at h
       · exact hk _ _ _ hl (RL_tl hs) ha h
       · exact h.elim)
    | (unfold i_dup2 at h ⊢
       split at h
       · exact hk _ _ _ hl (RL_cons (RL_hd hs) (RL_cons (RL_hd (RL_tl hs)) hs)) ha h
       · exact h.elim)
    | (unfold i_min at h ⊢
       split at h
       · exact ⟨h.1, hk _ _ _ hl (RL_cons trivial (RL_tl (RL_tl hs))) ha h.2⟩
       · exact h.elim)
    | (unfold i_max at h ⊢
       split at h
       · exact ⟨h.1, hk _ _ _ hl (RL_cons trivial (RL_tl (RL_tl hs))) ha h.2⟩
       · exact h.elim)
    | (unfold i_copy at h ⊢
       split at h
       · exact ⟨h.1, h.2.1, h.2.2.1, h.2.2.2.1, h.2.2.2.2.1, hk _ _ _ hl (RL_tl (RL_tl (RL_tl (RL_tl (RL_tl hs))))) (Ag_up1 ha (RL_hd (RL_tl (RL_tl hs)))) h.2.2.2.2.2⟩
       · exact h.elim)
    | (unfold i_sld at h ⊢
       split at h
       · exact ⟨h.1, h.2.1, hk _ _ _ hl (RL_cons trivial (RL_tl (RL_tl hs))) ha h.2.2⟩
       · exact h.elim)
    | (unfold i_sln at h ⊢
       split at h
       · exact ⟨h.1, h.2.1, hk _ _ _ hl (RL_cons trivial (RL_tl hs)) ha h.2.2⟩
       · exact h.elim)
    | (unfold i_loadR at h ⊢
       split at h
       · rename_i x hg
         exact hk _ _ _ hl (RL_cons (hl _ (lg_mem hg)) hs) ha h
       · exact h.elim)
    | (unfold i_storeR at h ⊢
       split at h
       · exact hk _ _ _ (RL_lp hl (RL_hd hs)) (RL_tl hs) ha h
       · exact h.elim)
    | (unfold i_call at h ⊢
       split at h
       · rename_i as s hp
         have hsp := (pn_spec _ _ _ _ _ hp).1
         rw [List.reverse_nil, List.nil_append] at hsp
         have h1 : RL G as := fun v hv => hs v (by rw [hsp]; exact List.mem_append_left _ (List.mem_reverse.mpr hv))
         have h2 : RL G s := fun v hv => hs v (by rw [hsp]; exact List.mem_append_right _ hv)
         refine ⟨h.1, hm _ _ _ _ _ ?_ (hC _ _ _ _ h.2 h1)⟩
         rintro v st' ⟨q1, q2, q3⟩
         cases v with
         | none => exact hk _ _ _ hl h2 (fun j hj => (q3 j hj).trans (ha j hj)) q1
         | some x => exact q1.elim
       · exact h.elim)
    | (unfold i_callI at h ⊢
       split at h
       · rename_i as s hp
         have hsp := (pn_spec _ _ _ _ _ hp).1
         rw [List.reverse_nil, List.nil_append] at hsp
         have h1 : RL G as := fun v hv => hs v (by rw [hsp]; exact List.mem_append_left _ (List.mem_reverse.mpr hv))
         have h2 : RL G s := fun v hv => hs v (by rw [hsp]; exact List.mem_append_right _ hv)
         refine ⟨h.1, hm _ _ _ _ _ ?_ (hC _ _ _ _ h.2 h1)⟩
         rintro v st' ⟨q1, q2, q3⟩
         cases v with
         | none => exact q1.elim
         | some x => exact hk _ _ _ hl (RL_cons q2 h2) (fun j hj => (q3 j hj).trans (ha j hj)) q1
       · exact h.elim)
theorem sw_fr {J J' : Nat → Kn} (x : Int) (d : Nat) (ls s : List V) (st : St) (hJ : ∀ b, J b ls s st → J' b ls s st) : ∀ r, t_sw J x d ls s st r → t_sw J' x d ls s st r
  | [], h => hJ _ h
  | (_, _, _, _) :: r, h => ⟨fun e => hJ _ (h.1 e), fun e => sw_fr x d ls s st hJ r (h.2 e)⟩
theorem tm_fr {J J' : Nat → Kn} {Q : Rn} {t a b : Nat} {r : List Ai} {ls stk : List V} {st : St} (hJ : ∀ b ls stk st, RL G ls → RL G stk → Ag G s0 st → J b ls stk st → J' b ls stk st) (hl : RL G ls) (hs : RL G stk) (ha : Ag G s0 st) (h : tm J Q t a b r ls stk st) : tm J' (fun v st' => Q v st' ∧ RIn G v ∧ Ag G s0 st') t a b r ls stk st := by
  unfold tm at h ⊢
  split at h <;> first
    | exact hJ _ _ _ _ hl hs ha h
    | (unfold t_cmp at h ⊢
       split at h
       · exact ⟨fun e => hJ _ _ _ _ hl (RL_tl (RL_tl hs)) ha (h.1 e), fun e => hJ _ _ _ _ hl (RL_tl (RL_tl hs)) ha (h.2 e)⟩
       · exact h.elim)
    | (unfold t_if at h ⊢
       split at h
       · exact ⟨fun e => hJ _ _ _ _ hl (RL_tl hs) ha (h.1 e), fun e => hJ _ _ _ _ hl (RL_tl hs) ha (h.2 e)⟩
       · exact h.elim)
    | (split at h
       · exact ⟨h, RL_hd hs, ha⟩
       · exact h.elim)
    | (split at h
       · exact ⟨h.1, h.2, RL_hd hs, ha⟩
       · exact h.elim)
    | (split at h
       · exact ⟨h, trivial, ha⟩
       · exact h.elim)
    | (split at h
       · exact sw_fr _ _ _ _ _ (fun b hb => hJ _ _ _ _ hl (RL_tl hs) ha hb) _ h
       · exact h.elim)
    | exact h.elim
theorem ex_fr (hG : Gc G) (hm : Cm C) (hC : CFr G C) {J J' : Nat → Kn} {Q : Rn} (hJ : ∀ b ls stk st, RL G ls → RL G stk → Ag G s0 st → J b ls stk st → J' b ls stk st) : ∀ (is : List Ai), is.all ai7 = true ∨ is = [] → ∀ (ls stk : List V) (st : St), RL G ls → RL G stk → Ag G s0 st → ex J Q C L sx is ls stk st → ex J' (fun v st' => Q v st' ∧ RIn G v ∧ Ag G s0 st') C L sx is ls stk st
  | [], _, _, _, _, _, _, _, h => h
  | (t, a, b, d) :: r, h7, ls, stk, st, hl, hs, ha, h => by
    have h7 : ai7 (t, a, b, d) = true ∧ r.all ai7 = true := by
      rcases h7 with h7 | h7
      · rwa [List.all_cons, Bool.and_eq_true] at h7
      · cases h7
    unfold ex at h ⊢
    split at h
    · rename_i ht
      rw [if_pos ht]
      exact s1_fr hG hm hC (fun ls stk st h1 h2 h3 h4 => ex_fr hG hm hC hJ r (Or.inl h7.2) ls stk st h1 h2 h3 h4) h7.1 hl hs ha h
    · rename_i ht
      rw [if_neg ht]
      exact tm_fr hJ hl hs ha h
end FRM
theorem P_ai7 : ∀ k b, (P k b).all ai7 = true ∨ P k b = [] := by
  have h : bL.all (fun x => x.all (fun y => y.all ai7)) = true := by decide +kernel
  intro k b
  unfold P
  rw [List.getD_eq_getElem?_getD, List.getD_eq_getElem?_getD]
  cases h1 : bL[k]? with
  | none => exact Or.inr rfl
  | some x =>
    have hx := List.all_eq_true.mp h x (List.mem_of_getElem? h1)
    cases h2 : x[b]? with
    | none => right; simp [h2]
    | some y => left; simpa [h2] using List.all_eq_true.mp hx y (List.mem_of_getElem? h2)
theorem AW_fr {G : Nat → Prop} {k d b : Nat} {Q : Rn} {ls stk : List V} {st s0 : St} {L : Nat} {sx : Nat → Int} (hG : Gc G) (hC : CFr G (MS d)) (hl : RL G ls) (hs : RL G stk) (ha : Ag G s0 st) (h : AW (P k) Q (MS d) L sx b ls stk st) : AW (P k) (fun v st' => Q v st' ∧ RIn G v ∧ Ag G s0 st') (MS d) L sx b ls stk st := by
  refine h (fun b ls stk st => RL G ls → RL G stk → Ag G s0 st → AW (P k) (fun v st' => Q v st' ∧ RIn G v ∧ Ag G s0 st') (MS d) L sx b ls stk st) (fun b ls stk st hx hl hs ha => ?_) hl hs ha
  exact AW.step (MS_mono d) (ex_fr hG (MS_mono d) hC (fun b ls stk st h1 h2 h3 h4 => h4 h1 h2 h3) (P k b) (P_ai7 k b) ls stk st hl hs ha hx)
/-- a method leaves alone what it can't reach -/
theorem MS_fr {G : Nat → Prop} (hG : Gc G) : ∀ d, CFr G (MS d)
  | 0 => fun _ _ _ _ h _ => h.elim
  | d + 1 => fun k as st Q h hr => ⟨h.1, AW_fr hG (MS_fr hG d) (fun v hv => by
      rcases List.mem_append.mp hv with hv | hv
      · exact hr v hv
      · rw [(List.mem_replicate.mp hv).2]; trivial) (fun v hv => by cases hv) (fun _ _ => rfl) h.2⟩
end
section
/-! LEVEL 2, common: how a spec of a method is begun; numbers -/
abbrev vi (x : Int) : V := some (.inl x)
abbrev vr (k : Nat) : V := some (.inr k)
theorem MS_v {d k o : Nat} {as : List V} {st : St} {Q : Rn} (ls : List V) (h1 : (as.length + 1).ble (mL k) = true) (h2 : as.all Option.isSome = true) (h3 : kl o = mK k) (hls : vr o :: as ++ List.replicate (mL k - (as.length + 1)) none = ls) (h : AW (P k) Q (MS d) 0 (fun _ => 0) 0 ls [] st) : MS (d + 1) k (vr o :: as) st Q := by
  refine ⟨?_, ?_⟩
  · have h1 := Nat.le_of_ble_eq_true h1
    simp [aok, h1, h2, h3]
  · subst hls
    exact h
theorem MS_s {d k : Nat} {as : List V} {st : St} {Q : Rn} (ls : List V) (h1 : (as.length).ble (mL k) = true) (h2 : as.all Option.isSome = true) (h3 : mS k = true) (hls : as ++ List.replicate (mL k - as.length) none = ls) (h : AW (P k) Q (MS d) 0 (fun _ => 0) 0 ls [] st) : MS (d + 1) k as st Q := by
  refine ⟨?_, ?_⟩
  · have h1 := Nat.le_of_ble_eq_true h1
    simp [aok, h1, h2, h3]
  · subst hls
    exact h
theorem MS_le {d d' k : Nat} {as : List V} {st : St} {Q : Rn} (h : d ≤ d') (hq : MS d k as st Q) : MS d' k as st Q := by
  induction h with
  | refl => exact hq
  | step _ ih => exact MS_up _ _ _ _ _ _ (fun _ _ h => h) ih
theorem MS_cons {d k : Nat} {as : List V} {st : St} {Q Q' : Rn} (h : MS d k as st Q) (hq : ∀ v t, Q v t → Q' v t) : MS d k as st Q' := MS_mono d _ _ _ _ _ hq h
def ar (o n : Nat) : Prop := kl o = 50 ∧ len o = n
def az (o n : Nat) : Prop := kl o = 52 ∧ len o = n
def ay (o n : Nat) : Prop := kl o = 51 ∧ len o = n
theorem natLit (n : Nat) : (Nat.cast (no_index (OfNat.ofNat n)) : Int) = OfNat.ofNat n := rfl
theorem ok01_0 : ok01 0 := Or.inl rfl
theorem ok01_1 : ok01 1 := Or.inr rfl
theorem upf_s {f : Nat → Int} {i : Nat} {v : Int} : upf f i v i = v := by unfold upf; rw [if_pos rfl]
theorem upf_n {f : Nat → Int} {i j : Nat} {v : Int} (h : j ≠ i) : upf f i v j = f j := by unfold upf; rw [if_neg h]
/-! bits -/
theorem oI_nat (n : Nat) : oI (n : Int) = nI n := by
  unfold oI nI
  rfl
theorem nI_toInt' {n : Nat} (h : n < 2 ^ 31) : (nI n).toInt = (n : Int) := nI_toInt h
theorem band_mod (x : Int) (k : Nat) (m : Int) (hk : k ≤ 30) (hm : (oI m).toBitVec.toNat = 2 ^ k - 1) : band x m = ((oI x).toBitVec.toNat % 2 ^ k : Nat) := by
  have h := pk_and (oI x) k hm
  show (oI x &&& oI m).toInt = _
  rw [h, nI_toInt]
  have h1 : (oI x).toBitVec.toNat % 2 ^ k < 2 ^ k := Nat.mod_lt _ (Nat.two_pow_pos k)
  have h2 : 2 ^ k ≤ 2 ^ 30 := Nat.pow_le_pow_right (by decide) hk
  omega
theorem oI_tn {n : Nat} (h : n < 2 ^ 31) : (oI (n : Int)).toBitVec.toNat = n := by
  rw [oI_nat]
  exact pk_tn (by omega)
theorem band_nat (n k : Nat) (m : Int) (hn : n < 2 ^ 31) (hk : k ≤ 30) (hm : (oI m).toBitVec.toNat = 2 ^ k - 1) : band (n : Int) m = (n % 2 ^ k : Nat) := by rw [band_mod _ k m hk hm, oI_tn hn]
theorem band3 (n : Nat) (hn : n < 2 ^ 31) : band (n : Int) 3 = (n % 4 : Nat) := band_nat n 2 3 hn (by decide) (by decide)
theorem band255 (n : Nat) (hn : n < 2 ^ 31) : band (n : Int) 255 = (n % 256 : Nat) := band_nat n 8 255 hn (by decide) (by decide)
theorem band20 (n : Nat) (hn : n < 2 ^ 31) : band (n : Int) 1048575 = (n % 1048576 : Nat) := band_nat n 20 1048575 hn (by decide) (by decide)
theorem bshr_nat (n k : Nat) (hn : n < 2 ^ 31) (hk : k < 32) : bshr (n : Int) (k : Int) = (n / 2 ^ k : Nat) := by
  have hb : ((oI (k : Int)) &&& 31 : Int32) = nI k := by
    have := pk_andN (n := k) (by omega) (m := 31) 5 (by decide)
    rw [oI_nat, this, Nat.mod_eq_of_lt (by omega)]
  show (oI (n : Int) >>> (oI (k : Int) &&& 31)).toInt = _
  rw [hb, oI_nat, pk_shrN hn (nI k) k, nI_toInt]
  · exact Nat.lt_of_le_of_lt (Nat.div_le_self _ _) hn
  · have : ∀ k, k < 32 → ((nI k).toBitVec.smod 32).toNat = k := by decide +kernel
    exact this k hk
theorem bshl_nat (n k : Nat) (hn : n * 2 ^ k < 2 ^ 31) (hk : k < 32) : bshl (n : Int) (k : Int) = (n * 2 ^ k : Nat) := by
  have hb : ((oI (k : Int)) &&& 31 : Int32) = nI k := by
    have := pk_andN (n := k) (by omega) (m := 31) 5 (by decide)
    rw [oI_nat, this, Nat.mod_eq_of_lt (by omega)]
  show (oI (n : Int) <<< (oI (k : Int) &&& 31)).toInt = _
  rw [hb, oI_nat, pk_shlN (nI k) k, nI_toInt hn]
  · have : ∀ k, k < 32 → ((nI k).toBitVec.smod 32).toNat = k := by decide +kernel
    exact this k hk
  · omega
theorem bor_add (a b k : Nat) (ha : a % 2 ^ k = 0) (hb : b < 2 ^ k) (hs : a + b < 2 ^ 31) : bor (a : Int) (b : Int) = (a + b : Nat) := by
  show (oI (a : Int) ||| oI (b : Int)).toInt = _
  have e : (oI (a : Int) ||| oI (b : Int)) = nI (a + b) := by
    apply Int32.toBitVec_inj.mp
    apply BitVec.eq_of_toNat_eq
    rw [Int32.toBitVec_or, BitVec.toNat_or, oI_tn (by omega), oI_tn (by omega), pk_tn (by omega)]
    have hd : a = 2 ^ k * (a / 2 ^ k) := by
      have := Nat.div_add_mod a (2 ^ k)
      omega
    rw [hd]
    exact (Nat.two_pow_add_eq_or_of_lt hb _).symm
  rw [e, nI_toInt hs]
theorem w8_mod (z : Int) : w8 (z % 256) = w8 z := by
  unfold w8
  exact Int.emod_bmod z 256
theorem tn_mod (x : Int) (h : InR x) : ((oI x).toBitVec.toNat : Int) % 256 = x % 256 := by
  have h1 : ((oI x).toBitVec.toNat : Int) = x % 4294967296 := by
    have : (oI x).toBitVec.toInt = x := oI_toInt h
    rw [BitVec.toInt_eq_toNat_cond] at this
    have hl : (oI x).toBitVec.toNat < 4294967296 := (oI x).toBitVec.isLt
    have h1 := h.1
    have h2 := h.2
    split at this <;> omega
  rw [h1]
  omega
theorem band255i (x : Int) (h : InR x) : band x 255 = x % 256 := by
  rw [band_mod x 8 255 (by decide) (by decide)]
  have := tn_mod x h
  omega
theorem InR_bshr (x y : Int) : InR (bshr x y) := InR_toInt _
end
section
/-! rows of bytes: the tapes and what is written, on both sides -/
def pu (st : St) (o k a : Nat) (l : List Int) : St := fun j => if j = a then (fun i => if (st o k).toNat ≤ i ∧ i < (st o k).toNat + l.length then l.getD (i - (st o k).toNat) 0 else st a i) else if j = o then upf (st o) k (st o k + l.length) else st j
theorem pu_cnt {st : St} {o k a : Nat} {l : List Int} (h : o ≠ a) : pu st o k a l o k = st o k + l.length := by
  unfold pu
  rw [if_neg h, if_pos rfl, upf_s]
theorem pu_oth {st : St} {o k a j : Nat} {l : List Int} (h1 : j ≠ a) (h2 : j ≠ o) : pu st o k a l j = st j := by
  unfold pu
  rw [if_neg h1, if_neg h2]
theorem pu_fld {st : St} {o k a i : Nat} {l : List Int} (h : o ≠ a) (hi : i ≠ k) : pu st o k a l o i = st o i := by
  unfold pu
  rw [if_neg h, if_pos rfl, upf_n hi]
theorem pu_row {st : St} {o k a i : Nat} {l : List Int} : pu st o k a l a i = if (st o k).toNat ≤ i ∧ i < (st o k).toNat + l.length then l.getD (i - (st o k).toNat) 0 else st a i := by
  unfold pu
  rw [if_pos rfl]
theorem pu_app {st : St} {o k a : Nat} {l l' : List Int} (h : o ≠ a) (h0 : 0 ≤ st o k) : pu (pu st o k a l) o k a l' = pu st o k a (l ++ l') := by
  have e : (st o k + (l.length : Int)).toNat = (st o k).toNat + l.length := by omega
  funext j i
  by_cases hj : j = a
  · subst hj
    rw [pu_row, pu_row, pu_row, pu_cnt h, e, List.length_append]
    by_cases h1 : (st o k).toNat + l.length ≤ i ∧ i < (st o k).toNat + l.length + l'.length
    · rw [if_pos h1, if_pos (by omega), List.getD_eq_getElem?_getD, List.getD_eq_getElem?_getD, List.getElem?_append_right (by omega)]
      rw [show i - (st o k).toNat - l.length = i - ((st o k).toNat + l.length) by omega]
    · rw [if_neg h1]
      by_cases h2 : (st o k).toNat ≤ i ∧ i < (st o k).toNat + l.length
      · rw [if_pos h2, if_pos (by omega), List.getD_eq_getElem?_getD, List.getD_eq_getElem?_getD, List.getElem?_append_left (by omega)]
      · rw [if_neg h2, if_neg (by omega)]
  · by_cases ho : j = o
    · subst ho
      by_cases hi : i = k
      · subst hi
        rw [pu_cnt h, pu_cnt h, pu_cnt h, List.length_append]
        omega
      · rw [pu_fld h hi, pu_fld h hi, pu_fld h hi]
    · rw [pu_oth hj ho, pu_oth hj ho, pu_oth hj ho]
theorem pu_one {st : St} {o k a c : Nat} {v : Int} (h : o ≠ a) (hc : st o k = c) : up2 (up2 st a c v) o k ((c : Int) + 1) = pu st o k a [v] := by
  have e : (st o k).toNat = c := by omega
  funext j i
  by_cases hj : j = a
  · subst hj
    rw [up2_ne (Ne.symm h), up2_self, pu_row, e]
    by_cases hi : i = c
    · subst hi
      rw [upf_s, if_pos (by simp)]
      simp
    · rw [upf_n hi, if_neg (by simp; omega)]
  · by_cases ho : j = o
    · subst ho
      rw [up2_self]
      by_cases hi : i = k
      · subst hi
        rw [upf_s, pu_cnt h, hc]
        rfl
      · rw [upf_n hi, pu_fld h hi, up2_ne h]
    · rw [up2_ne ho, up2_ne hj, pu_oth hj ho]
theorem pu_nil {st : St} {o k a : Nat} : pu st o k a [] = st := by
  funext j i
  unfold pu
  split
  · rename_i h
    subst h
    dsimp only
    rw [if_neg (by simp)]
  · split
    · rename_i h
      subst h
      unfold upf
      split
      · rename_i h2
        subst h2
        simp
      · rfl
    · rfl
/-! the class -/
theorem sp_at {d o n c : Nat} {st : St} {k : Int} {Q : Rn} (h0 : kl o = 5) (h1 : ar (o + 1) n) (hc : st o 1 = c) (hn : c ≤ n) (hq : Q (vi (if 0 ≤ k ∧ k < c then st (o + 1) k.toNat else -1)) st) : MS (d + 1) 220 [vr o, vi k] st Q := by
  obtain ⟨h1, h2⟩ := h1
  refine MS_v [vr o, vi k] rfl rfl h0 rfl ?_
  try simp only [awu 220 0, awu 220 1, awu 220 2, awu 220 3, awu 220 4, awu 220 5, pe220, xs, i_load, i_loadR, i_inc, lg, lp, true_and, and_true, List.length_cons, List.length_nil, Nat.reduceAdd, Nat.reduceLeDiff, Nat.zero_le, Int.toNat_natCast, natLit, h0, h1, h2, hc, true_or]
  refine ⟨fun a => ?_, fun a => ⟨fun b => ?_, fun b => ⟨fun e => ?_, fun e => ?_⟩⟩⟩
  · rw [if_neg (by omega)] at hq
    exact hq
  · rw [if_neg (by omega)] at hq
    exact hq
  · rw [if_neg (by omega)] at hq
    exact hq
  · rw [if_pos (by omega)] at hq
    exact ⟨by omega, hq⟩
theorem sp_cut {d o : Nat} {st : St} {k : Int} {Q : Rn} (h0 : kl o = 5) (hq : Q none (up2 st o 1 k)) : MS (d + 1) 221 [vr o, vi k] st Q := by
  refine MS_v [vr o, vi k] rfl rfl h0 rfl ?_
  try simp only [awu 221 0, pe221, xs, i_load, i_loadR, i_inc, lg, lp, true_and, and_true, List.length_cons, List.length_nil, Nat.reduceAdd, Nat.reduceLeDiff, Nat.zero_le, Int.toNat_natCast, natLit, h0]
  exact hq
theorem sp_put {d o n c : Nat} {st : St} {x : Int} {Q : Rn} (h0 : kl o = 5) (h1 : ar (o + 1) n) (hc : st o 1 = c) (hn : c < n) (hb : n < 100000) (hq : Q none (pu st o 1 (o + 1) [band x 255])) : MS (d + 1) 222 [vr o, vi x] st Q := by
  obtain ⟨h1, h2⟩ := h1
  refine MS_v [vr o, vi x] rfl rfl h0 rfl ?_
  try simp only [awu 222 0, awu 222 1, awu 222 2, awu 222 3, pe222, xs, i_load, i_loadR, i_inc, lg, lp, true_and, and_true, List.length_cons, List.length_nil, Nat.reduceAdd, Nat.reduceLeDiff, Nat.zero_le, Int.toNat_natCast, natLit, h0, h1, h2, hc, true_or]
  have e : up2 st (o + 1) c (band x 255) o 1 = c := by rw [up2_ne (by omega)]; exact hc
  refine ⟨fun a => by omega, fun a => ⟨fun b => by omega, fun b => ⟨by omega, ?_⟩⟩⟩
  rw [e]
  rw [wr_id (by omega) (by omega)]
  have := pu_one (st := st) (o := o) (k := 1) (a := o + 1) (c := c) (v := band x 255) (by omega) hc
  rw [← this] at hq
  exact hq
def fourB (x : Int) : List Int := [band (bshr x 24) 255, band (bshr x 16) 255, band (bshr x 8) 255, band x 255]
theorem sp_putFour {d o n c : Nat} {st : St} {x : Int} {Q : Rn} (h0 : kl o = 5) (h1 : ar (o + 1) n) (hc : st o 1 = c) (hn : c + 4 ≤ n) (hb : n < 100000) (hq : Q none (pu st o 1 (o + 1) (fourB x))) : MS (d + 2) 223 [vr o, vi x] st Q := by
  have c1 : ∀ l : List Int, pu st o 1 (o + 1) l o 1 = ((c + l.length : Nat) : Int) := fun l => by rw [pu_cnt (by omega), hc]; omega
  refine MS_v [vr o, vi x] rfl rfl h0 rfl ?_
  try simp only [awu 223 0, pe223, xs, i_load, i_loadR, i_inc, lg, lp, true_and, and_true, List.length_cons, List.length_nil, Nat.reduceAdd, Nat.reduceLeDiff, Nat.zero_le, Int.toNat_natCast, natLit, h0]
  refine sp_put h0 h1 hc (by omega) hb ?_
  refine sp_put h0 h1 (c1 _) (by simp; omega) hb ?_
  rw [pu_app (by omega) (by omega)]
  refine sp_put h0 h1 (c1 _) (by simp; omega) hb ?_
  rw [pu_app (by omega) (by omega)]
  refine sp_put h0 h1 (c1 _) (by simp; omega) hb ?_
  rw [pu_app (by omega) (by omega)]
  exact hq
theorem sp_wfeed {d c : Nat} {st : St} {a b x y z : Int} {Q : Rn} (hc : st 1 1 = c) (hn : c ≤ 800) (h1 : ¬ c + 20 ≤ 800 → Q (vi (-1)) st) (h2 : c + 20 ≤ 800 → Q (vi (c + 20 : Nat)) (pu st 1 1 2 (fourB a ++ fourB b ++ fourB x ++ fourB y ++ fourB z))) : MS (d + 3) 1 [vr 0, vi a, vi b, vi x, vi y, vi z] st Q := by
  have c1 : ∀ l : List Int, pu st 1 1 (1 + 1) l 1 1 = ((c + l.length : Nat) : Int) := fun l => by rw [pu_cnt (by decide), hc]; omega
  have k0 : kl 0 = 11 := rfl
  have k1 : kl 1 = 5 := rfl
  have h3 : ar 2 800 := ⟨rfl, rfl⟩
  refine MS_v [vr 0, vi a, vi b, vi x, vi y, vi z] rfl rfl rfl rfl ?_
  try simp only [awu 1 0, awu 1 1, awu 1 2, pe1, xs, i_load, i_loadR, i_inc, lg, lp, true_and, and_true, List.length_cons, List.length_nil, Nat.reduceAdd, Nat.reduceLeDiff, Nat.zero_le, Int.toNat_natCast, natLit, k0, k1, hc, Nat.zero_add]
  rw [wr_id (by omega) (by omega)]
  refine ⟨fun e => ?_, fun e => h1 (by omega)⟩
  have h2 := h2 (by omega)
  refine sp_putFour k1 h3 hc (by omega) (by decide) ?_
  refine sp_putFour k1 h3 (c1 _) (by simp [fourB]; omega) (by decide) ?_
  rw [pu_app (by decide) (by omega)]
  refine sp_putFour k1 h3 (c1 _) (by simp [fourB]; omega) (by decide) ?_
  rw [pu_app (by decide) (by omega)]
  refine sp_putFour k1 h3 (c1 _) (by simp [fourB]; omega) (by decide) ?_
  rw [pu_app (by decide) (by omega)]
  refine sp_putFour k1 h3 (c1 _) (by simp [fourB]; omega) (by decide) ?_
  rw [pu_app (by decide) (by omega)]
  rw [c1]
  exact h2
theorem sp_wend {d c : Nat} {st : St} {n : Int} {Q : Rn} (hc : st 1 1 = c) (h1 : ¬ (0 ≤ n ∧ n ≤ c) → Q (vi (-1)) st) (h2 : 0 ≤ n ∧ n ≤ c → Q (vi n) (up2 st 1 1 n)) : MS (d + 2) 2 [vr 0, vi n] st Q := by
  have k0 : kl 0 = 11 := rfl
  have k1 : kl 1 = 5 := rfl
  refine MS_v [vr 0, vi n] rfl rfl rfl rfl ?_
  try simp only [awu 2 0, awu 2 1, awu 2 2, awu 2 3, pe2, xs, i_load, i_loadR, i_inc, lg, lp, true_and, and_true, List.length_cons, List.length_nil, Nat.reduceAdd, Nat.reduceLeDiff, Nat.zero_le, Int.toNat_natCast, natLit, k0, k1, hc, Nat.zero_add]
  refine ⟨fun a => h1 (by omega), fun a => ⟨fun b => ?_, fun b => h1 (by omega)⟩⟩
  exact sp_cut k1 (h2 (by omega))
theorem sp_woctet {d c : Nat} {st : St} {k : Int} {Q : Rn} (hc : st 3 1 = c) (hn : c ≤ 3618) (hq : Q (vi (if 0 ≤ k ∧ k < c then st 4 k.toNat else -1)) st) : MS (d + 2) 36 [vr 0, vi k] st Q := by
  have k0 : kl 0 = 11 := rfl
  refine MS_v [vr 0, vi k] rfl rfl rfl rfl ?_
  try simp only [awu 36 0, pe36, xs, i_load, i_loadR, i_inc, lg, lp, true_and, and_true, List.length_cons, List.length_nil, Nat.reduceAdd, Nat.reduceLeDiff, Nat.zero_le, Int.toNat_natCast, natLit, k0, Nat.zero_add]
  exact sp_at (n := 3618) rfl ⟨rfl, rfl⟩ hc hn hq
/-! the reference -/
theorem sp_isIn {d : Nat} {st : St} {v l t : Int} {Q : Rn} (hq : Q (vi (if l ≤ v ∧ v ≤ t then 1 else 0)) st) : MS (d + 1) 43 [vi v, vi l, vi t] st Q := by
  refine MS_s [vi v, vi l, vi t] rfl rfl rfl rfl ?_
  try simp only [awu 43 0, awu 43 1, awu 43 2, awu 43 3, awu 43 4, pe43, xs, i_load, i_loadR, i_inc, lg, lp, true_and, and_true, List.length_cons, List.length_nil, Nat.reduceAdd, Nat.reduceLeDiff, Nat.zero_le, Int.toNat_natCast, natLit]
  refine ⟨fun a => ?_, fun a => ⟨fun b => ?_, fun b => ?_⟩⟩
  · rw [if_neg (by omega)] at hq
    exact ⟨ok01_0, hq⟩
  · rw [if_neg (by omega)] at hq
    exact ⟨ok01_0, hq⟩
  · rw [if_pos (by omega)] at hq
    exact ⟨ok01_1, hq⟩
def fourM (x : Int) : List Int := [w8 (bshr x 24), w8 (bshr x 16), w8 (bshr x 8), w8 (bshr x 0)]
theorem w8_w8 (x : Int) : w8 (w8 x) = w8 x := by
  unfold w8
  exact Int.bmod_bmod
theorem sp_four {d c : Nat} {st : St} {x : Int} {Q : Rn} (hc : st 99 1 = c) (hn : c + 4 ≤ 800) (hq : Q none (pu st 99 1 100 (fourM x))) : MS (d + 1) 44 [vr 99, vi x] st Q := by
  have k0 : kl 99 = 12 := rfl
  have k1 : kl 100 = 51 := rfl
  have l1 : len 100 = 800 := rfl
  have c1 : ∀ l : List Int, pu st 99 1 100 l 99 1 = ((c + l.length : Nat) : Int) := fun l => by rw [pu_cnt (by decide), hc]; omega
  have step : ∀ (l : List Int) (j : Int) (u : V), l.length < 4 → 0 ≤ j → AW (P 44) Q (MS d) 0 (fun _ => 0) 1 [vr 99, vi x, vi (wr (j + -8))] [] (pu st 99 1 100 (l ++ [w8 (bshr x j)])) → AW (P 44) Q (MS d) 0 (fun _ => 0) 1 [vr 99, vi x, vi j] [] (pu st 99 1 100 l) := by
    intro l j u hl hj hk
    rw [awu 44 1]
    try simp only [awu 44 2, awu 44 3, pe44, xs, i_load, i_loadR, i_inc, lg, lp, true_and, and_true, List.length_cons, List.length_nil, Nat.reduceAdd, Nat.reduceLeDiff, Nat.zero_le, Int.toNat_natCast, natLit, k0, k1, l1, c1]
    refine ⟨fun a => by omega, fun a => ⟨by omega, ?_⟩⟩
    rw [w8_w8]
    have e : up2 (pu st 99 1 100 l) 100 (c + l.length) (w8 (bshr x j)) 99 1 = ((c + l.length : Nat) : Int) := by rw [up2_ne (by decide)]; exact c1 l
    have e1 := pu_one (st := pu st 99 1 100 l) (o := 99) (k := 1) (a := 100) (c := c + l.length) (v := w8 (bshr x j)) (by decide) (c1 l)
    rw [e, wr_id (x := ((c + l.length : Nat) : Int) + 1) (by omega) (by omega)]
    rw [pu_app (by decide) (by omega)] at e1
    rw [e1]
    exact hk
  refine MS_v [vr 99, vi x, none] rfl rfl rfl rfl ?_
  try simp only [awu 44 0, pe44, xs, i_load, i_loadR, i_inc, lg, lp, true_and, and_true, List.length_cons, List.length_nil, Nat.reduceAdd, Nat.reduceLeDiff, Nat.zero_le, Int.toNat_natCast, natLit]
  have h0 : pu st 99 1 100 [] = st := pu_nil
  rw [← h0]
  refine step [] 24 none (by decide) (by decide) ?_
  refine step _ 16 none (by simp) (by decide) ?_
  refine step _ 8 none (by simp) (by decide) ?_
  refine step _ 0 none (by simp) (by decide) ?_
  rw [awu 44 1]
  try simp only [awu 44 2, awu 44 3, pe44, xs, i_load, i_loadR, i_inc, lg, lp, true_and, and_true, List.length_cons, List.length_nil, Nat.reduceAdd, Nat.reduceLeDiff, Nat.zero_le, Int.toNat_natCast, natLit, k0, k1, l1, c1]
  exact ⟨fun _ => hq, fun a => absurd (by decide) a⟩
theorem sp_mfeed {d c : Nat} {st : St} {a b x y z : Int} {Q : Rn} (hc : st 99 1 = c) (hn : c ≤ 800) (h1 : ¬ c + 20 ≤ 800 → Q (vi (-1)) st) (h2 : c + 20 ≤ 800 → Q (vi (c + 20 : Nat)) (pu st 99 1 100 (fourM a ++ fourM b ++ fourM x ++ fourM y ++ fourM z))) : MS (d + 2) 45 [vr 99, vi a, vi b, vi x, vi y, vi z] st Q := by
  have c1 : ∀ l : List Int, pu st 99 1 100 l 99 1 = ((c + l.length : Nat) : Int) := fun l => by rw [pu_cnt (by decide), hc]; omega
  have k0 : kl 99 = 12 := rfl
  refine MS_v [vr 99, vi a, vi b, vi x, vi y, vi z] rfl rfl rfl rfl ?_
  try simp only [awu 45 0, awu 45 1, awu 45 2, pe45, xs, i_load, i_loadR, i_inc, lg, lp, true_and, and_true, List.length_cons, List.length_nil, Nat.reduceAdd, Nat.reduceLeDiff, Nat.zero_le, Int.toNat_natCast, natLit, k0, hc]
  rw [wr_id (by omega) (by omega)]
  refine ⟨fun e => ?_, fun e => h1 (by omega)⟩
  have h2 := h2 (by omega)
  refine sp_four hc (by omega) ?_
  refine sp_four (c1 _) (by simp [fourM]; omega) ?_
  rw [pu_app (by decide) (by omega)]
  refine sp_four (c1 _) (by simp [fourM]; omega) ?_
  rw [pu_app (by decide) (by omega)]
  refine sp_four (c1 _) (by simp [fourM]; omega) ?_
  rw [pu_app (by decide) (by omega)]
  refine sp_four (c1 _) (by simp [fourM]; omega) ?_
  rw [pu_app (by decide) (by omega)]
  rw [c1]
  exact h2
theorem sp_mend {d c : Nat} {st : St} {n : Int} {Q : Rn} (hc : st 99 1 = c) (h1 : ¬ (0 ≤ n ∧ n ≤ c) → Q (vi (-1)) st) (h2 : 0 ≤ n ∧ n ≤ c → Q (vi n) (up2 st 99 1 n)) : MS (d + 2) 46 [vr 99, vi n] st Q := by
  have k0 : kl 99 = 12 := rfl
  refine MS_v [vr 99, vi n] rfl rfl rfl rfl ?_
  try simp only [awu 46 0, awu 46 1, awu 46 2, pe46, xs, i_load, i_loadR, i_inc, lg, lp, true_and, and_true, List.length_cons, List.length_nil, Nat.reduceAdd, Nat.reduceLeDiff, Nat.zero_le, Int.toNat_natCast, natLit, k0, hc]
  refine sp_isIn ?_
  dsimp only
  by_cases h : 0 ≤ n ∧ n ≤ c
  · rw [if_pos h]
    try simp only [awu 46 0, awu 46 1, awu 46 2, pe46, xs, i_load, i_loadR, i_inc, lg, lp, true_and, and_true, List.length_cons, List.length_nil, Nat.reduceAdd, Nat.reduceLeDiff, Nat.zero_le, Int.toNat_natCast, natLit, k0]
    exact ⟨fun _ => h2 h, fun a => absurd (by decide) a⟩
  · rw [if_neg h]
    try simp only [awu 46 0, awu 46 1, awu 46 2, pe46, xs, i_load, i_loadR, i_inc, lg, lp, true_and, and_true, List.length_cons, List.length_nil, Nat.reduceAdd, Nat.reduceLeDiff, Nat.zero_le, Int.toNat_natCast, natLit, k0]
    exact ⟨fun a => absurd trivial a, fun _ => h1 h⟩
theorem sp_mput {d c : Nat} {st : St} {x : Int} {Q : Rn} (hc : st 99 62 = c) (hn : c < 8000) (hq : Q none (pu st 99 62 144 [w8 x])) : MS (d + 1) 146 [vr 99, vi x] st Q := by
  have k0 : kl 99 = 12 := rfl
  have k1 : kl 144 = 51 := rfl
  have l1 : len 144 = 8000 := rfl
  refine MS_v [vr 99, vi x] rfl rfl rfl rfl ?_
  try simp only [awu 146 0, pe146, xs, i_load, i_loadR, i_inc, lg, lp, true_and, and_true, List.length_cons, List.length_nil, Nat.reduceAdd, Nat.reduceLeDiff, Nat.zero_le, Int.toNat_natCast, natLit, k0, k1, l1, hc]
  refine ⟨by omega, ?_⟩
  rw [w8_w8]
  have e : up2 st 144 c (w8 x) 99 62 = (c : Int) := by rw [up2_ne (by decide)]; exact hc
  have e1 := pu_one (st := st) (o := 99) (k := 62) (a := 144) (c := c) (v := w8 x) (by decide) hc
  rw [e, wr_id (by omega) (by omega), e1]
  exact hq
theorem sp_moctet {d c : Nat} {st : St} {k : Int} {Q : Rn} (hc : st 99 62 = c) (hn : c ≤ 8000) (hq : Q (vi (if 0 ≤ k ∧ k < c then st 144 k.toNat else -1)) st) : MS (d + 2) 149 [vr 99, vi k] st Q := by
  have k0 : kl 99 = 12 := rfl
  have k1 : kl 144 = 51 := rfl
  have l1 : len 144 = 8000 := rfl
  refine MS_v [vr 99, vi k] rfl rfl rfl rfl ?_
  try simp only [awu 149 0, awu 149 1, awu 149 2, awu 149 3, pe149, xs, i_load, i_loadR, i_inc, lg, lp, true_and, and_true, List.length_cons, List.length_nil, Nat.reduceAdd, Nat.reduceLeDiff, Nat.zero_le, Int.toNat_natCast, natLit, k0, k1, l1, hc]
  refine sp_isIn ?_
  dsimp only
  rw [wr_id (by omega) (by omega)]
  by_cases h : 0 ≤ k ∧ k < c
  · rw [if_pos (by omega)]
    rw [if_pos h] at hq
    try simp only [awu 149 0, awu 149 1, awu 149 2, awu 149 3, pe149, xs, i_load, i_loadR, i_inc, lg, lp, true_and, and_true, List.length_cons, List.length_nil, Nat.reduceAdd, Nat.reduceLeDiff, Nat.zero_le, Int.toNat_natCast, natLit, k0, k1, l1]
    exact ⟨fun a => absurd a (by decide), fun _ => ⟨by omega, hq⟩⟩
  · rw [if_neg (by omega)]
    rw [if_neg h] at hq
    try simp only [awu 149 0, awu 149 1, awu 149 2, awu 149 3, pe149, xs, i_load, i_loadR, i_inc, lg, lp, true_and, and_true, List.length_cons, List.length_nil, Nat.reduceAdd, Nat.reduceLeDiff, Nat.zero_le, Int.toNat_natCast, natLit, k0, k1, l1]
    exact ⟨fun _ => hq, fun a => absurd trivial a⟩
end
section
/-! words as numbers -/
def wl (w : Nat) : Nat := w / 1048576
def wc (w : Nat) : Nat := w % 1048576
def lt (w p : Nat) : Nat := (w / 2 ^ (2 * (wl w - 1 - p))) % 4
def lw (w l : Nat) : Nat := (wl w + 1) * 1048576 + (wc w * 4) % 1048576 + l
def bg (w n : Nat) : Nat := n * 1048576 + wc w / 2 ^ (2 * (wl w - n))
theorem up2_at {st : St} {o i k j : Nat} {v : Int} : up2 st o i v k j = if k = o then (if j = i then v else st o j) else st k j := by
  unfold up2 upf
  split <;> rfl
theorem sp_len {d w : Nat} {st : St} {Q : Rn} (hw : w < 2 ^ 31) (hq : Q (vi (wl w : Nat)) st) : MS (d + 1) 259 [vi w] st Q := by
  refine MS_s [vi w] rfl rfl rfl rfl ?_
  try simp only [awu 259 0, pe259, xs, i_load, i_loadR, i_inc, lg, lp, true_and, and_true, List.length_cons, List.length_nil, Nat.reduceAdd, Nat.reduceLeDiff, Nat.zero_le, Int.toNat_natCast, natLit]
  have := bshr_nat w 20 hw (by decide)
  rw [natLit] at this
  rw [this]
  exact hq
theorem wl_w {w : Nat} (hw : w < 11534336) : wl w ≤ 10 := by unfold wl; omega
theorem pow_s {s : Nat} (h : s ≤ 20) : 2 ^ s * 2 ^ (20 - s) = 1048576 := by
  rw [← Nat.pow_add, show s + (20 - s) = 20 by omega]
theorem lt_wc {w p : Nat} (hw : wl w ≤ 10) (hp : p < wl w) : lt w p = (wc w / 2 ^ (2 * (wl w - 1 - p))) % 4 := by
  unfold lt
  generalize hs : 2 * (wl w - 1 - p) = s
  have h18 : s ≤ 18 := by omega
  have e : w = wc w + 2 ^ s * (2 ^ (18 - s) * 4 * wl w) := by
    have h1 := pow_s (s := s) (by omega)
    rw [show 20 - s = (18 - s) + 2 by omega, Nat.pow_add] at h1
    have h2 : 2 ^ s * (2 ^ (18 - s) * 4 * wl w) = 1048576 * wl w := by
      rw [← Nat.mul_assoc, ← Nat.mul_assoc, Nat.mul_assoc (2 ^ s)]
      rw [show (2 : Nat) ^ 2 = 4 from rfl] at h1
      rw [h1]
    rw [h2]
    unfold wc wl
    omega
  have e2 : w / 2 ^ s = wc w / 2 ^ s + 2 ^ (18 - s) * 4 * wl w := by
    conv => lhs; rw [e]
    rw [Nat.add_mul_div_left _ _ (Nat.two_pow_pos s)]
  rw [e2, Nat.mul_comm (2 ^ (18 - s)) 4, Nat.mul_assoc]
  omega
theorem sp_letter {d w p : Nat} {st : St} {Q : Rn} (hw : w < 2 ^ 31) (hn : wl w ≤ 10) (hp : p < wl w) (hq : Q (vi (lt w p : Nat)) st) : MS (d + 2) 260 [vi w, vi p] st Q := by
  refine MS_s [vi w, vi p] rfl rfl rfl rfl ?_
  try simp only [awu 260 0, pe260, xs, i_load, i_loadR, i_inc, lg, lp, true_and, and_true, List.length_cons, List.length_nil, Nat.reduceAdd, Nat.reduceLeDiff, Nat.zero_le, Int.toNat_natCast, natLit]
  refine sp_len hw ?_
  dsimp only
  try simp only [awu 260 0, pe260, xs, i_load, i_loadR, i_inc, lg, lp, true_and, and_true, List.length_cons, List.length_nil, Nat.reduceAdd, Nat.reduceLeDiff, Nat.zero_le, Int.toNat_natCast, natLit]
  rw [wr_id (x := (wl w : Int) - 1) (by omega) (by omega), wr_id (x := (wl w : Int) - 1 - p) (by omega) (by omega), wr_id (by omega) (by omega)]
  have e : (2 : Int) * ((wl w : Int) - 1 - p) = ((2 * (wl w - 1 - p) : Nat) : Int) := by omega
  rw [e, bshr_nat w _ hw (by omega), band3 _ (Nat.lt_of_le_of_lt (Nat.div_le_self _ _) hw)]
  exact hq
theorem sp_last {d w : Nat} {st : St} {Q : Rn} (hw : w < 2 ^ 31) (hq : Q (vi (w % 4 : Nat)) st) : MS (d + 1) 261 [vi w] st Q := by
  refine MS_s [vi w] rfl rfl rfl rfl ?_
  try simp only [awu 261 0, pe261, xs, i_load, i_loadR, i_inc, lg, lp, true_and, and_true, List.length_cons, List.length_nil, Nat.reduceAdd, Nat.reduceLeDiff, Nat.zero_le, Int.toNat_natCast, natLit]
  rw [band3 w hw]
  exact hq
theorem wc_lt (w : Nat) : wc w < 1048576 := Nat.mod_lt _ (by decide)
theorem sp_longer {d w l : Nat} {st : St} {Q : Rn} (hw : w < 2 ^ 31) (hn : wl w ≤ 9) (hl : l < 4) (hq : Q (vi (lw w l : Nat)) st) : MS (d + 2) 262 [vi w, vi l] st Q := by
  refine MS_s [vi w, vi l] rfl rfl rfl rfl ?_
  try simp only [awu 262 0, pe262, xs, i_load, i_loadR, i_inc, lg, lp, true_and, and_true, List.length_cons, List.length_nil, Nat.reduceAdd, Nat.reduceLeDiff, Nat.zero_le, Int.toNat_natCast, natLit]
  refine sp_len hw ?_
  dsimp only
  try simp only [awu 262 0, pe262, xs, i_load, i_loadR, i_inc, lg, lp, true_and, and_true, List.length_cons, List.length_nil, Nat.reduceAdd, Nat.reduceLeDiff, Nat.zero_le, Int.toNat_natCast, natLit]
  have hc := wc_lt w
  rw [wr_id (by omega) (by omega)]
  have e1 : (wl w : Int) + 1 = ((wl w + 1 : Nat) : Int) := by omega
  have e2 := bshl_nat (wl w + 1) 20 (by omega) (by decide)
  have e3 := band20 w hw
  have e4 := bshl_nat (wc w) 2 (by omega) (by decide)
  rw [natLit] at e2 e4
  have e5 : ((w % 1048576 : Nat) : Int) = (wc w : Nat) := rfl
  rw [e1, e2, e3, e5, e4, band20 _ (by omega), bor_add ((wl w + 1) * 2 ^ 20) (wc w * 2 ^ 2 % 1048576) 20 (by omega) (by omega) (by omega), band3 l (by omega), bor_add _ (l % 4) 2 (by omega) (by omega) (by omega)]
  have e6 : (wl w + 1) * 2 ^ 20 + wc w * 2 ^ 2 % 1048576 + l % 4 = lw w l := by unfold lw; omega
  rw [e6]
  exact hq
theorem sp_begin {d w n : Nat} {st : St} {Q : Rn} (hw : w < 2 ^ 31) (hn : wl w ≤ 10) (hl : n ≤ wl w) (hq : Q (vi (bg w n : Nat)) st) : MS (d + 2) 263 [vi w, vi n] st Q := by
  refine MS_s [vi w, vi n] rfl rfl rfl rfl ?_
  try simp only [awu 263 0, pe263, xs, i_load, i_loadR, i_inc, lg, lp, true_and, and_true, List.length_cons, List.length_nil, Nat.reduceAdd, Nat.reduceLeDiff, Nat.zero_le, Int.toNat_natCast, natLit]
  refine sp_len hw ?_
  dsimp only
  try simp only [awu 263 0, pe263, xs, i_load, i_loadR, i_inc, lg, lp, true_and, and_true, List.length_cons, List.length_nil, Nat.reduceAdd, Nat.reduceLeDiff, Nat.zero_le, Int.toNat_natCast, natLit]
  have hc := wc_lt w
  rw [wr_id (x := (wl w : Int) - n) (by omega) (by omega), wr_id (by omega) (by omega)]
  have e1 : (2 : Int) * ((wl w : Int) - n) = ((2 * (wl w - n) : Nat) : Int) := by omega
  have e2 := bshl_nat n 20 (by omega) (by decide)
  have e3 := band20 w hw
  rw [natLit] at e2
  have e5 : ((w % 1048576 : Nat) : Int) = (wc w : Nat) := rfl
  have e7 : wc w / 2 ^ (2 * (wl w - n)) ≤ wc w := Nat.div_le_self _ _
  rw [e1, e2, e3, e5, bshr_nat (wc w) _ (by omega) (by omega), bor_add (n * 2 ^ 20) _ 20 (by omega) (by omega) (by omega)]
  exact hq
theorem sp_letterAt {d n c k : Nat} {st : St} {Q : Rn} (hc : c < 2 ^ 31) (hn : n ≤ 10) (hk : k < n) (hq : Q (vi ((c / 2 ^ (2 * (n - 1 - k))) % 4 : Nat)) st) : MS (d + 1) 48 [vi n, vi c, vi k] st Q := by
  refine MS_s [vi n, vi c, vi k] rfl rfl rfl rfl ?_
  try simp only [awu 48 0, pe48, xs, i_load, i_loadR, i_inc, lg, lp, true_and, and_true, List.length_cons, List.length_nil, Nat.reduceAdd, Nat.reduceLeDiff, Nat.zero_le, Int.toNat_natCast, natLit]
  rw [wr_id (x := (n : Int) - 1) (by omega) (by omega), wr_id (x := (n : Int) - 1 - k) (by omega) (by omega), wr_id (by omega) (by omega)]
  have e : (2 : Int) * ((n : Int) - 1 - k) = ((2 * (n - 1 - k) : Nat) : Int) := by omega
  rw [e, bshr_nat c _ hc (by omega), band3 _ (Nat.lt_of_le_of_lt (Nat.div_le_self _ _) hc)]
  exact hq
theorem sp_ahead {d : Nat} {n c m e : Int} {st : St} {Q : Rn} (hq : Q (vi (if n < m ∨ (n = m ∧ c < e) then 1 else 0)) st) : MS (d + 1) 49 [vi n, vi c, vi m, vi e] st Q := by
  refine MS_s [vi n, vi c, vi m, vi e] rfl rfl rfl rfl ?_
  try simp only [awu 49 0, awu 49 1, awu 49 2, awu 49 3, awu 49 4, awu 49 5, pe49, xs, i_load, i_loadR, i_inc, lg, lp, true_and, and_true, List.length_cons, List.length_nil, Nat.reduceAdd, Nat.reduceLeDiff, Nat.zero_le, Int.toNat_natCast, natLit]
  refine ⟨fun a => ?_, fun a => ⟨fun b => ?_, fun b => ⟨fun g => ?_, fun g => ?_⟩⟩⟩
  · rw [if_pos (by omega)] at hq
    exact ⟨ok01_1, hq⟩
  · rw [if_neg (by omega)] at hq
    exact ⟨ok01_0, hq⟩
  · rw [if_neg (by omega)] at hq
    exact ⟨ok01_0, hq⟩
  · rw [if_pos (by omega)] at hq
    exact ⟨ok01_1, hq⟩
/-! the k-th word of a length -/
def nb (a : Nat) (k : Nat) : Nat → Nat
  | 0 => 0
  | n + 1 => nb a k n + (k / a ^ n % a) * 4 ^ n
theorem nb_lt {a k : Nat} (ha : 0 < a) (h4 : a ≤ 4) : ∀ n, nb a k n < 4 ^ n
  | 0 => Nat.one_pos
  | n + 1 => by
    have ih := nb_lt (k := k) ha h4 n
    have h1 : k / a ^ n % a < 4 := Nat.lt_of_lt_of_le (Nat.mod_lt _ ha) h4
    have h2 : (k / a ^ n % a) * 4 ^ n ≤ 3 * 4 ^ n := Nat.mul_le_mul_right _ (by omega)
    show nb a k n + _ < 4 ^ (n + 1)
    rw [Nat.pow_succ]
    omega
theorem brem_nat (x y : Nat) (hx : x < 2 ^ 31) (hy : 0 < y) (hy2 : y < 2 ^ 31) : brem (x : Int) (y : Int) = (x % y : Nat) := by
  unfold brem
  have e : (x : Int).tdiv (y : Int) = ((x / y : Nat) : Int) := Int.ofNat_tdiv x y
  have h1 : x / y ≤ x := Nat.div_le_self _ _
  have h2 : x / y * y ≤ x := Nat.div_mul_le_self _ _
  have h4 := Nat.div_add_mod x y
  rw [e]
  generalize x / y = q at *
  generalize x % y = r at *
  have h6 : (q : Int) * (y : Int) = ((q * y : Nat) : Int) := (Int.natCast_mul q y).symm
  rw [Nat.mul_comm] at h4
  rw [wr_id (x := (q : Int)) (by omega) (by omega), h6]
  generalize q * y = z at *
  rw [wr_id (x := (z : Int)) (by omega) (by omega), wr_id (by omega) (by omega)]
  omega
theorem div_nat (x y : Nat) (hx : x < 2 ^ 31) : wr ((x : Int).tdiv (y : Int)) = ((x / y : Nat) : Int) := by
  have e : (x : Int).tdiv (y : Int) = ((x / y : Nat) : Int) := Int.ofNat_tdiv x y
  have h1 : x / y ≤ x := Nat.div_le_self _ _
  rw [e]
  generalize x / y = q at *
  rw [wr_id (by omega) (by omega)]
theorem sp_codeOf {d n x a : Nat} {st : St} {Q : Rn} (hx : x < 2 ^ 31) (hn : n ≤ 10) (ha : 0 < a) (h4 : a ≤ 4) (hl : st 99 2 = a) (hq : Q (vi (nb a x n : Nat)) st) : MS (d + 1) 151 [vr 99, vi n, vi x] st Q := by
  have k0 : kl 99 = 12 := rfl
  refine MS_v [vr 99, vi n, vi x, none, none, none] rfl rfl rfl rfl ?_
  try simp only [awu 151 0, pe151, xs, i_load, i_loadR, i_inc, lg, lp, true_and, and_true, List.length_cons, List.length_nil, Nat.reduceAdd, Nat.reduceLeDiff, Nat.zero_le, Int.toNat_natCast, natLit]
  have key : ∀ m k : Nat, k ≤ n → n - k = m → AW (P 151) Q (MS d) 0 (fun _ => 0) 1 [vr 99, vi n, vi x, vi (nb a x k : Nat), vi (x / a ^ k : Nat), vi k] [] st := by
    intro m
    induction m with
    | zero =>
      intro k h1 h2
      have : k = n := by omega
      subst this
      rw [awu 151 1]
      try simp only [awu 151 2, awu 151 3, pe151, xs, i_load, i_loadR, i_inc, lg, lp, true_and, and_true, List.length_cons, List.length_nil, Nat.reduceAdd, Nat.reduceLeDiff, Nat.zero_le, Int.toNat_natCast, natLit]
      exact ⟨fun _ => hq, fun a => by omega⟩
    | succ m ih =>
      intro k h1 h2
      rw [awu 151 1]
      try simp only [awu 151 2, awu 151 3, pe151, xs, i_load, i_loadR, i_inc, lg, lp, true_and, and_true, List.length_cons, List.length_nil, Nat.reduceAdd, Nat.reduceLeDiff, Nat.zero_le, Int.toNat_natCast, natLit, k0, hl]
      refine ⟨fun a => by omega, fun _ => ⟨by omega, by omega, ?_⟩⟩
      have hd : x / a ^ k ≤ x := Nat.div_le_self _ _
      have hlt := nb_lt (k := x) ha h4 k
      have hr : x / a ^ k % a < 4 := Nat.lt_of_lt_of_le (Nat.mod_lt _ ha) h4
      have hp : 4 ^ k ≤ 4 ^ 9 := Nat.pow_le_pow_right (by decide) (by omega)
      have e3 : x / a ^ k / a = x / a ^ (k + 1) := by rw [Nat.pow_succ, Nat.div_div_eq_div_mul]
      have e4 : nb a x (k + 1) = nb a x k + (x / a ^ k % a) * 4 ^ k := rfl
      have e5 : (2 : Nat) ^ (2 * k) = 4 ^ k := by rw [Nat.pow_mul]
      have hm : (x / a ^ k % a) * 4 ^ k ≤ 3 * 4 ^ k := Nat.mul_le_mul_right _ (by omega)
      rw [brem_nat _ _ (by omega) ha (by omega), div_nat _ _ (by omega), e3, wr_id (x := 2 * (k : Int)) (by omega) (by omega), wr_id (by omega) (by omega)]
      have e6 : (2 : Int) * (k : Int) = ((2 * k : Nat) : Int) := by omega
      rw [e6, bshl_nat _ (2 * k) (by rw [e5]; omega) (by omega), e5]
      have e7 : bor (nb a x k : Nat) (((x / a ^ k % a) * 4 ^ k : Nat) : Int) = (nb a x (k + 1) : Nat) := by
        have hb : bor (nb a x k : Nat) (((x / a ^ k % a) * 4 ^ k : Nat) : Int) = bor (((x / a ^ k % a) * 4 ^ k : Nat) : Int) (nb a x k : Nat) := by
          show (oI _ ||| oI _).toInt = (oI _ ||| oI _).toInt
          rw [Int32.or_comm]
        rw [hb, bor_add _ (nb a x k) (2 * k) (by rw [e5]; exact Nat.mul_mod_left _ _) (by rw [e5]; exact hlt) (by omega), e4, Nat.add_comm]
      rw [e7]
      exact ih (k + 1) (by omega) (by omega)
  have := key n 0 (Nat.zero_le _) rfl
  rw [Nat.pow_zero, Nat.div_one] at this
  exact this
theorem sp_numbered {d n x a : Nat} {st : St} {Q : Rn} (hx : x < 2 ^ 31) (hn : n ≤ 10) (ha : 0 < a) (h4 : a ≤ 4) (hq : Q (vi (n * 1048576 + nb a x n : Nat)) st) : MS (d + 1) 264 [vi x, vi n, vi a] st Q := by
  refine MS_s [vi x, vi n, vi a, none, none, none] rfl rfl rfl rfl ?_
  try simp only [awu 264 0, pe264, xs, i_load, i_loadR, i_inc, lg, lp, true_and, and_true, List.length_cons, List.length_nil, Nat.reduceAdd, Nat.reduceLeDiff, Nat.zero_le, Int.toNat_natCast, natLit]
  have key : ∀ m k : Nat, k ≤ n → n - k = m → AW (P 264) Q (MS d) 0 (fun _ => 0) 1 [vi x, vi n, vi a, vi (nb a x k : Nat), vi (x / a ^ k : Nat), vi k] [] st := by
    intro m
    induction m with
    | zero =>
      intro k h1 h2
      have : k = n := by omega
      subst this
      rw [awu 264 1]
      try simp only [awu 264 2, awu 264 3, awu 264 4, pe264, xs, i_load, i_loadR, i_inc, lg, lp, true_and, and_true, List.length_cons, List.length_nil, Nat.reduceAdd, Nat.reduceLeDiff, Nat.zero_le, Int.toNat_natCast, natLit]
      have hlt := nb_lt (k := x) ha h4 k
      have hp : 4 ^ k ≤ 4 ^ 10 := Nat.pow_le_pow_right (by decide) (by omega)
      have e2 := bshl_nat k 20 (by omega) (by decide)
      rw [natLit] at e2
      have e : bor (bshl k 20) (nb a x k : Nat) = (k * 1048576 + nb a x k : Nat) := by rw [e2, bor_add _ _ 20 (by omega) (by omega) (by omega)]
      rw [e]
      exact ⟨fun _ => hq, fun a => by omega⟩
    | succ m ih =>
      intro k h1 h2
      rw [awu 264 1]
      try simp only [awu 264 2, awu 264 3, awu 264 4, pe264, xs, i_load, i_loadR, i_inc, lg, lp, true_and, and_true, List.length_cons, List.length_nil, Nat.reduceAdd, Nat.reduceLeDiff, Nat.zero_le, Int.toNat_natCast, natLit]
      refine ⟨fun a => by omega, fun _ => ⟨fun a => by omega, fun _ => ⟨by omega, by omega, ?_⟩⟩⟩
      have hd : x / a ^ k ≤ x := Nat.div_le_self _ _
      have hlt := nb_lt (k := x) ha h4 k
      have hr : x / a ^ k % a < 4 := Nat.lt_of_lt_of_le (Nat.mod_lt _ ha) h4
      have hp : 4 ^ k ≤ 4 ^ 9 := Nat.pow_le_pow_right (by decide) (by omega)
      have e3 : x / a ^ k / a = x / a ^ (k + 1) := by rw [Nat.pow_succ, Nat.div_div_eq_div_mul]
      have e4 : nb a x (k + 1) = nb a x k + (x / a ^ k % a) * 4 ^ k := rfl
      have e5 : (2 : Nat) ^ (2 * k) = 4 ^ k := by rw [Nat.pow_mul]
      have hm : (x / a ^ k % a) * 4 ^ k ≤ 3 * 4 ^ k := Nat.mul_le_mul_right _ (by omega)
      rw [brem_nat _ _ (by omega) ha (by omega), div_nat _ _ (by omega), e3, wr_id (x := 2 * (k : Int)) (by omega) (by omega), wr_id (by omega) (by omega)]
      have e6 : (2 : Int) * (k : Int) = ((2 * k : Nat) : Int) := by omega
      rw [e6, bshl_nat _ (2 * k) (by rw [e5]; omega) (by omega), e5]
      have e7 : bor (nb a x k : Nat) (((x / a ^ k % a) * 4 ^ k : Nat) : Int) = (nb a x (k + 1) : Nat) := by
        have hb : bor (nb a x k : Nat) (((x / a ^ k % a) * 4 ^ k : Nat) : Int) = bor (((x / a ^ k % a) * 4 ^ k : Nat) : Int) (nb a x k : Nat) := by
          show (oI _ ||| oI _).toInt = (oI _ ||| oI _).toInt
          rw [Int32.or_comm]
        rw [hb, bor_add _ (nb a x k) (2 * k) (by rw [e5]; exact Nat.mul_mod_left _ _) (by rw [e5]; exact hlt) (by omega), e4, Nat.add_comm]
      rw [e7]
      exact ih (k + 1) (by omega) (by omega)
  have := key n 0 (Nat.zero_le _) rfl
  rw [Nat.pow_zero, Nat.div_one] at this
  exact this
end
section
/-! a word is read off the tape -/
def wdOf (f : Nat → Int) (a : Nat) : Nat → Option Nat
  | 0 => some 0
  | n + 1 => match wdOf f a n with
    | none => none
    | some w => if 0 ≤ f n - 97 ∧ f n - 97 < a then some (lw w (f n - 97).toNat) else none
def okw (a w : Nat) : Prop := wl w ≤ 10 ∧ wc w < 4 ^ wl w ∧ ∀ p, p < wl w → lt w p < a
theorem wl_lw {w l : Nat} (hl : l < 4) : wl (lw w l) = wl w + 1 := by unfold lw wl; omega
theorem wc_lw {w l : Nat} (hl : l < 4) (hc : wc w * 4 < 1048576) : wc (lw w l) = wc w * 4 + l := by unfold lw; unfold wc at *; omega
theorem okw_lt {a w : Nat} (h : okw a w) : w < 11534336 := by
  obtain ⟨h1, -, -⟩ := h
  unfold wl at h1
  omega
theorem okw_0 (a : Nat) : okw a 0 := ⟨by decide, by decide, fun p hp => absurd hp (by unfold wl; omega)⟩
theorem okw_lw {a w l : Nat} (ha : a ≤ 4) (h : okw a w) (hn : wl w ≤ 9) (hl : l < a) : okw a (lw w l) := by
  obtain ⟨h1, h2, h3⟩ := h
  have hp : 4 ^ wl w ≤ 4 ^ 9 := Nat.pow_le_pow_right (by decide) hn
  have e1 := wl_lw (w := w) (l := l) (by omega)
  have e2 := wc_lw (w := w) (l := l) (by omega) (by omega)
  refine ⟨by omega, ?_, fun p hp => ?_⟩
  · rw [e1, e2, Nat.pow_succ]
    omega
  · rw [lt_wc (by omega) hp, e1, e2]
    rw [e1] at hp
    by_cases hpe : p = wl w
    · subst hpe
      rw [show 2 * (wl w + 1 - 1 - wl w) = 0 by omega, Nat.pow_zero, Nat.div_one]
      omega
    · have h4 := h3 p (by omega)
      rw [lt_wc (by omega) (by omega)] at h4
      rw [show 2 * (wl w + 1 - 1 - p) = 2 + 2 * (wl w - 1 - p) by omega, Nat.pow_add, ← Nat.div_div_eq_div_mul]
      rw [show (wc w * 4 + l) / 2 ^ 2 = wc w by omega]
      exact h4
theorem wdOf_ok {f : Nat → Int} {a : Nat} (ha : a ≤ 4) : ∀ {n w : Nat}, n ≤ 10 → wdOf f a n = some w → okw a w ∧ wl w = n
  | 0, w, _, h => by
    cases h
    exact ⟨okw_0 a, by decide⟩
  | n + 1, w, hn, h => by
    unfold wdOf at h
    split at h
    · cases h
    · rename_i w' hw
      split at h
      · rename_i hl
        cases h
        obtain ⟨i1, i2⟩ := wdOf_ok ha (by omega) hw
        exact ⟨okw_lw ha i1 (by omega) (by omega), by rw [wl_lw (by omega), i2]⟩
      · cases h
theorem wdOf_none {f : Nat → Int} {a n : Nat} (h : wdOf f a n = none) : ∀ k, wdOf f a (n + k) = none
  | 0 => h
  | k + 1 => by
    show wdOf f a ((n + k) + 1) = none
    unfold wdOf
    rw [wdOf_none h k]
theorem wdOf_s {f : Nat → Int} {a n w : Nat} (h : wdOf f a n = some w) : wdOf f a (n + 1) = if 0 ≤ f n - 97 ∧ f n - 97 < a then some (lw w (f n - 97).toNat) else none := by
  conv => lhs; unfold wdOf
  rw [h]
theorem up2_up2 {st : St} {o i : Nat} {v w : Int} : up2 (up2 st o i v) o i w = up2 st o i w := by
  funext k j
  rw [up2_at, up2_at, up2_at, up2_at]
  by_cases hk : k = o
  · subst hk
    simp only [if_true]
    split <;> simp_all
  · simp [hk]
def wo (f : Nat → Int) (a c : Nat) : Option Nat := if c ≤ 10 then wdOf f a c else none
def woI (x : Option Nat) : Int := match x with
  | some w => (w : Int)
  | none => -1
theorem sp_asWord {d c a : Nat} {st : St} {Q : Rn} (hc : st 1 1 = c) (hn : c ≤ 800) (hb : ∀ i, i < c → 0 ≤ st 2 i ∧ st 2 i ≤ 255) (ha : a ≤ 4) (hq : Q (vi (woI (wo (st 2) a c))) st) : MS (d + 3) 227 [vr 1, vi a] st Q := by
  have k0 : kl 1 = 5 := rfl
  refine MS_v [vr 1, vi a, none, none, none] rfl rfl rfl rfl ?_
  try simp only [awu 227 0, awu 227 1, awu 227 2, pe227, xs, i_load, i_loadR, i_inc, lg, lp, true_and, and_true, List.length_cons, List.length_nil, Nat.reduceAdd, Nat.reduceLeDiff, Nat.zero_le, Int.toNat_natCast, natLit, k0, hc]
  by_cases h10 : c ≤ 10
  · refine ⟨fun _ => ?_, fun h => by omega⟩
    have hq' : Q (vi (woI (wdOf (st 2) a c))) st := by unfold wo at hq; rw [if_pos h10] at hq; exact hq
    have key : ∀ m k w : Nat, ∀ u, k ≤ c → c - k = m → wdOf (st 2) a k = some w → AW (P 227) Q (MS (d + 2)) 0 (fun _ => 0) 3 [vr 1, vi a, vi w, vi k, u] [] st := by
      intro m
      induction m with
      | zero =>
        intro k w u h1 h2 hw
        have : k = c := by omega
        subst this
        rw [awu 227 3]
        try simp only [awu 227 4, awu 227 8, pe227, xs, i_load, i_loadR, i_inc, lg, lp, true_and, and_true, List.length_cons, List.length_nil, Nat.reduceAdd, Nat.reduceLeDiff, Nat.zero_le, Int.toNat_natCast, natLit, k0, hc]
        rw [hw] at hq'
        exact ⟨fun _ => hq', fun h => by omega⟩
      | succ m ih =>
        intro k w u h1 h2 hw
        obtain ⟨ow, ol⟩ := wdOf_ok ha (by omega) hw
        have hwl := okw_lt ow
        have hbk := hb k (by omega)
        rw [awu 227 3]
        try simp only [awu 227 4, awu 227 8, pe227, xs, i_load, i_loadR, i_inc, lg, lp, true_and, and_true, List.length_cons, List.length_nil, Nat.reduceAdd, Nat.reduceLeDiff, Nat.zero_le, Int.toNat_natCast, natLit, k0, hc]
        refine ⟨fun h => by omega, fun _ => ?_⟩
        refine sp_at (n := 800) (c := c) k0 ⟨rfl, rfl⟩ hc hn ?_
        dsimp only
        rw [if_pos (by omega), Int.toNat_natCast]
        try simp only [awu 227 5, awu 227 6, awu 227 7, pe227, xs, i_load, i_loadR, i_inc, lg, lp, true_and, and_true, List.length_cons, List.length_nil, Nat.reduceAdd, Nat.reduceLeDiff, Nat.zero_le, Int.toNat_natCast, natLit, k0, hc]
        rw [wr_id (by omega) (by omega)]
        have es := wdOf_s hw
        refine ⟨fun h => ?_, fun h => ⟨fun h' => ?_, fun h' => ?_⟩⟩
        · rw [if_neg (by omega)] at es
          have := wdOf_none es (c - (k + 1))
          rw [show k + 1 + (c - (k + 1)) = c by omega] at this
          rw [this] at hq'
          exact hq'
        · rw [if_pos (by omega)] at es
          have el : st 2 k - 97 = (((st 2 k - 97).toNat : Nat) : Int) := by omega
          rw [el]
          refine sp_longer (by omega) (by omega) (by omega) ?_
          dsimp only
          try simp only [awu 227 5, awu 227 6, awu 227 7, pe227, xs, i_load, i_loadR, i_inc, lg, lp, true_and, and_true, List.length_cons, List.length_nil, Nat.reduceAdd, Nat.reduceLeDiff, Nat.zero_le, Int.toNat_natCast, natLit, k0, hc]
          rw [wr_id (by omega) (by omega)]
          exact ih (k + 1) _ _ (by omega) (by omega) es
        · rw [if_neg (by omega)] at es
          have := wdOf_none es (c - (k + 1))
          rw [show k + 1 + (c - (k + 1)) = c by omega] at this
          rw [this] at hq'
          exact hq'
    exact key c 0 0 none (Nat.zero_le _) rfl rfl
  · refine ⟨fun h => by omega, fun _ => ?_⟩
    unfold wo at hq
    rw [if_neg h10] at hq
    exact hq
theorem sp_wot {d c a : Nat} {st : St} {Q : Rn} (hc : st 1 1 = c) (hn : c ≤ 800) (hb : ∀ i, i < c → 0 ≤ st 2 i ∧ st 2 i ≤ 255) (hl : st 0 15 = a) (ha : a ≤ 4) (hq : Q (vi (woI (wo (st 2) a c))) (up2 st 1 1 0)) : MS (d + 4) 6 [vr 0] st Q := by
  have k0 : kl 0 = 11 := rfl
  have k1 : kl 1 = 5 := rfl
  refine MS_v [vr 0, none] rfl rfl rfl rfl ?_
  try simp only [awu 6 0, pe6, xs, i_load, i_loadR, i_inc, lg, lp, true_and, and_true, List.length_cons, List.length_nil, Nat.reduceAdd, Nat.reduceLeDiff, Nat.zero_le, Int.toNat_natCast, natLit, k0, k1, hl, Nat.zero_add]
  refine sp_asWord hc hn hb ha ?_
  dsimp only
  try simp only [awu 6 0, pe6, xs, i_load, i_loadR, i_inc, lg, lp, true_and, and_true, List.length_cons, List.length_nil, Nat.reduceAdd, Nat.reduceLeDiff, Nat.zero_le, Int.toNat_natCast, natLit, k0, k1, hl, Nat.zero_add]
  refine sp_cut k1 ?_
  dsimp only
  exact hq
theorem w8_small {x : Int} (h1 : 0 ≤ x) (h2 : x ≤ 127) : w8 x = x := by
  unfold w8
  exact Int.bmod_eq_of_le (by omega) (by omega)
theorem w8_big {x : Int} (h1 : 128 ≤ x) (h2 : x ≤ 255) : w8 x = x - 256 := by
  have : w8 x = w8 (x - 256) := by
    rw [← w8_mod x, ← w8_mod (x - 256)]
    congr 1
    omega
  rw [this]
  unfold w8
  exact Int.bmod_eq_of_le (by omega) (by omega)
theorem w8_let {x : Int} {a : Nat} (h1 : 0 ≤ x) (h2 : x ≤ 255) (ha : a ≤ 4) : (0 ≤ w8 x - 97 ∧ w8 x - 97 < a ↔ 0 ≤ x - 97 ∧ x - 97 < a) ∧ (0 ≤ x - 97 ∧ x - 97 < a → w8 x = x) := by
  by_cases h : x ≤ 127
  · rw [w8_small h1 h]
    exact ⟨Iff.rfl, fun _ => rfl⟩
  · rw [w8_big (by omega) h2]
    constructor
    · omega
    · omega
theorem sp_readWord {d c a : Nat} {st : St} {f : Nat → Int} {Q : Rn} (hc : st 99 1 = c) (hn : c ≤ 800) (hb : ∀ i, i < c → 0 ≤ f i ∧ f i ≤ 255 ∧ st 100 i = w8 (f i)) (hl : st 99 2 = a) (ha : a ≤ 4)
    (h1 : ∀ w, wo f a c = some w → Q (vi 1) (up2 (up2 (up2 st 99 1 0) 99 3 (wl w : Nat)) 99 4 (wc w : Nat))) (h0 : wo f a c = none → ∀ x, Q (vi 0) (up2 (up2 (up2 st 99 1 0) 99 3 c) 99 4 x)) : MS (d + 2) 47 [vr 99] st Q := by
  have k0 : kl 99 = 12 := rfl
  have k1 : kl 100 = 51 := rfl
  have l1 : len 100 = 800 := rfl
  refine MS_v [vr 99, none, none, none] rfl rfl rfl rfl ?_
  try simp only [awu 47 0, awu 47 1, awu 47 2, pe47, xs, i_load, i_loadR, i_inc, lg, lp, true_and, and_true, List.length_cons, List.length_nil, Nat.reduceAdd, Nat.reduceLeDiff, Nat.zero_le, Int.toNat_natCast, natLit, k0, hc]
  by_cases h10 : c ≤ 10
  · refine ⟨fun _ => ?_, fun h => by omega⟩
    have ew : wo f a c = wdOf f a c := by unfold wo; rw [if_pos h10]
    rw [ew] at h1 h0
    have key : ∀ m k w : Nat, ∀ u, k ≤ c → c - k = m → wdOf f a k = some w → AW (P 47) Q (MS (d + 1)) 0 (fun _ => 0) 3 [vr 99, vi c, vi k, u] [] (up2 (up2 (up2 st 99 1 0) 99 3 c) 99 4 (wc w : Nat)) := by
      intro m
      induction m with
      | zero =>
        intro k w u g1 g2 hw
        have : k = c := by omega
        subst this
        rw [awu 47 3]
        try simp only [awu 47 7, pe47, xs, i_load, i_loadR, i_inc, lg, lp, true_and, and_true, List.length_cons, List.length_nil, Nat.reduceAdd, Nat.reduceLeDiff, Nat.zero_le, Int.toNat_natCast, natLit, k0]
        have hh := h1 w hw
        rw [(wdOf_ok ha (by omega) hw).2] at hh
        exact ⟨fun _ => ⟨ok01_1, hh⟩, fun h => by omega⟩
      | succ m ih =>
        intro k w u g1 g2 hw
        obtain ⟨ow, ol⟩ := wdOf_ok ha (by omega) hw
        obtain ⟨hb1, hb2, hb3⟩ := hb k (by omega)
        have e1 : (up2 (up2 (up2 st 99 1 0) 99 3 c) 99 4 (wc w : Nat)) 100 k = w8 (f k) := by
          rw [up2_ne (by decide), up2_ne (by decide), up2_ne (by decide)]
          exact hb3
        have e2 : (up2 (up2 (up2 st 99 1 0) 99 3 c) 99 4 (wc w : Nat)) 99 2 = a := by
          simp only [up2_at, if_true, if_false]
          exact hl
        rw [awu 47 3]
        try simp only [awu 47 4, awu 47 7, pe47, xs, i_load, i_loadR, i_inc, lg, lp, true_and, and_true, List.length_cons, List.length_nil, Nat.reduceAdd, Nat.reduceLeDiff, Nat.zero_le, Int.toNat_natCast, natLit, k0, k1, l1, e1, e2]
        refine ⟨fun h => by omega, fun _ => ⟨by omega, ?_⟩⟩
        have es := wdOf_s hw
        obtain ⟨v1, v2⟩ := w8_let hb1 hb2 ha
        have hw8 : -128 ≤ w8 (f k) ∧ w8 (f k) ≤ 127 := by
          by_cases h : f k ≤ 127
          · rw [w8_small hb1 h]; omega
          · rw [w8_big (by omega) hb2]; omega
        rw [wr_id (x := w8 (f k) - 97) (by omega) (by omega), wr_id (x := (a : Int) - 1) (by omega) (by omega)]
        refine sp_isIn ?_
        dsimp only
        by_cases hin : 0 ≤ f k - 97 ∧ f k - 97 < a
        · rw [if_pos (by have := v1.mpr hin; omega)]
          rw [if_pos hin] at es
          have e4 : (up2 (up2 (up2 st 99 1 0) 99 3 c) 99 4 (wc w : Nat)) 99 4 = (wc w : Nat) := by
            simp only [up2_at, if_true]
          try simp only [awu 47 5, awu 47 6, pe47, xs, i_load, i_loadR, i_inc, lg, lp, true_and, and_true, List.length_cons, List.length_nil, Nat.reduceAdd, Nat.reduceLeDiff, Nat.zero_le, Int.toNat_natCast, natLit, k0, k1, l1, e4]
          refine ⟨fun _ => ?_, fun h => absurd (by decide) h⟩
          have hp : 4 ^ wl w ≤ 4 ^ 9 := Nat.pow_le_pow_right (by decide) (by omega)
          have hcw := ow.2.1
          have e5 : wc (lw w (f k - 97).toNat) = wc w * 4 + (f k - 97).toNat := wc_lw (by omega) (by omega)
          rw [v2 hin, wr_id (x := 4 * ((wc w : Nat) : Int)) (by omega) (by omega), wr_id (by omega) (by omega), wr_id (by omega) (by omega), up2_up2]
          have e6 : 4 * ((wc w : Nat) : Int) + (f k - 97) = ((wc (lw w (f k - 97).toNat) : Nat) : Int) := by rw [e5]; omega
          rw [e6]
          exact ih (k + 1) _ _ (by omega) (by omega) es
        · rw [if_neg (fun h => hin (v1.mp (by omega)))]
          rw [if_neg hin] at es
          have := wdOf_none es (c - (k + 1))
          rw [show k + 1 + (c - (k + 1)) = c by omega] at this
          try simp only [awu 47 5, awu 47 6, pe47, xs, i_load, i_loadR, i_inc, lg, lp, true_and, and_true, List.length_cons, List.length_nil, Nat.reduceAdd, Nat.reduceLeDiff, Nat.zero_le, Int.toNat_natCast, natLit, k0, k1, l1]
          exact ⟨fun h => absurd trivial h, fun _ => ⟨ok01_0, h0 this _⟩⟩
    exact key c 0 0 none (Nat.zero_le _) rfl rfl
  · refine ⟨fun h => by omega, fun _ => ?_⟩
    unfold wo at h0
    rw [if_neg h10] at h0
    exact ⟨ok01_0, h0 rfl _⟩
end
section
/-! the examples, on both sides -/
def IsPl (e : Nat → Int) (c : Nat) (w : Int) (p : Nat) : Prop := p ≤ c ∧ (∀ i, i < p → e i < w) ∧ (p < c → w ≤ e p)
theorem IsPl_u {e : Nat → Int} {c p q : Nat} {w : Int} (h1 : IsPl e c w p) (h2 : IsPl e c w q) : p = q := by
  obtain ⟨a1, a2, a3⟩ := h1
  obtain ⟨b1, b2, b3⟩ := h2
  rcases Nat.lt_trichotomy p q with h | h | h
  · have := b2 p h
    have := a3 (by omega)
    omega
  · exact h
  · have := a2 q h
    have := b3 (by omega)
    omega
def insF (f : Nat → Int) (p : Nat) (v : Int) (i : Nat) : Int := if i < p then f i else if i = p then v else f (i - 1)
def remF (f : Nat → Int) (p : Nat) (i : Nat) : Int := if i < p then f i else f (i + 1)
theorem sp_shas {d c : Nat} {st : St} {k : Int} {Q : Rn} (hc : st 5 2 = c) (hn : c ≤ 40) (hq : Q (vi (if 0 ≤ k ∧ k < c then 1 else 0)) st) : MS (d + 1) 235 [vr 5, vi k] st Q := by
  have k0 : kl 5 = 7 := rfl
  refine MS_v [vr 5, vi k] rfl rfl rfl rfl ?_
  try simp only [awu 235 0, awu 235 1, awu 235 2, awu 235 3, awu 235 4, awu 235 5, pe235, xs, i_load, i_loadR, i_inc, lg, lp, true_and, and_true, List.length_cons, List.length_nil, Nat.reduceAdd, Nat.reduceLeDiff, Nat.zero_le, Int.toNat_natCast, natLit, k0, hc]
  refine ⟨fun a => ?_, fun a => ⟨fun b => ?_, fun b => ⟨fun g => by omega, fun g => ?_⟩⟩⟩
  · rw [if_neg (by omega)] at hq
    exact ⟨ok01_0, hq⟩
  · rw [if_neg (by omega)] at hq
    exact ⟨ok01_0, hq⟩
  · rw [if_pos (by omega)] at hq
    exact ⟨ok01_1, hq⟩
theorem sp_scode {d c : Nat} {st : St} {k : Int} {Q : Rn} (hc : st 5 2 = c) (hn : c ≤ 40) (hq : Q (vi (if 0 ≤ k ∧ k < c then st 6 k.toNat else -1)) st) : MS (d + 2) 236 [vr 5, vi k] st Q := by
  have k0 : kl 5 = 7 := rfl
  have k1 : kl 6 = 50 := rfl
  have l1 : len 6 = 40 := rfl
  refine MS_v [vr 5, vi k] rfl rfl rfl rfl ?_
  try simp only [awu 236 0, awu 236 1, awu 236 2, awu 236 3, pe236, xs, i_load, i_loadR, i_inc, lg, lp, true_and, and_true, List.length_cons, List.length_nil, Nat.reduceAdd, Nat.reduceLeDiff, Nat.zero_le, Int.toNat_natCast, natLit, k0, k1, l1]
  refine sp_shas hc hn ?_
  dsimp only
  by_cases h : 0 ≤ k ∧ k < c
  · rw [if_pos h] at hq ⊢
    try simp only [awu 236 0, awu 236 1, awu 236 2, awu 236 3, pe236, xs, i_load, i_loadR, i_inc, lg, lp, true_and, and_true, List.length_cons, List.length_nil, Nat.reduceAdd, Nat.reduceLeDiff, Nat.zero_le, Int.toNat_natCast, natLit, k0, k1, l1]
    exact ⟨fun a => absurd a (by decide), fun _ => ⟨by omega, hq⟩⟩
  · rw [if_neg h] at hq ⊢
    try simp only [awu 236 0, awu 236 1, awu 236 2, awu 236 3, pe236, xs, i_load, i_loadR, i_inc, lg, lp, true_and, and_true, List.length_cons, List.length_nil, Nat.reduceAdd, Nat.reduceLeDiff, Nat.zero_le, Int.toNat_natCast, natLit, k0, k1, l1]
    exact ⟨fun _ => hq, fun a => absurd trivial a⟩
theorem sp_sisIn {d c : Nat} {st : St} {k : Int} {Q : Rn} (hc : st 5 2 = c) (hn : c ≤ 40) (h01 : ∀ i, i < c → ok01 (st 7 i)) (hq : Q (vi (if 0 ≤ k ∧ k < c then st 7 k.toNat else 0)) st) : MS (d + 2) 237 [vr 5, vi k] st Q := by
  have k0 : kl 5 = 7 := rfl
  have k1 : kl 7 = 52 := rfl
  have l1 : len 7 = 40 := rfl
  refine MS_v [vr 5, vi k] rfl rfl rfl rfl ?_
  try simp only [awu 237 0, awu 237 1, awu 237 2, awu 237 3, awu 237 4, pe237, xs, i_load, i_loadR, i_inc, lg, lp, true_and, and_true, List.length_cons, List.length_nil, Nat.reduceAdd, Nat.reduceLeDiff, Nat.zero_le, Int.toNat_natCast, natLit, k0, k1, l1]
  refine sp_shas hc hn ?_
  dsimp only
  by_cases h : 0 ≤ k ∧ k < c
  · rw [if_pos h] at hq ⊢
    try simp only [awu 237 0, awu 237 1, awu 237 2, awu 237 3, awu 237 4, pe237, xs, i_load, i_loadR, i_inc, lg, lp, true_and, and_true, List.length_cons, List.length_nil, Nat.reduceAdd, Nat.reduceLeDiff, Nat.zero_le, Int.toNat_natCast, natLit, k0, k1, l1]
    refine ⟨fun a => absurd a (by decide), fun _ => ⟨by omega, ?_⟩⟩
    rcases h01 k.toNat (by omega) with e | e
    · rw [e] at hq ⊢
      exact ⟨fun _ => ⟨ok01_0, hq⟩, fun a => absurd rfl a⟩
    · rw [e] at hq ⊢
      exact ⟨fun a => absurd a (by decide), fun _ => ⟨ok01_1, hq⟩⟩
  · rw [if_neg h] at hq ⊢
    try simp only [awu 237 0, awu 237 1, awu 237 2, awu 237 3, awu 237 4, pe237, xs, i_load, i_loadR, i_inc, lg, lp, true_and, and_true, List.length_cons, List.length_nil, Nat.reduceAdd, Nat.reduceLeDiff, Nat.zero_le, Int.toNat_natCast, natLit, k0, k1, l1]
    exact ⟨fun _ => ⟨ok01_0, hq⟩, fun a => absurd trivial a⟩
def sumF (f : Nat → Int) : Nat → Int
  | 0 => 0
  | n + 1 => sumF f n + f n
theorem sumF_b {f : Nat → Int} {c : Nat} (h : ∀ i, i < c → ok01 (f i)) : ∀ n, n ≤ c → 0 ≤ sumF f n ∧ sumF f n ≤ n
  | 0, _ => by simp [sumF]
  | n + 1, hn => by
    have ih := sumF_b h n (by omega)
    have := h n (by omega)
    unfold sumF
    rcases this with e | e <;> rw [e] <;> omega
theorem sumF_congr {f g : Nat → Int} {c : Nat} (h : ∀ i, i < c → f i = g i) : ∀ n, n ≤ c → sumF f n = sumF g n
  | 0, _ => rfl
  | n + 1, hn => by
    unfold sumF
    rw [sumF_congr h n (by omega), h n (by omega)]
theorem sp_scnt {d c : Nat} {st : St} {Q : Rn} (hc : st 5 2 = c) (hn : c ≤ 40) (h01 : ∀ i, i < c → ok01 (st 7 i)) (hq : Q (vi (sumF (st 7) c)) st) : MS (d + 3) 238 [vr 5] st Q := by
  have k0 : kl 5 = 7 := rfl
  refine MS_v [vr 5, none, none] rfl rfl rfl rfl ?_
  try simp only [awu 238 0, pe238, xs, i_load, i_loadR, i_inc, lg, lp, true_and, and_true, List.length_cons, List.length_nil, Nat.reduceAdd, Nat.reduceLeDiff, Nat.zero_le, Int.toNat_natCast, natLit, k0]
  have key : ∀ m k : Nat, k ≤ c → c - k = m → AW (P 238) Q (MS (d + 2)) 0 (fun _ => 0) 1 [vr 5, vi (sumF (st 7) k), vi k] [] st := by
    intro m
    induction m with
    | zero =>
      intro k g1 g2
      have : k = c := by omega
      subst this
      rw [awu 238 1]
      try simp only [awu 238 2, awu 238 5, pe238, xs, i_load, i_loadR, i_inc, lg, lp, true_and, and_true, List.length_cons, List.length_nil, Nat.reduceAdd, Nat.reduceLeDiff, Nat.zero_le, Int.toNat_natCast, natLit, k0, hc]
      exact ⟨fun _ => hq, fun h => by omega⟩
    | succ m ih =>
      intro k g1 g2
      have hs := sumF_b h01 k (by omega)
      rw [awu 238 1]
      try simp only [awu 238 2, awu 238 5, pe238, xs, i_load, i_loadR, i_inc, lg, lp, true_and, and_true, List.length_cons, List.length_nil, Nat.reduceAdd, Nat.reduceLeDiff, Nat.zero_le, Int.toNat_natCast, natLit, k0, hc]
      refine ⟨fun h => by omega, fun _ => sp_sisIn hc hn h01 ?_⟩
      dsimp only
      rw [if_pos (by omega), Int.toNat_natCast]
      try simp only [awu 238 3, awu 238 4, pe238, xs, i_load, i_loadR, i_inc, lg, lp, true_and, and_true, List.length_cons, List.length_nil, Nat.reduceAdd, Nat.reduceLeDiff, Nat.zero_le, Int.toNat_natCast, natLit, k0, hc]
      have e1 : sumF (st 7) (k + 1) = sumF (st 7) k + st 7 k := rfl
      have ih' := ih (k + 1) (by omega) (by omega)
      refine ⟨fun h => ?_, fun h => ?_⟩
      · rw [e1, h, Int.add_zero] at ih'
        rw [wr_id (by omega) (by omega)]
        exact ih'
      · have h1 : st 7 k = 1 := by rcases h01 k (by omega) with e | e <;> omega
        rw [e1, h1] at ih'
        rw [wr_id (x := sumF (st 7) k + 1) (by omega) (by omega), wr_id (by omega) (by omega)]
        exact ih'
  exact key c 0 (Nat.zero_le _) rfl
theorem sp_spl {d c : Nat} {st : St} {w : Int} {Q : Rn} (hc : st 5 2 = c) (hn : c ≤ 40) (hq : ∀ p, IsPl (st 6) c w p → Q (vi (p : Nat)) st) : MS (d + 1) 239 [vr 5, vi w] st Q := by
  have k0 : kl 5 = 7 := rfl
  have k1 : kl 6 = 50 := rfl
  have l1 : len 6 = 40 := rfl
  refine MS_v [vr 5, vi w, none] rfl rfl rfl rfl ?_
  try simp only [awu 239 0, pe239, xs, i_load, i_loadR, i_inc, lg, lp, true_and, and_true, List.length_cons, List.length_nil, Nat.reduceAdd, Nat.reduceLeDiff, Nat.zero_le, Int.toNat_natCast, natLit, k0]
  have key : ∀ m k : Nat, k ≤ c → c - k = m → (∀ i, i < k → st 6 i < w) → AW (P 239) Q (MS d) 0 (fun _ => 0) 1 [vr 5, vi w, vi k] [] st := by
    intro m
    induction m with
    | zero =>
      intro k g1 g2 g3
      rw [awu 239 1]
      try simp only [awu 239 2, awu 239 3, awu 239 4, awu 239 5, pe239, xs, i_load, i_loadR, i_inc, lg, lp, true_and, and_true, List.length_cons, List.length_nil, Nat.reduceAdd, Nat.reduceLeDiff, Nat.zero_le, Int.toNat_natCast, natLit, k0, k1, l1, hc]
      exact ⟨fun _ => hq k ⟨g1, g3, fun h => by omega⟩, fun h => by omega⟩
    | succ m ih =>
      intro k g1 g2 g3
      rw [awu 239 1]
      try simp only [awu 239 2, awu 239 3, awu 239 4, awu 239 5, pe239, xs, i_load, i_loadR, i_inc, lg, lp, true_and, and_true, List.length_cons, List.length_nil, Nat.reduceAdd, Nat.reduceLeDiff, Nat.zero_le, Int.toNat_natCast, natLit, k0, k1, l1, hc]
      refine ⟨fun h => by omega, fun _ => ⟨fun h => by omega, fun _ => ⟨by omega, fun h => hq k ⟨g1, g3, fun _ => h⟩, fun h => ?_⟩⟩⟩
      rw [wr_id (by omega) (by omega)]
      refine ih (k + 1) (by omega) (by omega) (fun i hi => ?_)
      by_cases e : i = k
      · subst e; omega
      · exact g3 i (by omega)
  exact key c 0 (Nat.zero_le _) rfl (fun i hi => by omega)
theorem sp_sholds {d c : Nat} {st : St} {w : Int} {Q : Rn} (hc : st 5 2 = c) (hn : c ≤ 40) (hw : 0 ≤ w) (hq : ∀ p, IsPl (st 6) c w p → Q (vi (if p < c ∧ st 6 p = w then 1 else 0)) st) : MS (d + 3) 240 [vr 5, vi w] st Q := by
  have k0 : kl 5 = 7 := rfl
  refine MS_v [vr 5, vi w] rfl rfl rfl rfl ?_
  try simp only [awu 240 0, awu 240 1, awu 240 2, awu 240 3, pe240, xs, i_load, i_loadR, i_inc, lg, lp, true_and, and_true, List.length_cons, List.length_nil, Nat.reduceAdd, Nat.reduceLeDiff, Nat.zero_le, Int.toNat_natCast, natLit, k0]
  refine sp_spl hc hn (fun p hp => ?_)
  have hq := hq p hp
  dsimp only
  try simp only [awu 240 0, awu 240 1, awu 240 2, awu 240 3, pe240, xs, i_load, i_loadR, i_inc, lg, lp, true_and, and_true, List.length_cons, List.length_nil, Nat.reduceAdd, Nat.reduceLeDiff, Nat.zero_le, Int.toNat_natCast, natLit, k0]
  refine sp_scode hc hn ?_
  dsimp only
  try simp only [awu 240 0, awu 240 1, awu 240 2, awu 240 3, pe240, xs, i_load, i_loadR, i_inc, lg, lp, true_and, and_true, List.length_cons, List.length_nil, Nat.reduceAdd, Nat.reduceLeDiff, Nat.zero_le, Int.toNat_natCast, natLit, k0]
  by_cases h : p < c
  · rw [if_pos (by omega)]
    by_cases h2 : st 6 p = w
    · rw [if_pos ⟨h, h2⟩] at hq
      exact ⟨fun a => absurd h2 a, fun _ => ⟨ok01_1, hq⟩⟩
    · rw [if_neg (by omega)] at hq
      exact ⟨fun _ => ⟨ok01_0, hq⟩, fun a => absurd h2 a⟩
  · rw [if_neg (by omega)]
    rw [if_neg (by omega)] at hq
    exact ⟨fun _ => ⟨ok01_0, hq⟩, fun a => by omega⟩
theorem sp_sclear {d : Nat} {st : St} {Q : Rn} (hq : Q none (up2 st 5 2 0)) : MS (d + 1) 234 [vr 5] st Q := by
  have k0 : kl 5 = 7 := rfl
  refine MS_v [vr 5] rfl rfl rfl rfl ?_
  try simp only [awu 234 0, pe234, xs, i_load, i_loadR, i_inc, lg, lp, true_and, and_true, List.length_cons, List.length_nil, Nat.reduceAdd, Nat.reduceLeDiff, Nat.zero_le, Int.toNat_natCast, natLit, k0]
  exact hq
theorem sp_sins {d c p : Nat} {st : St} {w b : Int} {Q : Rn} (hc : st 5 2 = c) (hn : c < 40) (hp : p ≤ c) (hb : ok01 b) (h01 : ∀ i, i < c → ok01 (st 7 i))
    (hq : ∀ st' : St, st' 5 2 = (c + 1 : Nat) → (∀ i, i ≤ c → st' 6 i = insF (st 6) p w i) → (∀ i, i ≤ c → st' 7 i = insF (st 7) p b i) → (∀ j, j ≠ 5 → j ≠ 6 → j ≠ 7 → st' j = st j) → Q none st') : MS (d + 1) 241 [vr 5, vi p, vi w, vi b] st Q := by
  have k0 : kl 5 = 7 := rfl
  have k1 : kl 6 = 50 := rfl
  have l1 : len 6 = 40 := rfl
  have k2 : kl 7 = 52 := rfl
  have l2 : len 7 = 40 := rfl
  refine MS_v [vr 5, vi p, vi w, vi b, none] rfl rfl rfl rfl ?_
  try simp only [awu 241 0, awu 241 1, awu 241 2, awu 241 3, awu 241 4, pe241, xs, i_load, i_loadR, i_inc, lg, lp, true_and, and_true, List.length_cons, List.length_nil, Nat.reduceAdd, Nat.reduceLeDiff, Nat.zero_le, Int.toNat_natCast, natLit, k0, hc]
  refine ⟨fun h => by omega, fun _ => ⟨fun h => by omega, fun _ => ⟨fun _ => ?_, fun h => by omega⟩⟩⟩
  have key : ∀ m k : Nat, ∀ st' : St, p ≤ k → k ≤ c → k - p = m → st' 5 = st 5 → (∀ i, i < k → st' 6 i = st 6 i ∧ st' 7 i = st 7 i) → (∀ i, k < i → i ≤ c → st' 6 i = st 6 (i - 1) ∧ st' 7 i = st 7 (i - 1)) → (∀ j, j ≠ 5 → j ≠ 6 → j ≠ 7 → st' j = st j) → AW (P 241) Q (MS d) 0 (fun _ => 0) 5 [vr 5, vi p, vi w, vi b, vi k] [] st' := by
    intro m
    induction m with
    | zero =>
      intro k st' g1 g2 g3 g4 g5 g6 g7
      have : k = p := by omega
      subst this
      have hc' : st' 5 2 = c := by rw [g4]; exact hc
      rw [awu 241 5]
      try simp only [awu 241 7, pe241, xs, i_load, i_loadR, i_inc, lg, lp, true_and, and_true, List.length_cons, List.length_nil, Nat.reduceAdd, Nat.reduceLeDiff, Nat.zero_le, Int.toNat_natCast, natLit, k0, k1, l1, k2, l2]
      refine ⟨fun _ => ⟨by omega, by omega, hb, ?_⟩, fun h => by omega⟩
      apply hq
      · simp only [up2_at, if_true, hc']
        rw [wr_id (by simp; omega) (by simp; omega)]
        simp
      · intro i hi
        simp only [up2_at]
        unfold insF
        by_cases e : i = k
        · simp [e]
        · by_cases e2 : i < k
          · simp [e, e2, (g5 i e2).1]
          · simp [e, e2, (g6 i (by omega) hi).1]
      · intro i hi
        simp only [up2_at]
        unfold insF
        by_cases e : i = k
        · simp [e]
        · by_cases e2 : i < k
          · simp [e, e2, (g5 i e2).2]
          · simp [e, e2, (g6 i (by omega) hi).2]
      · intro j h1 h2 h3
        rw [up2_ne h1, up2_ne h3, up2_ne h2]
        exact g7 j h1 h2 h3
    | succ m ih =>
      intro k st' g1 g2 g3 g4 g5 g6 g7
      have ek : wr ((k : Int) - 1) = ((k - 1 : Nat) : Int) := by rw [wr_id (by omega) (by omega)]; omega
      have ek2 : wr ((k : Int) + -1) = ((k - 1 : Nat) : Int) := by rw [wr_id (by omega) (by omega)]; omega
      rw [awu 241 5]
      try simp only [awu 241 6, pe241, xs, i_load, i_loadR, i_inc, lg, lp, true_and, and_true, List.length_cons, List.length_nil, Nat.reduceAdd, Nat.reduceLeDiff, Nat.zero_le, Int.toNat_natCast, natLit, k0, k1, l1, k2, l2, ek, ek2]
      have hv : up2 st' 6 k (st' 6 (k - 1)) 7 (k - 1) = st 7 (k - 1) := by rw [up2_ne (by decide)]; exact (g5 _ (by omega)).2
      refine ⟨fun h => by omega, fun _ => ⟨by omega, by omega, by omega, by omega, by rw [hv]; exact h01 _ (by omega), ?_⟩⟩
      rw [hv]
      refine ih (k - 1) _ (by omega) (by omega) (by omega) ?_ ?_ ?_ ?_
      · rw [up2_ne (by decide), up2_ne (by decide)]
        exact g4
      · intro i hi
        have := g5 i (by omega)
        simp only [up2_at]
        simp [show i ≠ k by omega, this]
      · intro i h1 h2
        simp only [up2_at]
        by_cases e : i = k
        · subst e
          simp [(g5 (i - 1) (by omega)).1]
        · simp [e, g6 i (by omega) h2]
      · intro j h1 h2 h3
        rw [up2_ne h3, up2_ne h2]
        exact g7 j h1 h2 h3
  exact key (c - p) c st hp (Nat.le_refl _) rfl rfl (fun _ _ => ⟨rfl, rfl⟩) (fun i h1 h2 => by omega) (fun _ _ _ _ => rfl)
theorem sp_srem {d c p : Nat} {st : St} {Q : Rn} (hc : st 5 2 = c) (hn : c ≤ 40) (hp : p < c) (h01 : ∀ i, i < c → ok01 (st 7 i))
    (hq : ∀ st' : St, st' 5 2 = (c - 1 : Nat) → (∀ i, i < c - 1 → st' 6 i = remF (st 6) p i) → (∀ i, i < c - 1 → st' 7 i = remF (st 7) p i) → (∀ j, j ≠ 5 → j ≠ 6 → j ≠ 7 → st' j = st j) → Q none st') : MS (d + 2) 242 [vr 5, vi p] st Q := by
  have k0 : kl 5 = 7 := rfl
  have k1 : kl 6 = 50 := rfl
  have l1 : len 6 = 40 := rfl
  have k2 : kl 7 = 52 := rfl
  have l2 : len 7 = 40 := rfl
  refine MS_v [vr 5, vi p, none] rfl rfl rfl rfl ?_
  try simp only [awu 242 0, pe242, xs, i_load, i_loadR, i_inc, lg, lp, true_and, and_true, List.length_cons, List.length_nil, Nat.reduceAdd, Nat.reduceLeDiff, Nat.zero_le, Int.toNat_natCast, natLit, k0]
  refine sp_shas hc hn ?_
  dsimp only
  rw [if_pos (by omega)]
  try simp only [awu 242 1, awu 242 2, pe242, xs, i_load, i_loadR, i_inc, lg, lp, true_and, and_true, List.length_cons, List.length_nil, Nat.reduceAdd, Nat.reduceLeDiff, Nat.zero_le, Int.toNat_natCast, natLit, k0, hc]
  refine ⟨fun h1 => ?_, fun h => absurd (by decide) h⟩
  clear h1
  rw [wr_id (by omega) (by omega)]
  have key : ∀ m k : Nat, ∀ st' : St, p ≤ k → k ≤ c - 1 → c - 1 - k = m → st' 5 2 = (c - 1 : Nat) → (∀ i, i < k → st' 6 i = remF (st 6) p i ∧ st' 7 i = remF (st 7) p i) → (∀ i, k ≤ i → i < c → st' 6 i = st 6 i ∧ st' 7 i = st 7 i) → (∀ j, j ≠ 5 → j ≠ 6 → j ≠ 7 → st' j = st j) → AW (P 242) Q (MS (d + 1)) 0 (fun _ => 0) 3 [vr 5, vi p, vi k] [] st' := by
    intro m
    induction m with
    | zero =>
      intro k st' g1 g2 g3 g4 g5 g6 g7
      have : k = c - 1 := by omega
      subst this
      rw [awu 242 3]
      try simp only [awu 242 5, pe242, xs, i_load, i_loadR, i_inc, lg, lp, true_and, and_true, List.length_cons, List.length_nil, Nat.reduceAdd, Nat.reduceLeDiff, Nat.zero_le, Int.toNat_natCast, natLit, k0, g4]
      exact ⟨fun _ => hq st' g4 (fun i hi => (g5 i hi).1) (fun i hi => (g5 i hi).2) g7, fun h => by omega⟩
    | succ m ih =>
      intro k st' g1 g2 g3 g4 g5 g6 g7
      have ek : wr ((k : Int) + 1) = ((k + 1 : Nat) : Int) := by rw [wr_id (by omega) (by omega)]; omega
      rw [awu 242 3]
      try simp only [awu 242 4, awu 242 5, pe242, xs, i_load, i_loadR, i_inc, lg, lp, true_and, and_true, List.length_cons, List.length_nil, Nat.reduceAdd, Nat.reduceLeDiff, Nat.zero_le, Int.toNat_natCast, natLit, k0, k1, l1, k2, l2, ek, g4]
      clear ek
      have hv : up2 st' 6 k (st' 6 (k + 1)) 7 (k + 1) = st 7 (k + 1) := by rw [up2_ne (by decide)]; exact (g6 _ (by omega) (by omega)).2
      refine ⟨fun h => by omega, fun _ => ⟨by omega, by omega, by omega, by omega, by rw [hv]; exact h01 _ (by omega), ?_⟩⟩
      rw [hv]
      refine ih (k + 1) _ (by omega) (by omega) (by omega) ?_ ?_ ?_ ?_
      · rw [up2_ne (by decide), up2_ne (by decide)]
        exact g4
      · intro i hi
        simp only [up2_at]
        by_cases e : i = k
        · subst e
          simp [(g6 (i + 1) (by omega) (by omega)).1, remF, show ¬ i < p by omega]
        · simp [e, g5 i (by omega)]
      · intro i h1 h2
        simp only [up2_at]
        simp [show i ≠ k by omega, g6 i (by omega) h2]
      · intro j h1 h2 h3
        rw [up2_ne h3, up2_ne h2]
        exact g7 j h1 h2 h3
  refine key (c - 1 - p) p _ (Nat.le_refl _) (by omega) rfl ?_ ?_ ?_ ?_
  · rw [up2_at]
    simp
    omega
  · intro i hi
    rw [up2_ne (by decide), up2_ne (by decide)]
    simp [remF, hi]
  · intro i _ _
    rw [up2_ne (by decide), up2_ne (by decide)]
    exact ⟨rfl, rfl⟩
  · intro j h1 _ _
    rw [up2_ne h1]
end
section
/-! the examples: the reference -/
theorem sp_mpl {d c : Nat} {st : St} {n w : Nat} {Q : Rn} (hc : st 99 8 = c) (hn : c ≤ 40) (h1 : ∀ i, i < c → 0 ≤ st 102 i ∧ st 102 i < 1048576) (hw : w < 1048576) (hq : ∀ p, IsPl (fun i => st 101 i * 1048576 + st 102 i) c ((n * 1048576 + w : Nat) : Int) p → Q (vi (p : Nat)) st) : MS (d + 2) 50 [vr 99, vi n, vi w] st Q := by
  have k0 : kl 99 = 12 := rfl
  have k1 : kl 101 = 50 := rfl
  have l1 : len 101 = 40 := rfl
  have k2 : kl 102 = 50 := rfl
  have l2 : len 102 = 40 := rfl
  refine MS_v [vr 99, vi n, vi w, none] rfl rfl rfl rfl ?_
  try simp only [awu 50 0, pe50, xs, i_load, i_loadR, i_inc, lg, lp, true_and, and_true, List.length_cons, List.length_nil, Nat.reduceAdd, Nat.reduceLeDiff, Nat.zero_le, Int.toNat_natCast, natLit, k0]
  have key : ∀ m k : Nat, k ≤ c → c - k = m → (∀ i, i < k → st 101 i * 1048576 + st 102 i < ((n * 1048576 + w : Nat) : Int)) → AW (P 50) Q (MS (d + 1)) 0 (fun _ => 0) 1 [vr 99, vi n, vi w, vi k] [] st := by
    intro m
    induction m with
    | zero =>
      intro k g1 g2 g3
      rw [awu 50 1]
      try simp only [awu 50 2, awu 50 4, pe50, xs, i_load, i_loadR, i_inc, lg, lp, true_and, and_true, List.length_cons, List.length_nil, Nat.reduceAdd, Nat.reduceLeDiff, Nat.zero_le, Int.toNat_natCast, natLit, k0, k1, l1, k2, l2, hc]
      exact ⟨fun _ => hq k ⟨g1, g3, fun h => by omega⟩, fun h => by omega⟩
    | succ m ih =>
      intro k g1 g2 g3
      have hb := h1 k (by omega)
      rw [awu 50 1]
      try simp only [awu 50 2, awu 50 4, pe50, xs, i_load, i_loadR, i_inc, lg, lp, true_and, and_true, List.length_cons, List.length_nil, Nat.reduceAdd, Nat.reduceLeDiff, Nat.zero_le, Int.toNat_natCast, natLit, k0, k1, l1, k2, l2, hc]
      refine ⟨fun h => by omega, fun _ => ⟨by omega, by omega, sp_ahead ?_⟩⟩
      dsimp only
      by_cases ha : st 101 k * 1048576 + st 102 k < ((n * 1048576 + w : Nat) : Int)
      · rw [if_pos (by omega)]
        try simp only [awu 50 3, awu 50 4, pe50, xs, i_load, i_loadR, i_inc, lg, lp, true_and, and_true, List.length_cons, List.length_nil, Nat.reduceAdd, Nat.reduceLeDiff, Nat.zero_le, Int.toNat_natCast, natLit, k0]
        refine ⟨fun h => absurd h (by decide), fun h1 => ?_⟩
        clear h1
        rw [wr_id (by omega) (by omega)]
        refine ih (k + 1) (by omega) (by omega) (fun i hi => ?_)
        by_cases e : i = k
        · subst e; exact ha
        · exact g3 i (by omega)
      · rw [if_neg (by omega)]
        try simp only [awu 50 3, awu 50 4, pe50, xs, i_load, i_loadR, i_inc, lg, lp, true_and, and_true, List.length_cons, List.length_nil, Nat.reduceAdd, Nat.reduceLeDiff, Nat.zero_le, Int.toNat_natCast, natLit, k0]
        exact ⟨fun _ => hq k ⟨g1, g3, fun _ => by show _ ≤ st 101 k * 1048576 + st 102 k; omega⟩, fun h => absurd trivial h⟩
  exact key c 0 (Nat.zero_le _) rfl (fun i hi => by omega)
theorem sp_mthere {d c : Nat} {st : St} {k n w : Int} {Q : Rn} (hc : st 99 8 = c) (hn : c ≤ 40) (hk : 0 ≤ k) (hq : Q (vi (if k < c ∧ st 101 k.toNat = n ∧ st 102 k.toNat = w then 1 else 0)) st) : MS (d + 1) 51 [vr 99, vi k, vi n, vi w] st Q := by
  have k0 : kl 99 = 12 := rfl
  have k1 : kl 101 = 50 := rfl
  have l1 : len 101 = 40 := rfl
  have k2 : kl 102 = 50 := rfl
  have l2 : len 102 = 40 := rfl
  refine MS_v [vr 99, vi k, vi n, vi w] rfl rfl rfl rfl ?_
  try simp only [awu 51 0, awu 51 1, awu 51 2, awu 51 3, awu 51 4, awu 51 5, pe51, xs, i_load, i_loadR, i_inc, lg, lp, true_and, and_true, List.length_cons, List.length_nil, Nat.reduceAdd, Nat.reduceLeDiff, Nat.zero_le, Int.toNat_natCast, natLit, k0, k1, l1, k2, l2, hc]
  refine ⟨fun a => ?_, fun a => ⟨by omega, fun b => ?_, fun b => ⟨by omega, fun g => ?_, fun g => ?_⟩⟩⟩
  · rw [if_neg (by omega)] at hq
    exact ⟨ok01_0, hq⟩
  · rw [if_neg (by omega)] at hq
    exact ⟨ok01_0, hq⟩
  · rw [if_neg (by omega)] at hq
    exact ⟨ok01_0, hq⟩
  · rw [if_pos (by omega)] at hq
    exact ⟨ok01_1, hq⟩
def mv3 (st : St) (a b : Nat) : St := up2 (up2 (up2 st 101 b (st 101 a)) 102 b (st 102 a)) 103 b (st 103 a)
theorem sp_move {d a b : Nat} {st : St} {Q : Rn} (ha : a < 40) (hb : b < 40) (h01 : ok01 (st 103 a)) (hq : Q none (mv3 st a b)) : MS (d + 1) 53 [vr 99, vi a, vi b] st Q := by
  have k0 : kl 99 = 12 := rfl
  have k1 : kl 101 = 50 := rfl
  have l1 : len 101 = 40 := rfl
  have k2 : kl 102 = 50 := rfl
  have l2 : len 102 = 40 := rfl
  have k3 : kl 103 = 52 := rfl
  have l3 : len 103 = 40 := rfl
  refine MS_v [vr 99, vi a, vi b] rfl rfl rfl rfl ?_
  try simp only [awu 53 0, pe53, xs, i_load, i_loadR, i_inc, lg, lp, true_and, and_true, List.length_cons, List.length_nil, Nat.reduceAdd, Nat.reduceLeDiff, Nat.zero_le, Int.toNat_natCast, natLit, k0, k1, l1, k2, l2, k3, l3]
  have e1 : up2 st 101 b (st 101 a) 102 a = st 102 a := by rw [up2_ne (by decide)]
  have e2 : up2 (up2 st 101 b (st 101 a)) 102 b (st 102 a) 103 a = st 103 a := by rw [up2_ne (by decide), up2_ne (by decide)]
  rw [e1, e2]
  exact ⟨by omega, by omega, by omega, by omega, by omega, by omega, h01, hq⟩
theorem mv3_at {st : St} {a b k j : Nat} : mv3 st a b k j = if (k = 101 ∨ k = 102 ∨ k = 103) ∧ j = b then st k a else st k j := by
  unfold mv3
  simp only [up2_at]
  by_cases h1 : k = 103
  · subst h1
    by_cases hj : j = b <;> simp [hj]
  · by_cases h2 : k = 102
    · subst h2
      by_cases hj : j = b <;> simp [hj]
    · by_cases h3 : k = 101
      · subst h3
        by_cases hj : j = b <;> simp [hj]
      · simp [h1, h2, h3]
theorem sp_mins {d c p : Nat} {st : St} {n w b : Int} {Q : Rn} (hc : st 99 8 = c) (hn : c < 40) (hp : p ≤ c) (hb : ok01 b) (h01 : ∀ i, i < c → ok01 (st 103 i))
    (hq : ∀ st' : St, st' 99 8 = (c + 1 : Nat) → (∀ i, i ≤ c → st' 101 i = insF (st 101) p n i) → (∀ i, i ≤ c → st' 102 i = insF (st 102) p w i) → (∀ i, i ≤ c → st' 103 i = insF (st 103) p b i) → (∀ j i, ¬ (j = 99 ∧ i = 8) → j ≠ 101 → j ≠ 102 → j ≠ 103 → st' j i = st j i) → Q none st') : MS (d + 2) 52 [vr 99, vi p, vi n, vi w, vi b] st Q := by
  have k0 : kl 99 = 12 := rfl
  have k1 : kl 101 = 50 := rfl
  have l1 : len 101 = 40 := rfl
  have k2 : kl 102 = 50 := rfl
  have l2 : len 102 = 40 := rfl
  have k3 : kl 103 = 52 := rfl
  have l3 : len 103 = 40 := rfl
  refine MS_v [vr 99, vi p, vi n, vi w, vi b, none] rfl rfl rfl rfl ?_
  try simp only [awu 52 0, pe52, xs, i_load, i_loadR, i_inc, lg, lp, true_and, and_true, List.length_cons, List.length_nil, Nat.reduceAdd, Nat.reduceLeDiff, Nat.zero_le, Int.toNat_natCast, natLit, k0, hc]
  have key : ∀ m k : Nat, ∀ st' : St, p ≤ k → k ≤ c → k - p = m → (∀ j i, i < k → st' j i = st j i) → (∀ j i, j = 101 ∨ j = 102 ∨ j = 103 → k < i → i ≤ c → st' j i = st j (i - 1)) → (∀ j, j ≠ 101 → j ≠ 102 → j ≠ 103 → st' j = st j) → AW (P 52) Q (MS (d + 1)) 0 (fun _ => 0) 1 [vr 99, vi p, vi n, vi w, vi b, vi k] [] st' := by
    intro m
    induction m with
    | zero =>
      intro k st' g1 g2 g3 g5 g6 g7
      have : k = p := by omega
      subst this
      have hc' : st' 99 8 = c := by rw [g7 99 (by decide) (by decide) (by decide)]; exact hc
      rw [awu 52 1]
      try simp only [awu 52 3, pe52, xs, i_load, i_loadR, i_inc, lg, lp, true_and, and_true, List.length_cons, List.length_nil, Nat.reduceAdd, Nat.reduceLeDiff, Nat.zero_le, Int.toNat_natCast, natLit, k0, k1, l1, k2, l2, k3, l3]
      refine ⟨fun _ => ⟨by omega, by omega, by omega, hb, ?_⟩, fun h => by omega⟩
      have ew : wr ((c : Int) + 1) = ((c + 1 : Nat) : Int) := by rw [wr_id (by omega) (by omega)]; omega
      apply hq
      · simp only [up2_at, if_true, hc']
        exact ew
      · intro i hi
        simp only [up2_at]
        unfold insF
        by_cases e : i = k
        · simp [e]
        · by_cases e2 : i < k
          · simp [e, e2, g5 101 i e2]
          · simp [e, e2, g6 101 i (by simp) (by omega) hi]
      · intro i hi
        simp only [up2_at]
        unfold insF
        by_cases e : i = k
        · simp [e]
        · by_cases e2 : i < k
          · simp [e, e2, g5 102 i e2]
          · simp [e, e2, g6 102 i (by simp) (by omega) hi]
      · intro i hi
        simp only [up2_at]
        unfold insF
        by_cases e : i = k
        · simp [e]
        · by_cases e2 : i < k
          · simp [e, e2, g5 103 i e2]
          · simp [e, e2, g6 103 i (by simp) (by omega) hi]
      · intro j i h1 h2 h3 h4
        simp only [up2_at]
        by_cases e : j = 99
        · subst e
          have : i ≠ 8 := fun e => h1 ⟨rfl, e⟩
          simp [this, g7 99]
        · simp [e, h2, h3, h4, g7 j h2 h3 h4]
    | succ m ih =>
      intro k st' g1 g2 g3 g5 g6 g7
      have ek : wr ((k : Int) - 1) = ((k - 1 : Nat) : Int) := by rw [wr_id (by omega) (by omega)]; omega
      have ek2 : wr ((k : Int) + -1) = ((k - 1 : Nat) : Int) := by rw [wr_id (by omega) (by omega)]; omega
      rw [awu 52 1]
      try simp only [awu 52 2, pe52, xs, i_load, i_loadR, i_inc, lg, lp, true_and, and_true, List.length_cons, List.length_nil, Nat.reduceAdd, Nat.reduceLeDiff, Nat.zero_le, Int.toNat_natCast, natLit, k0, ek, ek2]
      clear ek ek2
      refine ⟨fun h => by omega, fun _ => sp_move (by omega) (by omega) (by rw [g5 103 _ (by omega)]; exact h01 _ (by omega)) ?_⟩
      dsimp only
      refine ih (k - 1) _ (by omega) (by omega) (by omega) ?_ ?_ ?_
      · intro j i hi
        rw [mv3_at, if_neg (by omega)]
        exact g5 j i (by omega)
      · intro j i hj h1 h2
        rw [mv3_at]
        by_cases e : i = k
        · subst e
          rw [if_pos ⟨hj, rfl⟩]
          exact g5 j _ (by omega)
        · rw [if_neg (by omega)]
          exact g6 j i hj (by omega) h2
      · intro j h1 h2 h3
        funext i
        rw [mv3_at, if_neg (by omega)]
        exact congrFun (g7 j h1 h2 h3) i
  exact key (c - p) c st hp (Nat.le_refl _) rfl (fun _ _ _ => rfl) (fun j i _ h1 h2 => by omega) (fun _ _ _ _ => rfl)
theorem sp_mrem {d c p : Nat} {st : St} {Q : Rn} (hc : st 99 8 = c) (hn : c ≤ 40) (hp : p < c) (h01 : ∀ i, i < c → ok01 (st 103 i))
    (hq : ∀ st' : St, st' 99 8 = (c - 1 : Nat) → (∀ j i, j = 101 ∨ j = 102 ∨ j = 103 → i < c - 1 → st' j i = remF (st j) p i) → (∀ j i, ¬ (j = 99 ∧ i = 8) → j ≠ 101 → j ≠ 102 → j ≠ 103 → st' j i = st j i) → Q none st') : MS (d + 2) 54 [vr 99, vi p] st Q := by
  have k0 : kl 99 = 12 := rfl
  refine MS_v [vr 99, vi p, none] rfl rfl rfl rfl ?_
  try simp only [awu 54 0, pe54, xs, i_load, i_loadR, i_inc, lg, lp, true_and, and_true, List.length_cons, List.length_nil, Nat.reduceAdd, Nat.reduceLeDiff, Nat.zero_le, Int.toNat_natCast, natLit, k0, hc]
  rw [wr_id (by omega) (by omega)]
  have key : ∀ m k : Nat, ∀ st' : St, p ≤ k → k ≤ c - 1 → c - 1 - k = m → st' 99 8 = (c - 1 : Nat) → (∀ j i, j = 101 ∨ j = 102 ∨ j = 103 → i < k → st' j i = remF (st j) p i) → (∀ j i, j = 101 ∨ j = 102 ∨ j = 103 → k ≤ i → st' j i = st j i) → (∀ j i, ¬ (j = 99 ∧ i = 8) → j ≠ 101 → j ≠ 102 → j ≠ 103 → st' j i = st j i) → AW (P 54) Q (MS (d + 1)) 0 (fun _ => 0) 1 [vr 99, vi p, vi k] [] st' := by
    intro m
    induction m with
    | zero =>
      intro k st' g1 g2 g3 g4 g5 g6 g7
      have : k = c - 1 := by omega
      subst this
      rw [awu 54 1]
      try simp only [awu 54 3, pe54, xs, i_load, i_loadR, i_inc, lg, lp, true_and, and_true, List.length_cons, List.length_nil, Nat.reduceAdd, Nat.reduceLeDiff, Nat.zero_le, Int.toNat_natCast, natLit, k0, g4]
      exact ⟨fun _ => hq st' g4 g5 g7, fun h => by omega⟩
    | succ m ih =>
      intro k st' g1 g2 g3 g4 g5 g6 g7
      have ek : wr ((k : Int) + 1) = ((k + 1 : Nat) : Int) := by rw [wr_id (by omega) (by omega)]; omega
      rw [awu 54 1]
      try simp only [awu 54 2, pe54, xs, i_load, i_loadR, i_inc, lg, lp, true_and, and_true, List.length_cons, List.length_nil, Nat.reduceAdd, Nat.reduceLeDiff, Nat.zero_le, Int.toNat_natCast, natLit, k0, ek, g4]
      clear ek
      refine ⟨fun h => by omega, fun _ => sp_move (by omega) (by omega) (by rw [g6 103 _ (by simp) (by omega)]; exact h01 _ (by omega)) ?_⟩
      dsimp only
      refine ih (k + 1) _ (by omega) (by omega) (by omega) ?_ ?_ ?_ ?_
      · rw [mv3_at, if_neg (by omega)]
        exact g4
      · intro j i hj hi
        rw [mv3_at]
        by_cases e : i = k
        · subst e
          rw [if_pos ⟨hj, rfl⟩, g6 j _ hj (by omega)]
          simp [remF, show ¬ i < p by omega]
        · rw [if_neg (by omega)]
          exact g5 j i hj (by omega)
      · intro j i hj hi
        rw [mv3_at, if_neg (by omega)]
        exact g6 j i hj (by omega)
      · intro j i h0 h1 h2 h3
        rw [mv3_at, if_neg (by omega)]
        exact g7 j i h0 h1 h2 h3
  refine key (c - 1 - p) p _ (Nat.le_refl _) (by omega) rfl ?_ ?_ ?_ ?_
  · rw [up2_at, if_pos rfl, if_pos rfl]
    omega
  · intro j i hj hi
    rw [up2_at, if_neg (by omega)]
    simp [remF, hi]
  · intro j i hj _
    rw [up2_at, if_neg (by omega)]
  · intro j i h0 _ _ _
    rw [up2_at]
    by_cases e : j = 99
    · subst e
      rw [if_pos rfl, if_neg (fun e => h0 ⟨rfl, e⟩)]
    · rw [if_neg e]
theorem sp_inMany {d c : Nat} {st : St} {Q : Rn} (hc : st 99 8 = c) (hn : c ≤ 40) (h01 : ∀ i, i < c → ok01 (st 103 i)) (hq : Q (vi (sumF (st 103) c)) st) : MS (d + 1) 85 [vr 99] st Q := by
  have k0 : kl 99 = 12 := rfl
  have k3 : kl 103 = 52 := rfl
  have l3 : len 103 = 40 := rfl
  refine MS_v [vr 99, none, none] rfl rfl rfl rfl ?_
  try simp only [awu 85 0, pe85, xs, i_load, i_loadR, i_inc, lg, lp, true_and, and_true, List.length_cons, List.length_nil, Nat.reduceAdd, Nat.reduceLeDiff, Nat.zero_le, Int.toNat_natCast, natLit, k0]
  have key : ∀ m k : Nat, k ≤ c → c - k = m → AW (P 85) Q (MS d) 0 (fun _ => 0) 1 [vr 99, vi (sumF (st 103) k), vi k] [] st := by
    intro m
    induction m with
    | zero =>
      intro k g1 g2
      have : k = c := by omega
      subst this
      rw [awu 85 1]
      try simp only [awu 85 2, awu 85 6, pe85, xs, i_load, i_loadR, i_inc, lg, lp, true_and, and_true, List.length_cons, List.length_nil, Nat.reduceAdd, Nat.reduceLeDiff, Nat.zero_le, Int.toNat_natCast, natLit, k0, k3, l3, hc]
      exact ⟨fun _ => hq, fun h => by omega⟩
    | succ m ih =>
      intro k g1 g2
      have hs := sumF_b h01 k (by omega)
      rw [awu 85 1]
      try simp only [awu 85 2, awu 85 3, awu 85 4, awu 85 5, awu 85 6, pe85, xs, i_load, i_loadR, i_inc, lg, lp, true_and, and_true, List.length_cons, List.length_nil, Nat.reduceAdd, Nat.reduceLeDiff, Nat.zero_le, Int.toNat_natCast, natLit, k0, k3, l3, hc]
      refine ⟨fun h => by omega, fun _ => ⟨by omega, ?_⟩⟩
      have e1 : sumF (st 103) (k + 1) = sumF (st 103) k + st 103 k := rfl
      have ih' := ih (k + 1) (by omega) (by omega)
      refine ⟨fun h => ?_, fun h => ?_⟩
      · rw [e1, h] at ih'
        rw [wr_id (x := sumF (st 103) k + 0) (by omega) (by omega), wr_id (by omega) (by omega)]
        exact ih'
      · have h1 : st 103 k = 1 := by rcases h01 k (by omega) with e | e <;> omega
        rw [e1, h1] at ih'
        rw [wr_id (x := sumF (st 103) k + 1) (by omega) (by omega), wr_id (by omega) (by omega)]
        exact ih'
  exact key c 0 (Nat.zero_le _) rfl
end
section
/-! rising rows of numbers; beginnings of words -/
def Srt (f : Nat → Nat) (n : Nat) : Prop := ∀ i j, i < j → j < n → f i < f j
def Mm (f : Nat → Nat) (n x : Nat) : Prop := ∃ i, i < n ∧ f i = x
def Cp (m : Nat) (S : Nat → Prop) : Prop := ∀ (f : Nat → Nat) (n : Nat), Srt f n → (∀ i, i < n → S (f i)) → n ≤ m
def insN (f : Nat → Nat) (p v i : Nat) : Nat := if i < p then f i else if i = p then v else f (i - 1)
theorem Srt_ins {f : Nat → Nat} {n p v : Nat} (h : Srt f n) (hp : p ≤ n) (h1 : ∀ i, i < p → f i < v) (h2 : ∀ i, p ≤ i → i < n → v < f i) : Srt (insN f p v) (n + 1) := by
  intro i j hij hj
  unfold insN
  by_cases a : i < p
  · rw [if_pos a]
    by_cases b : j < p
    · rw [if_pos b]
      exact h i j hij (by omega)
    · rw [if_neg b]
      by_cases c : j = p
      · rw [if_pos c]
        exact h1 i a
      · rw [if_neg c]
        exact Nat.lt_trans (h1 i a) (h2 (j - 1) (by omega) (by omega))
  · rw [if_neg a, if_neg (show ¬ j < p by omega), if_neg (show ¬ j = p by omega)]
    by_cases c : i = p
    · rw [if_pos c]
      exact h2 (j - 1) (by omega) (by omega)
    · rw [if_neg c]
      exact h (i - 1) (j - 1) (by omega) (by omega)
theorem Mm_ins {f : Nat → Nat} {n p v x : Nat} (hp : p ≤ n) : Mm (insN f p v) (n + 1) x ↔ Mm f n x ∨ x = v := by
  constructor
  · rintro ⟨i, hi, rfl⟩
    unfold insN
    by_cases a : i < p
    · rw [if_pos a]
      exact Or.inl ⟨i, by omega, rfl⟩
    · rw [if_neg a]
      by_cases c : i = p
      · rw [if_pos c]
        exact Or.inr rfl
      · rw [if_neg c]
        exact Or.inl ⟨i - 1, by omega, rfl⟩
  · rintro (⟨i, hi, rfl⟩ | rfl)
    · by_cases a : i < p
      · exact ⟨i, by omega, by unfold insN; rw [if_pos a]⟩
      · exact ⟨i + 1, by omega, by unfold insN; rw [if_neg (by omega), if_neg (by omega)]; rfl⟩
    · exact ⟨p, by omega, by unfold insN; rw [if_neg (by omega), if_pos rfl]⟩
theorem Srt_le {f : Nat → Nat} {n i j : Nat} (h : Srt f n) (hij : i ≤ j) (hj : j < n) : f i ≤ f j := by
  rcases Nat.lt_or_ge i j with a | a
  · exact Nat.le_of_lt (h i j a hj)
  · rw [show i = j by omega]
    exact Nat.le_refl _
theorem Srt_inj {f : Nat → Nat} {n i j : Nat} (h : Srt f n) (hi : i < n) (hj : j < n) (e : f i = f j) : i = j := by
  rcases Nat.lt_trichotomy i j with a | a | a
  · have := h i j a hj; omega
  · exact a
  · have := h j i a hi; omega
theorem Srt_ix {f g : Nat → Nat} {n m : Nat} (hf : Srt f n) (hg : Srt g m) (hm : ∀ i, i < n → Mm g m (f i)) : ∀ i, i < n → ∀ j, j < m → g j = f i → i ≤ j
  | 0, _, _, _, _ => Nat.zero_le _
  | i + 1, hi, j, hj, e => by
    obtain ⟨j', hj', e'⟩ := hm i (by omega)
    have ih := Srt_ix hf hg hm i (by omega) j' hj' e'
    have h1 := hf i (i + 1) (by omega) hi
    rcases Nat.lt_or_ge j' j with a | a
    · omega
    · have := Srt_le hg a hj'
      omega
theorem Cp_mm {g : Nat → Nat} {m : Nat} (hg : Srt g m) : Cp m (Mm g m) := by
  intro f n hf hm
  cases n with
  | zero => exact Nat.zero_le _
  | succ n =>
    obtain ⟨j, hj, e⟩ := hm n (by omega)
    have := Srt_ix hf hg hm n (by omega) j hj e
    omega
theorem Cp_sub {m : Nat} {S S' : Nat → Prop} (h : Cp m S) (hs : ∀ x, S' x → S x) : Cp m S' := fun f n hf hm => h f n hf (fun i hi => hs _ (hm i hi))
theorem Cp_le {m m' : Nat} {S : Nat → Prop} (h : Cp m S) (hm : m ≤ m') : Cp m' S := fun f n hf h1 => Nat.le_trans (h f n hf h1) hm
theorem Cp_add {m v : Nat} {S : Nat → Prop} (h : Cp m S) : Cp (m + 1) (fun x => S x ∨ x = v) := by
  intro f n hf hm
  by_cases he : ∃ i, i < n ∧ f i = v
  · obtain ⟨i, hi, e⟩ := he
    have := h (fun j => if j < i then f j else f (j + 1)) (n - 1) (fun a b hab hb => by
      dsimp only
      by_cases h1 : a < i
      · rw [if_pos h1]
        by_cases h2 : b < i
        · rw [if_pos h2]; exact hf a b hab (by omega)
        · rw [if_neg h2]; exact hf a (b + 1) (by omega) (by omega)
      · rw [if_neg h1, if_neg (by omega)]
        exact hf (a + 1) (b + 1) (by omega) (by omega)) (fun j hj => by
      show S (if j < i then f j else f (j + 1))
      by_cases h1 : j < i
      · rw [if_pos h1]
        rcases hm j (by omega) with q | q
        · exact q
        · have := hf j i h1 hi; omega
      · rw [if_neg h1]
        rcases hm (j + 1) (by omega) with q | q
        · exact q
        · have := hf i (j + 1) (by omega) (by omega); omega)
    omega
  · have := h f n hf (fun i hi => (hm i hi).resolve_right (fun q => he ⟨i, hi, q⟩))
    omega
theorem Srt_uniq {f g : Nat → Nat} {n m : Nat} (hf : Srt f n) (hg : Srt g m) (h : ∀ x, Mm f n x ↔ Mm g m x) : n = m ∧ ∀ i, i < n → f i = g i := by
  have h1 : ∀ i, i < n → Mm g m (f i) := fun i hi => (h _).mp ⟨i, hi, rfl⟩
  have h2 : ∀ i, i < m → Mm f n (g i) := fun i hi => (h _).mpr ⟨i, hi, rfl⟩
  have e : n = m := Nat.le_antisymm (Cp_mm hg f n hf h1) (Cp_mm hf g m hg h2)
  subst e
  refine ⟨rfl, fun i hi => ?_⟩
  obtain ⟨j, hj, ej⟩ := h1 i hi
  obtain ⟨k, hk, ek⟩ := h2 i hi
  have a := Srt_le hg (Srt_ix hf hg h1 i hi j hj ej) hj
  have b := Srt_le hf (Srt_ix hg hf h2 i hi k hk ek) hk
  omega
/-- the place of a word in a rising row -/
theorem IsPl_mm {f : Nat → Nat} {n p w : Nat} (hf : Srt f n) (hp : IsPl (fun i => (f i : Int)) n (w : Int) p) : (Mm f n w ↔ p < n ∧ f p = w) := by
  obtain ⟨h1, h2, h3⟩ := hp
  constructor
  · rintro ⟨i, hi, e⟩
    have hip : p ≤ i := by
      rcases Nat.lt_or_ge i p with a | a
      · have := h2 i a; dsimp only at this; omega
      · exact a
    have h4 := h3 (by omega)
    have h5 := Srt_le hf hip hi
    dsimp only at h4
    exact ⟨by omega, by omega⟩
  · rintro ⟨a, b⟩
    exact ⟨p, a, b⟩
/-! beginnings -/
def wf (w : Nat) : Prop := wl w ≤ 10 ∧ wc w < 4 ^ wl w
theorem okw_wf {a w : Nat} (h : okw a w) : wf w := ⟨h.1, h.2.1⟩
theorem wf_lt {w : Nat} (h : wf w) : w < 11534336 := by
  have := h.1
  unfold wl at this
  omega
theorem pw4 {n : Nat} (h : n ≤ 10) : 4 ^ n ≤ 1048576 := (Nat.pow_le_pow_right (by decide) h : 4 ^ n ≤ 4 ^ 10)
theorem pw42 (n : Nat) : (2 : Nat) ^ (2 * n) = 4 ^ n := by rw [Nat.pow_mul]
theorem bgc {w n : Nat} (h : wf w) (hn : n ≤ wl w) : wc w / 2 ^ (2 * (wl w - n)) < 4 ^ n := by
  rw [pw42]
  apply Nat.div_lt_of_lt_mul
  rw [← Nat.pow_add, show wl w - n + n = wl w by omega]
  exact h.2
theorem wl_bg {w n : Nat} (h : wf w) (hn : n ≤ wl w) : wl (bg w n) = n := by
  have h1 := bgc h hn
  have h2 := pw4 (n := n) (by have := h.1; omega)
  unfold bg
  generalize wc w / 2 ^ (2 * (wl w - n)) = c at h1 ⊢
  unfold wl
  omega
theorem wc_bg {w n : Nat} (h : wf w) (hn : n ≤ wl w) : wc (bg w n) = wc w / 2 ^ (2 * (wl w - n)) := by
  have h1 := bgc h hn
  have h2 := pw4 (n := n) (by have := h.1; omega)
  unfold bg
  generalize wc w / 2 ^ (2 * (wl w - n)) = c at h1 ⊢
  unfold wc
  omega
theorem wf_bg {w n : Nat} (h : wf w) (hn : n ≤ wl w) : wf (bg w n) := by
  refine ⟨by rw [wl_bg h hn]; have := h.1; omega, ?_⟩
  rw [wl_bg h hn, wc_bg h hn]
  exact bgc h hn
theorem bg_bg {w n m : Nat} (h : wf w) (hn : n ≤ wl w) (hm : m ≤ n) : bg (bg w n) m = bg w m := by
  have e : bg (bg w n) m = m * 1048576 + wc (bg w n) / 2 ^ (2 * (wl (bg w n) - m)) := rfl
  rw [e, wl_bg h hn, wc_bg h hn, Nat.div_div_eq_div_mul, ← Nat.pow_add, show 2 * (wl w - n) + 2 * (n - m) = 2 * (wl w - m) by omega]
  rfl
theorem bg_self {w : Nat} : bg w (wl w) = w := by
  unfold bg
  rw [Nat.sub_self, Nat.mul_zero, Nat.pow_zero, Nat.div_one]
  unfold wl wc
  omega
theorem bg_0 {w : Nat} (h : wf w) : bg w 0 = 0 := by
  have := bgc h (Nat.zero_le _)
  unfold bg
  rw [Nat.pow_zero] at this
  generalize wc w / 2 ^ (2 * (wl w - 0)) = c at this ⊢
  omega
theorem bg_lt {w n m : Nat} (h : wf w) (hn : n ≤ wl w) (hm : m < n) : bg w m < bg w n := by
  have h1 := wl_bg h hn
  have h2 := wl_bg h (show m ≤ wl w by omega)
  unfold wl at h1 h2
  omega
/-- a word is its beginning and its last letter -/
theorem bg_lw {w : Nat} (h : wf w) (h0 : 0 < wl w) : lw (bg w (wl w - 1)) (w % 4) = w := by
  have h1 := wl_bg h (show wl w - 1 ≤ wl w by omega)
  have h2 := wc_bg h (show wl w - 1 ≤ wl w by omega)
  have h3 := bgc h (show wl w - 1 ≤ wl w by omega)
  have h4 := pw4 (n := wl w - 1) (by have := h.1; omega)
  have h5 : 4 ^ (wl w - 1) ≤ 4 ^ 9 := Nat.pow_le_pow_right (by decide) (by have := h.1; omega)
  rw [show 2 * (wl w - (wl w - 1)) = 2 by omega] at h2 h3
  have e : lw (bg w (wl w - 1)) (w % 4) = (wl (bg w (wl w - 1)) + 1) * 1048576 + (wc (bg w (wl w - 1)) * 4) % 1048576 + w % 4 := rfl
  rw [e, h1, h2]
  have h6 := wc_lt w
  have e2 : w = wl w * 1048576 + wc w := by unfold wl wc; omega
  have e3 : w % 4 = wc w % 4 := by unfold wc; omega
  rw [e3]
  have e4 : (2 : Nat) ^ 2 = 4 := rfl
  rw [e4] at h3 ⊢
  omega
theorem lw_bg {w l : Nat} (h : wf w) (hn : wl w ≤ 9) (hl : l < 4) : wf (lw w l) ∧ wl (lw w l) = wl w + 1 ∧ bg (lw w l) (wl w) = w ∧ lw w l % 4 = l := by
  have hp : 4 ^ wl w ≤ 4 ^ 9 := Nat.pow_le_pow_right (by decide) hn
  have hc := h.2
  have e1 := wl_lw (w := w) (l := l) hl
  have e2 := wc_lw (w := w) (l := l) hl (by omega)
  refine ⟨⟨by omega, by rw [e1, e2, Nat.pow_succ]; omega⟩, e1, ?_, ?_⟩
  · have e : bg (lw w l) (wl w) = wl w * 1048576 + wc (lw w l) / 2 ^ (2 * (wl (lw w l) - wl w)) := rfl
    rw [e, e1, e2, show 2 * (wl w + 1 - wl w) = 2 by omega]
    have : w = wl w * 1048576 + wc w := by unfold wl wc; omega
    omega
  · unfold lw
    omega
end
section
/-! the tree of the class -/
def isTr (o : Nat) : Prop := kl o = 9 ∧ ar (o + 1) 120 ∧ ar (o + 2) 120 ∧ ar (o + 3) 120 ∧ ar (o + 4) 480
theorem isTr_8 : isTr 8 := ⟨rfl, ⟨rfl, rfl⟩, ⟨rfl, rfl⟩, ⟨rfl, rfl⟩, ⟨rfl, rfl⟩⟩
theorem isTr_31 : isTr 31 := ⟨rfl, ⟨rfl, rfl⟩, ⟨rfl, rfl⟩, ⟨rfl, rfl⟩, ⟨rfl, rfl⟩⟩
theorem sp_thas {d o n : Nat} {st : St} {k : Int} {Q : Rn} (ho : isTr o) (hc : st o 4 = n) (hn : n ≤ 120) (hq : Q (vi (if 0 ≤ k ∧ k < n then 1 else 0)) st) : MS (d + 1) 251 [vr o, vi k] st Q := by
  have k0 := ho.1
  refine MS_v [vr o, vi k] rfl rfl k0 rfl ?_
  try simp only [awu 251 0, awu 251 1, awu 251 2, awu 251 3, awu 251 4, awu 251 5, pe251, xs, i_load, i_loadR, i_inc, lg, lp, true_and, and_true, List.length_cons, List.length_nil, Nat.reduceAdd, Nat.reduceLeDiff, Nat.zero_le, Int.toNat_natCast, natLit, k0, hc]
  refine ⟨fun a => ?_, fun a => ⟨fun b => ?_, fun b => ⟨fun g => by omega, fun g => ?_⟩⟩⟩
  · rw [if_neg (by omega)] at hq
    exact ⟨ok01_0, hq⟩
  · rw [if_neg (by omega)] at hq
    exact ⟨ok01_0, hq⟩
  · rw [if_pos (by omega)] at hq
    exact ⟨ok01_1, hq⟩
theorem sp_tpl {d o n : Nat} {st : St} {f : Nat → Nat} {w : Nat} {Q : Rn} (ho : isTr o) (hc : st o 4 = n) (hn : n ≤ 120) (hf : ∀ k, k < n → st (o + 1) k = f k) (hs : Srt f n) (hq : ∀ p, IsPl (fun i => (f i : Int)) n w p → Q (vi (p : Nat)) st) : MS (d + 1) 255 [vr o, vi w] st Q := by
  obtain ⟨k0, ⟨k1, l1⟩, -⟩ := ho
  refine MS_v [vr o, vi w, none, none, none] rfl rfl k0 rfl ?_
  try simp only [awu 255 0, pe255, xs, i_load, i_loadR, i_inc, lg, lp, true_and, and_true, List.length_cons, List.length_nil, Nat.reduceAdd, Nat.reduceLeDiff, Nat.zero_le, Int.toNat_natCast, natLit, k0, hc]
  rw [if_pos (by omega)]
  have key : ∀ m lo hi : Nat, ∀ u, lo ≤ hi → hi ≤ n → hi - lo ≤ m → (∀ i, i < lo → f i < w) → (∀ i, hi ≤ i → i < n → w ≤ f i) → AW (P 255) Q (MS d) 0 (fun _ => 0) 1 [vr o, vi w, vi lo, vi hi, u] [] st := by
    intro m
    induction m with
    | zero =>
      intro lo hi u g1 g2 g3 g4 g5
      have : lo = hi := by omega
      subst this
      rw [awu 255 1]
      try simp only [awu 255 6, pe255, xs, i_load, i_loadR, i_inc, lg, lp, true_and, and_true, List.length_cons, List.length_nil, Nat.reduceAdd, Nat.reduceLeDiff, Nat.zero_le, Int.toNat_natCast, natLit, k0]
      exact ⟨fun _ => hq lo ⟨g2, fun i hi => by have := g4 i hi; dsimp only; omega, fun h => by have := g5 lo (Nat.le_refl _) h; dsimp only; omega⟩, fun h => by omega⟩
    | succ m ih =>
      intro lo hi u g1 g2 g3 g4 g5
      by_cases he : lo = hi
      · subst he
        rw [awu 255 1]
        try simp only [awu 255 6, pe255, xs, i_load, i_loadR, i_inc, lg, lp, true_and, and_true, List.length_cons, List.length_nil, Nat.reduceAdd, Nat.reduceLeDiff, Nat.zero_le, Int.toNat_natCast, natLit, k0]
        exact ⟨fun _ => hq lo ⟨g2, fun i hi => by have := g4 i hi; dsimp only; omega, fun h => by have := g5 lo (Nat.le_refl _) h; dsimp only; omega⟩, fun h => by omega⟩
      · have e1 : wr ((lo : Int) + hi) = ((lo + hi : Nat) : Int) := by rw [wr_id (by omega) (by omega)]; omega
        have e2 : bshr ((lo + hi : Nat) : Int) 1 = (((lo + hi) / 2 : Nat) : Int) := bshr_nat (lo + hi) 1 (by omega) (by decide)
        rw [awu 255 1]
        try simp only [awu 255 2, awu 255 3, awu 255 4, awu 255 5, awu 255 6, pe255, xs, i_load, i_loadR, i_inc, lg, lp, true_and, and_true, List.length_cons, List.length_nil, Nat.reduceAdd, Nat.reduceLeDiff, Nat.zero_le, Int.toNat_natCast, natLit, k0, k1, l1, e1, e2]
        clear e1 e2
        rw [hf _ (by omega)]
        refine ⟨fun h => by omega, fun _ => ⟨by omega, fun h => ?_, fun h => ?_⟩⟩
        · refine ih lo ((lo + hi) / 2) _ (by omega) (by omega) (by omega) g4 (fun i h1 h2 => ?_)
          have := Srt_le hs h1 h2
          omega
        · rw [wr_id (by omega) (by omega)]
          refine ih ((lo + hi) / 2 + 1) hi _ (by omega) g2 (by omega) (fun i hi' => ?_) g5
          have := Srt_le hs (show i ≤ (lo + hi) / 2 by omega) (by omega)
          omega
  exact key n 0 n none (Nat.zero_le _) (Nat.le_refl _) (by omega) (fun i hi => by omega) (fun i h1 h2 => by omega)
/-- the number of a node; or none -/
def noF (f : Nat → Nat) (n w : Nat) (r : Int) : Prop := (∀ i, i < n → f i = w → r = i) ∧ ((∀ i, i < n → f i ≠ w) → r = -1)
theorem noF_d {f : Nat → Nat} {n w : Nat} {r : Int} (h : noF f n w r) : (∃ i, i < n ∧ f i = w ∧ r = i) ∨ ((∀ i, i < n → f i ≠ w) ∧ r = -1) := by
  by_cases q : ∃ i, i < n ∧ f i = w
  · obtain ⟨i, h1, h2⟩ := q
    exact Or.inl ⟨i, h1, h2, h.1 i h1 h2⟩
  · have q' : ∀ i, i < n → f i ≠ w := fun i h1 h2 => q ⟨i, h1, h2⟩
    exact Or.inr ⟨q', h.2 q'⟩
theorem noF_of {f : Nat → Nat} {n p w : Nat} (hs : Srt f n) (hp : IsPl (fun i => (f i : Int)) n w p) : noF f n w (if p < n ∧ f p = w then (p : Int) else -1) := by
  have hm := IsPl_mm hs hp
  constructor
  · intro i h1 h2
    have := hm.mp ⟨i, h1, h2⟩
    rw [if_pos this, Srt_inj hs h1 this.1 (by omega)]
  · intro h
    rw [if_neg (fun q => h p q.1 q.2)]
theorem sp_tno {d o n : Nat} {st : St} {f : Nat → Nat} {w : Nat} {Q : Rn} (ho : isTr o) (hc : st o 4 = n) (hn : n ≤ 120) (hf : ∀ k, k < n → st (o + 1) k = f k) (hs : Srt f n) (hq : ∀ r, noF f n w r → Q (vi r) st) : MS (d + 2) 256 [vr o, vi w] st Q := by
  obtain ⟨k0, ⟨k1, l1⟩, -⟩ := id ho
  refine MS_v [vr o, vi w, none] rfl rfl k0 rfl ?_
  try simp only [awu 256 0, pe256, xs, i_load, i_loadR, i_inc, lg, lp, true_and, and_true, List.length_cons, List.length_nil, Nat.reduceAdd, Nat.reduceLeDiff, Nat.zero_le, Int.toNat_natCast, natLit, k0]
  refine sp_tpl ho hc hn hf hs (fun p hp => ?_)
  have hr := hq _ (noF_of hs hp)
  dsimp only
  try simp only [awu 256 0, pe256, xs, i_load, i_loadR, i_inc, lg, lp, true_and, and_true, List.length_cons, List.length_nil, Nat.reduceAdd, Nat.reduceLeDiff, Nat.zero_le, Int.toNat_natCast, natLit, k0]
  refine sp_thas ho hc hn ?_
  dsimp only
  have hpn := hp.1
  by_cases h : p < n
  · rw [if_pos (by omega)]
    try simp only [awu 256 1, awu 256 2, awu 256 3, awu 256 4, pe256, xs, i_load, i_loadR, i_inc, lg, lp, true_and, and_true, List.length_cons, List.length_nil, Nat.reduceAdd, Nat.reduceLeDiff, Nat.zero_le, Int.toNat_natCast, natLit, k0, k1, l1]
    refine ⟨fun a => absurd a (by decide), fun _ => ⟨by omega, ?_⟩⟩
    rw [hf p h]
    by_cases h2 : f p = w
    · rw [if_pos ⟨h, h2⟩] at hr
      exact ⟨fun a => by omega, fun _ => hr⟩
    · rw [if_neg (fun q => h2 q.2)] at hr
      exact ⟨fun _ => hr, fun a => by omega⟩
  · rw [if_neg (by omega)]
    rw [if_neg (fun q => h q.1)] at hr
    try simp only [awu 256 1, awu 256 2, awu 256 3, awu 256 4, pe256, xs, i_load, i_loadR, i_inc, lg, lp, true_and, and_true, List.length_cons, List.length_nil, Nat.reduceAdd, Nat.reduceLeDiff, Nat.zero_le, Int.toNat_natCast, natLit, k0, k1, l1]
    exact ⟨fun _ => hr, fun a => absurd trivial a⟩
/-- a node is put among the others -/
def ndI (f : Nat → Nat) (n w : Nat) (f' : Nat → Nat) (n' : Nat) : Prop := Srt f' n' ∧ n ≤ n' ∧ ∀ x, Mm f' n' x ↔ Mm f n x ∨ x = w
theorem sp_tadd {d o n : Nat} {st : St} {f : Nat → Nat} {w : Nat} {Q : Rn} (ho : isTr o) (hc : st o 4 = n) (hn : n ≤ 120) (hf : ∀ k, k < n → st (o + 1) k = f k) (hs : Srt f n) (hcp : Cp 120 (fun x => Mm f n x ∨ x = w))
    (hq : ∀ (st' : St) (f' : Nat → Nat) (n' : Nat), st' o 4 = n' → n' ≤ 120 → (∀ k, k < n' → st' (o + 1) k = f' k) → ndI f n w f' n' → (∀ j i, ¬ (j = o ∧ i = 4) → j ≠ o + 1 → st' j i = st j i) → Q none st') : MS (d + 2) 254 [vr o, vi w] st Q := by
  obtain ⟨k0, ⟨k1, l1⟩, -⟩ := id ho
  refine MS_v [vr o, vi w, none, none] rfl rfl k0 rfl ?_
  try simp only [awu 254 0, pe254, xs, i_load, i_loadR, i_inc, lg, lp, true_and, and_true, List.length_cons, List.length_nil, Nat.reduceAdd, Nat.reduceLeDiff, Nat.zero_le, Int.toNat_natCast, natLit, k0, hc]
  refine sp_tpl ho hc hn hf hs (fun p hp => ?_)
  have hpn := hp.1
  have hmm := IsPl_mm hs hp
  dsimp only
  by_cases hin : Mm f n w
  · have hin' := hmm.mp hin
    have hdone : Q none st := hq st f n hc hn hf ⟨hs, Nat.le_refl _, fun x => ⟨Or.inl, fun h => h.elim id (fun e => by rw [e]; exact hin)⟩⟩ (fun _ _ _ _ => rfl)
    try simp only [awu 254 0, awu 254 1, awu 254 2, awu 254 3, pe254, xs, i_load, i_loadR, i_inc, lg, lp, true_and, and_true, List.length_cons, List.length_nil, Nat.reduceAdd, Nat.reduceLeDiff, Nat.zero_le, Int.toNat_natCast, natLit, k0, k1, l1, hc]
    refine ⟨fun _ => hdone, fun _ => ⟨fun h => by omega, fun _ => ⟨by omega, fun h => ?_, fun _ => hdone⟩⟩⟩
    rw [hf p hin'.1] at h
    exact absurd (by rw [hin'.2]) h
  · have hlt : n < 120 := by
      have h2 : ∀ i, p ≤ i → i < n → w < f i := by
        intro i a b
        have h3 := hp.2.2 (by omega)
        have h4 := Srt_le hs a b
        have h5 : f i ≠ w := fun e => hin ⟨i, b, e⟩
        dsimp only at h3
        omega
      have h1 : ∀ i, i < p → f i < w := fun i a => by have := hp.2.1 i a; dsimp only at this; omega
      have := hcp (insN f p w) (n + 1) (Srt_ins hs hpn h1 h2) (fun i hi => (Mm_ins (f := f) (v := w) hpn).mp ⟨i, hi, rfl⟩)
      omega
    have h2 : ∀ i, p ≤ i → i < n → w < f i := by
      intro i a b
      have h3 := hp.2.2 (by omega)
      have h4 := Srt_le hs a b
      have h5 : f i ≠ w := fun e => hin ⟨i, b, e⟩
      dsimp only at h3
      omega
    have h1 : ∀ i, i < p → f i < w := fun i a => by have := hp.2.1 i a; dsimp only at this; omega
    have key : ∀ m k : Nat, ∀ st' : St, p ≤ k → k ≤ n → k - p = m → (∀ i, i < k → st' (o + 1) i = f i) → (∀ i, k < i → i ≤ n → st' (o + 1) i = f (i - 1)) → (∀ j, j ≠ o + 1 → st' j = st j) → AW (P 254) Q (MS (d + 1)) 0 (fun _ => 0) 5 [vr o, vi w, vi p, vi k] [] st' := by
      intro m
      induction m with
      | zero =>
        intro k st' g1 g2 g3 g4 g5 g6
        have : k = p := by omega
        subst this
        have hc' : st' o 4 = n := by rw [g6 o (by omega)]; exact hc
        have hc2 : up2 st' (o + 1) k w o 4 = n := by rw [up2_ne (by omega)]; exact hc'
        have ew : wr ((n : Int) + 1) = ((n + 1 : Nat) : Int) := by rw [wr_id (by omega) (by omega)]; omega
        rw [awu 254 5]
        try simp only [awu 254 7, pe254, xs, i_load, i_loadR, i_inc, lg, lp, true_and, and_true, List.length_cons, List.length_nil, Nat.reduceAdd, Nat.reduceLeDiff, Nat.zero_le, Int.toNat_natCast, natLit, k0, k1, l1, hc2, ew]
        refine ⟨fun _ => ⟨by omega, ?_⟩, fun h => by omega⟩
        refine hq _ (insN f k w) (n + 1) ?_ (by omega) ?_ ⟨Srt_ins hs hpn h1 h2, by omega, fun x => Mm_ins hpn⟩ ?_
        · rw [up2_at, if_pos rfl, if_pos rfl]
        · intro i hi
          rw [up2_ne (by omega), up2_self]
          unfold insN
          by_cases e : i = k
          · subst e
            rw [upf_s, if_neg (by omega), if_pos rfl]
          · rw [upf_n e]
            by_cases e2 : i < k
            · rw [if_pos e2]
              exact g4 i e2
            · rw [if_neg e2, if_neg e]
              exact g5 i (by omega) (by omega)
        · intro j i q1 q2
          rw [up2_at]
          by_cases e : j = o
          · subst e
            rw [if_pos rfl, if_neg (fun z => q1 ⟨rfl, z⟩), up2_ne (by omega), g6 j (by omega)]
          · rw [if_neg e, up2_ne q2, g6 j q2]
      | succ m ih =>
        intro k st' g1 g2 g3 g4 g5 g6
        have ek : wr ((k : Int) - 1) = ((k - 1 : Nat) : Int) := by rw [wr_id (by omega) (by omega)]; omega
        have ek2 : wr ((k : Int) + -1) = ((k - 1 : Nat) : Int) := by rw [wr_id (by omega) (by omega)]; omega
        rw [awu 254 5]
        try simp only [awu 254 6, pe254, xs, i_load, i_loadR, i_inc, lg, lp, true_and, and_true, List.length_cons, List.length_nil, Nat.reduceAdd, Nat.reduceLeDiff, Nat.zero_le, Int.toNat_natCast, natLit, k0, k1, l1, ek, ek2]
        clear ek ek2
        refine ⟨fun h => by omega, fun _ => ⟨by omega, by omega, ?_⟩⟩
        refine ih (k - 1) _ (by omega) (by omega) (by omega) ?_ ?_ ?_
        · intro i hi
          rw [up2_self, upf_n (by omega)]
          exact g4 i (by omega)
        · intro i q1 q2
          rw [up2_self]
          by_cases e : i = k
          · subst e
            rw [upf_s]
            exact g4 _ (by omega)
          · rw [upf_n e]
            exact g5 i (by omega) q2
        · intro j hj
          rw [up2_ne hj]
          exact g6 j hj
    try simp only [awu 254 0, awu 254 1, awu 254 2, awu 254 3, awu 254 4, pe254, xs, i_load, i_loadR, i_inc, lg, lp, true_and, and_true, List.length_cons, List.length_nil, Nat.reduceAdd, Nat.reduceLeDiff, Nat.zero_le, Int.toNat_natCast, natLit, k0, k1, l1, hc]
    have kk := key (n - p) n st hpn (Nat.le_refl _) rfl hf (fun i a b => by omega) (fun _ _ => rfl)
    refine ⟨fun h => by omega, fun _ => ⟨fun _ => kk, fun _ => ⟨by omega, fun _ => kk, fun h => ?_⟩⟩⟩
    rw [hf p (by omega)] at h
    exact absurd ⟨p, by omega, by omega⟩ hin
end
section
/-! the tree of the class: words are added, nodes are linked -/
def Pn (w x : Nat) : Prop := ∃ j, 1 ≤ j ∧ j ≤ wl w ∧ x = bg w j
theorem sp_taddw {d o n : Nat} {st : St} {f : Nat → Nat} {w : Nat} {Q : Rn} (ho : isTr o) (hc : st o 4 = n) (hn : n ≤ 120) (hf : ∀ k, k < n → st (o + 1) k = f k) (hs : Srt f n) (hw : wf w) (hcp : Cp 120 (fun x => Mm f n x ∨ Pn w x))
    (hq : ∀ (st' : St) (f' : Nat → Nat) (n' : Nat), st' o 4 = n' → n' ≤ 120 → (∀ k, k < n' → st' (o + 1) k = f' k) → Srt f' n' → (∀ x, Mm f' n' x ↔ Mm f n x ∨ Pn w x) → (∀ j i, ¬ (j = o ∧ i = 4) → j ≠ o + 1 → st' j i = st j i) → Q none st') : MS (d + 3) 253 [vr o, vi w] st Q := by
  have k0 := ho.1
  have hw10 := hw.1
  have hwl := wf_lt hw
  refine MS_v [vr o, vi w, none, none] rfl rfl k0 rfl ?_
  try simp only [awu 253 0, pe253, xs, i_load, i_loadR, i_inc, lg, lp, true_and, and_true, List.length_cons, List.length_nil, Nat.reduceAdd, Nat.reduceLeDiff, Nat.zero_le, Int.toNat_natCast, natLit, k0]
  refine sp_len (by omega) ?_
  dsimp only
  try simp only [awu 253 0, pe253, xs, i_load, i_loadR, i_inc, lg, lp, true_and, and_true, List.length_cons, List.length_nil, Nat.reduceAdd, Nat.reduceLeDiff, Nat.zero_le, Int.toNat_natCast, natLit, k0]
  have key : ∀ m k : Nat, ∀ (st' : St) (f' : Nat → Nat) (n' : Nat), 1 ≤ k → k ≤ wl w + 1 → wl w + 1 - k = m → st' o 4 = n' → n' ≤ 120 → (∀ i, i < n' → st' (o + 1) i = f' i) → Srt f' n' → (∀ x, Mm f' n' x ↔ Mm f n x ∨ ∃ j, 1 ≤ j ∧ j < k ∧ x = bg w j) → (∀ j i, ¬ (j = o ∧ i = 4) → j ≠ o + 1 → st' j i = st j i) → AW (P 253) Q (MS (d + 2)) 0 (fun _ => 0) 1 [vr o, vi w, vi (wl w : Nat), vi k] [] st' := by
    intro m
    induction m with
    | zero =>
      intro k st' f' n' g1 g2 g3 g4 g5 g6 g7 g8 g9
      have : k = wl w + 1 := by omega
      subst this
      rw [awu 253 1]
      try simp only [awu 253 3, pe253, xs, i_load, i_loadR, i_inc, lg, lp, true_and, and_true, List.length_cons, List.length_nil, Nat.reduceAdd, Nat.reduceLeDiff, Nat.zero_le, Int.toNat_natCast, natLit, k0]
      refine ⟨fun _ => hq st' f' n' g4 g5 g6 g7 (fun x => ?_) g9, fun h => by omega⟩
      rw [g8]
      constructor
      · rintro (h | ⟨j, a, b, e⟩)
        · exact Or.inl h
        · exact Or.inr ⟨j, a, by omega, e⟩
      · rintro (h | ⟨j, a, b, e⟩)
        · exact Or.inl h
        · exact Or.inr ⟨j, a, by omega, e⟩
    | succ m ih =>
      intro k st' f' n' g1 g2 g3 g4 g5 g6 g7 g8 g9
      rw [awu 253 1]
      try simp only [awu 253 2, pe253, xs, i_load, i_loadR, i_inc, lg, lp, true_and, and_true, List.length_cons, List.length_nil, Nat.reduceAdd, Nat.reduceLeDiff, Nat.zero_le, Int.toNat_natCast, natLit, k0]
      refine ⟨fun h => by omega, fun _ => sp_begin (by omega) hw10 (by omega) ?_⟩
      dsimp only
      refine sp_tadd ho g4 g5 g6 g7 (Cp_sub hcp ?_) (fun st2 f2 n2 q1 q2 q3 q4 q5 => ?_)
      · rintro x (h | e)
        · rcases (g8 x).mp h with h | ⟨j, a, b, e⟩
          · exact Or.inl h
          · exact Or.inr ⟨j, a, by omega, e⟩
        · exact Or.inr ⟨k, g1, by omega, e⟩
      · dsimp only
        try simp only [awu 253 2, pe253, xs, i_load, i_loadR, i_inc, lg, lp, true_and, and_true, List.length_cons, List.length_nil, Nat.reduceAdd, Nat.reduceLeDiff, Nat.zero_le, Int.toNat_natCast, natLit, k0]
        rw [wr_id (by omega) (by omega)]
        refine ih (k + 1) st2 f2 n2 (by omega) (by omega) (by omega) q1 q2 q3 q4.1 (fun x => ?_) (fun j i a b => (q5 j i a b).trans (g9 j i a b))
        rw [q4.2.2, g8]
        constructor
        · rintro ((h | ⟨j, a, b, e⟩) | e)
          · exact Or.inl h
          · exact Or.inr ⟨j, a, by omega, e⟩
          · exact Or.inr ⟨k, g1, by omega, e⟩
        · rintro (h | ⟨j, a, b, e⟩)
          · exact Or.inl (Or.inl h)
          · by_cases hj : j = k
            · subst hj
              exact Or.inr e
            · exact Or.inl (Or.inr ⟨j, a, by omega, e⟩)
  exact key (wl w) 1 st f n (Nat.le_refl _) (by omega) (by omega) hc hn hf hs (fun x => ⟨Or.inl, fun h => h.elim id (fun ⟨j, a, b, _⟩ => by omega)⟩) (fun _ _ _ _ => rfl)
def mmB (f : Nat → Nat) (n x : Nat) : Bool := (List.range n).any (fun i => f i == x)
theorem mmB_iff {f : Nat → Nat} {n x : Nat} : mmB f n x = true ↔ Mm f n x := by
  unfold mmB Mm
  rw [List.any_eq_true]
  constructor
  · rintro ⟨i, h1, h2⟩
    exact ⟨i, List.mem_range.mp h1, by simpa using h2⟩
  · rintro ⟨i, h1, h2⟩
    exact ⟨i, List.mem_range.mpr h1, by simpa using h2⟩
/-- how many beginnings of a word aren't there -/
def lk (f : Nat → Nat) (n w : Nat) : Nat → Nat
  | 0 => 0
  | j + 1 => lk f n w j + (if mmB f n (bg w (j + 1)) then 0 else 1)
theorem lk_le {f : Nat → Nat} {n w : Nat} : ∀ j, lk f n w j ≤ j
  | 0 => Nat.le_refl _
  | j + 1 => by
    have := lk_le (f := f) (n := n) (w := w) j
    unfold lk
    split <;> omega
theorem Cp_lk {f : Nat → Nat} {n w : Nat} (hs : Srt f n) : ∀ j, Cp (n + lk f n w j) (fun x => Mm f n x ∨ ∃ i, 1 ≤ i ∧ i ≤ j ∧ x = bg w i)
  | 0 => Cp_sub (Cp_mm hs) (fun x h => h.elim id (fun ⟨i, a, b, _⟩ => by omega))
  | j + 1 => by
    have ih := Cp_lk (w := w) hs j
    unfold lk
    split
    · rename_i hb
      rw [Nat.add_zero]
      refine Cp_sub ih (fun x h => ?_)
      rcases h with h | ⟨i, a, b, e⟩
      · exact Or.inl h
      · by_cases hi : i = j + 1
        · subst hi
          rw [e]
          exact Or.inl (mmB_iff.mp hb)
        · exact Or.inr ⟨i, a, by omega, e⟩
    · refine Cp_sub (Cp_add (v := bg w (j + 1)) ih) (fun x h => ?_)
      rcases h with h | ⟨i, a, b, e⟩
      · exact Or.inl (Or.inl h)
      · by_cases hi : i = j + 1
        · subst hi
          exact Or.inr e
        · exact Or.inl (Or.inr ⟨i, a, by omega, e⟩)
theorem sp_tlack {d o n : Nat} {st : St} {f : Nat → Nat} {w : Nat} {Q : Rn} (ho : isTr o) (hc : st o 4 = n) (hn : n ≤ 120) (hf : ∀ k, k < n → st (o + 1) k = f k) (hs : Srt f n) (hw : wf w) (hq : Q (vi (lk f n w (wl w) : Nat)) st) : MS (d + 3) 257 [vr o, vi w] st Q := by
  have k0 := ho.1
  have hw10 := hw.1
  have hwl := wf_lt hw
  refine MS_v [vr o, vi w, none, none, none] rfl rfl k0 rfl ?_
  try simp only [awu 257 0, pe257, xs, i_load, i_loadR, i_inc, lg, lp, true_and, and_true, List.length_cons, List.length_nil, Nat.reduceAdd, Nat.reduceLeDiff, Nat.zero_le, Int.toNat_natCast, natLit, k0]
  refine sp_len (by omega) ?_
  dsimp only
  try simp only [awu 257 0, pe257, xs, i_load, i_loadR, i_inc, lg, lp, true_and, and_true, List.length_cons, List.length_nil, Nat.reduceAdd, Nat.reduceLeDiff, Nat.zero_le, Int.toNat_natCast, natLit, k0]
  have key : ∀ m k : Nat, 1 ≤ k → k ≤ wl w + 1 → wl w + 1 - k = m → AW (P 257) Q (MS (d + 2)) 0 (fun _ => 0) 1 [vr o, vi w, vi (wl w : Nat), vi (lk f n w (k - 1) : Nat), vi k] [] st := by
    intro m
    induction m with
    | zero =>
      intro k g1 g2 g3
      have : k = wl w + 1 := by omega
      subst this
      rw [awu 257 1]
      try simp only [awu 257 5, pe257, xs, i_load, i_loadR, i_inc, lg, lp, true_and, and_true, List.length_cons, List.length_nil, Nat.reduceAdd, Nat.reduceLeDiff, Nat.zero_le, Int.toNat_natCast, natLit, k0]
      exact ⟨fun _ => hq, fun h => by omega⟩
    | succ m ih =>
      intro k g1 g2 g3
      have hle := lk_le (f := f) (n := n) (w := w) (k - 1)
      have e : lk f n w k = lk f n w (k - 1) + (if mmB f n (bg w k) then 0 else 1) := by
        cases k with
        | zero => omega
        | succ j => rfl
      have ih' := ih (k + 1) (by omega) (by omega) (by omega)
      rw [show k + 1 - 1 = k by omega, e] at ih'
      rw [awu 257 1]
      try simp only [awu 257 2, pe257, xs, i_load, i_loadR, i_inc, lg, lp, true_and, and_true, List.length_cons, List.length_nil, Nat.reduceAdd, Nat.reduceLeDiff, Nat.zero_le, Int.toNat_natCast, natLit, k0]
      refine ⟨fun h => by omega, fun _ => sp_begin (by omega) hw10 (by omega) ?_⟩
      dsimp only
      refine sp_tno ho hc hn hf hs (fun r hr => ?_)
      dsimp only
      try simp only [awu 257 2, awu 257 3, awu 257 4, pe257, xs, i_load, i_loadR, i_inc, lg, lp, true_and, and_true, List.length_cons, List.length_nil, Nat.reduceAdd, Nat.reduceLeDiff, Nat.zero_le, Int.toNat_natCast, natLit, k0]
      rw [wr_id (x := (lk f n w (k - 1) : Int) + 1) (by omega) (by omega), wr_id (x := (k : Int) + 1) (by omega) (by omega)]
      rcases noF_d hr with ⟨i, a, b, e2⟩ | ⟨a, e2⟩
      · rw [if_pos (mmB_iff.mpr ⟨i, a, b⟩)] at ih'
        refine ⟨fun _ => ih', fun h => by omega⟩
      · rw [if_neg (fun h => by obtain ⟨i, h1, h2⟩ := mmB_iff.mp h; exact a i h1 h2)] at ih'
        refine ⟨fun h => absurd e2 h, fun _ => ih'⟩
  exact key (wl w) 1 (Nat.le_refl _) (by omega) (by omega)
/-! what links are -/
def TM (f : Nat → Nat) (n : Nat) (mk : Nat → Int) (Ex : Nat → Int → Prop) : Prop := ∀ k, k < n → (∀ v, Ex (f k) v → mk k = if v = 1 then 1 else 2) ∧ ((∀ v, ¬ Ex (f k) v) → mk k = 0)
def TP (f : Nat → Nat) (n : Nat) (pa : Nat → Int) : Prop := pa 0 = -1 ∧ ∀ k, 0 < k → k < n → ∃ b, b < k ∧ pa k = (b : Nat) ∧ f b = bg (f k) (wl (f k) - 1)
def TC (f : Nat → Nat) (n : Nat) (ch : Nat → Int) : Prop := ∀ k l, k < n → l < 4 → noF f n (lw (f k) l) (ch (4 * k + l))
/-- nodes: rising, the empty word first, each with the one it comes behind -/
def ND (f : Nat → Nat) (n : Nat) : Prop := Srt f n ∧ 1 ≤ n ∧ f 0 = 0 ∧ ∀ k, k < n → wf (f k) ∧ (0 < k → 0 < wl (f k) ∧ Mm f n (bg (f k) (wl (f k) - 1)))
theorem ND_par {f : Nat → Nat} {n k b : Nat} (h : ND f n) (hk : k < n) (h0 : 0 < k) (hb : b < n) (e : f b = bg (f k) (wl (f k) - 1)) : b < k := by
  obtain ⟨hs, -, -, h4⟩ := h
  obtain ⟨w1, w2⟩ := h4 k hk
  have h5 := bg_lt w1 (Nat.le_refl _) (show wl (f k) - 1 < wl (f k) by have := (w2 h0).1; omega)
  rw [bg_self] at h5
  rcases Nat.lt_or_ge b k with q | q
  · exact q
  · have := Srt_le hs q hb
    omega
def ExR (e : Nat → Nat) (b : Nat → Int) (c : Nat) (lo : Int) (w : Nat) (v : Int) : Prop := ∃ i, i < c ∧ (i : Int) ≠ lo ∧ e i = w ∧ b i = v
end
section
/-! nodes are linked -/
theorem noF_fun {f : Nat → Nat} {n w : Nat} {r r' : Int} (h : noF f n w r) (h' : noF f n w r') : r = r' := by
  rcases noF_d h with ⟨i, a, b, e⟩ | ⟨a, e⟩
  · rw [e, h'.1 i a b]
  · rw [e, h'.2 a]
set_option maxHeartbeats 1000000 in
theorem sp_tlink {d o n c : Nat} {st : St} {f e : Nat → Nat} {lo : Int} {Q : Rn} (ho : isTr o) (ho8 : 8 ≤ o) (hc : st o 4 = n) (hn : n ≤ 120) (hf : ∀ k, k < n → st (o + 1) k = f k) (hnd : ND f n) (hsc : st 5 2 = c) (hc40 : c ≤ 40) (he : ∀ i, i < c → st 6 i = e i) (h01 : ∀ i, i < c → ok01 (st 7 i)) (hin : ∀ i, i < c → (i : Int) ≠ lo → Mm f n (e i)) (hinj : ∀ i j, i < c → j < c → e i = e j → i = j)
    (hq : ∀ st' : St, (∀ j, j ≠ o + 2 → j ≠ o + 3 → j ≠ o + 4 → st' j = st j) → TM f n (st' (o + 2)) (ExR e (st 7) c lo) → TP f n (st' (o + 3)) → TC f n (st' (o + 4)) → Q none st') : MS (d + 3) 258 [vr o, vr 5, vi lo] st Q := by
  obtain ⟨k0, ⟨k1, l1⟩, ⟨k2, l2⟩, ⟨k3, l3⟩, k4, l4⟩ := id ho
  obtain ⟨hs, hn1, hf0, hw⟩ := id hnd
  have k5 : kl 5 = 7 := rfl
  -- the marks
  have L3 : ∀ m k : Nat, ∀ (s3 : St) (u : V), k ≤ c → c - k = m → (∀ j, j ≠ o + 2 → j ≠ o + 3 → j ≠ o + 4 → s3 j = st j) → TM f n (s3 (o + 2)) (ExR e (st 7) k lo) → TP f n (s3 (o + 3)) → TC f n (s3 (o + 4)) → AW (P 258) Q (MS (d + 2)) 0 (fun _ => 0) 14 [vr o, vr 5, vi lo, vi k, u] [] s3 := by
    intro m
    induction m with
    | zero =>
      intro k s3 u g1 g2 g3 g4 g5 g6
      have : k = c := by omega
      subst this
      have hsc' : s3 5 2 = k := by rw [g3 5 (by omega) (by omega) (by omega)]; exact hsc
      rw [awu 258 14]
      try simp only [awu 258 24, pe258, xs, i_load, i_loadR, i_inc, lg, lp, true_and, and_true, List.length_cons, List.length_nil, Nat.reduceAdd, Nat.reduceLeDiff, Nat.zero_le, Int.toNat_natCast, natLit, k0, k5, hsc']
      exact ⟨fun _ => hq s3 g3 g4 g5 g6, fun h => by omega⟩
    | succ m ih =>
      intro k s3 u g1 g2 g3 g4 g5 g6
      have hsc' : s3 5 2 = c := by rw [g3 5 (by omega) (by omega) (by omega)]; exact hsc
      have hc' : s3 o 4 = n := by rw [g3 o (by omega) (by omega) (by omega)]; exact hc
      have hf' : ∀ k, k < n → s3 (o + 1) k = f k := fun i hi => by rw [g3 (o + 1) (by omega) (by omega) (by omega)]; exact hf i hi
      have h01' : ∀ i, i < c → ok01 (s3 7 i) := fun i hi => by rw [g3 7 (by omega) (by omega) (by omega)]; exact h01 i hi
      have ew : Unit → wr ((k : Int) + 1) = ((k + 1 : Nat) : Int) := fun _ => by rw [wr_id (by omega) (by omega)]; omega
      by_cases hlo : (k : Int) = lo
      · rw [awu 258 14]
        try simp only [awu 258 15, awu 258 16, awu 258 18, awu 258 19, awu 258 23, pe258, xs, i_load, i_loadR, i_inc, lg, lp, true_and, and_true, List.length_cons, List.length_nil, Nat.reduceAdd, Nat.reduceLeDiff, Nat.zero_le, Int.toNat_natCast, natLit, k0, k5, hsc', ew ()]
        refine ⟨fun h => by omega, fun _ => ⟨fun h => absurd hlo h, fun _ => ⟨fun _ => ?_, fun h => absurd trivial h⟩⟩⟩
        refine ih (k + 1) s3 _ (by omega) (by omega) g3 (fun i hi => ?_) g5 g6
        obtain ⟨a, b⟩ := g4 i hi
        constructor
        · rintro v ⟨j, h1, h2, h3, h4⟩
          exact a v ⟨j, by omega, h2, h3, h4⟩
        · intro h
          exact b (fun v ⟨j, h1, h2, h3, h4⟩ => h v ⟨j, by omega, h2, h3, h4⟩)
      · obtain ⟨q, hq1, hq2⟩ := hin k (by omega) hlo
        rw [awu 258 14]
        try simp only [awu 258 15, awu 258 17, pe258, xs, i_load, i_loadR, i_inc, lg, lp, true_and, and_true, List.length_cons, List.length_nil, Nat.reduceAdd, Nat.reduceLeDiff, Nat.zero_le, Int.toNat_natCast, natLit, k0, k5, hsc']
        refine ⟨fun h => by omega, fun _ => ⟨fun _ => ?_, fun h => absurd (by omega) hlo⟩⟩
        refine sp_scode hsc' hc40 ?_
        dsimp only
        rw [if_pos (by omega), Int.toNat_natCast, g3 6 (by omega) (by omega) (by omega), he k (by omega)]
        refine sp_tno ho hc' hn hf' hs (fun r hr => ?_)
        have er : r = (q : Nat) := hr.1 q hq1 hq2
        subst er
        dsimp only
        try simp only [awu 258 18, awu 258 19, awu 258 23, pe258, xs, i_load, i_loadR, i_inc, lg, lp, true_and, and_true, List.length_cons, List.length_nil, Nat.reduceAdd, Nat.reduceLeDiff, Nat.zero_le, Int.toNat_natCast, natLit, k0, k5, hsc', k2, l2, ew ()]
        refine ⟨fun h => by omega, fun _ => ?_⟩
        refine sp_sisIn hsc' hc40 h01' ?_
        dsimp only
        rw [if_pos (by omega), Int.toNat_natCast, g3 7 (by omega) (by omega) (by omega)]
        try simp only [awu 258 20, awu 258 21, awu 258 22, awu 258 23, pe258, xs, i_load, i_loadR, i_inc, lg, lp, true_and, and_true, List.length_cons, List.length_nil, Nat.reduceAdd, Nat.reduceLeDiff, Nat.zero_le, Int.toNat_natCast, natLit, k0, k5, hsc', k2, l2, ew ()]
        have fin : ∀ v : Int, v = (if st 7 k = 1 then 1 else 2) → AW (P 258) Q (MS (d + 2)) 0 (fun _ => 0) 14 [vr o, vr 5, vi lo, vi (k + 1 : Nat), vi q] [] (up2 s3 (o + 2) q v) := by
          intro v hv
          refine ih (k + 1) _ _ (by omega) (by omega) (fun j a b g => by rw [up2_ne a]; exact g3 j a b g) (fun i hi => ?_) (by rw [up2_ne (by omega)]; exact g5) (by rw [up2_ne (by omega)]; exact g6)
          rw [up2_self]
          by_cases hiq : i = q
          · subst hiq
            rw [upf_s]
            constructor
            · rintro w ⟨j, h1, h2, h3, h4⟩
              have : j = k := hinj j k (by omega) (by omega) (by rw [h3, hq2])
              subst this
              rw [hv, h4]
            · intro h
              exact absurd ⟨k, by omega, hlo, hq2.symm, rfl⟩ (h (st 7 k))
          · rw [upf_n hiq]
            obtain ⟨a, b⟩ := g4 i hi
            have nk : ∀ w j, j < k + 1 → (j : Int) ≠ lo → e j = f i → st 7 j = w → j < k := by
              intro w j h1 h2 h3 h4
              rcases Nat.lt_or_ge j k with z | z
              · exact z
              · have : j = k := by omega
                subst this
                exact absurd (Srt_inj hs hi hq1 (by rw [← h3, ← hq2])) hiq
            constructor
            · rintro w ⟨j, h1, h2, h3, h4⟩
              exact a w ⟨j, nk w j h1 h2 h3 h4, h2, h3, h4⟩
            · intro h
              exact b (fun w ⟨j, h1, h2, h3, h4⟩ => h w ⟨j, by omega, h2, h3, h4⟩)
        rcases h01 k (by omega) with e7 | e7
        · refine ⟨fun _ => ⟨by omega, fin 2 (by rw [e7]; rfl)⟩, fun h => absurd e7 h⟩
        · refine ⟨fun h => by omega, fun _ => ⟨by omega, fin 1 (by rw [e7]; rfl)⟩⟩
  -- the ways up and down
  have L2 : ∀ m k : Nat, ∀ (s2 : St) (u : V), 1 ≤ k → k ≤ n → n - k = m → (∀ j, j ≠ o + 2 → j ≠ o + 3 → j ≠ o + 4 → s2 j = st j) → (∀ i, i < n → s2 (o + 2) i = 0) → (s2 (o + 3) 0 = -1 ∧ ∀ i, 0 < i → i < k → ∃ b, b < i ∧ s2 (o + 3) i = (b : Nat) ∧ f b = bg (f i) (wl (f i) - 1)) → (∀ i l, i < n → l < 4 → noF f k (lw (f i) l) (s2 (o + 4) (4 * i + l))) → AW (P 258) Q (MS (d + 2)) 0 (fun _ => 0) 8 [vr o, vr 5, vi lo, vi k, u] [] s2 := by
    intro m
    induction m with
    | zero =>
      intro k s2 u g1 g2 g3 g4 g5 g6 g7
      have : k = n := by omega
      subst this
      have hc' : s2 o 4 = k := by rw [g4 o (by omega) (by omega) (by omega)]; exact hc
      rw [awu 258 8]
      try simp only [awu 258 13, pe258, xs, i_load, i_loadR, i_inc, lg, lp, true_and, and_true, List.length_cons, List.length_nil, Nat.reduceAdd, Nat.reduceLeDiff, Nat.zero_le, Int.toNat_natCast, natLit, k0, k5, hc']
      exact ⟨fun _ => L3 c 0 s2 u (Nat.zero_le _) rfl g4 (fun i hi => ⟨fun v ⟨j, h1, _⟩ => by omega, fun _ => g5 i hi⟩) g6 g7, fun h => by omega⟩
    | succ m ih =>
      intro k s2 u g1 g2 g3 g4 g5 g6 g7
      have hc' : s2 o 4 = n := by rw [g4 o (by omega) (by omega) (by omega)]; exact hc
      have hf' : ∀ k, k < n → s2 (o + 1) k = f k := fun i hi => by rw [g4 (o + 1) (by omega) (by omega) (by omega)]; exact hf i hi
      obtain ⟨w1, w2⟩ := hw k (by omega)
      obtain ⟨w3, b, hb1, hb2⟩ := w2 (by omega)
      have hwl := wf_lt w1
      have hbk := ND_par hnd (show k < n by omega) (by omega) hb1 hb2
      have ew : Unit → wr ((k : Int) + 1) = ((k + 1 : Nat) : Int) := fun _ => by rw [wr_id (by omega) (by omega)]; omega
      have ew2 : Unit → wr (((wl (f k) : Nat) : Int) - 1) = ((wl (f k) - 1 : Nat) : Int) := fun _ => by rw [wr_id (by have := w1.1; omega) (by have := w1.1; omega)]; omega
      rw [awu 258 8]
      try simp only [awu 258 9, awu 258 10, awu 258 13, pe258, xs, i_load, i_loadR, i_inc, lg, lp, true_and, and_true, List.length_cons, List.length_nil, Nat.reduceAdd, Nat.reduceLeDiff, Nat.zero_le, Int.toNat_natCast, natLit, k0, k5, hc', k1, l1, hf' k (by omega)]
      refine ⟨fun h => by omega, fun _ => ⟨fun h => by omega, fun _ => ⟨by omega, by omega, ?_⟩⟩⟩
      refine sp_len (by omega) ?_
      dsimp only
      try simp only [awu 258 10, pe258, xs, i_load, i_loadR, i_inc, lg, lp, true_and, and_true, List.length_cons, List.length_nil, Nat.reduceAdd, Nat.reduceLeDiff, Nat.zero_le, Int.toNat_natCast, natLit, ew2 ()]
      refine sp_begin (by omega) w1.1 (by omega) ?_
      dsimp only
      refine sp_tno ho hc' hn hf' hs (fun r hr => ?_)
      have er : r = (b : Nat) := hr.1 b hb1 hb2
      subst er
      have hf2 : up2 s2 (o + 3) k (b : Nat) (o + 1) k = f k := by rw [up2_ne (by omega)]; exact hf' k (by omega)
      dsimp only
      have em : Unit → wr ((b : Int) * 4) = ((b * 4 : Nat) : Int) := fun _ => by rw [wr_id (by omega) (by omega)]; omega
      try simp only [awu 258 11, awu 258 12, pe258, xs, i_load, i_loadR, i_inc, lg, lp, true_and, and_true, List.length_cons, List.length_nil, Nat.reduceAdd, Nat.reduceLeDiff, Nat.zero_le, Int.toNat_natCast, natLit, k0, k1, l1, k3, l3, k4, l4, hf2, em (), ew ()]
      refine ⟨fun h => by omega, fun _ => ⟨by omega, by omega, ?_⟩⟩
      refine sp_last (by omega) ?_
      dsimp only
      have em2 : Unit → wr (((b * 4 : Nat) : Int) + ((f k % 4 : Nat) : Int)) = ((4 * b + f k % 4 : Nat) : Int) := fun _ => by rw [wr_id (by omega) (by omega)]; omega
      try simp only [awu 258 12, pe258, xs, i_load, i_loadR, i_inc, lg, lp, true_and, and_true, List.length_cons, List.length_nil, Nat.reduceAdd, Nat.reduceLeDiff, Nat.zero_le, Int.toNat_natCast, natLit, k4, l4, em2 (), ew ()]
      refine ⟨by omega, ?_⟩
      refine ih (k + 1) _ _ (by omega) (by omega) (by omega) (fun j q1 q2 q3 => by rw [up2_ne q3, up2_ne q2]; exact g4 j q1 q2 q3) (fun i hi => by rw [up2_ne (by omega), up2_ne (by omega)]; exact g5 i hi) ⟨?_, ?_⟩ ?_
      · rw [up2_ne (by omega), up2_self, upf_n (by omega)]
        exact g6.1
      · intro i h1 h2
        rw [up2_ne (by omega), up2_self]
        by_cases hik : i = k
        · subst hik
          rw [upf_s]
          exact ⟨b, hbk, rfl, hb2⟩
        · rw [upf_n hik]
          exact g6.2 i h1 (by omega)
      · intro i l hi hl
        have hbl := bg_lw w1 w3
        rw [up2_self, up2_ne (by omega)]
        obtain ⟨x1, x2⟩ := g7 i l hi hl
        by_cases hx : 4 * i + l = 4 * b + f k % 4
        · have hib : i = b := by omega
          have hll : l = f k % 4 := by omega
          subst hib
          subst hll
          rw [upf_s]
          constructor
          · intro j hj ej
            rw [hb2, hbl] at ej
            rw [Srt_inj hs (show j < n by omega) (show k < n by omega) ej]
          · intro h
            exact absurd (by rw [hb2, hbl]) (h k (by omega))
        · rw [upf_n hx]
          have nk : ∀ j, j < k + 1 → f j = lw (f i) l → j < k := by
            intro j hj ej
            rcases Nat.lt_or_ge j k with z | z
            · exact z
            · exfalso
              have hjk : j = k := by omega
              subst hjk
              obtain ⟨wi, -⟩ := hw i hi
              have hwi : wl (f i) ≤ 9 := by
                have e1 := wl_lw (w := f i) (l := l) hl
                rw [← ej] at e1
                have := w1.1
                omega
              obtain ⟨-, y2, y3, y4⟩ := lw_bg wi hwi hl
              rw [← ej] at y2 y3 y4
              have : f i = f b := by rw [hb2, y2, Nat.add_sub_cancel, y3]
              have := Srt_inj hs hi hb1 this
              omega
          constructor
          · intro j hj ej
            exact x1 j (nk j hj ej) ej
          · intro h
            exact x2 (fun j hj => h j (by omega))
  -- all is cleared
  have L1 : ∀ m k : Nat, ∀ (s1' : St) (u : V), k ≤ n → n - k = m → (∀ j, j ≠ o + 2 → j ≠ o + 3 → j ≠ o + 4 → s1' j = st j) → (∀ i, i < k → s1' (o + 2) i = 0 ∧ s1' (o + 3) i = -1) → (∀ i, i < 4 * k → s1' (o + 4) i = -1) → AW (P 258) Q (MS (d + 2)) 0 (fun _ => 0) 1 [vr o, vr 5, vi lo, vi k, u] [] s1' := by
    intro m
    induction m with
    | zero =>
      intro k s1' u g1 g2 g3 g4 g5
      have : k = n := by omega
      subst this
      have hc' : s1' o 4 = k := by rw [g3 o (by omega) (by omega) (by omega)]; exact hc
      rw [awu 258 1]
      try simp only [awu 258 7, pe258, xs, i_load, i_loadR, i_inc, lg, lp, true_and, and_true, List.length_cons, List.length_nil, Nat.reduceAdd, Nat.reduceLeDiff, Nat.zero_le, Int.toNat_natCast, natLit, k0, k5, hc']
      refine ⟨fun _ => L2 (k - 1) 1 s1' u (Nat.le_refl _) hn1 rfl g3 (fun i hi => (g4 i hi).1) ⟨(g4 0 (by omega)).2, fun i a b => by omega⟩ (fun i l hi hl => ?_), fun h => by omega⟩
      rw [g5 _ (by omega)]
      constructor
      · intro j hj ej
        have : j = 0 := by omega
        subst this
        rw [hf0] at ej
        unfold lw at ej
        omega
      · intro _
        rfl
    | succ m ih =>
      intro k s1' u g1 g2 g3 g4 g5
      have hc' : s1' o 4 = n := by rw [g3 o (by omega) (by omega) (by omega)]; exact hc
      have ew : Unit → wr ((k : Int) + 1) = ((k + 1 : Nat) : Int) := fun _ => by rw [wr_id (by omega) (by omega)]; omega
      have inner : ∀ q l : Nat, ∀ s4 : St, l ≤ 4 → 4 - l = q → (∀ j, j ≠ o + 2 → j ≠ o + 3 → j ≠ o + 4 → s4 j = st j) → (∀ i, i < k + 1 → s4 (o + 2) i = 0 ∧ s4 (o + 3) i = -1) → (∀ i, i < 4 * k + l → s4 (o + 4) i = -1) → AW (P 258) Q (MS (d + 2)) 0 (fun _ => 0) 4 [vr o, vr 5, vi lo, vi k, vi l] [] s4 := by
        intro q
        induction q with
        | zero =>
          intro l s4 a1 a2 a3 a4 a5
          have : l = 4 := by omega
          subst this
          rw [awu 258 4]
          try simp only [awu 258 6, pe258, xs, i_load, i_loadR, i_inc, lg, lp, true_and, and_true, List.length_cons, List.length_nil, Nat.reduceAdd, Nat.reduceLeDiff, Nat.zero_le, Int.toNat_natCast, natLit, k0, ew ()]
          exact ⟨fun _ => ih (k + 1) s4 _ (by omega) (by omega) a3 a4 (fun i hi => a5 i (by omega)), fun h => by omega⟩
        | succ q ihq =>
          intro l s4 a1 a2 a3 a4 a5
          have e1 : Unit → wr ((k : Int) * 4) = ((4 * k : Nat) : Int) := fun _ => by rw [wr_id (by omega) (by omega)]; omega
          have e2 : Unit → wr (((4 * k : Nat) : Int) + l) = ((4 * k + l : Nat) : Int) := fun _ => by rw [wr_id (by omega) (by omega)]; omega
          have e3 : Unit → wr ((l : Int) + 1) = ((l + 1 : Nat) : Int) := fun _ => by rw [wr_id (by omega) (by omega)]; omega
          rw [awu 258 4]
          try simp only [awu 258 5, awu 258 6, pe258, xs, i_load, i_loadR, i_inc, lg, lp, true_and, and_true, List.length_cons, List.length_nil, Nat.reduceAdd, Nat.reduceLeDiff, Nat.zero_le, Int.toNat_natCast, natLit, k0, k4, l4, e1 (), e2 (), e3 ()]
          refine ⟨fun h => by omega, fun _ => ⟨by omega, ?_⟩⟩
          refine ihq (l + 1) _ (by omega) (by omega) (fun j q1 q2 q3 => by rw [up2_ne q3]; exact a3 j q1 q2 q3) (fun i hi => by rw [up2_ne (by omega), up2_ne (by omega)]; exact a4 i hi) (fun i hi => ?_)
          rw [up2_self]
          by_cases z : i = 4 * k + l
          · subst z
            rw [upf_s]
          · rw [upf_n z]
            exact a5 i (by omega)
      rw [awu 258 1]
      try simp only [awu 258 2, awu 258 3, pe258, xs, i_load, i_loadR, i_inc, lg, lp, true_and, and_true, List.length_cons, List.length_nil, Nat.reduceAdd, Nat.reduceLeDiff, Nat.zero_le, Int.toNat_natCast, natLit, k0, hc', k2, l2, k3, l3]
      refine ⟨fun h => by omega, fun _ => ⟨fun h => by omega, fun _ => ⟨by omega, by omega, ?_⟩⟩⟩
      refine inner 4 0 _ (by omega) rfl (fun j q1 q2 q3 => by rw [up2_ne q2, up2_ne q1]; exact g3 j q1 q2 q3) (fun i hi => ?_) (fun i hi => by rw [up2_ne (by omega), up2_ne (by omega)]; exact g5 i (by omega))
      rw [up2_ne (by omega), up2_self, up2_self, up2_ne (by omega)]
      by_cases z : i = k
      · subst z
        rw [upf_s, upf_s]
        exact ⟨rfl, rfl⟩
      · rw [upf_n z, upf_n z]
        exact g4 i (by omega)
  refine MS_v [vr o, vr 5, vi lo, none, none] rfl rfl k0 rfl ?_
  try simp only [awu 258 0, pe258, xs, i_load, i_loadR, i_inc, lg, lp, true_and, and_true, List.length_cons, List.length_nil, Nat.reduceAdd, Nat.reduceLeDiff, Nat.zero_le, Int.toNat_natCast, natLit, k0]
  exact L1 n 0 st none (Nat.zero_le _) rfl (fun _ _ _ _ => rfl) (fun i hi => by omega) (fun i hi => by omega)
end
section
/-! the whole tree -/
def Pf (W : Nat → Prop) (x : Nat) : Prop := x = 0 ∨ ∃ w, W w ∧ Pn w x
theorem ND_of {f : Nat → Nat} {n : Nat} {W : Nat → Prop} (hs : Srt f n) (hm : ∀ x, Mm f n x ↔ Pf W x) (hw : ∀ w, W w → wf w) : ND f n := by
  obtain ⟨i0, hi0, e0⟩ := (hm 0).mpr (Or.inl rfl)
  have hf0 : f 0 = 0 := by
    have := Srt_le hs (Nat.zero_le i0) hi0
    omega
  refine ⟨hs, by omega, hf0, fun k hk => ?_⟩
  rcases (hm (f k)).mp ⟨k, hk, rfl⟩ with h | ⟨w, h1, j, h2, h3, h4⟩
  · refine ⟨by rw [h]; exact okw_wf (okw_0 0), fun h0 => ?_⟩
    have := hs 0 k h0 hk
    omega
  · have hwf := hw w h1
    rw [h4]
    refine ⟨wf_bg hwf h3, fun _ => ?_⟩
    rw [wl_bg hwf h3, bg_bg hwf h3 (by omega)]
    refine ⟨by omega, (hm _).mpr ?_⟩
    by_cases h5 : j = 1
    · left
      rw [h5]
      exact bg_0 hwf
    · right
      exact ⟨w, h1, j - 1, by omega, by omega, rfl⟩
def TOK (st : St) (o n : Nat) (f : Nat → Nat) (Ex : Nat → Int → Prop) : Prop := st o 4 = n ∧ n ≤ 120 ∧ (∀ k, k < n → st (o + 1) k = f k) ∧ ND f n ∧ (∀ x, Mm f n x ↔ Pf (fun w => ∃ v, Ex w v) x) ∧ TM f n (st (o + 2)) Ex ∧ TP f n (st (o + 3)) ∧ TC f n (st (o + 4))
/-- the examples as the class holds them -/
def SOK (st : St) (c : Nat) (e : Nat → Nat) (a : Nat) : Prop := st 5 2 = c ∧ c ≤ 40 ∧ (∀ i, i < c → st 6 i = e i) ∧ (∀ i, i < c → ok01 (st 7 i)) ∧ Srt e c ∧ ∀ i, i < c → okw a (e i)
theorem Pn_self {w : Nat} (hw : wf w) : Pf (fun x => x = w) w := by
  by_cases h : wl w = 0
  · left
    have := bg_self (w := w)
    rw [h, bg_0 hw] at this
    exact this.symm
  · right
    exact ⟨w, rfl, wl w, by omega, Nat.le_refl _, bg_self.symm⟩
theorem sp_tbuild {d o c a : Nat} {st : St} {e : Nat → Nat} {lo : Int} {Q : Rn} (ho : isTr o) (ho8 : 8 ≤ o) (hS : SOK st c e a) (hcp : Cp 120 (Pf (fun w => ∃ v, ExR e (st 7) c lo w v)))
    (hq : ∀ (st' : St) (f : Nat → Nat) (n : Nat), TOK st' o n f (ExR e (st 7) c lo) → (∀ j, j ≠ o → j ≠ o + 1 → j ≠ o + 2 → j ≠ o + 3 → j ≠ o + 4 → st' j = st j) → Q none st') : MS (d + 4) 252 [vr o, vr 5, vi lo] st Q := by
  obtain ⟨k0, ⟨k1, l1⟩, -⟩ := id ho
  obtain ⟨hsc, hc40, he, h01, hes, hok⟩ := id hS
  have k5 : kl 5 = 7 := rfl
  have hwfE : ∀ w, (∃ v, ExR e (st 7) c lo w v) → wf w := by
    rintro w ⟨v, i, h1, h2, rfl, h4⟩
    exact okw_wf (hok i h1)
  have key : ∀ m k : Nat, ∀ (s2 : St) (f : Nat → Nat) (n : Nat), k ≤ c → c - k = m → s2 o 4 = n → n ≤ 120 → (∀ i, i < n → s2 (o + 1) i = f i) → Srt f n → (∀ x, Mm f n x ↔ Pf (fun w => ∃ v, ExR e (st 7) k lo w v) x) → (∀ j, j ≠ o → j ≠ o + 1 → s2 j = st j) → AW (P 252) Q (MS (d + 3)) 0 (fun _ => 0) 1 [vr o, vr 5, vi lo, vi k] [] s2 := by
    intro m
    induction m with
    | zero =>
      intro k s2 f n g1 g2 g3 g4 g5 g6 g7 g8
      have : k = c := by omega
      subst this
      have hsc' : s2 5 2 = k := by rw [g8 5 (by omega) (by omega)]; exact hsc
      have e6 : s2 6 = st 6 := g8 6 (by omega) (by omega)
      have e7 : s2 7 = st 7 := g8 7 (by omega) (by omega)
      have hnd := ND_of g6 g7 hwfE
      rw [awu 252 1]
      try simp only [awu 252 5, pe252, xs, i_load, i_loadR, i_inc, lg, lp, true_and, and_true, List.length_cons, List.length_nil, Nat.reduceAdd, Nat.reduceLeDiff, Nat.zero_le, Int.toNat_natCast, natLit, k0, k5, hsc']
      refine ⟨fun _ => ?_, fun h => by omega⟩
      refine sp_tlink (e := e) (f := f) ho ho8 g3 g4 g5 hnd hsc' hc40 (fun i hi => by rw [e6]; exact he i hi) (fun i hi => by rw [e7]; exact h01 i hi) (fun i hi hl => ?_) (fun i j hi hj h => Srt_inj hes hi hj h) (fun st' q1 q2 q3 q4 => ?_)
      · rcases Pn_self (okw_wf (hok i hi)) with h | ⟨w, rfl, h⟩
        · exact (g7 _).mpr (Or.inl h)
        · exact (g7 _).mpr (Or.inr ⟨e i, ⟨st 7 i, i, hi, hl, rfl, rfl⟩, h⟩)
      · dsimp only
        rw [e7] at q2
        refine hq st' f n ⟨?_, g4, ?_, hnd, g7, q2, q3, q4⟩ (fun j a1 a2 a3 a4 a5 => by rw [q1 j a3 a4 a5]; exact g8 j a1 a2)
        · rw [q1 o (by omega) (by omega) (by omega)]
          exact g3
        · intro i hi
          rw [q1 (o + 1) (by omega) (by omega) (by omega)]
          exact g5 i hi
    | succ m ih =>
      intro k s2 f n g1 g2 g3 g4 g5 g6 g7 g8
      have hsc' : s2 5 2 = c := by rw [g8 5 (by omega) (by omega)]; exact hsc
      have ew : Unit → wr ((k : Int) + 1) = ((k + 1 : Nat) : Int) := fun _ => by rw [wr_id (by omega) (by omega)]; omega
      by_cases hlo : (k : Int) = lo
      · rw [awu 252 1]
        try simp only [awu 252 2, awu 252 4, pe252, xs, i_load, i_loadR, i_inc, lg, lp, true_and, and_true, List.length_cons, List.length_nil, Nat.reduceAdd, Nat.reduceLeDiff, Nat.zero_le, Int.toNat_natCast, natLit, k0, k5, hsc', ew ()]
        refine ⟨fun h => by omega, fun _ => ⟨fun _ => ?_, fun h => absurd hlo h⟩⟩
        refine ih (k + 1) s2 f n (by omega) (by omega) g3 g4 g5 g6 (fun x => ?_) g8
        rw [g7]
        unfold Pf
        constructor
        · rintro (h | ⟨w, ⟨v, i, h1, h2, h3, h4⟩, h5⟩)
          · exact Or.inl h
          · exact Or.inr ⟨w, ⟨v, i, by omega, h2, h3, h4⟩, h5⟩
        · rintro (h | ⟨w, ⟨v, i, h1, h2, h3, h4⟩, h5⟩)
          · exact Or.inl h
          · exact Or.inr ⟨w, ⟨v, i, by omega, h2, h3, h4⟩, h5⟩
      · rw [awu 252 1]
        try simp only [awu 252 2, awu 252 3, pe252, xs, i_load, i_loadR, i_inc, lg, lp, true_and, and_true, List.length_cons, List.length_nil, Nat.reduceAdd, Nat.reduceLeDiff, Nat.zero_le, Int.toNat_natCast, natLit, k0, k5, hsc']
        refine ⟨fun h => by omega, fun _ => ⟨fun h => absurd h hlo, fun _ => ?_⟩⟩
        refine sp_scode hsc' hc40 ?_
        dsimp only
        rw [if_pos (by omega), Int.toNat_natCast, g8 6 (by omega) (by omega), he k (by omega)]
        have hwk := okw_wf (hok k (by omega))
        refine sp_taddw ho g3 g4 g5 g6 hwk (Cp_sub hcp ?_) (fun s3 f3 n3 q1 q2 q3 q4 q5 q6 => ?_)
        · rintro x (h | h)
          · rcases (g7 x).mp h with h | ⟨w, ⟨v, i, h1, h2, h3, h4⟩, h5⟩
            · exact Or.inl h
            · exact Or.inr ⟨w, ⟨v, i, by omega, h2, h3, h4⟩, h5⟩
          · exact Or.inr ⟨e k, ⟨st 7 k, k, by omega, hlo, rfl, rfl⟩, h⟩
        · dsimp only
          try simp only [awu 252 4, pe252, xs, i_load, i_loadR, i_inc, lg, lp, true_and, and_true, List.length_cons, List.length_nil, Nat.reduceAdd, Nat.reduceLeDiff, Nat.zero_le, Int.toNat_natCast, natLit, k0, k5, ew ()]
          refine ih (k + 1) s3 f3 n3 (by omega) (by omega) q1 q2 q3 q4 (fun x => ?_) (fun j a1 a2 => ?_)
          · rw [q5, g7]
            constructor
            · rintro ((h | ⟨w, ⟨v, i, h1, h2, h3, h4⟩, h5⟩) | h)
              · exact Or.inl h
              · exact Or.inr ⟨w, ⟨v, i, by omega, h2, h3, h4⟩, h5⟩
              · exact Or.inr ⟨e k, ⟨st 7 k, k, by omega, hlo, rfl, rfl⟩, h⟩
            · rintro (h | ⟨w, ⟨v, i, h1, h2, h3, h4⟩, h5⟩)
              · exact Or.inl (Or.inl h)
              · by_cases hik : i = k
                · subst hik
                  rw [← h3] at h5
                  exact Or.inr h5
                · exact Or.inl (Or.inr ⟨w, ⟨v, i, by omega, h2, h3, h4⟩, h5⟩)
          · funext i
            rw [q6 j i (fun h => a1 h.1) a2]
            exact congrFun (g8 j a1 a2) i
  refine MS_v [vr o, vr 5, vi lo, none] rfl rfl k0 rfl ?_
  try simp only [awu 252 0, pe252, xs, i_load, i_loadR, i_inc, lg, lp, true_and, and_true, List.length_cons, List.length_nil, Nat.reduceAdd, Nat.reduceLeDiff, Nat.zero_le, Int.toNat_natCast, natLit, k0, k1, l1]
  refine ⟨by omega, ?_⟩
  refine key c 0 _ (fun _ => 0) 1 (Nat.zero_le _) rfl ?_ (by omega) ?_ (fun i j h1 h2 => by omega) ?_ ?_
  · rw [up2_ne (by omega), up2_at, if_pos rfl, if_pos rfl]
    rfl
  · intro i hi
    have : i = 0 := by omega
    subst this
    rw [up2_self]
    show upf _ (Int.toNat 0) 0 0 = _
    rw [show Int.toNat 0 = 0 from rfl, upf_s]
    rfl
  · intro x
    constructor
    · rintro ⟨i, h1, h2⟩
      exact Or.inl h2.symm
    · rintro (h | ⟨w, ⟨v, i, h1, _⟩, _⟩)
      · exact ⟨0, by omega, h.symm⟩
      · omega
  · intro j a1 a2
    rw [up2_ne a2, up2_ne a1]
end
section
/-! the tree of the reference -/
theorem wl_wc (w : Nat) : wl w * 1048576 + wc w = w := by unfold wl wc; omega
def mK0 : kl 99 = 12 := rfl
theorem sp_mno {d n : Nat} {st : St} {f : Nat → Nat} {w : Nat} {Q : Rn} (hc : st 99 14 = n) (hn : n ≤ 120) (hf : ∀ k, k < n → st 104 k = wl (f k) ∧ st 105 k = wc (f k)) (hs : Srt f n) (hq : ∀ p, IsPl (fun i => (f i : Int)) n w p → Q (vi (p : Nat)) st) : MS (d + 2) 55 [vr 99, vi (wl w : Nat), vi (wc w : Nat)] st Q := by
  have k0 : kl 99 = 12 := rfl
  have k1 : kl 104 = 50 := rfl
  have l1 : len 104 = 161 := rfl
  have k2 : kl 105 = 50 := rfl
  have l2 : len 105 = 161 := rfl
  refine MS_v [vr 99, vi (wl w : Nat), vi (wc w : Nat), none] rfl rfl rfl rfl ?_
  try simp only [awu 55 0, pe55, xs, i_load, i_loadR, i_inc, lg, lp, true_and, and_true, List.length_cons, List.length_nil, Nat.reduceAdd, Nat.reduceLeDiff, Nat.zero_le, Int.toNat_natCast, natLit, k0]
  have key : ∀ m k : Nat, k ≤ n → n - k = m → (∀ i, i < k → f i < w) → AW (P 55) Q (MS (d + 1)) 0 (fun _ => 0) 1 [vr 99, vi (wl w : Nat), vi (wc w : Nat), vi k] [] st := by
    intro m
    induction m with
    | zero =>
      intro k g1 g2 g3
      rw [awu 55 1]
      try simp only [awu 55 2, awu 55 4, pe55, xs, i_load, i_loadR, i_inc, lg, lp, true_and, and_true, List.length_cons, List.length_nil, Nat.reduceAdd, Nat.reduceLeDiff, Nat.zero_le, Int.toNat_natCast, natLit, k0, k1, l1, k2, l2, hc]
      exact ⟨fun _ => hq k ⟨g1, fun i hi => by have := g3 i hi; dsimp only; omega, fun h => by omega⟩, fun h => by omega⟩
    | succ m ih =>
      intro k g1 g2 g3
      obtain ⟨h1, h2⟩ := hf k (by omega)
      rw [awu 55 1]
      try simp only [awu 55 2, awu 55 4, pe55, xs, i_load, i_loadR, i_inc, lg, lp, true_and, and_true, List.length_cons, List.length_nil, Nat.reduceAdd, Nat.reduceLeDiff, Nat.zero_le, Int.toNat_natCast, natLit, k0, k1, l1, k2, l2, hc, h1, h2]
      refine ⟨fun h => by omega, fun _ => ⟨by omega, by omega, sp_ahead ?_⟩⟩
      dsimp only
      have a1 := wl_wc w
      have a2 := wl_wc (f k)
      have a3 := wc_lt w
      have a4 := wc_lt (f k)
      by_cases ha : f k < w
      · rw [if_pos (by omega)]
        try simp only [awu 55 3, awu 55 4, pe55, xs, i_load, i_loadR, i_inc, lg, lp, true_and, and_true, List.length_cons, List.length_nil, Nat.reduceAdd, Nat.reduceLeDiff, Nat.zero_le, Int.toNat_natCast, natLit, k0]
        refine ⟨fun h => absurd h (by decide), fun h1 => ?_⟩
        clear h1
        rw [wr_id (by omega) (by omega)]
        refine ih (k + 1) (by omega) (by omega) (fun i hi => ?_)
        by_cases e : i = k
        · subst e; exact ha
        · exact g3 i (by omega)
      · rw [if_neg (by omega)]
        try simp only [awu 55 3, awu 55 4, pe55, xs, i_load, i_loadR, i_inc, lg, lp, true_and, and_true, List.length_cons, List.length_nil, Nat.reduceAdd, Nat.reduceLeDiff, Nat.zero_le, Int.toNat_natCast, natLit, k0]
        exact ⟨fun _ => hq k ⟨g1, fun i hi => by have := g3 i hi; dsimp only; omega, fun _ => by dsimp only; omega⟩, fun h => absurd trivial h⟩
  exact key n 0 (Nat.zero_le _) rfl (fun i hi => by omega)
theorem sp_misn {d n k : Nat} {st : St} {f : Nat → Nat} {w : Nat} {Q : Rn} (hc : st 99 14 = n) (hn : n ≤ 120) (hf : ∀ k, k < n → st 104 k = wl (f k) ∧ st 105 k = wc (f k)) (hq : Q (vi (if k < n ∧ f k = w then 1 else 0)) st) : MS (d + 1) 56 [vr 99, vi k, vi (wl w : Nat), vi (wc w : Nat)] st Q := by
  have k0 : kl 99 = 12 := rfl
  have k1 : kl 104 = 50 := rfl
  have l1 : len 104 = 161 := rfl
  have k2 : kl 105 = 50 := rfl
  have l2 : len 105 = 161 := rfl
  refine MS_v [vr 99, vi k, vi (wl w : Nat), vi (wc w : Nat)] rfl rfl rfl rfl ?_
  try simp only [awu 56 0, awu 56 1, awu 56 2, awu 56 3, awu 56 4, awu 56 5, pe56, xs, i_load, i_loadR, i_inc, lg, lp, true_and, and_true, List.length_cons, List.length_nil, Nat.reduceAdd, Nat.reduceLeDiff, Nat.zero_le, Int.toNat_natCast, natLit, k0, k1, l1, k2, l2, hc]
  refine ⟨fun a => ?_, fun a => ⟨by omega, ?_⟩⟩
  · rw [if_neg (by omega)] at hq
    exact ⟨ok01_0, hq⟩
  · obtain ⟨h1, h2⟩ := hf k (by omega)
    rw [h1, h2]
    have a1 := wl_wc w
    have a2 := wl_wc (f k)
    refine ⟨fun b => ?_, fun b => ⟨by omega, fun g => ?_, fun g => ?_⟩⟩
    · rw [if_neg (fun h => b (by rw [h.2]))] at hq
      exact ⟨ok01_0, hq⟩
    · rw [if_neg (fun h => g (by rw [h.2]))] at hq
      exact ⟨ok01_0, hq⟩
    · rw [if_pos (by omega)] at hq
      exact ⟨ok01_1, hq⟩
theorem sp_madd {d n : Nat} {st : St} {f : Nat → Nat} {w : Nat} {Q : Rn} (hc : st 99 14 = n) (hn : n ≤ 120) (hf : ∀ k, k < n → st 104 k = wl (f k) ∧ st 105 k = wc (f k)) (hs : Srt f n) (hcp : Cp 120 (fun x => Mm f n x ∨ x = w))
    (hq : ∀ (st' : St) (f' : Nat → Nat) (n' : Nat), st' 99 14 = n' → n' ≤ 120 → (∀ k, k < n' → st' 104 k = wl (f' k) ∧ st' 105 k = wc (f' k)) → ndI f n w f' n' → (∀ j i, ¬ (j = 99 ∧ i = 14) → j ≠ 104 → j ≠ 105 → st' j i = st j i) → Q none st') : MS (d + 3) 57 [vr 99, vi (wl w : Nat), vi (wc w : Nat)] st Q := by
  have k0 : kl 99 = 12 := rfl
  have k1 : kl 104 = 50 := rfl
  have l1 : len 104 = 161 := rfl
  have k2 : kl 105 = 50 := rfl
  have l2 : len 105 = 161 := rfl
  refine MS_v [vr 99, vi (wl w : Nat), vi (wc w : Nat), none, none] rfl rfl rfl rfl ?_
  try simp only [awu 57 0, pe57, xs, i_load, i_loadR, i_inc, lg, lp, true_and, and_true, List.length_cons, List.length_nil, Nat.reduceAdd, Nat.reduceLeDiff, Nat.zero_le, Int.toNat_natCast, natLit, k0, hc]
  refine sp_mno hc hn hf hs (fun p hp => ?_)
  have hpn := hp.1
  have hmm := IsPl_mm hs hp
  dsimp only
  try simp only [awu 57 0, pe57, xs, i_load, i_loadR, i_inc, lg, lp, true_and, and_true, List.length_cons, List.length_nil, Nat.reduceAdd, Nat.reduceLeDiff, Nat.zero_le, Int.toNat_natCast, natLit, k0, hc]
  refine sp_misn hc hn hf ?_
  dsimp only
  by_cases hin : Mm f n w
  · have hin' := hmm.mp hin
    have hdone : Q none st := hq st f n hc hn hf ⟨hs, Nat.le_refl _, fun x => ⟨Or.inl, fun h => h.elim id (fun e => by rw [e]; exact hin)⟩⟩ (fun _ _ _ _ _ => rfl)
    rw [if_pos hin']
    try simp only [awu 57 1, awu 57 2, pe57, xs, i_load, i_loadR, i_inc, lg, lp, true_and, and_true, List.length_cons, List.length_nil, Nat.reduceAdd, Nat.reduceLeDiff, Nat.zero_le, Int.toNat_natCast, natLit, k0, hc]
    exact ⟨fun h => absurd h (by decide), fun _ => hdone⟩
  · rw [if_neg (fun h => hin (hmm.mpr h))]
    have h2 : ∀ i, p ≤ i → i < n → w < f i := by
      intro i a b
      have h3 := hp.2.2 (by omega)
      have h4 := Srt_le hs a b
      have h5 : f i ≠ w := fun e => hin ⟨i, b, e⟩
      dsimp only at h3
      omega
    have h1 : ∀ i, i < p → f i < w := fun i a => by have := hp.2.1 i a; dsimp only at this; omega
    have hlt : n < 120 := by
      have := hcp (insN f p w) (n + 1) (Srt_ins hs hpn h1 h2) (fun i hi => (Mm_ins (f := f) (v := w) hpn).mp ⟨i, hi, rfl⟩)
      omega
    have key : ∀ m k : Nat, ∀ st' : St, p ≤ k → k ≤ n → k - p = m → (∀ i, i < k → st' 104 i = wl (f i) ∧ st' 105 i = wc (f i)) → (∀ i, k < i → i ≤ n → st' 104 i = wl (f (i - 1)) ∧ st' 105 i = wc (f (i - 1))) → (∀ j, j ≠ 104 → j ≠ 105 → st' j = st j) → AW (P 57) Q (MS (d + 2)) 0 (fun _ => 0) 3 [vr 99, vi (wl w : Nat), vi (wc w : Nat), vi p, vi k] [] st' := by
      intro m
      induction m with
      | zero =>
        intro k st' g1 g2 g3 g4 g5 g6
        have : k = p := by omega
        subst this
        have hc' : st' 99 14 = n := by rw [g6 99 (by omega) (by omega)]; exact hc
        have hc2 : up2 (up2 st' 104 k (wl w : Nat)) 105 k (wc w : Nat) 99 14 = n := by rw [up2_ne (by omega), up2_ne (by omega)]; exact hc'
        have ew : Unit → wr ((n : Int) + 1) = ((n + 1 : Nat) : Int) := fun _ => by rw [wr_id (by omega) (by omega)]; omega
        rw [awu 57 3]
        try simp only [awu 57 5, pe57, xs, i_load, i_loadR, i_inc, lg, lp, true_and, and_true, List.length_cons, List.length_nil, Nat.reduceAdd, Nat.reduceLeDiff, Nat.zero_le, Int.toNat_natCast, natLit, k0, k1, l1, k2, l2, hc2, ew ()]
        refine ⟨fun _ => ⟨by omega, by omega, ?_⟩, fun h => by omega⟩
        refine hq _ (insN f k w) (n + 1) ?_ (by omega) ?_ ⟨Srt_ins hs hpn h1 h2, by omega, fun x => Mm_ins hpn⟩ ?_
        · rw [up2_at, if_pos rfl, if_pos rfl]
        · intro i hi
          rw [up2_ne (by omega), up2_ne (by omega), up2_self, up2_ne (by omega), up2_self, up2_ne (by omega)]
          unfold insN
          by_cases e : i = k
          · subst e
            rw [upf_s, upf_s, if_neg (by omega), if_pos rfl]
            exact ⟨rfl, rfl⟩
          · rw [upf_n e, upf_n e]
            by_cases e2 : i < k
            · rw [if_pos e2]
              exact g4 i e2
            · rw [if_neg e2, if_neg e]
              exact g5 i (by omega) (by omega)
        · intro j i q1 q2 q3
          rw [up2_at]
          by_cases e : j = 99
          · subst e
            rw [if_pos rfl, if_neg (fun z => q1 ⟨rfl, z⟩), up2_ne (by omega), up2_ne (by omega), g6 99 (by omega) (by omega)]
          · rw [if_neg e, up2_ne q3, up2_ne q2, g6 j q2 q3]
      | succ m ih =>
        intro k st' g1 g2 g3 g4 g5 g6
        have ek : Unit → wr ((k : Int) - 1) = ((k - 1 : Nat) : Int) := fun _ => by rw [wr_id (by omega) (by omega)]; omega
        have ek2 : Unit → wr ((k : Int) + -1) = ((k - 1 : Nat) : Int) := fun _ => by rw [wr_id (by omega) (by omega)]; omega
        rw [awu 57 3]
        try simp only [awu 57 4, pe57, xs, i_load, i_loadR, i_inc, lg, lp, true_and, and_true, List.length_cons, List.length_nil, Nat.reduceAdd, Nat.reduceLeDiff, Nat.zero_le, Int.toNat_natCast, natLit, k0, k1, l1, k2, l2, ek (), ek2 ()]
        refine ⟨fun h => by omega, fun _ => ⟨by omega, by omega, by omega, by omega, ?_⟩⟩
        refine ih (k - 1) _ (by omega) (by omega) (by omega) ?_ ?_ ?_
        · intro i hi
          rw [up2_ne (by omega), up2_self, up2_self, up2_ne (by omega), upf_n (by omega), upf_n (by omega)]
          exact g4 i (by omega)
        · intro i q1 q2
          rw [up2_ne (by omega), up2_self, up2_self, up2_ne (by omega)]
          by_cases e : i = k
          · subst e
            rw [upf_s, upf_s]
            exact g4 _ (by omega)
          · rw [upf_n e, upf_n e]
            exact g5 i (by omega) q2
        · intro j hj hj2
          rw [up2_ne hj2, up2_ne hj]
          exact g6 j hj hj2
    try simp only [awu 57 1, awu 57 2, pe57, xs, i_load, i_loadR, i_inc, lg, lp, true_and, and_true, List.length_cons, List.length_nil, Nat.reduceAdd, Nat.reduceLeDiff, Nat.zero_le, Int.toNat_natCast, natLit, k0, hc]
    exact ⟨fun _ => key (n - p) n st hpn (Nat.le_refl _) rfl hf (fun i a b => by omega) (fun _ _ _ => rfl), fun h => absurd trivial h⟩
theorem sp_mmore {d n : Nat} {st : St} {f : Nat → Nat} {w : Nat} {Q : Rn} (hc : st 99 14 = n) (hn : n ≤ 120) (hf : ∀ k, k < n → st 104 k = wl (f k) ∧ st 105 k = wc (f k)) (hs : Srt f n) (h0 : Mm f n 0) (hw : wf w) (hq : Q (vi (lk f n w (wl w) : Nat)) st) : MS (d + 3) 58 [vr 99, vi (wl w : Nat), vi (wc w : Nat)] st Q := by
  have k0 : kl 99 = 12 := rfl
  have hw10 := hw.1
  have hcl := wc_lt w
  refine MS_v [vr 99, vi (wl w : Nat), vi (wc w : Nat), none, none] rfl rfl rfl rfl ?_
  try simp only [awu 58 0, pe58, xs, i_load, i_loadR, i_inc, lg, lp, true_and, and_true, List.length_cons, List.length_nil, Nat.reduceAdd, Nat.reduceLeDiff, Nat.zero_le, Int.toNat_natCast, natLit, k0]
  have key : ∀ m k : Nat, k ≤ wl w + 1 → wl w + 1 - k = m → AW (P 58) Q (MS (d + 2)) 0 (fun _ => 0) 1 [vr 99, vi (wl w : Nat), vi (wc w : Nat), vi (lk f n w (k - 1) : Nat), vi k] [] st := by
    intro m
    induction m with
    | zero =>
      intro k g1 g2
      have : k = wl w + 1 := by omega
      subst this
      rw [awu 58 1]
      try simp only [awu 58 6, pe58, xs, i_load, i_loadR, i_inc, lg, lp, true_and, and_true, List.length_cons, List.length_nil, Nat.reduceAdd, Nat.reduceLeDiff, Nat.zero_le, Int.toNat_natCast, natLit, k0]
      exact ⟨fun _ => hq, fun h => by omega⟩
    | succ m ih =>
      intro k g1 g2
      have hkw : k ≤ wl w := by omega
      have hle := lk_le (f := f) (n := n) (w := w) (k - 1)
      have e1 : Unit → wr (((wl w : Nat) : Int) - k) = ((wl w - k : Nat) : Int) := fun _ => by rw [wr_id (by omega) (by omega)]; omega
      have e2 : Unit → wr (2 * ((wl w - k : Nat) : Int)) = ((2 * (wl w - k) : Nat) : Int) := fun _ => by rw [wr_id (by omega) (by omega)]; omega
      have e3 : bshr ((wc w : Nat) : Int) ((2 * (wl w - k) : Nat) : Int) = ((wc (bg w k) : Nat) : Int) := by rw [bshr_nat _ _ (by omega) (by omega), wc_bg hw hkw]
      have e4 : (k : Int) = ((wl (bg w k) : Nat) : Int) := by rw [wl_bg hw hkw]
      have e5 : Unit → wr ((k : Int) + 1) = ((k + 1 : Nat) : Int) := fun _ => by rw [wr_id (by omega) (by omega)]; omega
      have e6 : lk f n w k = lk f n w (k - 1) + (if mmB f n (bg w k) then 0 else 1) := by
        cases k with
        | zero =>
          have : mmB f n (bg w 0) = true := mmB_iff.mpr (by rw [bg_0 hw]; exact h0)
          simp [this]
        | succ j => rfl
      have ih' := ih (k + 1) (by omega) (by omega)
      rw [show k + 1 - 1 = k by omega, e6] at ih'
      rw [awu 58 1]
      try simp only [awu 58 2, pe58, xs, i_load, i_loadR, i_inc, lg, lp, true_and, and_true, List.length_cons, List.length_nil, Nat.reduceAdd, Nat.reduceLeDiff, Nat.zero_le, Int.toNat_natCast, natLit, k0, e1 (), e2 (), e3]
      refine ⟨fun h => by omega, fun _ => ?_⟩
      have hmno : ∀ R : Rn, (∀ p, IsPl (fun i => (f i : Int)) n (bg w k) p → R (vi (p : Nat)) st) → MS (d + 2) 55 [vr 99, vi k, vi (wc (bg w k) : Nat)] st R := by
        intro R hR
        rw [e4]
        exact sp_mno hc hn hf hs hR
      refine hmno _ (fun p hp => ?_)
      have hmm := IsPl_mm hs hp
      dsimp only
      try simp only [awu 58 2, pe58, xs, i_load, i_loadR, i_inc, lg, lp, true_and, and_true, List.length_cons, List.length_nil, Nat.reduceAdd, Nat.reduceLeDiff, Nat.zero_le, Int.toNat_natCast, natLit, k0, e1 (), e2 (), e3]
      have hmis : ∀ R : Rn, R (vi (if p < n ∧ f p = bg w k then 1 else 0)) st → MS (d + 2) 56 [vr 99, vi p, vi k, vi (wc (bg w k) : Nat)] st R := by
        intro R hR
        rw [e4]
        exact sp_misn hc hn hf hR
      refine hmis _ ?_
      dsimp only
      by_cases hin : Mm f n (bg w k)
      · rw [if_pos (hmm.mp hin)]
        rw [if_pos (mmB_iff.mpr hin), Nat.add_zero] at ih'
        try simp only [awu 58 3, awu 58 4, awu 58 5, pe58, xs, i_load, i_loadR, i_inc, lg, lp, true_and, and_true, List.length_cons, List.length_nil, Nat.reduceAdd, Nat.reduceLeDiff, Nat.zero_le, Int.toNat_natCast, natLit, k0, e5 ()]
        refine ⟨fun h => absurd h (by decide), fun _ => ?_⟩
        rw [Int.add_zero, wr_id (by omega) (by omega)]
        exact ih'
      · rw [if_neg (fun h => hin (hmm.mpr h))]
        rw [if_neg (fun h => hin (mmB_iff.mp h))] at ih'
        try simp only [awu 58 3, awu 58 4, awu 58 5, pe58, xs, i_load, i_loadR, i_inc, lg, lp, true_and, and_true, List.length_cons, List.length_nil, Nat.reduceAdd, Nat.reduceLeDiff, Nat.zero_le, Int.toNat_natCast, natLit, k0, e5 ()]
        refine ⟨fun _ => ?_, fun h => absurd trivial h⟩
        rw [wr_id (by omega) (by omega)]
        exact ih'
  exact key (wl w + 1) 0 (by omega) (by omega)
end
section
/-! the reference lays its tree and its states -/
def TOKm (st : St) (n : Nat) (f : Nat → Nat) (Ex : Nat → Int → Prop) : Prop := st 99 14 = n ∧ n ≤ 120 ∧ (∀ k, k < n → st 104 k = wl (f k) ∧ st 105 k = wc (f k)) ∧ ND f n ∧ (∀ x, Mm f n x ↔ Pf (fun w => ∃ v, Ex w v) x) ∧ TM f n (st 106) Ex ∧ TP f n (st 107) ∧ TC f n (st 108)
def MOK (st : St) (c : Nat) (e : Nat → Nat) (a : Nat) : Prop := st 99 8 = c ∧ c ≤ 40 ∧ (∀ i, i < c → st 101 i = wl (e i) ∧ st 102 i = wc (e i)) ∧ (∀ i, i < c → ok01 (st 103 i)) ∧ Srt e c ∧ ∀ i, i < c → okw a (e i)
/-- the states as at first -/
def FS0 (st : St) (n : Nat) : Prop := (∀ k, k < n → st 109 k = -1 ∧ st 110 k = st 106 k ∧ st 111 k = (if k = 0 then 1 else 0)) ∧ (∀ k, k < 4 * n → st 112 k = st 108 k) ∧ st 99 19 = n ∧ st 99 24 = 0
def FrS (st st' : St) : Prop := ∀ j i, ¬ (j = 99 ∧ (i = 19 ∨ i = 24)) → j < 109 ∨ 112 < j → st' j i = st j i
theorem sp_mlays {d n : Nat} {st : St} {Q : Rn} (hc : st 99 14 = n) (hn : n ≤ 120) (hq : ∀ st' : St, FS0 st' n → FrS st st' → Q none st') : MS (d + 1) 60 [vr 99] st Q := by
  have k0 : kl 99 = 12 := rfl
  have k1 : kl 109 = 50 := rfl
  have l1 : len 109 = 161 := rfl
  have k2 : kl 110 = 50 := rfl
  have l2 : len 110 = 161 := rfl
  have k3 : kl 111 = 52 := rfl
  have l3 : len 111 = 161 := rfl
  have k4 : kl 112 = 50 := rfl
  have l4 : len 112 = 644 := rfl
  have k6 : kl 106 = 50 := rfl
  have l6 : len 106 = 161 := rfl
  have k8 : kl 108 = 50 := rfl
  have l8 : len 108 = 644 := rfl
  have e4 : Unit → wr (4 * (n : Int)) = ((4 * n : Nat) : Int) := fun _ => by rw [wr_id (by omega) (by omega)]; omega
  have L2 : ∀ m k : Nat, ∀ s2 : St, k ≤ 4 * n → 4 * n - k = m → (∀ j, j < 109 ∨ 112 < j → s2 j = st j) → (∀ k, k < n → s2 109 k = -1 ∧ s2 110 k = st 106 k ∧ s2 111 k = (if k = 0 then 1 else 0)) → (∀ i, i < k → s2 112 i = st 108 i) → AW (P 60) Q (MS d) 0 (fun _ => 0) 7 [vr 99, vi k] [] s2 := by
    intro m
    induction m with
    | zero =>
      intro k s2 g1 g2 g3 g4 g5
      have : k = 4 * n := by omega
      subst this
      have hc' : s2 99 14 = n := by rw [g3 99 (by omega)]; exact hc
      rw [awu 60 7]
      try simp only [awu 60 9, pe60, xs, i_load, i_loadR, i_inc, lg, lp, true_and, and_true, List.length_cons, List.length_nil, Nat.reduceAdd, Nat.reduceLeDiff, Nat.zero_le, Int.toNat_natCast, natLit, k0, hc', e4 ()]
      refine ⟨fun _ => hq _ ⟨fun i hi => ?_, fun i hi => ?_, ?_, ?_⟩ ?_, fun h => by omega⟩
      · rw [up2_ne (by omega), up2_ne (by omega), up2_ne (by omega), up2_ne (by omega), up2_ne (by omega), up2_ne (by omega), up2_ne (by omega), up2_ne (by omega), g3 106 (by omega)]
        exact g4 i hi
      · rw [up2_ne (by omega), up2_ne (by omega), up2_ne (by omega), up2_ne (by omega), g3 108 (by omega)]
        exact g5 i hi
      · simp [up2_at]
      · simp [up2_at]
      · intro j i h1 h2
        simp only [up2_at]
        by_cases e : j = 99
        · subst e
          have h3 : i ≠ 19 := fun e => h1 ⟨rfl, Or.inl e⟩
          have h4 : i ≠ 24 := fun e => h1 ⟨rfl, Or.inr e⟩
          simp [h3, h4, g3 99]
        · simp [e, g3 j h2]
    | succ m ih =>
      intro k s2 g1 g2 g3 g4 g5
      have hc' : s2 99 14 = n := by rw [g3 99 (by omega)]; exact hc
      have e8 : s2 108 k = st 108 k := by rw [g3 108 (by omega)]
      have ew : Unit → wr ((k : Int) + 1) = ((k + 1 : Nat) : Int) := fun _ => by rw [wr_id (by omega) (by omega)]; omega
      rw [awu 60 7]
      try simp only [awu 60 8, awu 60 9, pe60, xs, i_load, i_loadR, i_inc, lg, lp, true_and, and_true, List.length_cons, List.length_nil, Nat.reduceAdd, Nat.reduceLeDiff, Nat.zero_le, Int.toNat_natCast, natLit, k0, hc', e4 (), k4, l4, k8, l8, e8, ew ()]
      refine ⟨fun h => by omega, fun _ => ⟨by omega, by omega, ?_⟩⟩
      refine ih (k + 1) _ (by omega) (by omega) (fun j hj => by rw [up2_ne (by omega)]; exact g3 j hj) (fun i hi => by rw [up2_ne (by omega), up2_ne (by omega), up2_ne (by omega)]; exact g4 i hi) (fun i hi => ?_)
      rw [up2_self]
      by_cases z : i = k
      · subst z
        rw [upf_s]
      · rw [upf_n z]
        exact g5 i (by omega)
  have L1 : ∀ m k : Nat, ∀ s1' : St, k ≤ n → n - k = m → (∀ j, j < 109 ∨ 111 < j → s1' j = st j) → (∀ i, i < k → s1' 109 i = -1 ∧ s1' 110 i = st 106 i ∧ s1' 111 i = (if i = 0 then 1 else 0)) → AW (P 60) Q (MS d) 0 (fun _ => 0) 1 [vr 99, vi k] [] s1' := by
    intro m
    induction m with
    | zero =>
      intro k s1' g1 g2 g3 g4
      have : k = n := by omega
      subst this
      have hc' : s1' 99 14 = k := by rw [g3 99 (by omega)]; exact hc
      rw [awu 60 1]
      try simp only [awu 60 6, pe60, xs, i_load, i_loadR, i_inc, lg, lp, true_and, and_true, List.length_cons, List.length_nil, Nat.reduceAdd, Nat.reduceLeDiff, Nat.zero_le, Int.toNat_natCast, natLit, k0, hc']
      exact ⟨fun _ => L2 (4 * k) 0 s1' (Nat.zero_le _) rfl (fun j hj => g3 j (by omega)) g4 (fun i hi => by omega), fun h => by omega⟩
    | succ m ih =>
      intro k s1' g1 g2 g3 g4
      have hc' : s1' 99 14 = n := by rw [g3 99 (by omega)]; exact hc
      have e6 : up2 s1' 109 k (-1) 106 k = st 106 k := by rw [up2_ne (by omega), g3 106 (by omega)]
      have ew : Unit → wr ((k : Int) + 1) = ((k + 1 : Nat) : Int) := fun _ => by rw [wr_id (by omega) (by omega)]; omega
      rw [awu 60 1]
      try simp only [awu 60 2, awu 60 3, awu 60 4, awu 60 5, pe60, xs, i_load, i_loadR, i_inc, lg, lp, true_and, and_true, List.length_cons, List.length_nil, Nat.reduceAdd, Nat.reduceLeDiff, Nat.zero_le, Int.toNat_natCast, natLit, k0, hc', k1, l1, k2, l2, k3, l3, k6, l6, e6, ew ()]
      have fin : ∀ v : Int, v = (if k = 0 then 1 else 0) → AW (P 60) Q (MS d) 0 (fun _ => 0) 1 [vr 99, vi (k + 1 : Nat)] [] (up2 (up2 (up2 s1' 109 k (-1)) 110 k (st 106 k)) 111 k v) := by
        intro v hv
        refine ih (k + 1) _ (by omega) (by omega) (fun j hj => by rw [up2_ne (by omega), up2_ne (by omega), up2_ne (by omega)]; exact g3 j hj) (fun i hi => ?_)
        simp only [up2_at]
        by_cases z : i = k
        · subst z
          simp [hv]
        · simp [z, g4 i (by omega)]
      refine ⟨fun h => by omega, fun _ => ⟨by omega, by omega, by omega, ?_⟩⟩
      by_cases hk : k = 0
      · subst hk
        exact ⟨fun h => absurd rfl h, fun _ => ⟨by omega, ok01_1, fin 1 rfl⟩⟩
      · exact ⟨fun _ => ⟨by omega, ok01_0, fin 0 (by rw [if_neg hk])⟩, fun h => by omega⟩
  refine MS_v [vr 99, none] rfl rfl rfl rfl ?_
  try simp only [awu 60 0, pe60, xs, i_load, i_loadR, i_inc, lg, lp, true_and, and_true, List.length_cons, List.length_nil, Nat.reduceAdd, Nat.reduceLeDiff, Nat.zero_le, Int.toNat_natCast, natLit, k0]
  exact L1 n 0 st (Nat.zero_le _) rfl (fun _ _ => rfl) (fun i hi => by omega)
def FrT (st st' : St) : Prop := ∀ j i, ¬ (j = 99 ∧ (i = 14 ∨ i = 19 ∨ i = 24)) → j < 104 ∨ 112 < j → st' j i = st j i
set_option maxHeartbeats 1000000 in
theorem sp_layTree {d c a : Nat} {st : St} {e : Nat → Nat} {Q : Rn} (hM : MOK st c e a) (hcp : Cp 120 (Pf (fun w => ∃ v, ExR e (st 103) c (-1) w v)))
    (hq : ∀ (st' : St) (f : Nat → Nat) (n : Nat), TOKm st' n f (ExR e (st 103) c (-1)) → FS0 st' n → FrT st st' → Q none st') : MS (d + 4) 59 [vr 99] st Q := by
  obtain ⟨hsc, hc40, he, h01, hes, hok⟩ := id hM
  have k0 : kl 99 = 12 := rfl
  have k1 : kl 101 = 50 := rfl
  have l1 : len 101 = 40 := rfl
  have k2 : kl 102 = 50 := rfl
  have l2 : len 102 = 40 := rfl
  have k3 : kl 103 = 52 := rfl
  have l3 : len 103 = 40 := rfl
  have k4 : kl 104 = 50 := rfl
  have l4 : len 104 = 161 := rfl
  have k5 : kl 105 = 50 := rfl
  have l5 : len 105 = 161 := rfl
  have k6 : kl 106 = 50 := rfl
  have l6 : len 106 = 161 := rfl
  have k7 : kl 107 = 50 := rfl
  have l7 : len 107 = 161 := rfl
  have k8 : kl 108 = 50 := rfl
  have l8 : len 108 = 644 := rfl
  have hwfE : ∀ w, (∃ v, ExR e (st 103) c (-1) w v) → wf w := by
    rintro w ⟨v, i, h1, h2, rfl, h4⟩
    exact okw_wf (hok i h1)
  -- marks
  have L5 : ∀ m k : Nat, ∀ (s5 : St) (f : Nat → Nat) (n : Nat) (u : V), k ≤ c → c - k = m → s5 99 14 = n → n ≤ 120 → (∀ i, i < n → s5 104 i = wl (f i) ∧ s5 105 i = wc (f i)) → ND f n → (∀ x, Mm f n x ↔ Pf (fun w => ∃ v, ExR e (st 103) c (-1) w v) x) → TM f n (s5 106) (ExR e (st 103) k (-1)) → TP f n (s5 107) → TC f n (s5 108) → (∀ j i, ¬ (j = 99 ∧ i = 14) → j < 104 ∨ 108 < j → s5 j i = st j i) → AW (P 59) Q (MS (d + 3)) 0 (fun _ => 0) 16 [vr 99, vi k, u] [] s5 := by
    intro m
    induction m with
    | zero =>
      intro k s5 f n u g1 g2 g3 g4 g5 g6 g7 g8 g9 g10 g11
      have : k = c := by omega
      subst this
      have hsc' : s5 99 8 = k := by rw [g11 99 8 (by omega) (by omega)]; exact hsc
      rw [awu 59 16]
      try simp only [awu 59 21, pe59, xs, i_load, i_loadR, i_inc, lg, lp, true_and, and_true, List.length_cons, List.length_nil, Nat.reduceAdd, Nat.reduceLeDiff, Nat.zero_le, Int.toNat_natCast, natLit, k0, hsc']
      refine ⟨fun _ => ?_, fun h => by omega⟩
      refine sp_mlays g3 g4 (fun st' q1 q2 => ?_)
      have e14 : st' 99 14 = n := by rw [q2 99 14 (by omega) (by omega)]; exact g3
      have fe : ∀ j, 100 ≤ j → j < 109 → st' j = s5 j := fun j a1 a2 => by funext i; exact q2 j i (by omega) (by omega)
      dsimp only
      refine hq st' f n ⟨e14, g4, ?_, g6, g7, ?_, ?_, ?_⟩ q1 (fun j i a1 a2 => ?_)
      · rw [fe 104 (by omega) (by omega), fe 105 (by omega) (by omega)]
        exact g5
      · rw [fe 106 (by omega) (by omega)]
        exact g8
      · rw [fe 107 (by omega) (by omega)]
        exact g9
      · rw [fe 108 (by omega) (by omega)]
        exact g10
      · rw [q2 j i (by omega) (by omega)]
        exact g11 j i (by omega) (by omega)
    | succ m ih =>
      intro k s5 f n u g1 g2 g3 g4 g5 g6 g7 g8 g9 g10 g11
      have hsc' : s5 99 8 = c := by rw [g11 99 8 (by omega) (by omega)]; exact hsc
      have e1 : s5 101 k = wl (e k) := by rw [g11 101 k (by omega) (by omega)]; exact (he k (by omega)).1
      have e2 : s5 102 k = wc (e k) := by rw [g11 102 k (by omega) (by omega)]; exact (he k (by omega)).2
      have e3 : s5 103 k = st 103 k := g11 103 k (by omega) (by omega)
      have ew : Unit → wr ((k : Int) + 1) = ((k + 1 : Nat) : Int) := fun _ => by rw [wr_id (by omega) (by omega)]; omega
      have hmem : Mm f n (e k) := by
        rcases Pn_self (okw_wf (hok k (by omega))) with h | ⟨w, rfl, h⟩
        · exact (g7 _).mpr (Or.inl h)
        · exact (g7 _).mpr (Or.inr ⟨e k, ⟨st 103 k, k, by omega, by omega, rfl, rfl⟩, h⟩)
      rw [awu 59 16]
      try simp only [awu 59 17, pe59, xs, i_load, i_loadR, i_inc, lg, lp, true_and, and_true, List.length_cons, List.length_nil, Nat.reduceAdd, Nat.reduceLeDiff, Nat.zero_le, Int.toNat_natCast, natLit, k0, hsc', k1, l1, k2, l2, e1, e2]
      refine ⟨fun h => by omega, fun _ => ⟨by omega, by omega, ?_⟩⟩
      refine sp_mno g3 g4 g5 g6.1 (fun p hp => ?_)
      obtain ⟨hp1, hp2⟩ := (IsPl_mm g6.1 hp).mp hmem
      dsimp only
      try simp only [awu 59 17, awu 59 18, awu 59 19, awu 59 20, pe59, xs, i_load, i_loadR, i_inc, lg, lp, true_and, and_true, List.length_cons, List.length_nil, Nat.reduceAdd, Nat.reduceLeDiff, Nat.zero_le, Int.toNat_natCast, natLit, k0, k3, l3, k6, l6, e3, ew ()]
      have fin : ∀ v : Int, v = (if st 103 k = 1 then 1 else 2) → AW (P 59) Q (MS (d + 3)) 0 (fun _ => 0) 16 [vr 99, vi (k + 1 : Nat), u] [] (up2 s5 106 p v) := by
        intro v hv
        refine ih (k + 1) _ f n _ (by omega) (by omega) (by rw [up2_ne (by omega)]; exact g3) g4 (by rw [up2_ne (by omega), up2_ne (by omega)]; exact g5) g6 g7 (fun i hi => ?_) (by rw [up2_ne (by omega)]; exact g9) (by rw [up2_ne (by omega)]; exact g10) (fun j i a1 a2 => by rw [up2_ne (by omega)]; exact g11 j i a1 a2)
        rw [up2_self]
        by_cases hiq : i = p
        · subst hiq
          rw [upf_s]
          constructor
          · rintro w ⟨j, h1, h2, h3, h4⟩
            have : j = k := Srt_inj hes (by omega) (by omega) (by rw [h3, hp2])
            subst this
            rw [hv, h4]
          · intro h
            exact absurd ⟨k, by omega, by omega, hp2.symm, rfl⟩ (h (st 103 k))
        · rw [upf_n hiq]
          obtain ⟨a, b⟩ := g8 i hi
          have nk : ∀ w j, j < k + 1 → e j = f i → st 103 j = w → j < k := by
            intro w j h1 h3 h4
            rcases Nat.lt_or_ge j k with z | z
            · exact z
            · have : j = k := by omega
              subst this
              exact absurd (Srt_inj g6.1 hi hp1 (by rw [← h3, ← hp2])) hiq
          constructor
          · rintro w ⟨j, h1, h2, h3, h4⟩
            exact a w ⟨j, nk w j h1 h3 h4, h2, h3, h4⟩
          · intro h
            exact b (fun w ⟨j, h1, h2, h3, h4⟩ => h w ⟨j, by omega, h2, h3, h4⟩)
      refine ⟨by omega, ?_⟩
      rcases h01 k (by omega) with e7 | e7
      · exact ⟨fun _ => ⟨by omega, fin 2 (by rw [e7]; rfl)⟩, fun h => absurd e7 h⟩
      · exact ⟨fun h => by omega, fun _ => ⟨by omega, fin 1 (by rw [e7]; rfl)⟩⟩
  -- ways up and down
  have L4 : ∀ m k : Nat, ∀ (s4 : St) (f : Nat → Nat) (n : Nat) (u : V), 1 ≤ k → k ≤ n → n - k = m → s4 99 14 = n → n ≤ 120 → (∀ i, i < n → s4 104 i = wl (f i) ∧ s4 105 i = wc (f i)) → ND f n → (∀ x, Mm f n x ↔ Pf (fun w => ∃ v, ExR e (st 103) c (-1) w v) x) → (∀ i, i < n → s4 106 i = 0) → (s4 107 0 = -1 ∧ ∀ i, 0 < i → i < k → ∃ b, b < i ∧ s4 107 i = (b : Nat) ∧ f b = bg (f i) (wl (f i) - 1)) → (∀ i l, i < n → l < 4 → noF f k (lw (f i) l) (s4 108 (4 * i + l))) → (∀ j i, ¬ (j = 99 ∧ i = 14) → j < 104 ∨ 108 < j → s4 j i = st j i) → AW (P 59) Q (MS (d + 3)) 0 (fun _ => 0) 13 [vr 99, vi k, u] [] s4 := by
    intro m
    induction m with
    | zero =>
      intro k s4 f n u g0 g1 g2 g3 g4 g5 g6 g7 g8 g9 g10 g11
      have : k = n := by omega
      subst this
      rw [awu 59 13]
      try simp only [awu 59 15, pe59, xs, i_load, i_loadR, i_inc, lg, lp, true_and, and_true, List.length_cons, List.length_nil, Nat.reduceAdd, Nat.reduceLeDiff, Nat.zero_le, Int.toNat_natCast, natLit, k0, g3]
      exact ⟨fun _ => L5 c 0 s4 f k u (Nat.zero_le _) rfl g3 g4 g5 g6 g7 (fun i hi => ⟨fun v ⟨j, h1, _⟩ => by omega, fun _ => g8 i hi⟩) g9 g10 g11, fun h => by omega⟩
    | succ m ih =>
      intro k s4 f n u g0 g1 g2 g3 g4 g5 g6 g7 g8 g9 g10 g11
      obtain ⟨hs, hn1, hf0, hw⟩ := id g6
      obtain ⟨w1, w2⟩ := hw k (by omega)
      obtain ⟨w3, b, hb1, hb2⟩ := w2 (by omega)
      have hwl := wf_lt w1
      have hcl := wc_lt (f k)
      have hbk := ND_par g6 (show k < n by omega) (by omega) hb1 hb2
      obtain ⟨h4, h5⟩ := g5 k (by omega)
      have e1 : Unit → wr (((wl (f k) : Nat) : Int) - 1) = ((wl (bg (f k) (wl (f k) - 1)) : Nat) : Int) := fun _ => by rw [wl_bg w1 (by omega), wr_id (by have := w1.1; omega) (by have := w1.1; omega)]; omega
      have e2 : bshr ((wc (f k) : Nat) : Int) 2 = ((wc (bg (f k) (wl (f k) - 1)) : Nat) : Int) := by
        have := bshr_nat (wc (f k)) 2 (by omega) (by decide)
        rw [natLit] at this
        rw [this, wc_bg w1 (by omega), show 2 * (wl (f k) - (wl (f k) - 1)) = 2 by omega]
      rw [awu 59 13]
      try simp only [awu 59 14, pe59, xs, i_load, i_loadR, i_inc, lg, lp, true_and, and_true, List.length_cons, List.length_nil, Nat.reduceAdd, Nat.reduceLeDiff, Nat.zero_le, Int.toNat_natCast, natLit, k0, g3, k4, l4, k5, l5, h4, h5, e1 (), e2]
      refine ⟨fun h => by omega, fun _ => ⟨by omega, by omega, ?_⟩⟩
      refine sp_mno g3 g4 g5 hs (fun p hp => ?_)
      obtain ⟨hp1, hp2⟩ := (IsPl_mm hs hp).mp ⟨b, hb1, hb2⟩
      have hpb : p = b := Srt_inj hs hp1 hb1 (by rw [hp2, hb2])
      subst hpb
      have e3 : band ((wc (f k) : Nat) : Int) 3 = ((f k % 4 : Nat) : Int) := by
        rw [band3 _ (by omega)]
        have : wc (f k) % 4 = f k % 4 := by unfold wc; omega
        rw [this]
      have e4 : up2 s4 107 k (p : Nat) 107 k = (p : Nat) := by rw [up2_self, upf_s]
      have e5 : up2 s4 107 k (p : Nat) 105 k = ((wc (f k) : Nat) : Int) := by rw [up2_ne (by omega)]; exact h5
      have e6 : Unit → wr (4 * (p : Int)) = ((4 * p : Nat) : Int) := fun _ => by rw [wr_id (by omega) (by omega)]; omega
      have e7 : Unit → wr (((4 * p : Nat) : Int) + ((f k % 4 : Nat) : Int)) = ((4 * p + f k % 4 : Nat) : Int) := fun _ => by rw [wr_id (by omega) (by omega)]; omega
      have ew : Unit → wr ((k : Int) + 1) = ((k + 1 : Nat) : Int) := fun _ => by rw [wr_id (by omega) (by omega)]; omega
      dsimp only
      try simp only [awu 59 14, pe59, xs, i_load, i_loadR, i_inc, lg, lp, true_and, and_true, List.length_cons, List.length_nil, Nat.reduceAdd, Nat.reduceLeDiff, Nat.zero_le, Int.toNat_natCast, natLit, k0, k5, l5, k7, l7, k8, l8, e3, e4, e5, e6 (), e7 (), ew ()]
      refine ⟨by omega, by omega, by omega, by omega, ?_⟩
      refine ih (k + 1) _ f n _ (by omega) (by omega) (by omega) (by rw [up2_ne (by omega), up2_ne (by omega)]; exact g3) g4 (by rw [up2_ne (by omega), up2_ne (by omega), up2_ne (by omega), up2_ne (by omega)]; exact g5) g6 g7 (fun i hi => by rw [up2_ne (by omega), up2_ne (by omega)]; exact g8 i hi) ⟨?_, ?_⟩ ?_ (fun j i a1 a2 => by rw [up2_ne (by omega), up2_ne (by omega)]; exact g11 j i a1 a2)
      · rw [up2_ne (by omega), up2_self, upf_n (by omega)]
        exact g9.1
      · intro i h1 h2
        rw [up2_ne (by omega), up2_self]
        by_cases hik : i = k
        · subst hik
          rw [upf_s]
          exact ⟨p, hbk, rfl, hb2⟩
        · rw [upf_n hik]
          exact g9.2 i h1 (by omega)
      · intro i l hi hl
        have hbl := bg_lw w1 w3
        rw [up2_self, up2_ne (by omega)]
        obtain ⟨x1, x2⟩ := g10 i l hi hl
        by_cases hx : 4 * i + l = 4 * p + f k % 4
        · have hib : i = p := by omega
          have hll : l = f k % 4 := by omega
          subst hib
          subst hll
          rw [upf_s]
          constructor
          · intro j hj ej
            rw [hb2, hbl] at ej
            rw [Srt_inj hs (show j < n by omega) (show k < n by omega) ej]
          · intro h
            exact absurd (by rw [hb2, hbl]) (h k (by omega))
        · rw [upf_n hx]
          have nk : ∀ j, j < k + 1 → f j = lw (f i) l → j < k := by
            intro j hj ej
            rcases Nat.lt_or_ge j k with z | z
            · exact z
            · exfalso
              have hjk : j = k := by omega
              subst hjk
              obtain ⟨wi, -⟩ := hw i hi
              have hwi : wl (f i) ≤ 9 := by
                have e1 := wl_lw (w := f i) (l := l) hl
                rw [← ej] at e1
                have := w1.1
                omega
              obtain ⟨-, y2, y3, y4⟩ := lw_bg wi hwi hl
              rw [← ej] at y2 y3 y4
              have : f i = f p := by rw [hb2, y2, Nat.add_sub_cancel, y3]
              have := Srt_inj hs hi hb1 this
              omega
          constructor
          · intro j hj ej
            exact x1 j (nk j hj ej) ej
          · intro h
            exact x2 (fun j hj => h j (by omega))
  -- no ways down
  have L3 : ∀ m k : Nat, ∀ (s4 : St) (f : Nat → Nat) (n : Nat) (u : V), k ≤ 4 * n → 4 * n - k = m → s4 99 14 = n → n ≤ 120 → (∀ i, i < n → s4 104 i = wl (f i) ∧ s4 105 i = wc (f i)) → ND f n → (∀ x, Mm f n x ↔ Pf (fun w => ∃ v, ExR e (st 103) c (-1) w v) x) → (∀ i, i < n → s4 106 i = 0) → (∀ i, i < k → s4 108 i = -1) → (∀ j i, ¬ (j = 99 ∧ i = 14) → j < 104 ∨ 108 < j → s4 j i = st j i) → AW (P 59) Q (MS (d + 3)) 0 (fun _ => 0) 10 [vr 99, vi k, u] [] s4 := by
    intro m
    induction m with
    | zero =>
      intro k s4 f n u g1 g2 g3 g4 g5 g6 g7 g8 g9 g11
      have : k = 4 * n := by omega
      subst this
      have e4 : Unit → wr (4 * (n : Int)) = ((4 * n : Nat) : Int) := fun _ => by rw [wr_id (by omega) (by omega)]; omega
      rw [awu 59 10]
      try simp only [awu 59 12, pe59, xs, i_load, i_loadR, i_inc, lg, lp, true_and, and_true, List.length_cons, List.length_nil, Nat.reduceAdd, Nat.reduceLeDiff, Nat.zero_le, Int.toNat_natCast, natLit, k0, g3, e4 (), k7, l7]
      refine ⟨fun _ => ⟨by omega, ?_⟩, fun h => by omega⟩
      refine L4 (n - 1) 1 _ f n u (Nat.le_refl _) g6.2.1 rfl (by rw [up2_ne (by omega)]; exact g3) g4 (by rw [up2_ne (by omega), up2_ne (by omega)]; exact g5) g6 g7 (fun i hi => by rw [up2_ne (by omega)]; exact g8 i hi) ⟨by rw [up2_self]; exact upf_s, fun i a b => by omega⟩ (fun i l hi hl => ?_) (fun j i a1 a2 => by rw [up2_ne (by omega)]; exact g11 j i a1 a2)
      rw [up2_ne (by omega), g9 _ (by omega)]
      constructor
      · intro j hj ej
        have : j = 0 := by omega
        subst this
        rw [g6.2.2.1] at ej
        unfold lw at ej
        omega
      · intro _
        rfl
    | succ m ih =>
      intro k s4 f n u g1 g2 g3 g4 g5 g6 g7 g8 g9 g11
      have e4 : Unit → wr (4 * (n : Int)) = ((4 * n : Nat) : Int) := fun _ => by rw [wr_id (by omega) (by omega)]; omega
      have ew : Unit → wr ((k : Int) + 1) = ((k + 1 : Nat) : Int) := fun _ => by rw [wr_id (by omega) (by omega)]; omega
      rw [awu 59 10]
      try simp only [awu 59 11, pe59, xs, i_load, i_loadR, i_inc, lg, lp, true_and, and_true, List.length_cons, List.length_nil, Nat.reduceAdd, Nat.reduceLeDiff, Nat.zero_le, Int.toNat_natCast, natLit, k0, g3, e4 (), k8, l8, ew ()]
      refine ⟨fun h => by omega, fun _ => ⟨by omega, ?_⟩⟩
      refine ih (k + 1) _ f n u (by omega) (by omega) (by rw [up2_ne (by omega)]; exact g3) g4 (by rw [up2_ne (by omega), up2_ne (by omega)]; exact g5) g6 g7 (fun i hi => by rw [up2_ne (by omega)]; exact g8 i hi) (fun i hi => ?_) (fun j i a1 a2 => by rw [up2_ne (by omega)]; exact g11 j i a1 a2)
      rw [up2_self]
      by_cases z : i = k
      · subst z
        rw [upf_s]
      · rw [upf_n z]
        exact g9 i (by omega)
  -- no marks
  have L2 : ∀ m k : Nat, ∀ (s4 : St) (f : Nat → Nat) (n : Nat) (u : V), k ≤ n → n - k = m → s4 99 14 = n → n ≤ 120 → (∀ i, i < n → s4 104 i = wl (f i) ∧ s4 105 i = wc (f i)) → ND f n → (∀ x, Mm f n x ↔ Pf (fun w => ∃ v, ExR e (st 103) c (-1) w v) x) → (∀ i, i < k → s4 106 i = 0) → (∀ j i, ¬ (j = 99 ∧ i = 14) → j < 104 ∨ 108 < j → s4 j i = st j i) → AW (P 59) Q (MS (d + 3)) 0 (fun _ => 0) 7 [vr 99, vi k, u] [] s4 := by
    intro m
    induction m with
    | zero =>
      intro k s4 f n u g1 g2 g3 g4 g5 g6 g7 g8 g11
      have : k = n := by omega
      subst this
      rw [awu 59 7]
      try simp only [awu 59 9, pe59, xs, i_load, i_loadR, i_inc, lg, lp, true_and, and_true, List.length_cons, List.length_nil, Nat.reduceAdd, Nat.reduceLeDiff, Nat.zero_le, Int.toNat_natCast, natLit, k0, g3]
      exact ⟨fun _ => L3 (4 * k) 0 s4 f k u (Nat.zero_le _) rfl g3 g4 g5 g6 g7 g8 (fun i hi => by omega) g11, fun h => by omega⟩
    | succ m ih =>
      intro k s4 f n u g1 g2 g3 g4 g5 g6 g7 g8 g11
      have ew : Unit → wr ((k : Int) + 1) = ((k + 1 : Nat) : Int) := fun _ => by rw [wr_id (by omega) (by omega)]; omega
      rw [awu 59 7]
      try simp only [awu 59 8, pe59, xs, i_load, i_loadR, i_inc, lg, lp, true_and, and_true, List.length_cons, List.length_nil, Nat.reduceAdd, Nat.reduceLeDiff, Nat.zero_le, Int.toNat_natCast, natLit, k0, g3, k6, l6, ew ()]
      refine ⟨fun h => by omega, fun _ => ⟨by omega, ?_⟩⟩
      refine ih (k + 1) _ f n u (by omega) (by omega) (by rw [up2_ne (by omega)]; exact g3) g4 (by rw [up2_ne (by omega), up2_ne (by omega)]; exact g5) g6 g7 (fun i hi => ?_) (fun j i a1 a2 => by rw [up2_ne (by omega)]; exact g11 j i a1 a2)
      rw [up2_self]
      by_cases z : i = k
      · subst z
        rw [upf_s]
      · rw [upf_n z]
        exact g8 i (by omega)
  -- the nodes
  have L1 : ∀ m k : Nat, ∀ (s2 : St) (f : Nat → Nat) (n : Nat) (u : V), k ≤ c → c - k = m → s2 99 14 = n → n ≤ 120 → (∀ i, i < n → s2 104 i = wl (f i) ∧ s2 105 i = wc (f i)) → Srt f n → (∀ x, Mm f n x ↔ Pf (fun w => ∃ v, ExR e (st 103) k (-1) w v) x) → (∀ j i, ¬ (j = 99 ∧ i = 14) → j < 104 ∨ 105 < j → s2 j i = st j i) → AW (P 59) Q (MS (d + 3)) 0 (fun _ => 0) 1 [vr 99, vi k, u] [] s2 := by
    intro m
    induction m with
    | zero =>
      intro k s2 f n u g1 g2 g3 g4 g5 g6 g7 g8
      have : k = c := by omega
      subst this
      have hsc' : s2 99 8 = k := by rw [g8 99 8 (by omega) (by omega)]; exact hsc
      rw [awu 59 1]
      try simp only [awu 59 6, pe59, xs, i_load, i_loadR, i_inc, lg, lp, true_and, and_true, List.length_cons, List.length_nil, Nat.reduceAdd, Nat.reduceLeDiff, Nat.zero_le, Int.toNat_natCast, natLit, k0, hsc']
      exact ⟨fun _ => L2 n 0 s2 f n u (Nat.zero_le _) rfl g3 g4 g5 (ND_of g6 g7 hwfE) g7 (fun i hi => by omega) (fun j i a1 a2 => g8 j i a1 (by omega)), fun h => by omega⟩
    | succ m ih =>
      intro k s2 f n u g1 g2 g3 g4 g5 g6 g7 g8
      have hsc' : s2 99 8 = c := by rw [g8 99 8 (by omega) (by omega)]; exact hsc
      have hwk := okw_wf (hok k (by omega))
      have hwk10 := hwk.1
      have hcl := wc_lt (e k)
      have ew : Unit → wr ((k : Int) + 1) = ((k + 1 : Nat) : Int) := fun _ => by rw [wr_id (by omega) (by omega)]; omega
      have inner : ∀ q l : Nat, ∀ (s3 : St) (f3 : Nat → Nat) (n3 : Nat), 1 ≤ l → l ≤ wl (e k) + 1 → wl (e k) + 1 - l = q → s3 99 14 = n3 → n3 ≤ 120 → (∀ i, i < n3 → s3 104 i = wl (f3 i) ∧ s3 105 i = wc (f3 i)) → Srt f3 n3 → (∀ x, Mm f3 n3 x ↔ Mm f n x ∨ ∃ j, 1 ≤ j ∧ j < l ∧ x = bg (e k) j) → (∀ j i, ¬ (j = 99 ∧ i = 14) → j < 104 ∨ 105 < j → s3 j i = st j i) → AW (P 59) Q (MS (d + 3)) 0 (fun _ => 0) 3 [vr 99, vi k, vi l] [] s3 := by
        intro q
        induction q with
        | zero =>
          intro l s3 f3 n3 a0 a1 a2 a3 a4 a5 a6 a7 a8
          have : l = wl (e k) + 1 := by omega
          subst this
          have e1 : s3 101 k = wl (e k) := by rw [a8 101 k (by omega) (by omega)]; exact (he k (by omega)).1
          rw [awu 59 3]
          try simp only [awu 59 5, pe59, xs, i_load, i_loadR, i_inc, lg, lp, true_and, and_true, List.length_cons, List.length_nil, Nat.reduceAdd, Nat.reduceLeDiff, Nat.zero_le, Int.toNat_natCast, natLit, k0, k1, l1, e1, ew ()]
          refine ⟨by omega, fun _ => ?_, fun h => by omega⟩
          refine ih (k + 1) s3 f3 n3 _ (by omega) (by omega) a3 a4 a5 a6 (fun x => ?_) a8
          rw [a7, g7]
          constructor
          · rintro ((h | ⟨w, ⟨v, i, h1, h2, h3, h4⟩, h5⟩) | ⟨j, h1, h2, h3⟩)
            · exact Or.inl h
            · exact Or.inr ⟨w, ⟨v, i, by omega, h2, h3, h4⟩, h5⟩
            · exact Or.inr ⟨e k, ⟨st 103 k, k, by omega, by omega, rfl, rfl⟩, j, h1, by omega, h3⟩
          · rintro (h | ⟨w, ⟨v, i, h1, h2, h3, h4⟩, j, h5, h6, h7⟩)
            · exact Or.inl (Or.inl h)
            · by_cases hik : i = k
              · subst hik
                rw [← h3] at h6 h7
                exact Or.inr ⟨j, h5, by omega, h7⟩
              · exact Or.inl (Or.inr ⟨w, ⟨v, i, by omega, h2, h3, h4⟩, j, h5, h6, h7⟩)
        | succ q ihq =>
          intro l s3 f3 n3 a0 a1 a2 a3 a4 a5 a6 a7 a8
          have e1 : s3 101 k = wl (e k) := by rw [a8 101 k (by omega) (by omega)]; exact (he k (by omega)).1
          have e2 : s3 102 k = wc (e k) := by rw [a8 102 k (by omega) (by omega)]; exact (he k (by omega)).2
          have hl : l ≤ wl (e k) := by omega
          have e3 : Unit → wr (((wl (e k) : Nat) : Int) - l) = ((wl (e k) - l : Nat) : Int) := fun _ => by rw [wr_id (by omega) (by omega)]; omega
          have e4 : Unit → wr (2 * ((wl (e k) - l : Nat) : Int)) = ((2 * (wl (e k) - l) : Nat) : Int) := fun _ => by rw [wr_id (by omega) (by omega)]; omega
          have e5 : bshr ((wc (e k) : Nat) : Int) ((2 * (wl (e k) - l) : Nat) : Int) = ((wc (bg (e k) l) : Nat) : Int) := by rw [bshr_nat _ _ (by omega) (by omega), wc_bg hwk hl]
          have e6 : (l : Int) = ((wl (bg (e k) l) : Nat) : Int) := by rw [wl_bg hwk hl]
          have e7 : Unit → wr ((l : Int) + 1) = ((l + 1 : Nat) : Int) := fun _ => by rw [wr_id (by omega) (by omega)]; omega
          have hma : ∀ R : Rn, (∀ (st' : St) (f' : Nat → Nat) (n' : Nat), st' 99 14 = n' → n' ≤ 120 → (∀ k, k < n' → st' 104 k = wl (f' k) ∧ st' 105 k = wc (f' k)) → ndI f3 n3 (bg (e k) l) f' n' → (∀ j i, ¬ (j = 99 ∧ i = 14) → j ≠ 104 → j ≠ 105 → st' j i = s3 j i) → R none st') → MS (d + 3) 57 [vr 99, vi l, vi (wc (bg (e k) l) : Nat)] s3 R := by
            intro R hR
            rw [e6]
            refine sp_madd a3 a4 a5 a6 (Cp_sub hcp ?_) hR
            rintro x (h | h)
            · rcases (a7 x).mp h with h | ⟨j, h1, h2, h3⟩
              · rcases (g7 x).mp h with h | ⟨w, ⟨v, i, h1, h2, h3, h4⟩, h5⟩
                · exact Or.inl h
                · exact Or.inr ⟨w, ⟨v, i, by omega, h2, h3, h4⟩, h5⟩
              · exact Or.inr ⟨e k, ⟨st 103 k, k, by omega, by omega, rfl, rfl⟩, j, h1, by omega, h3⟩
            · exact Or.inr ⟨e k, ⟨st 103 k, k, by omega, by omega, rfl, rfl⟩, l, a0, hl, h⟩
          rw [awu 59 3]
          try simp only [awu 59 4, pe59, xs, i_load, i_loadR, i_inc, lg, lp, true_and, and_true, List.length_cons, List.length_nil, Nat.reduceAdd, Nat.reduceLeDiff, Nat.zero_le, Int.toNat_natCast, natLit, k0, k1, l1, k2, l2, e1, e2, e3 (), e4 (), e5]
          refine ⟨by omega, fun h => by omega, fun _ => ⟨by omega, by omega, ?_⟩⟩
          refine hma _ (fun s5 f5 n5 q1 q2 q3 q4 q5 => ?_)
          dsimp only
          try simp only [awu 59 4, pe59, xs, i_load, i_loadR, i_inc, lg, lp, true_and, and_true, List.length_cons, List.length_nil, Nat.reduceAdd, Nat.reduceLeDiff, Nat.zero_le, Int.toNat_natCast, natLit, k0, e7 ()]
          refine ihq (l + 1) s5 f5 n5 (by omega) (by omega) (by omega) q1 q2 q3 q4.1 (fun x => ?_) (fun j i b1 b2 => by rw [q5 j i b1 (by omega) (by omega)]; exact a8 j i b1 b2)
          rw [q4.2.2, a7]
          constructor
          · rintro ((h | ⟨j, h1, h2, h3⟩) | h)
            · exact Or.inl h
            · exact Or.inr ⟨j, h1, by omega, h3⟩
            · exact Or.inr ⟨l, a0, by omega, h⟩
          · rintro (h | ⟨j, h1, h2, h3⟩)
            · exact Or.inl (Or.inl h)
            · by_cases hj : j = l
              · subst hj
                exact Or.inr h3
              · exact Or.inl (Or.inr ⟨j, h1, by omega, h3⟩)
      rw [awu 59 1]
      try simp only [awu 59 2, pe59, xs, i_load, i_loadR, i_inc, lg, lp, true_and, and_true, List.length_cons, List.length_nil, Nat.reduceAdd, Nat.reduceLeDiff, Nat.zero_le, Int.toNat_natCast, natLit, k0, hsc']
      exact ⟨fun h => by omega, fun _ => inner (wl (e k)) 1 s2 f n (Nat.le_refl _) (by omega) (by omega) g3 g4 g5 g6 (fun x => ⟨Or.inl, fun h => h.elim id (fun ⟨j, a, b, _⟩ => by omega)⟩) g8⟩
  refine MS_v [vr 99, none, none] rfl rfl rfl rfl ?_
  try simp only [awu 59 0, pe59, xs, i_load, i_loadR, i_inc, lg, lp, true_and, and_true, List.length_cons, List.length_nil, Nat.reduceAdd, Nat.reduceLeDiff, Nat.zero_le, Int.toNat_natCast, natLit, k0]
  have hma : ∀ R : Rn, (∀ (st' : St) (f' : Nat → Nat) (n' : Nat), st' 99 14 = n' → n' ≤ 120 → (∀ k, k < n' → st' 104 k = wl (f' k) ∧ st' 105 k = wc (f' k)) → ndI (fun _ => 0) 0 0 f' n' → (∀ j i, ¬ (j = 99 ∧ i = 14) → j ≠ 104 → j ≠ 105 → st' j i = (up2 st 99 14 0) j i) → R none st') → MS (d + 3) 57 [vr 99, vi 0, vi 0] (up2 st 99 14 0) R := by
    intro R hR
    refine sp_madd (f := fun _ => 0) (n := 0) (w := 0) (by rw [up2_self]; exact upf_s) (by omega) (fun k hk => by omega) (fun i j _ h => by omega) (Cp_sub hcp ?_) hR
    rintro x (⟨i, h, _⟩ | h)
    · omega
    · exact Or.inl h
  refine hma _ (fun s5 f5 n5 q1 q2 q3 q4 q5 => ?_)
  dsimp only
  refine L1 c 0 s5 f5 n5 none (Nat.zero_le _) rfl q1 q2 q3 q4.1 (fun x => ?_) (fun j i b1 b2 => ?_)
  · rw [q4.2.2]
    constructor
    · rintro (⟨i, h, _⟩ | h)
      · omega
      · exact Or.inl h
    · rintro (h | ⟨w, ⟨v, i, h1, _⟩, _⟩)
      · exact Or.inr h
      · omega
  · rw [q5 j i b1 (by omega) (by omega), up2_at]
    by_cases e : j = 99
    · subst e
      rw [if_pos rfl, if_neg (fun z => b1 ⟨rfl, z⟩)]
    · rw [if_neg e]
end
section
/-! states as sets of nodes: pointers to the least, marks, red, arrows; what becomes one -/
abbrev FS := (Nat → Nat) × (Nat → Int) × (Nat → Int) × (Nat → Int)
def cn (p : Nat → Bool) : Nat → Nat
  | 0 => 0
  | n + 1 => cn p n + (if p n then 1 else 0)
theorem cn_le {p : Nat → Bool} : ∀ n, cn p n ≤ n
  | 0 => Nat.le_refl _
  | n + 1 => by
    have := cn_le (p := p) n
    unfold cn
    split <;> omega
theorem cn_congr {p q : Nat → Bool} : ∀ {n : Nat}, (∀ i, i < n → p i = q i) → cn p n = cn q n
  | 0, _ => rfl
  | n + 1, h => by
    unfold cn
    rw [cn_congr (fun i hi => h i (by omega)), h n (by omega)]
theorem cn_off {p q : Nat → Bool} {b : Nat} : ∀ {n : Nat}, b < n → (∀ i, i < n → i ≠ b → p i = q i) → p b = true → q b = false → cn q n + 1 = cn p n
  | 0, h, _, _, _ => by omega
  | n + 1, h, h1, h2, h3 => by
    unfold cn
    by_cases e : b = n
    · subst e
      rw [cn_congr (n := b) (p := q) (q := p) (fun i hi => (h1 i (by omega) (by omega)).symm), h2, h3]
      simp
    · have ih := cn_off (n := n) (by omega) (fun i hi hn => h1 i (by omega) hn) h2 h3
      rw [h1 n (by omega) (fun z => e z.symm)]
      omega
theorem cn_pos {p : Nat → Bool} {b : Nat} : ∀ {n : Nat}, b < n → p b = true → 1 ≤ cn p n
  | 0, h, _ => by omega
  | n + 1, h, h1 => by
    unfold cn
    by_cases e : b = n
    · subst e
      rw [h1]
      simp
    · have := cn_pos (n := n) (by omega) h1
      omega
/-- how many states; how many with a mark -/
def cR (F : FS) (n : Nat) : Nat := cn (fun k => F.1 k == k) n
def cM (F : FS) (n : Nat) : Nat := cn (fun k => F.1 k == k && !(F.2.1 k == 0)) n
def updN (f : Nat → Nat) (i v : Nat) : Nat → Nat := fun j => if j = i then v else f j
/-- the arrows of the first l letters have been taken over -/
def abk (F : FS) (a b l : Nat) : Nat → Int := fun i => if 4 * a ≤ i ∧ i < 4 * a + l ∧ F.2.2.2 i = -1 then F.2.2.2 (4 * b + (i - 4 * a)) else F.2.2.2 i
def ab (F : FS) (a b : Nat) : FS := (updN F.1 b a, upf F.2.1 a (if F.2.1 a = 0 then F.2.1 b else F.2.1 a), upf F.2.2.1 a (if F.2.2.1 a = 0 then F.2.2.1 b else F.2.2.1 a), abk F a b 4)
def bth (F : FS) (a b l : Nat) : Bool := !(F.2.2.2 (4 * a + l) == -1) && !(F.2.2.2 (4 * b + l) == -1)
def gt (F : FS) (a b l : Nat) : Bool := (F.2.2.2 (4 * a + l) == -1) && !(F.2.2.2 (4 * b + l) == -1)
def plT (F : FS) (a b : Nat) (T : List (Nat × Nat)) : Nat → List (Nat × Nat)
  | 0 => T
  | l + 1 => if bth F a b l then ((F.2.2.2 (4 * a + l)).toNat, (F.2.2.2 (4 * b + l)).toNat) :: plT F a b T l else plT F a b T l
def chg (F : FS) (a b : Nat) : Nat → Nat
  | 0 => (F.2.1 a).toNat + 4 * (F.2.2.1 a).toNat
  | l + 1 => chg F a b l + (if gt F a b l then 8 * 2 ^ l else 0)
def FI (n : Nat) (F : FS) : Prop := (∀ k, k < n → F.1 k ≤ k) ∧ (∀ k, k < n → F.2.1 k = 0 ∨ F.2.1 k = 1 ∨ F.2.1 k = 2) ∧ (∀ k, k < n → ok01 (F.2.2.1 k)) ∧ (∀ i, i < 4 * n → -1 ≤ F.2.2.2 i ∧ F.2.2.2 i < n)
theorem ab_FI {n a b : Nat} {F : FS} (h : FI n F) (hab : a < b) (hb : b < n) : FI n (ab F a b) := by
  obtain ⟨h1, h2, h3, h4⟩ := h
  refine ⟨fun k hk => ?_, fun k hk => ?_, fun k hk => ?_, fun i hi => ?_⟩
  · show updN F.1 b a k ≤ k
    unfold updN
    split
    · omega
    · exact h1 k hk
  · show upf F.2.1 a _ k = 0 ∨ upf F.2.1 a _ k = 1 ∨ upf F.2.1 a _ k = 2
    unfold upf
    split
    · split
      · exact h2 b hb
      · exact h2 a (by omega)
    · exact h2 k hk
  · show ok01 (upf F.2.2.1 a _ k)
    unfold upf
    split
    · split
      · exact h3 b hb
      · exact h3 a (by omega)
    · exact h3 k hk
  · show -1 ≤ abk F a b 4 i ∧ abk F a b 4 i < n
    unfold abk
    split
    · exact h4 _ (by omega)
    · exact h4 i hi
theorem cR_ab {n a b : Nat} {F : FS} (hab : a < b) (hb : b < n) (ub : F.1 b = b) : cR (ab F a b) n + 1 = cR F n := by
  unfold cR
  refine cn_off hb (fun i hi hn => ?_) ?_ ?_
  · show (F.1 i == i) = (updN F.1 b a i == i)
    unfold updN
    rw [if_neg hn]
  · simp [ub]
  · show (updN F.1 b a b == b) = false
    unfold updN
    rw [if_pos rfl]
    simp
    omega
theorem cM_ab {n a b : Nat} {F : FS} (hab : a < b) (hb : b < n) (ua : F.1 a = a) (ub : F.1 b = b) : cM (ab F a b) n + (if F.2.1 a ≠ 0 ∧ F.2.1 b ≠ 0 then 1 else 0) = cM F n := by
  have e1 : ∀ i, (ab F a b).1 i = if i = b then a else F.1 i := fun i => rfl
  have e2 : ∀ i, (ab F a b).2.1 i = if i = a then (if F.2.1 a = 0 then F.2.1 b else F.2.1 a) else F.2.1 i := fun i => rfl
  by_cases ha : F.2.1 a = 0
  · rw [if_neg (fun h => h.1 ha), Nat.add_zero]
    by_cases hb0 : F.2.1 b = 0
    · unfold cM
      refine cn_congr (fun i hi => ?_)
      rw [e1, e2]
      by_cases i1 : i = b
      · subst i1
        simp [hb0, show ¬ i = a by omega]
      · by_cases i2 : i = a
        · subst i2
          simp [ha, hb0, i1]
        · simp [i1, i2]
    · -- a comes, b goes
      have q1 : cn (fun k => (if k = a then true else (F.1 k == k && !(F.2.1 k == 0)))) n = cM F n + 1 := by
        unfold cM
        refine (cn_off (b := a) (by omega) (fun i hi hn => ?_) ?_ ?_).symm
        · simp [hn]
        · simp
        · simp [ha]
      have q2 : cM (ab F a b) n + 1 = cn (fun k => (if k = a then true else (F.1 k == k && !(F.2.1 k == 0)))) n := by
        unfold cM
        refine cn_off hb (fun i hi hn => ?_) ?_ ?_
        · rw [e1, e2]
          by_cases i2 : i = a
          · subst i2
            simp [ha, hb0, hn, ua]
          · simp [hn, i2]
        · simp [show ¬ b = a by omega, ub, hb0]
        · rw [e1, e2]
          simp [show ¬ a = b by omega]
      omega
  · by_cases hb0 : F.2.1 b = 0
    · rw [if_neg (fun h => h.2 hb0), Nat.add_zero]
      unfold cM
      refine cn_congr (fun i hi => ?_)
      rw [e1, e2]
      by_cases i1 : i = b
      · subst i1
        simp [hb0, show ¬ i = a by omega]
      · by_cases i2 : i = a
        · subst i2
          simp [ha, i1]
        · simp [i1, i2]
    · rw [if_pos ⟨ha, hb0⟩]
      unfold cM
      refine cn_off hb (fun i hi hn => ?_) ?_ ?_
      · rw [e1, e2]
        by_cases i2 : i = a
        · subst i2
          simp [ha, hn]
        · simp [hn, i2]
      · simp [ub, hb0]
      · rw [e1, e2]
        simp [show ¬ a = b by omega]
theorem plT_len {F : FS} {a b : Nat} {T : List (Nat × Nat)} : ∀ l, (plT F a b T l).length ≤ T.length + l
  | 0 => Nat.le_refl _
  | l + 1 => by
    have := plT_len (F := F) (a := a) (b := b) (T := T) l
    unfold plT
    split
    · rw [List.length_cons]; omega
    · omega
theorem chg_lt {F : FS} {a b : Nat} (h1 : F.2.1 a = 0 ∨ F.2.1 a = 1 ∨ F.2.1 a = 2) (h2 : ok01 (F.2.2.1 a)) : ∀ l, chg F a b l < 8 * 2 ^ l
  | 0 => by
    unfold chg
    rcases h1 with e | e | e <;> rcases h2 with e2 | e2 <;> rw [e, e2] <;> decide
  | l + 1 => by
    have := chg_lt (b := b) h1 h2 l
    unfold chg
    rw [Nat.pow_succ]
    split <;> omega
/-- the root -/
def rt (u : Nat → Nat) (k : Nat) : Nat := if u k < k then rt u (u k) else k
termination_by k
theorem rt_le {u : Nat → Nat} (k : Nat) : rt u k ≤ k := by
  unfold rt
  split
  · rename_i h
    have := rt_le (u := u) (u k)
    omega
  · exact Nat.le_refl _
termination_by k
theorem rt_root {u : Nat → Nat} {n : Nat} (hu : ∀ k, k < n → u k ≤ k) (k : Nat) (hk : k < n) : u (rt u k) = rt u k := by
  unfold rt
  split
  · rename_i h
    exact rt_root hu (u k) (by omega)
  · have := hu k hk
    omega
termination_by k
theorem rt_eq {u : Nat → Nat} {k : Nat} (h : u k < k) : rt u k = rt u (u k) := by
  conv => lhs; unfold rt
  rw [if_pos h]
theorem rt_self {u : Nat → Nat} {k : Nat} (h : ¬ u k < k) : rt u k = k := by
  unfold rt
  rw [if_neg h]
/-- all that must become one does; none: it fails -/
def jn : Nat → FS → List (Nat × Nat) → Option FS
  | 0, _, _ => none
  | _ + 1, F, [] => some F
  | m + 1, F, (x, y) :: T =>
    let p := rt F.1 x
    let q := rt F.1 y
    if p = q then jn m F T
    else if (F.2.1 p = 1 ∧ F.2.1 q = 2) ∨ (F.2.1 p = 2 ∧ F.2.1 q = 1) then none
    else jn m (ab F (min p q) (max p q)) (plT F (min p q) (max p q) T 4)
def mg (F : FS) (i j : Nat) : Option FS := jn 482 F [(i, j)]
end
section
/-! the states of the class -/
def isFd (o : Nat) : Prop := kl o = 0 ∧ ar (o + 1) 120 ∧ ar (o + 2) 120 ∧ az (o + 3) 120 ∧ ar (o + 4) 480 ∧ ar (o + 5) 120 ∧ ar (o + 6) 120 ∧ ar (o + 7) 481 ∧ ar (o + 8) 481 ∧ ar (o + 9) 120
theorem isFd_14 : isFd 14 := ⟨rfl, ⟨rfl, rfl⟩, ⟨rfl, rfl⟩, ⟨rfl, rfl⟩, ⟨rfl, rfl⟩, ⟨rfl, rfl⟩, ⟨rfl, rfl⟩, ⟨rfl, rfl⟩, ⟨rfl, rfl⟩, ⟨rfl, rfl⟩⟩
theorem isFd_37 : isFd 37 := ⟨rfl, ⟨rfl, rfl⟩, ⟨rfl, rfl⟩, ⟨rfl, rfl⟩, ⟨rfl, rfl⟩, ⟨rfl, rfl⟩, ⟨rfl, rfl⟩, ⟨rfl, rfl⟩, ⟨rfl, rfl⟩, ⟨rfl, rfl⟩⟩
def CR (st : St) (o n : Nat) (F : FS) : Prop := st o 9 = n ∧ (∀ k, k < n → st (o + 1) k = (F.1 k : Nat) ∧ st (o + 2) k = F.2.1 k ∧ st (o + 3) k = F.2.2.1 k) ∧ (∀ k, k < 4 * n → st (o + 4) k = F.2.2.2 k) ∧ st o 10 = (cR F n : Nat) ∧ st o 11 = (cM F n : Nat)
theorem sp_fname {d o n : Nat} {st : St} {F : FS} {k : Int} {Q : Rn} (ho : isFd o) (hn : n ≤ 120) (hC : CR st o n F) (hq : Q (vi (if 0 ≤ k ∧ k < n ∧ F.1 k.toNat = k.toNat then 1 else 0)) st) : MS (d + 1) 161 [vr o, vi k] st Q := by
  obtain ⟨k0, ⟨k1, l1⟩, -⟩ := ho
  obtain ⟨h9, h1, -⟩ := hC
  refine MS_v [vr o, vi k] rfl rfl k0 rfl ?_
  try simp only [awu 161 0, awu 161 1, awu 161 2, awu 161 3, awu 161 4, awu 161 5, pe161, xs, i_load, i_loadR, i_inc, lg, lp, true_and, and_true, List.length_cons, List.length_nil, Nat.reduceAdd, Nat.reduceLeDiff, Nat.zero_le, Int.toNat_natCast, natLit, k0, k1, l1, h9]
  refine ⟨fun a => ?_, fun a => ⟨fun b => ?_, fun b => ⟨by omega, ?_⟩⟩⟩
  · rw [if_neg (by omega)] at hq
    exact ⟨ok01_0, hq⟩
  · rw [if_neg (by omega)] at hq
    exact ⟨ok01_0, hq⟩
  · rw [(h1 k.toNat (by omega)).1]
    refine ⟨fun g => ?_, fun g => ?_⟩
    · rw [if_neg (by omega)] at hq
      exact ⟨ok01_0, hq⟩
    · rw [if_pos (by omega)] at hq
      exact ⟨ok01_1, hq⟩
/-- whether it is a name -/
def isN (F : FS) (n : Nat) (k : Int) : Prop := 0 ≤ k ∧ k < n ∧ F.1 k.toNat = k.toNat
theorem sp_funl {d o n : Nat} {st : St} {F : FS} {i j : Int} {Q : Rn} (ho : isFd o) (hn : n ≤ 120) (hC : CR st o n F) (h1 : i ≠ j → isN F n i → isN F n j → Q (vi 1) st) (h0 : ¬ (i ≠ j ∧ isN F n i ∧ isN F n j) → Q (vi 0) st) : MS (d + 2) 162 [vr o, vi i, vi j] st Q := by
  have k0 := ho.1
  refine MS_v [vr o, vi i, vi j] rfl rfl k0 rfl ?_
  try simp only [awu 162 0, awu 162 4, awu 162 5, pe162, xs, i_load, i_loadR, i_inc, lg, lp, true_and, and_true, List.length_cons, List.length_nil, Nat.reduceAdd, Nat.reduceLeDiff, Nat.zero_le, Int.toNat_natCast, natLit, k0]
  refine ⟨fun e => ⟨ok01_0, h0 (fun h => h.1 e)⟩, fun e => ?_⟩
  try simp only [awu 162 1, pe162, xs, i_load, i_loadR, i_inc, lg, lp, true_and, and_true, List.length_cons, List.length_nil, Nat.reduceAdd, Nat.reduceLeDiff, Nat.zero_le, Int.toNat_natCast, natLit, k0]
  refine sp_fname ho hn hC ?_
  dsimp only
  by_cases hi : 0 ≤ i ∧ i < n ∧ F.1 i.toNat = i.toNat
  · rw [if_pos hi]
    try simp only [awu 162 2, awu 162 4, awu 162 5, pe162, xs, i_load, i_loadR, i_inc, lg, lp, true_and, and_true, List.length_cons, List.length_nil, Nat.reduceAdd, Nat.reduceLeDiff, Nat.zero_le, Int.toNat_natCast, natLit, k0]
    refine ⟨fun a => absurd a (by decide), fun _ => ?_⟩
    refine sp_fname ho hn hC ?_
    dsimp only
    by_cases hj : 0 ≤ j ∧ j < n ∧ F.1 j.toNat = j.toNat
    · rw [if_pos hj]
      try simp only [awu 162 3, awu 162 4, awu 162 5, pe162, xs, i_load, i_loadR, i_inc, lg, lp, true_and, and_true, List.length_cons, List.length_nil, Nat.reduceAdd, Nat.reduceLeDiff, Nat.zero_le, Int.toNat_natCast, natLit, k0]
      exact ⟨fun a => absurd a (by decide), fun _ => ⟨ok01_1, h1 e hi hj⟩⟩
    · rw [if_neg hj]
      try simp only [awu 162 3, awu 162 4, awu 162 5, pe162, xs, i_load, i_loadR, i_inc, lg, lp, true_and, and_true, List.length_cons, List.length_nil, Nat.reduceAdd, Nat.reduceLeDiff, Nat.zero_le, Int.toNat_natCast, natLit, k0]
      exact ⟨fun _ => ⟨ok01_0, h0 (fun h => hj h.2.2)⟩, fun a => absurd trivial a⟩
  · rw [if_neg hi]
    try simp only [awu 162 2, awu 162 4, awu 162 5, pe162, xs, i_load, i_loadR, i_inc, lg, lp, true_and, and_true, List.length_cons, List.length_nil, Nat.reduceAdd, Nat.reduceLeDiff, Nat.zero_le, Int.toNat_natCast, natLit, k0]
    exact ⟨fun _ => ⟨ok01_0, h0 (fun h => hi h.2.1)⟩, fun a => absurd trivial a⟩
theorem sp_fnof {d o n : Nat} {st : St} {F : FS} {node : Nat} {Q : Rn} (ho : isFd o) (hn : n ≤ 120) (hC : CR st o n F) (hF : FI n F) (hk : node < n) (hq : Q (vi (rt F.1 node : Nat)) st) : MS (d + 1) 163 [vr o, vi node] st Q := by
  obtain ⟨k0, ⟨k1, l1⟩, -⟩ := ho
  obtain ⟨h9, h1, -⟩ := hC
  refine MS_v [vr o, vi node, none, none] rfl rfl k0 rfl ?_
  try simp only [awu 163 0, pe163, xs, i_load, i_loadR, i_inc, lg, lp, true_and, and_true, List.length_cons, List.length_nil, Nat.reduceAdd, Nat.reduceLeDiff, Nat.zero_le, Int.toNat_natCast, natLit, k0]
  have key : ∀ m k s : Nat, k ≤ m → k < n → s + k < 120 → rt F.1 k = rt F.1 node → AW (P 163) Q (MS d) 0 (fun _ => 0) 1 [vr o, vi node, vi k, vi s] [] st := by
    intro m
    induction m with
    | zero =>
      intro k s g1 g2 g3 g4
      have hu := hF.1 k g2
      have h0 : rt F.1 k = k := rt_self (by omega)
      rw [← g4, h0] at hq
      rw [awu 163 1]
      try simp only [awu 163 2, awu 163 3, awu 163 4, awu 163 5, awu 163 6, pe163, xs, i_load, i_loadR, i_inc, lg, lp, true_and, and_true, List.length_cons, List.length_nil, Nat.reduceAdd, Nat.reduceLeDiff, Nat.zero_le, Int.toNat_natCast, natLit, k0, k1, l1, h9, (h1 k g2).1]
      refine ⟨fun _ => hq, fun _ => ⟨fun _ => hq, fun _ => ⟨fun _ => hq, fun _ => ⟨by omega, fun _ => hq, fun h => ?_⟩⟩⟩⟩
      exact absurd (by omega) h
    | succ m ih =>
      intro k s g1 g2 g3 g4
      have hu := hF.1 k g2
      have ew : Unit → wr ((s : Int) + 1) = ((s + 1 : Nat) : Int) := fun _ => by rw [wr_id (by omega) (by omega)]; omega
      rw [awu 163 1]
      try simp only [awu 163 2, awu 163 3, awu 163 4, awu 163 5, awu 163 6, pe163, xs, i_load, i_loadR, i_inc, lg, lp, true_and, and_true, List.length_cons, List.length_nil, Nat.reduceAdd, Nat.reduceLeDiff, Nat.zero_le, Int.toNat_natCast, natLit, k0, k1, l1, h9, (h1 k g2).1, ew ()]
      refine ⟨fun h => by omega, fun _ => ⟨fun h => by omega, fun _ => ⟨fun h => by omega, fun _ => ⟨by omega, fun h => ?_, fun h => ⟨by omega, ?_⟩⟩⟩⟩⟩
      · have h0 : rt F.1 k = k := rt_self (by omega)
        rw [← g4, h0] at hq
        exact hq
      · have hlt : F.1 k < k := by omega
        exact ih (F.1 k) (s + 1) (by omega) (by omega) (by omega) (by rw [← rt_eq hlt]; exact g4)
  exact key node node 0 (Nat.le_refl _) hk (by omega) rfl
theorem sp_fnofN {d o n : Nat} {st : St} {F : FS} {Q : Rn} (ho : isFd o) (hC : CR st o n F) (hq : Q (vi (-1)) st) : MS (d + 1) 163 [vr o, vi (-1)] st Q := by
  obtain ⟨k0, -⟩ := ho
  refine MS_v [vr o, vi (-1), none, none] rfl rfl k0 rfl ?_
  try simp only [awu 163 0, awu 163 1, awu 163 2, awu 163 6, pe163, xs, i_load, i_loadR, i_inc, lg, lp, true_and, and_true, List.length_cons, List.length_nil, Nat.reduceAdd, Nat.reduceLeDiff, Nat.zero_le, Int.toNat_natCast, natLit, k0]
  exact ⟨fun h => by omega, fun _ => ⟨fun _ => hq, fun h => by omega⟩⟩
theorem sp_fisRed {d o n : Nat} {st : St} {F : FS} {k : Int} {Q : Rn} (ho : isFd o) (hn : n ≤ 120) (hC : CR st o n F) (hF : FI n F) (h1 : isN F n k → Q (vi (F.2.2.1 k.toNat)) st) (h0 : ¬ isN F n k → Q (vi 0) st) : MS (d + 2) 164 [vr o, vi k] st Q := by
  obtain ⟨k0, -, -, ⟨k3, l3⟩, -⟩ := id ho
  refine MS_v [vr o, vi k] rfl rfl k0 rfl ?_
  try simp only [awu 164 0, pe164, xs, i_load, i_loadR, i_inc, lg, lp, true_and, and_true, List.length_cons, List.length_nil, Nat.reduceAdd, Nat.reduceLeDiff, Nat.zero_le, Int.toNat_natCast, natLit, k0]
  refine sp_fname ho hn hC ?_
  dsimp only
  by_cases hk : 0 ≤ k ∧ k < n ∧ F.1 k.toNat = k.toNat
  · rw [if_pos hk]
    have e3 := (hC.2.1 k.toNat (by omega)).2.2
    have h1 := h1 hk
    try simp only [awu 164 1, awu 164 2, awu 164 3, awu 164 4, pe164, xs, i_load, i_loadR, i_inc, lg, lp, true_and, and_true, List.length_cons, List.length_nil, Nat.reduceAdd, Nat.reduceLeDiff, Nat.zero_le, Int.toNat_natCast, natLit, k0, k3, l3, e3]
    refine ⟨fun a => absurd a (by decide), fun _ => ⟨by omega, ?_⟩⟩
    rcases hF.2.2.1 k.toNat (by omega) with e | e
    · rw [e] at h1 ⊢
      exact ⟨fun _ => ⟨ok01_0, h1⟩, fun a => absurd rfl a⟩
    · rw [e] at h1 ⊢
      exact ⟨fun a => absurd a (by decide), fun _ => ⟨ok01_1, h1⟩⟩
  · rw [if_neg hk]
    try simp only [awu 164 1, awu 164 2, awu 164 3, awu 164 4, pe164, xs, i_load, i_loadR, i_inc, lg, lp, true_and, and_true, List.length_cons, List.length_nil, Nat.reduceAdd, Nat.reduceLeDiff, Nat.zero_le, Int.toNat_natCast, natLit, k0, k3, l3]
    exact ⟨fun _ => ⟨ok01_0, h0 hk⟩, fun a => absurd trivial a⟩
def rdn (F : FS) (k : Nat) (v : Int) : FS := (F.1, F.2.1, upf F.2.2.1 k v, F.2.2.2)
theorem sp_fredden {d o n k : Nat} {st : St} {F : FS} {v : Int} {Q : Rn} (ho : isFd o) (hn : n ≤ 120) (hC : CR st o n F) (hv : ok01 v) (hk : k < n) (hu : F.1 k = k) (hq : Q none (up2 st (o + 3) k v)) : MS (d + 2) 165 [vr o, vi k, vi v] st Q := by
  obtain ⟨k0, -, -, ⟨k3, l3⟩, -⟩ := id ho
  refine MS_v [vr o, vi k, vi v] rfl rfl k0 rfl ?_
  try simp only [awu 165 0, pe165, xs, i_load, i_loadR, i_inc, lg, lp, true_and, and_true, List.length_cons, List.length_nil, Nat.reduceAdd, Nat.reduceLeDiff, Nat.zero_le, Int.toNat_natCast, natLit, k0]
  refine sp_fname ho hn hC ?_
  dsimp only
  rw [if_pos ⟨by omega, by omega, by rw [Int.toNat_natCast]; exact hu⟩]
  try simp only [awu 165 1, awu 165 2, pe165, xs, i_load, i_loadR, i_inc, lg, lp, true_and, and_true, List.length_cons, List.length_nil, Nat.reduceAdd, Nat.reduceLeDiff, Nat.zero_le, Int.toNat_natCast, natLit, k0, k3, l3]
  exact ⟨fun a => absurd a (by decide), fun _ => ⟨by omega, hv, hq⟩⟩
theorem CR_rdn {st : St} {o n k : Nat} {F : FS} {v : Int} (hC : CR st o n F) : CR (up2 st (o + 3) k v) o n (rdn F k v) := by
  obtain ⟨h1, h2, h3, h4, h5⟩ := hC
  refine ⟨by rw [up2_ne (by omega)]; exact h1, fun i hi => ?_, fun i hi => by rw [up2_ne (by omega)]; exact h3 i hi, by rw [up2_ne (by omega)]; exact h4, by rw [up2_ne (by omega)]; exact h5⟩
  obtain ⟨q1, q2, q3⟩ := h2 i hi
  rw [up2_ne (by omega), up2_ne (by omega), up2_self]
  refine ⟨q1, q2, ?_⟩
  show upf (st (o + 3)) k v i = upf F.2.2.1 k v i
  unfold upf
  split
  · rfl
  · exact q3
/-- where an arrow leads -/
def fl (F : FS) (n : Nat) (k : Int) (l : Nat) : Int := if 0 ≤ k ∧ k < n ∧ F.1 k.toNat = k.toNat ∧ F.2.2.2 (4 * k.toNat + l) ≠ -1 then (rt F.1 (F.2.2.2 (4 * k.toNat + l)).toNat : Int) else -1
theorem sp_ffollow {d o n l : Nat} {st : St} {F : FS} {k : Int} {Q : Rn} (ho : isFd o) (hn : n ≤ 120) (hC : CR st o n F) (hF : FI n F) (hl : l < 4) (hq : Q (vi (fl F n k l)) st) : MS (d + 2) 166 [vr o, vi k, vi l] st Q := by
  obtain ⟨k0, -, -, -, ⟨k4, l4⟩, -⟩ := id ho
  refine MS_v [vr o, vi k, vi l] rfl rfl k0 rfl ?_
  try simp only [awu 166 0, pe166, xs, i_load, i_loadR, i_inc, lg, lp, true_and, and_true, List.length_cons, List.length_nil, Nat.reduceAdd, Nat.reduceLeDiff, Nat.zero_le, Int.toNat_natCast, natLit, k0]
  refine sp_fname ho hn hC ?_
  dsimp only
  unfold fl at hq
  by_cases hk : 0 ≤ k ∧ k < n ∧ F.1 k.toNat = k.toNat
  · rw [if_pos hk]
    obtain ⟨a1, a2, a3⟩ := hk
    obtain ⟨kk, rfl⟩ : ∃ kk : Nat, k = kk := ⟨k.toNat, by omega⟩
    rw [Int.toNat_natCast] at a3 hq
    have e4 := hC.2.2.1 (4 * kk + l) (by omega)
    have e1 : Unit → wr ((kk : Int) * 4) = ((4 * kk : Nat) : Int) := fun _ => by rw [wr_id (by omega) (by omega)]; omega
    have e2 : Unit → wr (((4 * kk : Nat) : Int) + (l : Int)) = ((4 * kk + l : Nat) : Int) := fun _ => by rw [wr_id (by omega) (by omega)]; omega
    have hb := hF.2.2.2 (4 * kk + l) (by omega)
    try simp only [awu 166 1, awu 166 2, awu 166 3, awu 166 4, pe166, xs, i_load, i_loadR, i_inc, lg, lp, true_and, and_true, List.length_cons, List.length_nil, Nat.reduceAdd, Nat.reduceLeDiff, Nat.zero_le, Int.toNat_natCast, natLit, k0, k4, l4, e1 (), e2 (), e4]
    refine ⟨fun a => absurd a (by decide), fun _ => ⟨fun h => by omega, fun _ => ⟨fun _ => ⟨by omega, ?_⟩, fun h => by omega⟩⟩⟩
    by_cases h1 : F.2.2.2 (4 * kk + l) = -1
    · rw [if_neg (fun h => h.2.2.2 h1)] at hq
      rw [h1]
      refine sp_fnofN ho hC ?_
      dsimp only
      exact hq
    · rw [if_pos ⟨a1, a2, a3, h1⟩] at hq
      have e5 : F.2.2.2 (4 * kk + l) = (((F.2.2.2 (4 * kk + l)).toNat : Nat) : Int) := by omega
      rw [e5]
      refine sp_fnof ho hn hC hF (by omega) ?_
      dsimp only
      exact hq
  · rw [if_neg hk]
    rw [if_neg (fun h => hk ⟨h.1, h.2.1, h.2.2.1⟩)] at hq
    try simp only [awu 166 1, awu 166 2, awu 166 3, pe166, xs, i_load, i_loadR, i_inc, lg, lp, true_and, and_true, List.length_cons, List.length_nil, Nat.reduceAdd, Nat.reduceLeDiff, Nat.zero_le, Int.toNat_natCast, natLit, k0]
    exact ⟨fun _ => hq, fun a => absurd trivial a⟩
end
section
/-! one state takes in another (class) -/
def SK (st : St) (o : Nat) (T : List (Nat × Nat)) : Prop := st o 13 = (T.length : Nat) ∧ ∀ i, i < T.length → st (o + 7) i = ((T.getD (T.length - 1 - i) (0, 0)).1 : Nat) ∧ st (o + 8) i = ((T.getD (T.length - 1 - i) (0, 0)).2 : Nat)
theorem bor_bit {w l : Nat} (h : w < 8 * 2 ^ l) (hl : l < 4) : bor (w : Int) (bshl 8 (l : Int)) = ((w + 8 * 2 ^ l : Nat) : Int) := by
  have hp : 2 ^ l ≤ 2 ^ 3 := Nat.pow_le_pow_right (by decide) (by omega)
  have e1 : bshl 8 (l : Int) = ((8 * 2 ^ l : Nat) : Int) := bshl_nat 8 l (by omega) (by omega)
  rw [e1]
  have hb : bor (w : Int) ((8 * 2 ^ l : Nat) : Int) = bor ((8 * 2 ^ l : Nat) : Int) (w : Int) := by
    show (oI _ ||| oI _).toInt = (oI _ ||| oI _).toInt
    rw [Int32.or_comm]
  have e2 : 8 * 2 ^ l = 2 ^ (l + 3) := by rw [Nat.pow_add]; omega
  rw [hb, bor_add (8 * 2 ^ l) w (l + 3) (by rw [e2]; exact Nat.mod_self _) (by rw [← e2]; exact h) (by omega), Nat.add_comm]
theorem bor_mr {m r : Nat} (hm : m < 4) (hr : r = 0 ∨ r = 4) : bor (m : Int) (r : Int) = ((m + r : Nat) : Int) := by
  have hb : bor (m : Int) (r : Int) = bor (r : Int) (m : Int) := by
    show (oI _ ||| oI _).toInt = (oI _ ||| oI _).toInt
    rw [Int32.or_comm]
  rw [hb, bor_add r m 2 (by omega) (by omega) (by omega), Nat.add_comm]
set_option maxHeartbeats 1000000 in
theorem sp_fabs {d o n a b J : Nat} {st : St} {F : FS} {T : List (Nat × Nat)} {Q : Rn} (ho : isFd o) (hn : n ≤ 120) (hC : CR st o n F) (hF : FI n F) (hab : a < b) (hb : b < n) (ua : F.1 a = a) (ub : F.1 b = b) (hJ : st o 12 = J) (hJn : J < 120) (hT : SK st o T) (hTl : T.length ≤ 477)
    (hq : ∀ st' : St, CR st' o n (ab F a b) → SK st' o (plT F a b T 4) → st' o 12 = (J + 1 : Nat) → (∀ i, i < J → st' (o + 5) i = st (o + 5) i ∧ st' (o + 6) i = st (o + 6) i) → st' (o + 5) J = b → st' (o + 6) J = (chg F a b 4 : Nat) → (∀ j, j < o ∨ o + 9 ≤ j → st' j = st j) → Q none st') : MS (d + 1) 168 [vr o, vi a, vi b] st Q := by
  obtain ⟨k0, ⟨k1, l1⟩, ⟨k2, l2⟩, ⟨k3, l3⟩, ⟨k4, l4⟩, ⟨k5, l5⟩, ⟨k6, l6⟩, ⟨k7, l7⟩, ⟨k8, l8⟩, -⟩ := id ho
  obtain ⟨h9, h1, h4, h10, h11⟩ := id hC
  obtain ⟨a1, a2, a3⟩ := h1 a (by omega)
  obtain ⟨b1, b2, b3⟩ := h1 b hb
  have hma := hF.2.1 a (by omega)
  have hmb := hF.2.1 b hb
  have hra := hF.2.2.1 a (by omega)
  have hrb := hF.2.2.1 b hb
  have hcR := cR_ab (F := F) hab hb ub
  have hcM := cM_ab (F := F) hab hb ua ub
  have hcRl : cR F n ≤ n := cn_le n
  have hcMl : cM F n ≤ n := cn_le n
  -- the letters
  have L : ∀ m l : Nat, ∀ (s2 : St) (u1 u2 : V), l ≤ 4 → 4 - l = m → s2 o 9 = n → (∀ k, k < n → s2 (o + 1) k = (F.1 k : Nat) ∧ s2 (o + 2) k = (ab F a b).2.1 k ∧ s2 (o + 3) k = (ab F a b).2.2.1 k) → (∀ i, i < 4 * n → s2 (o + 4) i = abk F a b l i) → s2 o 10 = (cR F n : Nat) → s2 o 11 = (cM (ab F a b) n : Nat) → s2 o 12 = J → SK s2 o (plT F a b T l) → (∀ j, j = o + 5 ∨ j = o + 6 ∨ j < o ∨ o + 9 ≤ j → s2 j = st j) → AW (P 168) Q (MS d) 0 (fun _ => 0) 15 [vr o, vi a, vi b, vi (chg F a b l : Nat), vi l, u1, u2] [] s2 := by
    intro m
    induction m with
    | zero =>
      intro l s2 u1 u2 g1 g2 g3 g4 g5 g6 g7 g8 g9 g10
      have : l = 4 := by omega
      subst this
      have ew : Unit → wr ((J : Int) + 1) = ((J + 1 : Nat) : Int) := fun _ => by rw [wr_id (by omega) (by omega)]; omega
      have ew2 : Unit → wr ((cR F n : Int) - 1) = (cR (ab F a b) n : Int) := fun _ => by rw [wr_id (by omega) (by omega)]; omega
      have q1 : up2 s2 (o + 1) b a o 12 = J := by rw [up2_ne (by omega)]; exact g8
      have q2 : up2 (up2 s2 (o + 1) b a) (o + 5) J b o 12 = J := by rw [up2_ne (by omega), up2_ne (by omega)]; exact g8
      have q3 : up2 (up2 (up2 s2 (o + 1) b a) (o + 5) J b) (o + 6) J (chg F a b 4 : Nat) o 12 = J := by rw [up2_ne (by omega), up2_ne (by omega), up2_ne (by omega)]; exact g8
      have q4 : up2 (up2 (up2 (up2 s2 (o + 1) b a) (o + 5) J b) (o + 6) J (chg F a b 4 : Nat)) o 12 (J + 1 : Nat) o 10 = (cR F n : Nat) := by
        rw [up2_at, if_pos rfl, if_neg (by omega), up2_ne (by omega), up2_ne (by omega), up2_ne (by omega)]
        exact g6
      rw [awu 168 15]
      try simp only [awu 168 23, pe168, xs, i_load, i_loadR, i_inc, lg, lp, true_and, and_true, List.length_cons, List.length_nil, Nat.reduceAdd, Nat.reduceLeDiff, Nat.zero_le, Int.toNat_natCast, natLit, k0, k1, l1, k5, l5, k6, l6, q1, q2, q3, ew (), q4, ew2 ()]
      refine ⟨fun _ => ⟨by omega, by omega, by omega, ?_⟩, fun h => by omega⟩
      refine hq _ ⟨?_, fun k hk => ?_, fun i hi => ?_, ?_, ?_⟩ ⟨?_, fun i hi => ?_⟩ ?_ (fun i hi => ?_) ?_ ?_ (fun j hj => ?_)
      · simp only [up2_at]
        simp [g3]
      · obtain ⟨z1, z2, z3⟩ := g4 k hk
        simp only [up2_at]
        refine ⟨?_, ?_, ?_⟩
        · show _ = ((updN F.1 b a k : Nat) : Int)
          unfold updN
          by_cases e : k = b
          · simp [e]
          · simp [e, z1]
        · simp
          exact z2
        · simp
          exact z3
      · have := g5 i hi
        simp only [up2_at]
        simp
        exact this
      · simp only [up2_at]
        simp
      · simp only [up2_at]
        simp [g7]
      · simp only [up2_at]
        simp [g9.1]
      · have := g9.2 i hi
        simp only [up2_at]
        simp
        exact this
      · simp only [up2_at]
        simp
      · simp only [up2_at]
        simp [show i ≠ J by omega, g10 (o + 5) (by omega), g10 (o + 6) (by omega)]
      · simp only [up2_at]
        simp
      · simp only [up2_at]
        simp
      · rw [up2_ne (by omega), up2_ne (by omega), up2_ne (by omega), up2_ne (by omega), up2_ne (by omega)]
        exact g10 j (by omega)
    | succ m ih =>
      intro l s2 u1 u2 g1 g2 g3 g4 g5 g6 g7 g8 g9 g10
      have hl : l < 4 := by omega
      have fa := hF.2.2.2 (4 * a + l) (by omega)
      have fb := hF.2.2.2 (4 * b + l) (by omega)
      have ea : s2 (o + 4) (4 * a + l) = F.2.2.2 (4 * a + l) := by
        rw [g5 _ (by omega)]
        unfold abk
        rw [if_neg (by omega)]
      have eb : s2 (o + 4) (4 * b + l) = F.2.2.2 (4 * b + l) := by
        rw [g5 _ (by omega)]
        unfold abk
        rw [if_neg (by omega)]
      have w1 : Unit → wr ((a : Int) * 4) = ((4 * a : Nat) : Int) := fun _ => by rw [wr_id (by omega) (by omega)]; omega
      have w2 : Unit → wr (((4 * a : Nat) : Int) + (l : Int)) = ((4 * a + l : Nat) : Int) := fun _ => by rw [wr_id (by omega) (by omega)]; omega
      have w3 : Unit → wr ((b : Int) * 4) = ((4 * b : Nat) : Int) := fun _ => by rw [wr_id (by omega) (by omega)]; omega
      have w4 : Unit → wr (((4 * b : Nat) : Int) + (l : Int)) = ((4 * b + l : Nat) : Int) := fun _ => by rw [wr_id (by omega) (by omega)]; omega
      have w5 : Unit → wr ((l : Int) + 1) = ((l + 1 : Nat) : Int) := fun _ => by rw [wr_id (by omega) (by omega)]; omega
      have hch := chg_lt (b := b) hma hra l
      have hbb := bor_bit hch hl
      have hlen := plT_len (F := F) (a := a) (b := b) (T := T) l
      have c1 : chg F a b (l + 1) = chg F a b l + (if gt F a b l then 8 * 2 ^ l else 0) := rfl
      have p1 : plT F a b T (l + 1) = if bth F a b l then ((F.2.2.2 (4 * a + l)).toNat, (F.2.2.2 (4 * b + l)).toNat) :: plT F a b T l else plT F a b T l := rfl
      have abk1 : ∀ i, abk F a b (l + 1) i = if i = 4 * a + l then (if F.2.2.2 i = -1 then F.2.2.2 (4 * b + l) else F.2.2.2 i) else abk F a b l i := by
        intro i
        unfold abk
        by_cases e : i = 4 * a + l
        · subst e
          by_cases e2 : F.2.2.2 (4 * a + l) = -1
          · rw [if_pos (by omega), if_pos rfl, if_pos e2, show 4 * b + (4 * a + l - 4 * a) = 4 * b + l by omega]
          · rw [if_neg (by omega), if_pos rfl, if_neg e2]
        · rw [if_neg e]
          by_cases e3 : 4 * a ≤ i ∧ i < 4 * a + l ∧ F.2.2.2 i = -1
          · rw [if_pos (by omega), if_pos e3]
          · rw [if_neg (by omega), if_neg e3]
      rw [awu 168 15]
      try simp only [awu 168 16, awu 168 17, awu 168 18, awu 168 19, awu 168 20, awu 168 22, pe168, xs, i_load, i_loadR, i_inc, lg, lp, true_and, and_true, List.length_cons, List.length_nil, Nat.reduceAdd, Nat.reduceLeDiff, Nat.zero_le, Int.toNat_natCast, natLit, k0, k4, l4, w1 (), w2 (), w3 (), w4 (), w5 (), ea, eb, hbb]
      refine ⟨fun h => by omega, fun _ => ⟨by omega, fun hnb => ⟨by omega, fun hna => ?_, fun hna => ⟨by omega, ?_⟩⟩, fun hnb => ?_⟩⟩
      · -- both
        have hg : gt F a b l = false := by unfold gt; simp; intro e; exact absurd e hna
        have hbt : bth F a b l = true := by unfold bth; simp; exact ⟨hna, by omega⟩
        rw [hg] at c1
        rw [hbt, if_pos rfl] at p1
        have hs13 := g9.1
        have hs13' : up2 s2 (o + 7) (plT F a b T l).length (F.2.2.2 (4 * a + l)) o 13 = ((plT F a b T l).length : Nat) := by rw [up2_ne (by omega)]; exact hs13
        have hs13'' : up2 (up2 s2 (o + 7) (plT F a b T l).length (F.2.2.2 (4 * a + l))) (o + 8) (plT F a b T l).length (F.2.2.2 (4 * b + l)) o 13 = ((plT F a b T l).length : Nat) := by rw [up2_ne (by omega), up2_ne (by omega)]; exact hs13
        have w6 : Unit → wr (((plT F a b T l).length : Int) + 1) = (((plT F a b T l).length + 1 : Nat) : Int) := fun _ => by rw [wr_id (by omega) (by omega)]; omega
        try simp only [awu 168 20, awu 168 21, awu 168 22, pe168, xs, i_load, i_loadR, i_inc, lg, lp, true_and, and_true, List.length_cons, List.length_nil, Nat.reduceAdd, Nat.reduceLeDiff, Nat.zero_le, Int.toNat_natCast, natLit, k0, k4, l4, k7, l7, k8, l8, hs13, ea, hs13', hs13'', w6 (), w5 ()]
        refine ⟨fun h => by omega, fun _ => ⟨by omega, by omega, by omega, ?_⟩⟩
        have ih' := ih (l + 1) (up2 (up2 (up2 s2 (o + 7) (plT F a b T l).length (F.2.2.2 (4 * a + l))) (o + 8) (plT F a b T l).length (F.2.2.2 (4 * b + l))) o 13 ((plT F a b T l).length + 1 : Nat)) (vi (4 * a + l : Nat)) (vi (F.2.2.2 (4 * b + l))) (by omega) (by omega)
        rw [c1] at ih'
        refine ih' ?_ ?_ ?_ ?_ ?_ ?_ ?_ ?_
        · simp only [up2_at]; simp [g3]
        · intro k hk
          have := g4 k hk
          simp only [up2_at]
          simp
          exact this
        · intro i hi
          have := g5 i hi
          rw [abk1]
          simp only [up2_at]
          simp
          by_cases e : i = 4 * a + l
          · subst e
            simp [hna, ea]
          · simp [e, this]
        · simp only [up2_at]; simp [g6]
        · simp only [up2_at]; simp [g7]
        · simp only [up2_at]; simp [g8]
        · rw [p1]
          refine ⟨?_, fun i hi => ?_⟩
          · simp only [up2_at]
            simp
          · rw [List.length_cons] at hi ⊢
            simp only [up2_at]
            by_cases e : i = (plT F a b T l).length
            · subst e
              simp
              omega
            · have := g9.2 i (by omega)
              rw [show (plT F a b T l).length + 1 - 1 - i = ((plT F a b T l).length - 1 - i) + 1 by omega]
              simp [e]
              simp at this
              exact this
        · intro j hj
          rw [up2_ne (by omega), up2_ne (by omega), up2_ne (by omega)]
          exact g10 j hj
      · -- it gets the arrow
        have hna : F.2.2.2 (4 * a + l) = -1 := by omega
        have hg : gt F a b l = true := by unfold gt; simp; exact ⟨hna, by omega⟩
        have hbt : bth F a b l = false := by unfold bth; simp [hna]
        rw [hg, if_pos rfl] at c1
        rw [hbt] at p1
        have ih' := ih (l + 1) (up2 s2 (o + 4) (4 * a + l) (F.2.2.2 (4 * b + l))) (vi (4 * a + l : Nat)) (vi (F.2.2.2 (4 * b + l))) (by omega) (by omega)
        rw [c1] at ih'
        refine ih' ?_ ?_ ?_ ?_ ?_ ?_ ?_ ?_
        · rw [up2_ne (by omega)]; exact g3
        · intro k hk
          rw [up2_ne (by omega), up2_ne (by omega), up2_ne (by omega)]
          exact g4 k hk
        · intro i hi
          rw [abk1, up2_self]
          unfold upf
          by_cases e : i = 4 * a + l
          · subst e
            simp [hna]
          · rw [if_neg e, if_neg e]
            exact g5 i hi
        · rw [up2_ne (by omega)]; exact g6
        · rw [up2_ne (by omega)]; exact g7
        · rw [up2_ne (by omega)]; exact g8
        · rw [p1]
          refine ⟨by rw [up2_ne (by omega)]; exact g9.1, fun i hi => ?_⟩
          rw [up2_ne (by omega), up2_ne (by omega)]
          exact g9.2 i hi
        · intro j hj
          rw [up2_ne (by omega)]
          exact g10 j hj
      · -- there is none
        have hnb : F.2.2.2 (4 * b + l) = -1 := by omega
        have hg : gt F a b l = false := by unfold gt; simp [hnb]
        have hbt : bth F a b l = false := by unfold bth; simp [hnb]
        rw [hg] at c1
        rw [hbt] at p1
        have ih' := ih (l + 1) s2 (vi (4 * a + l : Nat)) (vi (F.2.2.2 (4 * b + l))) (by omega) (by omega)
        rw [c1, p1] at ih'
        refine ih' g3 g4 (fun i hi => ?_) g6 g7 g8 g9 g10
        rw [abk1]
        by_cases e : i = 4 * a + l
        · subst e
          rw [if_pos rfl, ea, hnb]
          split
          · rename_i h; exact h
          · rfl
        · rw [if_neg e]
          exact g5 i hi
  -- red
  have M : ∀ sM : St, sM o 9 = n → (∀ k, k < n → sM (o + 1) k = (F.1 k : Nat) ∧ sM (o + 2) k = (ab F a b).2.1 k ∧ sM (o + 3) k = F.2.2.1 k) → (∀ j, j = o + 4 ∨ j = o + 5 ∨ j = o + 6 ∨ j = o + 7 ∨ j = o + 8 ∨ j < o ∨ o + 9 ≤ j → sM j = st j) → sM o 10 = (cR F n : Nat) → sM o 11 = (cM (ab F a b) n : Nat) → sM o 12 = J → sM o 13 = st o 13 → AW (P 168) Q (MS d) 0 (fun _ => 0) 10 [vr o, vi a, vi b, vi (chg F a b 0 : Nat), none, none, none] [] sM := by
    intro sM g1 g2 g3 g4 g5 g6 g7
    have ra := (g2 a (by omega)).2.2
    have rb := (g2 b hb).2.2
    have fin : ∀ v : Int, v = (if F.2.2.1 a = 0 then F.2.2.1 b else F.2.2.1 a) → AW (P 168) Q (MS d) 0 (fun _ => 0) 15 [vr o, vi a, vi b, vi (chg F a b 0 : Nat), vi 0, none, none] [] (up2 sM (o + 3) a v) := by
      intro v hv
      refine L 4 0 _ none none (by omega) rfl (by rw [up2_ne (by omega)]; exact g1) (fun k hk => ?_) (fun i hi => ?_) (by rw [up2_ne (by omega)]; exact g4) (by rw [up2_ne (by omega)]; exact g5) (by rw [up2_ne (by omega)]; exact g6) ⟨?_, fun i hi => ?_⟩ (fun j hj => ?_)
      · obtain ⟨z1, z2, z3⟩ := g2 k hk
        rw [up2_ne (by omega), up2_ne (by omega), up2_self]
        refine ⟨z1, z2, ?_⟩
        show upf (sM (o + 3)) a v k = upf F.2.2.1 a _ k
        rw [hv]
        unfold upf
        split
        · rfl
        · exact z3
      · rw [up2_ne (by omega), g3 (o + 4) (by omega), h4 i hi]
        unfold abk
        rw [if_neg (by omega)]
      · rw [up2_ne (by omega), g7]
        exact hT.1
      · rw [up2_ne (by omega), up2_ne (by omega), g3 (o + 7) (by omega), g3 (o + 8) (by omega)]
        exact hT.2 i hi
      · rw [up2_ne (by omega)]
        exact g3 j (by omega)
    rw [awu 168 10]
    try simp only [awu 168 11, awu 168 12, awu 168 13, awu 168 14, pe168, xs, i_load, i_loadR, i_inc, lg, lp, true_and, and_true, List.length_cons, List.length_nil, Nat.reduceAdd, Nat.reduceLeDiff, Nat.zero_le, Int.toNat_natCast, natLit, k0, k3, l3, ra, rb]
    refine ⟨by omega, ?_⟩
    rcases hra with e | e
    · rw [e] at fin ⊢
      refine ⟨fun h => absurd rfl h, fun _ => ⟨by omega, ?_⟩⟩
      rcases hrb with e2 | e2
      · rw [e2] at fin ⊢
        exact ⟨fun _ => ⟨by omega, ok01_0, fin 0 rfl⟩, fun h => absurd rfl h⟩
      · rw [e2] at fin ⊢
        exact ⟨fun h => absurd h (by decide), fun _ => ⟨by omega, ok01_1, fin 1 rfl⟩⟩
    · rw [e] at fin ⊢
      exact ⟨fun _ => ⟨by omega, ok01_1, fin 1 rfl⟩, fun h => absurd (by decide) h⟩
  -- the mark
  have N : AW (P 168) Q (MS d) 0 (fun _ => 0) 8 [vr o, vi a, vi b, vi (chg F a b 0 : Nat), none, none, none] [] st ∨ F.2.1 a = 0 := by
    by_cases e0 : F.2.1 a = 0
    · exact Or.inr e0
    · left
      have ew : Unit → wr ((cM F n : Int) - 1) = ((cM F n - 1 : Int)) := fun _ => by rw [wr_id (by omega) (by omega)]
      have mm : ∀ k, k < n → (ab F a b).2.1 k = F.2.1 k := by
        intro k hk
        show upf F.2.1 a _ k = _
        unfold upf
        split
        · rename_i h
          subst h
          first | rfl | rw [if_neg e0]
        · rfl
      rw [awu 168 8]
      try simp only [awu 168 9, pe168, xs, i_load, i_loadR, i_inc, lg, lp, true_and, and_true, List.length_cons, List.length_nil, Nat.reduceAdd, Nat.reduceLeDiff, Nat.zero_le, Int.toNat_natCast, natLit, k0, k2, l2, b2, h11, ew ()]
      refine ⟨by omega, fun h => ?_, fun h => ?_⟩
      · rw [if_neg (fun z => z.2 h), Nat.add_zero] at hcM
        refine M st h9 (fun k hk => ?_) (fun _ _ => rfl) h10 (by rw [hcM]; exact h11) hJ rfl
        rw [mm k hk]
        exact h1 k hk
      · rw [if_pos ⟨e0, h⟩] at hcM
        refine M _ (by rw [up2_at, if_pos rfl, if_neg (by omega)]; exact h9) (fun k hk => ?_) (fun j hj => by rw [up2_ne (by omega)]) (by rw [up2_at, if_pos rfl, if_neg (by omega)]; exact h10) ?_ (by rw [up2_at, if_pos rfl, if_neg (by omega)]; exact hJ) (by rw [up2_at, if_pos rfl, if_neg (by omega)])
        · rw [mm k hk, up2_ne (by omega), up2_ne (by omega), up2_ne (by omega)]
          exact h1 k hk
        · rw [up2_at, if_pos rfl, if_pos rfl]
          omega
  have N0 : F.2.1 a = 0 → AW (P 168) Q (MS d) 0 (fun _ => 0) 10 [vr o, vi a, vi b, vi (chg F a b 0 : Nat), none, none, none] [] (up2 st (o + 2) a (F.2.1 b)) := by
    intro e0
    rw [if_neg (fun z => z.1 e0), Nat.add_zero] at hcM
    refine M _ (by rw [up2_ne (by omega)]; exact h9) (fun k hk => ?_) (fun j hj => by rw [up2_ne (by omega)]) (by rw [up2_ne (by omega)]; exact h10) (by rw [up2_ne (by omega), hcM]; exact h11) (by rw [up2_ne (by omega)]; exact hJ) (by rw [up2_ne (by omega)])
    obtain ⟨z1, z2, z3⟩ := h1 k hk
    rw [up2_ne (by omega), up2_self, up2_ne (by omega)]
    refine ⟨z1, ?_, z3⟩
    show upf (st (o + 2)) a _ k = upf F.2.1 a _ k
    rw [if_pos e0]
    unfold upf
    split
    · rfl
    · exact z2
  have wmr : bor (F.2.1 a) (if F.2.2.1 a = 0 then 0 else 4) = (chg F a b 0 : Nat) := by
    have e1 : F.2.1 a = (((F.2.1 a).toNat : Nat) : Int) := by omega
    have e2 : chg F a b 0 = (F.2.1 a).toNat + 4 * (F.2.2.1 a).toNat := rfl
    rw [e2]
    rcases hra with e | e
    · rw [e, if_pos rfl, e1]
      exact bor_mr (r := 0) (by omega) (Or.inl rfl)
    · rw [e, if_neg (by decide), e1]
      exact bor_mr (r := 4) (by omega) (Or.inr rfl)
  refine MS_v [vr o, vi a, vi b, none, none, none, none] rfl rfl k0 rfl ?_
  try simp only [awu 168 0, awu 168 1, awu 168 2, awu 168 3, awu 168 4, awu 168 5, awu 168 6, awu 168 7, pe168, xs, i_load, i_loadR, i_inc, lg, lp, true_and, and_true, List.length_cons, List.length_nil, Nat.reduceAdd, Nat.reduceLeDiff, Nat.zero_le, Int.toNat_natCast, natLit, k0, k2, l2, k3, l3, hJ, a2, a3, b2]
  refine ⟨fun h => by omega, fun _ => ⟨fun _ => ⟨by omega, by omega, fun h => ?_, fun h => ?_⟩, fun h => by omega⟩⟩
  · rw [if_pos h] at wmr
    rw [wmr]
    refine ⟨by omega, fun e0 => N.resolve_right e0, fun e0 => ⟨by omega, by omega, N0 (by omega)⟩⟩
  · rw [if_neg h] at wmr
    rw [wmr]
    refine ⟨by omega, fun e0 => N.resolve_right e0, fun e0 => ⟨by omega, by omega, N0 (by omega)⟩⟩
end
section
/-! joinings are taken back (class) -/
def Sg (st : St) (o n lo : Nat) : Nat → FS → FS → Prop
  | 0, F, G => F = G
  | k + 1, F, G => ∃ (M : FS) (a b : Nat), Sg st o n lo k F M ∧ a < b ∧ b < n ∧ M.1 a = a ∧ M.1 b = b ∧ FI n M ∧ G = ab M a b ∧ st (o + 5) (lo + k) = b ∧ st (o + 6) (lo + k) = (chg M a b 4 : Nat)
theorem Sg_congr {st st' : St} {o n lo : Nat} : ∀ {k : Nat} {F G : FS}, (∀ i, i < lo + k → st' (o + 5) i = st (o + 5) i ∧ st' (o + 6) i = st (o + 6) i) → Sg st o n lo k F G → Sg st' o n lo k F G
  | 0, _, _, _, h => h
  | k + 1, F, G, he, ⟨M, a, b, h1, h2, h3, h4, h5, h6, h7, h8, h9⟩ => ⟨M, a, b, Sg_congr (fun i hi => he i (by omega)) h1, h2, h3, h4, h5, h6, h7, by rw [(he (lo + k) (by omega)).1]; exact h8, by rw [(he (lo + k) (by omega)).2]; exact h9⟩
theorem bits7 : ∀ w, w < 128 → (band (w : Nat) 3 = (w % 4 : Nat) ∧ band (w : Nat) 4 = (4 * (w / 4 % 2) : Nat)) ∧ (band (w : Nat) 8 = (8 * (w / 8 % 2) : Nat) ∧ band (w : Nat) 16 = (16 * (w / 16 % 2) : Nat)) ∧ (band (w : Nat) 32 = (32 * (w / 32 % 2) : Nat) ∧ band (w : Nat) 64 = (64 * (w / 64 % 2) : Nat)) := by decide +kernel
theorem chg_bits {n a b : Nat} {M : FS} (h : FI n M) (ha : a < n) : band (chg M a b 4 : Nat) 3 = M.2.1 a ∧ (band (chg M a b 4 : Nat) 4 = 4 * M.2.2.1 a) ∧ ∀ l : Nat, l < 4 → band (chg M a b 4 : Nat) (bshl 8 (l : Int)) = ((if gt M a b l then 8 * 2 ^ l else 0 : Nat) : Int) := by
  have hm := h.2.1 a ha
  have hr := h.2.2.1 a ha
  have e : chg M a b 4 = (M.2.1 a).toNat + 4 * (M.2.2.1 a).toNat + 8 * (if gt M a b 0 then 1 else 0) + 16 * (if gt M a b 1 then 1 else 0) + 32 * (if gt M a b 2 then 1 else 0) + 64 * (if gt M a b 3 then 1 else 0) := by
    show (M.2.1 a).toNat + 4 * (M.2.2.1 a).toNat + (if gt M a b 0 then 8 * 2 ^ 0 else 0) + (if gt M a b 1 then 8 * 2 ^ 1 else 0) + (if gt M a b 2 then 8 * 2 ^ 2 else 0) + (if gt M a b 3 then 8 * 2 ^ 3 else 0) = _
    split <;> split <;> split <;> split <;> rfl
  have g2 : ∀ l, (if gt M a b l then 1 else 0) < 2 := fun l => by split <;> decide
  have q0 := g2 0
  have q1 := g2 1
  have q2 := g2 2
  have q3 := g2 3
  have hr2 : (M.2.2.1 a).toNat < 2 := by rcases hr with q | q <;> rw [q] <;> decide
  have s0 : (if gt M a b 0 then 8 * 2 ^ 0 else 0) = 8 * (if gt M a b 0 then 1 else 0) := by split <;> rfl
  have s1 : (if gt M a b 1 then 8 * 2 ^ 1 else 0) = 16 * (if gt M a b 1 then 1 else 0) := by split <;> rfl
  have s2 : (if gt M a b 2 then 8 * 2 ^ 2 else 0) = 32 * (if gt M a b 2 then 1 else 0) := by split <;> rfl
  have s3 : (if gt M a b 3 then 8 * 2 ^ 3 else 0) = 64 * (if gt M a b 3 then 1 else 0) := by split <;> rfl
  have hlt := chg_lt (F := M) (b := b) hm hr 4
  obtain ⟨⟨x1, x2⟩, ⟨x3, x4⟩, x5, x6⟩ := bits7 (chg M a b 4) (by omega)
  generalize hg0 : (if gt M a b 0 then 1 else 0) = v0 at e q0 s0
  generalize hg1 : (if gt M a b 1 then 1 else 0) = v1 at e q1 s1
  generalize hg2 : (if gt M a b 2 then 1 else 0) = v2 at e q2 s2
  generalize hg3 : (if gt M a b 3 then 1 else 0) = v3 at e q3 s3
  refine ⟨by rw [x1]; omega, by rw [x2]; unfold ok01 at hr; omega, fun l hl => ?_⟩
  have e1 : bshl 8 (l : Int) = ((8 * 2 ^ l : Nat) : Int) := bshl_nat 8 l (by have : 2 ^ l ≤ 2 ^ 3 := Nat.pow_le_pow_right (by decide) (by omega); omega) (by omega)
  rw [e1]
  match l, hl with
  | 0, _ =>
    show band _ 8 = _
    rw [x3, s0]; omega
  | 1, _ =>
    show band _ 16 = _
    rw [x4, s1]; omega
  | 2, _ =>
    show band _ 32 = _
    rw [x5, s2]; omega
  | 3, _ =>
    show band _ 64 = _
    rw [x6, s3]; omega
set_option maxHeartbeats 1000000 in
theorem sp_ftake {d o n lo : Nat} {st : St} {F G : FS} {k : Nat} {Q : Rn} (ho : isFd o) (hn : n ≤ 120) (hC : CR st o n G) (hj : st o 12 = (lo + k : Nat)) (hjn : lo + k ≤ 120) (hS : Sg st o n lo k F G)
    (hq : ∀ st' : St, CR st' o n F → st' o 12 = lo → st' o 13 = st o 13 → (∀ j, j < o ∨ o + 5 ≤ j → st' j = st j) → Q none st') : MS (d + 1) 169 [vr o, vi lo] st Q := by
  obtain ⟨k0, ⟨k1, l1⟩, ⟨k2, l2⟩, ⟨k3, l3⟩, ⟨k4, l4⟩, ⟨k5, l5⟩, ⟨k6, l6⟩, -⟩ := id ho
  have key : ∀ (k : Nat) (s2 : St) (G : FS) (u3 u4 u5 u6 : V), CR s2 o n G → s2 o 12 = (lo + k : Nat) → lo + k ≤ 120 → Sg st o n lo k F G → s2 o 13 = st o 13 → (∀ j, j < o ∨ o + 5 ≤ j → s2 j = st j) → AW (P 169) Q (MS d) 0 (fun _ => 0) 1 [vr o, vi lo, vi ((lo + k : Nat) - 1), u3, u4, u5, u6] [] s2 := by
    intro k
    induction k with
    | zero =>
      intro s2 G u3 u4 u5 u6 g1 g2 g3 g4 g5 g6
      have g4 : F = G := g4
      subst g4
      have hh := hq s2 g1 g2 g5 g6
      rw [awu 169 1]
      try simp only [awu 169 2, awu 169 15, pe169, xs, i_load, i_loadR, i_inc, lg, lp, true_and, and_true, List.length_cons, List.length_nil, Nat.reduceAdd, Nat.reduceLeDiff, Nat.zero_le, Int.toNat_natCast, natLit, k0]
      exact ⟨fun _ => hh, fun _ => ⟨fun _ => hh, fun h => by omega⟩⟩
    | succ k ih =>
      intro s2 G u3 u4 u5 u6 g1 g2 g3 g4 g5 g6
      obtain ⟨M, a, b, h1, hab, hb, ua, ub, hM, rfl, e5, e6⟩ := g4
      obtain ⟨c9, c1, c4, c10, c11⟩ := g1
      have ek : ((lo + (k + 1) : Nat) : Int) - 1 = ((lo + k : Nat) : Int) := by omega
      rw [ek]
      have r5 : s2 (o + 5) (lo + k) = b := by rw [g6 (o + 5) (by omega)]; exact e5
      have r6 : s2 (o + 6) (lo + k) = (chg M a b 4 : Nat) := by rw [g6 (o + 6) (by omega)]; exact e6
      have r1 : s2 (o + 1) b = (a : Nat) := by
        rw [(c1 b hb).1]
        show ((updN M.1 b a b : Nat) : Int) = a
        unfold updN
        rw [if_pos rfl]
      obtain ⟨x1, x2, x3⟩ := chg_bits (b := b) hM (show a < n by omega)
      have hcR := cR_ab (F := M) hab hb ub
      have hcM := cM_ab (F := M) hab hb ua ub
      have hcRl : cR M n ≤ n := cn_le n
      have hcMl : cM M n ≤ n := cn_le n
      -- behind the letters
      have E : ∀ s4 : St, s4 o 9 = n → (∀ i, i < n → s4 (o + 1) i = ((ab M a b).1 i : Nat) ∧ s4 (o + 2) i = M.2.1 i ∧ s4 (o + 3) i = M.2.2.1 i) → (∀ i, i < 4 * n → s4 (o + 4) i = M.2.2.2 i) → s4 o 10 = (cR (ab M a b) n : Nat) → s4 o 11 = (cM (ab M a b) n : Nat) → s4 o 13 = st o 13 → (∀ j, j < o ∨ o + 5 ≤ j → s4 j = st j) → AW (P 169) Q (MS d) 0 (fun _ => 0) 11 [vr o, vi lo, vi (lo + k : Nat), vi b, vi a, vi (chg M a b 4 : Nat), vi 4] [] s4 := by
        intro s4 z9 z1 z4 z10 z11 z13 zf
        have ma := (z1 a (by omega)).2.1
        have mb := (z1 b hb).2.1
        have w1 : Unit → wr ((cM (ab M a b) n : Int) + 1) = (cM (ab M a b) n : Int) + 1 := fun _ => by rw [wr_id (by omega) (by omega)]
        have w2 : Unit → wr ((cR (ab M a b) n : Int) + 1) = (cR (ab M a b) n : Int) + 1 := fun _ => by rw [wr_id (by omega) (by omega)]
        have w3 : Unit → wr (((lo + k : Nat) : Int) + -1) = ((lo + k : Nat) : Int) - 1 := fun _ => by rw [wr_id (by omega) (by omega)]; omega
        have fin : ∀ s5 : St, s5 o 9 = n → (∀ i, i < n → s5 (o + 1) i = ((ab M a b).1 i : Nat) ∧ s5 (o + 2) i = M.2.1 i ∧ s5 (o + 3) i = M.2.2.1 i) → (∀ i, i < 4 * n → s5 (o + 4) i = M.2.2.2 i) → s5 o 10 = (cR (ab M a b) n : Nat) → s5 o 11 = (cM M n : Nat) → s5 o 13 = st o 13 → (∀ j, j < o ∨ o + 5 ≤ j → s5 j = st j) → AW (P 169) Q (MS d) 0 (fun _ => 0) 14 [vr o, vi lo, vi (lo + k : Nat), vi b, vi a, vi (chg M a b 4 : Nat), vi 4] [] s5 := by
          intro s5 y9 y1 y4 y10 y11 y13 yf
          have q1 : up2 s5 (o + 1) b b o 10 = (cR (ab M a b) n : Nat) := by rw [up2_ne (by omega)]; exact y10
          rw [awu 169 14]
          try simp only [awu 169 15, pe169, xs, i_load, i_loadR, i_inc, lg, lp, true_and, and_true, List.length_cons, List.length_nil, Nat.reduceAdd, Nat.reduceLeDiff, Nat.zero_le, Int.toNat_natCast, natLit, k0, k1, l1, q1, w2 (), w3 ()]
          refine ⟨by omega, ?_⟩
          refine ih _ M _ _ _ _ ⟨?_, fun i hi => ?_, fun i hi => ?_, ?_, ?_⟩ ?_ (by omega) h1 ?_ (fun j hj => ?_)
          · simp only [up2_at]; simp [y9]
          · obtain ⟨v1, v2, v3⟩ := y1 i hi
            simp only [up2_at]
            simp
            refine ⟨?_, v2, v3⟩
            by_cases e : i = b
            · simp [e, ub]
            · simp [e, v1]
              show ((updN M.1 b a i : Nat) : Int) = _
              unfold updN
              rw [if_neg e]
          · have := y4 i hi
            simp only [up2_at]
            simp
            exact this
          · simp only [up2_at]; simp; omega
          · simp only [up2_at]; simp [y11]
          · simp only [up2_at]; simp
          · simp only [up2_at]; simp [y13]
          · rw [up2_ne (by omega), up2_ne (by omega), up2_ne (by omega)]
            exact yf j hj
        rw [awu 169 11]
        try simp only [awu 169 12, awu 169 13, pe169, xs, i_load, i_loadR, i_inc, lg, lp, true_and, and_true, List.length_cons, List.length_nil, Nat.reduceAdd, Nat.reduceLeDiff, Nat.zero_le, Int.toNat_natCast, natLit, k0, k2, l2, ma, mb, z11, w1 ()]
        refine ⟨by omega, fun h => ?_, fun h => ⟨by omega, fun h2 => ?_, fun h2 => ?_⟩⟩
        · rw [if_neg (fun z => z.1 h), Nat.add_zero] at hcM
          exact fin s4 z9 z1 z4 z10 (by rw [← hcM]; exact z11) z13 zf
        · rw [if_neg (fun z => z.2 h2), Nat.add_zero] at hcM
          exact fin s4 z9 z1 z4 z10 (by rw [← hcM]; exact z11) z13 zf
        · rw [if_pos ⟨h, h2⟩] at hcM
          refine fin _ ?_ (fun i hi => ?_) (fun i hi => ?_) ?_ ?_ ?_ (fun j hj => ?_)
          · rw [up2_at, if_pos rfl, if_neg (by omega)]; exact z9
          · rw [up2_ne (by omega), up2_ne (by omega), up2_ne (by omega)]; exact z1 i hi
          · rw [up2_ne (by omega)]; exact z4 i hi
          · rw [up2_at, if_pos rfl, if_neg (by omega)]; exact z10
          · rw [up2_at, if_pos rfl, if_pos rfl]; omega
          · rw [up2_at, if_pos rfl, if_neg (by omega)]; exact z13
          · rw [up2_ne (by omega)]; exact zf j hj
      -- the letters
      have L : ∀ m l : Nat, ∀ s4 : St, l ≤ 4 → 4 - l = m → s4 o 9 = n → (∀ i, i < n → s4 (o + 1) i = ((ab M a b).1 i : Nat) ∧ s4 (o + 2) i = M.2.1 i ∧ s4 (o + 3) i = M.2.2.1 i) → (∀ i, i < 4 * n → s4 (o + 4) i = if 4 * a ≤ i ∧ i < 4 * a + l then M.2.2.2 i else abk M a b 4 i) → s4 o 10 = (cR (ab M a b) n : Nat) → s4 o 11 = (cM (ab M a b) n : Nat) → s4 o 13 = st o 13 → (∀ j, j < o ∨ o + 5 ≤ j → s4 j = st j) → AW (P 169) Q (MS d) 0 (fun _ => 0) 7 [vr o, vi lo, vi (lo + k : Nat), vi b, vi a, vi (chg M a b 4 : Nat), vi l] [] s4 := by
        intro m
        induction m with
        | zero =>
          intro l s4 y0 y1 z9 z1 z4 z10 z11 z13 zf
          have : l = 4 := by omega
          subst this
          rw [awu 169 7]
          try simp only [awu 169 8, pe169, xs, i_load, i_loadR, i_inc, lg, lp, true_and, and_true, List.length_cons, List.length_nil, Nat.reduceAdd, Nat.reduceLeDiff, Nat.zero_le, Int.toNat_natCast, natLit, k0]
          refine ⟨fun _ => E s4 z9 z1 (fun i hi => ?_) z10 z11 z13 zf, fun h => by omega⟩
          rw [z4 i hi]
          split
          · rfl
          · unfold abk
            rw [if_neg (by omega)]
        | succ m ihm =>
          intro l s4 y0 y1 z9 z1 z4 z10 z11 z13 zf
          have hl : l < 4 := by omega
          have w1 : Unit → wr ((a : Int) * 4) = ((4 * a : Nat) : Int) := fun _ => by rw [wr_id (by omega) (by omega)]; omega
          have w2 : Unit → wr (((4 * a : Nat) : Int) + (l : Int)) = ((4 * a + l : Nat) : Int) := fun _ => by rw [wr_id (by omega) (by omega)]; omega
          have w5 : Unit → wr ((l : Int) + 1) = ((l + 1 : Nat) : Int) := fun _ => by rw [wr_id (by omega) (by omega)]; omega
          have hp : 0 < 2 ^ l := Nat.two_pow_pos l
          rw [awu 169 7]
          try simp only [awu 169 8, awu 169 9, awu 169 10, pe169, xs, i_load, i_loadR, i_inc, lg, lp, true_and, and_true, List.length_cons, List.length_nil, Nat.reduceAdd, Nat.reduceLeDiff, Nat.zero_le, Int.toNat_natCast, natLit, k0, k4, l4, w1 (), w2 (), w5 (), x3 l hl]
          refine ⟨fun h => by omega, fun _ => ⟨fun h => ?_, fun h => ⟨by omega, ?_⟩⟩⟩
          · have hg : gt M a b l = false := by
              cases hg : gt M a b l with
              | false => rfl
              | true =>
                rw [hg, if_pos rfl] at h
                omega
            refine ihm (l + 1) s4 (by omega) (by omega) z9 z1 (fun i hi => ?_) z10 z11 z13 zf
            rw [z4 i hi]
            by_cases e : i = 4 * a + l
            · subst e
              rw [if_neg (by omega), if_pos (by omega)]
              unfold abk
              split
              · rename_i q
                unfold gt at hg
                simp [q.2.2] at hg
                rw [q.2.2, show 4 * b + (4 * a + l - 4 * a) = 4 * b + l by omega]
                exact hg
              · rfl
            · by_cases e2 : 4 * a ≤ i ∧ i < 4 * a + l
              · rw [if_pos e2, if_pos (by omega)]
              · rw [if_neg e2, if_neg (by omega)]
          · have hg : gt M a b l = true := by
              cases hg : gt M a b l with
              | true => rfl
              | false =>
                rw [hg] at h
                exact absurd rfl h
            refine ihm (l + 1) _ (by omega) (by omega) (by rw [up2_ne (by omega)]; exact z9) (fun i hi => by rw [up2_ne (by omega), up2_ne (by omega), up2_ne (by omega)]; exact z1 i hi) (fun i hi => ?_) (by rw [up2_ne (by omega)]; exact z10) (by rw [up2_ne (by omega)]; exact z11) (by rw [up2_ne (by omega)]; exact z13) (fun j hj => by rw [up2_ne (by omega)]; exact zf j hj)
            rw [up2_self]
            by_cases e : i = 4 * a + l
            · subst e
              rw [upf_s, if_pos (by omega)]
              unfold gt at hg
              simp at hg
              exact hg.1.symm
            · rw [upf_n e, z4 i hi]
              by_cases e2 : 4 * a ≤ i ∧ i < 4 * a + l
              · rw [if_pos e2, if_pos (by omega)]
              · rw [if_neg e2, if_neg (by omega)]
      have bk : ∀ v : Int, v = M.2.2.1 a → AW (P 169) Q (MS d) 0 (fun _ => 0) 7 [vr o, vi lo, vi (lo + k : Nat), vi b, vi a, vi (chg M a b 4 : Nat), vi 0] [] (up2 (up2 s2 (o + 2) a (M.2.1 a)) (o + 3) a v) := by
        intro v hv
        refine L 4 0 _ (by omega) rfl ?_ (fun i hi => ?_) (fun i hi => ?_) ?_ ?_ ?_ (fun j hj => ?_)
        · rw [up2_ne (by omega), up2_ne (by omega)]; exact c9
        · obtain ⟨v1, v2, v3⟩ := c1 i hi
          rw [up2_ne (by omega), up2_ne (by omega), up2_ne (by omega), up2_self, up2_self, up2_ne (by omega)]
          refine ⟨v1, ?_, ?_⟩
          · by_cases e : i = a
            · subst e
              rw [upf_s]
            · rw [upf_n e, v2]
              exact upf_n e
          · by_cases e : i = a
            · subst e
              rw [upf_s, hv]
            · rw [upf_n e, v3]
              exact upf_n e
        · rw [up2_ne (by omega), up2_ne (by omega), c4 i hi, if_neg (by omega)]
          rfl
        · rw [up2_ne (by omega), up2_ne (by omega)]; exact c10
        · rw [up2_ne (by omega), up2_ne (by omega)]; exact c11
        · rw [up2_ne (by omega), up2_ne (by omega)]; exact g5
        · rw [up2_ne (by omega), up2_ne (by omega)]; exact g6 j hj
      rw [awu 169 1]
      try simp only [awu 169 2, awu 169 3, awu 169 4, awu 169 5, awu 169 6, awu 169 15, pe169, xs, i_load, i_loadR, i_inc, lg, lp, true_and, and_true, List.length_cons, List.length_nil, Nat.reduceAdd, Nat.reduceLeDiff, Nat.zero_le, Int.toNat_natCast, natLit, k0, k1, l1, k2, l2, k3, l3, k5, l5, k6, l6, r5, r1, r6, x1, x2]
      refine ⟨fun h => by omega, fun _ => ⟨fun h => by omega, fun _ => ⟨by omega, by omega, by omega, by omega, ?_⟩⟩⟩
      rcases hM.2.2.1 a (by omega) with e | e
      · rw [e] at bk ⊢
        exact ⟨fun _ => ⟨by omega, ok01_0, bk 0 rfl⟩, fun h => absurd rfl h⟩
      · rw [e] at bk ⊢
        exact ⟨fun h => absurd h (by decide), fun _ => ⟨by omega, ok01_1, bk 1 rfl⟩⟩
  refine MS_v [vr o, vi lo, none, none, none, none, none] rfl rfl k0 rfl ?_
  try simp only [awu 169 0, pe169, xs, i_load, i_loadR, i_inc, lg, lp, true_and, and_true, List.length_cons, List.length_nil, Nat.reduceAdd, Nat.reduceLeDiff, Nat.zero_le, Int.toNat_natCast, natLit, k0, hj]
  rw [if_pos (by omega), wr_id (by omega) (by omega)]
  exact key k st G none none none none hC hj hjn hS rfl (fun _ _ => rfl)
end
section
/-! two states become one, and all that must (class) -/
def TLt (n : Nat) (T : List (Nat × Nat)) : Prop := ∀ p ∈ T, p.1 < n ∧ p.2 < n
theorem plT_lt {n a b : Nat} {F : FS} {T : List (Nat × Nat)} (hF : FI n F) (ha : a < n) (hb : b < n) (hT : TLt n T) : ∀ l, l ≤ 4 → TLt n (plT F a b T l)
  | 0, _ => hT
  | l + 1, hl => by
    have ih := plT_lt hF ha hb hT l (by omega)
    unfold plT
    split
    · rename_i h
      unfold bth at h
      simp at h
      have h1 := hF.2.2.2 (4 * a + l) (by omega)
      have h2 := hF.2.2.2 (4 * b + l) (by omega)
      intro p hp
      rcases List.mem_cons.mp hp with rfl | hp
      · exact ⟨by dsimp only; omega, by dsimp only; omega⟩
      · exact ih p hp
    · exact ih
theorem bor3 : ∀ x, x < 3 → ∀ y, y < 3 → (bor (x : Nat) (y : Nat) = 3 ↔ (x = 1 ∧ y = 2) ∨ (x = 2 ∧ y = 1)) := by decide +kernel
theorem cR_pos {n : Nat} {F : FS} (hF : FI n F) (hn : 0 < n) : 1 ≤ cR F n := cn_pos (b := 0) hn (by have := hF.1 0 hn; simp; omega)
theorem Sg_len {st : St} {o n lo : Nat} : ∀ {k : Nat} {F G : FS}, Sg st o n lo k F G → cR G n + k = cR F n
  | 0, F, G, h => by
    have h : F = G := h
    rw [h]; rfl
  | k + 1, F, G, ⟨M, a, b, h1, h2, h3, h4, h5, h6, h7, _⟩ => by
    have ih := Sg_len h1
    have := cR_ab (F := M) h2 h3 h5
    rw [h7]
    omega
theorem Sg_FI {st : St} {o n lo : Nat} : ∀ {k : Nat} {F G : FS}, FI n F → Sg st o n lo k F G → FI n G
  | 0, F, G, hF, h => by
    have h : F = G := h
    rw [← h]; exact hF
  | k + 1, F, G, hF, ⟨M, a, b, h1, h2, h3, h4, h5, h6, h7, _⟩ => by
    rw [h7]
    exact ab_FI h6 h2 h3
set_option maxHeartbeats 1000000 in
theorem sp_fjoin {d o n i j J : Nat} {st : St} {F : FS} {Q : Rn} (ho : isFd o) (hn : n ≤ 120) (hC : CR st o n F) (hF : FI n F) (hi : i < n) (hj : j < n) (hJ : st o 12 = J) (hJR : J + cR F n = n)
    (h1 : ∀ (F' : FS) (st' : St) (k : Nat), mg F i j = some F' → CR st' o n F' → st' o 12 = (J + k : Nat) → Sg st' o n J k F F' → (∀ q, q < J → st' (o + 5) q = st (o + 5) q ∧ st' (o + 6) q = st (o + 6) q) → (∀ q, q < o ∨ o + 9 ≤ q → st' q = st q) → Q (vi 1) st')
    (h0 : ∀ st' : St, mg F i j = none → CR st' o n F → st' o 12 = J → (∀ q, q < J → st' (o + 5) q = st (o + 5) q ∧ st' (o + 6) q = st (o + 6) q) → (∀ q, q < o ∨ o + 9 ≤ q → st' q = st q) → Q (vi 0) st') : MS (d + 2) 167 [vr o, vi i, vi j] st Q := by
  obtain ⟨k0, ⟨k1, l1⟩, ⟨k2, l2⟩, ⟨k3, l3⟩, ⟨k4, l4⟩, ⟨k5, l5⟩, ⟨k6, l6⟩, ⟨k7, l7⟩, ⟨k8, l8⟩, -⟩ := id ho
  obtain ⟨h9, -⟩ := id hC
  have hcRl : cR F n ≤ n := cn_le n
  have key : ∀ m t k : Nat, ∀ (s2 : St) (F' : FS) (T : List (Nat × Nat)) (u5 u6 : V), t ≤ 481 → 481 - t = m → CR s2 o n F' → SK s2 o T → TLt n T → s2 o 12 = (J + k : Nat) → Sg s2 o n J k F F' → T.length + 4 * cR F' n + t ≤ 481 → jn (482 - t) F' T = mg F i j → (∀ q, q < J → s2 (o + 5) q = st (o + 5) q ∧ s2 (o + 6) q = st (o + 6) q) → (∀ q, q < o ∨ o + 9 ≤ q → s2 q = st q) → AW (P 167) Q (MS (d + 1)) 0 (fun _ => 0) 6 [vr o, vi i, vi j, vi J, vi t, u5, u6] [] s2 := by
    intro m
    induction m with
    | zero =>
      intro t k s2 F' T u5 u6 g1 g2 g3 g4 g5 g6 g7 g8 g9 g10 g11
      have := cR_pos (Sg_FI hF g7) (show 0 < n by omega)
      omega
    | succ m ih =>
      intro t k s2 F' T u5 u6 g1 g2 g3 g4 g5 g6 g7 g8 g9 g10 g11
      have hF' := Sg_FI hF g7
      have hlen := Sg_len g7
      have hpos := cR_pos hF' (show 0 < n by omega)
      rw [show 482 - t = (481 - t) + 1 by omega] at g9
      match T, g4, g5, g8, g9 with
      | [], g4, g5, g8, g9 =>
        have g9 : some F' = mg F i j := g9
        have hh := h1 F' s2 k g9.symm g3 g6 g7 g10 g11
        have e13 : s2 o 13 = 0 := g4.1
        rw [awu 167 6]
        try simp only [awu 167 7, awu 167 14, pe167, xs, i_load, i_loadR, i_inc, lg, lp, true_and, and_true, List.length_cons, List.length_nil, Nat.reduceAdd, Nat.reduceLeDiff, Nat.zero_le, Int.toNat_natCast, natLit, k0, e13]
        exact ⟨fun h => by omega, fun _ => ⟨fun _ => ⟨ok01_1, hh⟩, fun h => by omega⟩⟩
      | (x, y) :: T, g4, g5, g8, g9 =>
        obtain ⟨hx, hy⟩ := g5 (x, y) List.mem_cons_self
        have hT' : TLt n T := fun p hp => g5 p (List.mem_cons_of_mem _ hp)
        rw [List.length_cons] at g8
        have e13 : s2 o 13 = ((T.length + 1 : Nat) : Int) := g4.1
        have w1 : Unit → wr (((T.length + 1 : Nat) : Int) - 1) = ((T.length : Nat) : Int) := fun _ => by rw [wr_id (by omega) (by omega)]; omega
        have w2 : Unit → wr ((t : Int) + 1) = ((t + 1 : Nat) : Int) := fun _ => by rw [wr_id (by omega) (by omega)]; omega
        obtain ⟨t7, t8⟩ := g4.2 T.length (by simp)
        simp at t7 t8
        have s13 : up2 s2 o 13 (T.length : Nat) o 13 = (T.length : Nat) := by rw [up2_self, upf_s]
        have t7' : up2 s2 o 13 (T.length : Nat) (o + 7) T.length = (x : Nat) := by rw [up2_ne (by omega)]; exact t7
        have t8' : up2 s2 o 13 (T.length : Nat) (o + 8) T.length = (y : Nat) := by rw [up2_ne (by omega)]; exact t8
        have C3 : CR (up2 s2 o 13 (T.length : Nat)) o n F' := by
          obtain ⟨z1, z2, z3, z4, z5⟩ := g3
          refine ⟨?_, fun q hq => ?_, fun q hq => ?_, ?_, ?_⟩
          · rw [up2_at, if_pos rfl, if_neg (by omega)]; exact z1
          · rw [up2_ne (by omega), up2_ne (by omega), up2_ne (by omega)]; exact z2 q hq
          · rw [up2_ne (by omega)]; exact z3 q hq
          · rw [up2_at, if_pos rfl, if_neg (by omega)]; exact z4
          · rw [up2_at, if_pos rfl, if_neg (by omega)]; exact z5
        have J3 : up2 s2 o 13 (T.length : Nat) o 12 = (J + k : Nat) := by rw [up2_at, if_pos rfl, if_neg (by omega)]; exact g6
        have S3 : Sg (up2 s2 o 13 (T.length : Nat)) o n J k F F' := Sg_congr (fun q hq => by rw [up2_ne (by omega), up2_ne (by omega)]; exact ⟨rfl, rfl⟩) g7
        have K3 : SK (up2 s2 o 13 (T.length : Nat)) o T := by
          refine ⟨s13, fun q hq => ?_⟩
          rw [up2_ne (by omega), up2_ne (by omega)]
          have := g4.2 q (by simp; omega)
          rw [List.length_cons, show T.length + 1 - 1 - q = (T.length - 1 - q) + 1 by omega] at this
          simpa using this
        have X10 : ∀ q, q < J → up2 s2 o 13 (T.length : Nat) (o + 5) q = st (o + 5) q ∧ up2 s2 o 13 (T.length : Nat) (o + 6) q = st (o + 6) q := fun q hq => by rw [up2_ne (by omega), up2_ne (by omega)]; exact g10 q hq
        have X11 : ∀ q, q < o ∨ o + 9 ≤ q → up2 s2 o 13 (T.length : Nat) q = st q := fun q hq => by rw [up2_ne (by omega)]; exact g11 q hq
        have hp := rt_le (u := F'.1) x
        have hq := rt_le (u := F'.1) y
        have rp := rt_root hF'.1 x hx
        have rq := rt_root hF'.1 y hy
        rw [awu 167 6]
        try simp only [awu 167 7, awu 167 8, awu 167 14, pe167, xs, i_load, i_loadR, i_inc, lg, lp, true_and, and_true, List.length_cons, List.length_nil, Nat.reduceAdd, Nat.reduceLeDiff, Nat.zero_le, Int.toNat_natCast, natLit, k0, e13, w1 (), s13, k7, l7, t7', k8, l8]
        refine ⟨fun h => by omega, fun _ => ⟨fun h => by omega, fun _ => ⟨by omega, ?_⟩⟩⟩
        refine sp_fnof ho hn C3 hF' hx ?_
        dsimp only
        try simp only [awu 167 8, pe167, xs, i_load, i_loadR, i_inc, lg, lp, true_and, and_true, List.length_cons, List.length_nil, Nat.reduceAdd, Nat.reduceLeDiff, Nat.zero_le, Int.toNat_natCast, natLit, k0, s13, k8, l8, t8']
        refine ⟨by omega, ?_⟩
        refine sp_fnof ho hn C3 hF' hy ?_
        dsimp only
        have ew : jn (481 - t + 1) F' ((x, y) :: T) = (if rt F'.1 x = rt F'.1 y then jn (481 - t) F' T else if (F'.2.1 (rt F'.1 x) = 1 ∧ F'.2.1 (rt F'.1 y) = 2) ∨ (F'.2.1 (rt F'.1 x) = 2 ∧ F'.2.1 (rt F'.1 y) = 1) then none else jn (481 - t) (ab F' (min (rt F'.1 x) (rt F'.1 y)) (max (rt F'.1 x) (rt F'.1 y))) (plT F' (min (rt F'.1 x) (rt F'.1 y)) (max (rt F'.1 x) (rt F'.1 y)) T 4)) := rfl
        rw [ew] at g9
        clear ew
        generalize rt F'.1 x = p at *
        generalize rt F'.1 y = q at *
        have mp : up2 s2 o 13 (T.length : Nat) (o + 2) p = F'.2.1 p := (C3.2.1 p (by omega)).2.1
        have mq : up2 s2 o 13 (T.length : Nat) (o + 2) q = F'.2.1 q := (C3.2.1 q (by omega)).2.1
        have vp := hF'.2.1 p (by omega)
        have vq := hF'.2.1 q (by omega)
        have b3 := bor3 (F'.2.1 p).toNat (by omega) (F'.2.1 q).toNat (by omega)
        rw [show (((F'.2.1 p).toNat : Nat) : Int) = F'.2.1 p by omega, show (((F'.2.1 q).toNat : Nat) : Int) = F'.2.1 q by omega] at b3
        try simp only [awu 167 9, awu 167 10, awu 167 11, awu 167 12, awu 167 13, pe167, xs, i_load, i_loadR, i_inc, lg, lp, true_and, and_true, List.length_cons, List.length_nil, Nat.reduceAdd, Nat.reduceLeDiff, Nat.zero_le, Int.toNat_natCast, natLit, k0, k2, l2, mp, mq, w2 ()]
        refine ⟨fun hne => ⟨by omega, by omega, fun hnc => ?_, fun hcf => ?_⟩, fun heq => ?_⟩
        · -- they become one
          have hpq : p ≠ q := by omega
          rw [if_neg hpq, if_neg (by omega)] at g9
          have emin : (if (p : Int) ≤ (q : Int) then (p : Int) else (q : Int)) = ((min p q : Nat) : Int) := by split <;> omega
          have emax : (if (q : Int) ≤ (p : Int) then (p : Int) else (q : Int)) = ((max p q : Nat) : Int) := by split <;> omega
          rw [emin, emax]
          have umin : F'.1 (min p q) = min p q := by
            rcases Nat.le_total p q with z | z
            · rw [Nat.min_eq_left z]; exact rp
            · rw [Nat.min_eq_right z]; exact rq
          have umax : F'.1 (max p q) = max p q := by
            rcases Nat.le_total p q with z | z
            · rw [Nat.max_eq_right z]; exact rq
            · rw [Nat.max_eq_left z]; exact rp
          have hlt : min p q < max p q := by omega
          have hmx : max p q < n := by omega
          have hcRab := cR_ab (F := F') hlt hmx umax
          have hpl := plT_len (F := F') (a := min p q) (b := max p q) (T := T) 4
          have hpt := plT_lt hF' (show min p q < n by omega) hmx hT' 4 (Nat.le_refl _)
          generalize min p q = a at *
          generalize max p q = b at *
          refine sp_fabs ho hn C3 hF' hlt hmx umin umax J3 (by omega) K3 (by omega) (fun s4 y1 y2 y3 y4 y5 y6 y7 => ?_)
          dsimp only
          try simp only [awu 167 13, pe167, xs, i_load, i_loadR, i_inc, lg, lp, true_and, and_true, List.length_cons, List.length_nil, Nat.reduceAdd, Nat.reduceLeDiff, Nat.zero_le, Int.toNat_natCast, natLit, k0, w2 ()]
          refine ih (t + 1) (k + 1) s4 (ab F' a b) (plT F' a b T 4) _ _ (by omega) (by omega) y1 y2 hpt y3 ⟨F', a, b, Sg_congr y4 S3, hlt, hmx, umin, umax, hF', rfl, y5, y6⟩ (by omega) (by rw [show 482 - (t + 1) = 481 - t by omega]; exact g9) (fun r hr => ?_) (fun r hr => ?_)
          · rw [(y4 r (by omega)).1, (y4 r (by omega)).2]
            exact X10 r hr
          · rw [y7 r (by omega)]
            exact X11 r hr
        · -- it fails
          have hcf : bor (F'.2.1 p) (F'.2.1 q) = 3 := by omega
          have hpq : p ≠ q := by omega
          rw [if_neg hpq, if_pos (by omega)] at g9
          refine sp_ftake ho hn C3 J3 (by omega) S3 (fun s4 y1 y2 y3 y4 => ?_)
          dsimp only
          refine ⟨ok01_0, h0 s4 g9.symm y1 y2 (fun r hr => ?_) (fun r hr => ?_)⟩
          · rw [y4 (o + 5) (by omega), y4 (o + 6) (by omega)]
            exact X10 r hr
          · rw [y4 r (by omega)]
            exact X11 r hr
        · -- they are one
          have hpq : p = q := by omega
          rw [if_pos hpq] at g9
          exact ih (t + 1) k _ F' T _ _ (by omega) (by omega) C3 K3 hT' J3 S3 (by omega) (by rw [show 482 - (t + 1) = 481 - t by omega]; exact g9) X10 X11
  have J3 : up2 (up2 (up2 st (o + 7) 0 i) (o + 8) 0 j) o 13 1 o 12 = J := by
    rw [up2_at, if_pos rfl, if_neg (by omega), up2_ne (by omega), up2_ne (by omega)]
    exact hJ
  refine MS_v [vr o, vi i, vi j, none, none, none, none] rfl rfl k0 rfl ?_
  try simp only [awu 167 0, awu 167 1, awu 167 2, awu 167 3, awu 167 4, awu 167 5, pe167, xs, i_load, i_loadR, i_inc, lg, lp, true_and, and_true, List.length_cons, List.length_nil, Nat.reduceAdd, Nat.reduceLeDiff, Nat.zero_le, Int.toNat_natCast, natLit, k0, h9, hJ, k7, l7, k8, l8]
  refine ⟨fun h => by omega, fun _ => ⟨fun h => by omega, fun _ => ⟨fun h => by omega, fun _ => ⟨fun _ => ⟨by omega, by omega, ?_⟩, fun h => by omega⟩⟩⟩⟩
  have e0 : (Int.toNat 0) = 0 := rfl
  rw [e0]
  refine key 481 0 0 _ F [(i, j)] none none (by omega) rfl ?_ ⟨?_, fun q hq => ?_⟩ ?_ J3 rfl (by simp; omega) rfl (fun q hq => ?_) (fun q hq => ?_)
  · obtain ⟨z1, z2, z3, z4, z5⟩ := hC
    refine ⟨?_, fun q hq => ?_, fun q hq => ?_, ?_, ?_⟩
    · simp only [up2_at]; simp [z1]
    · have := z2 q hq
      simp only [up2_at]
      simp
      exact this
    · have := z3 q hq
      simp only [up2_at]
      simp
      exact this
    · simp only [up2_at]; simp [z4]
    · simp only [up2_at]; simp [z5]
  · simp only [up2_at]
    simp
  · have : q = 0 := by simpa using hq
    subst this
    simp only [up2_at]
    simp
  · intro p hp
    rw [List.mem_singleton.mp hp]
    exact ⟨hi, hj⟩
  · rw [up2_ne (by omega), up2_ne (by omega), up2_ne (by omega), up2_ne (by omega), up2_ne (by omega), up2_ne (by omega)]
    exact ⟨rfl, rfl⟩
  · rw [up2_ne (by omega), up2_ne (by omega), up2_ne (by omega)]
end
section
/-! what a merge is worth (class); names (reference) -/
def wth (how : Int) (F F' : FS) (n : Nat) : Int := if how = 1 then (cM F n : Int) - cM F' n else if how = 2 then (cR F n : Int) - cR F' n else 0
def scr (how : Int) (F : FS) (n i j : Nat) : Int := match mg F i j with
  | none => -1
  | some F' => wth how F F' n
theorem sp_fworth {d o n i j J : Nat} {how : Int} {st : St} {F : FS} {Q : Rn} (ho : isFd o) (hn : n ≤ 120) (hC : CR st o n F) (hF : FI n F) (hi : i < n) (hj : j < n) (hJ : st o 12 = J) (hJR : J + cR F n = n)
    (hq : ∀ st' : St, CR st' o n F → st' o 12 = J → (∀ q, q < J → st' (o + 5) q = st (o + 5) q ∧ st' (o + 6) q = st (o + 6) q) → (∀ q, q < o ∨ o + 9 ≤ q → st' q = st q) → Q (vi (scr how F n i j)) st') : MS (d + 3) 170 [vr o, vi how, vi i, vi j] st Q := by
  have k0 := ho.1
  obtain ⟨h9, -, -, h10, h11⟩ := id hC
  refine MS_v [vr o, vi how, vi i, vi j, none, none, none, none] rfl rfl k0 rfl ?_
  try simp only [awu 170 0, pe170, xs, i_load, i_loadR, i_inc, lg, lp, true_and, and_true, List.length_cons, List.length_nil, Nat.reduceAdd, Nat.reduceLeDiff, Nat.zero_le, Int.toNat_natCast, natLit, k0, hJ, h10, h11]
  refine sp_fjoin ho hn hC hF hi hj hJ hJR (fun F' s2 k g1 g2 g3 g4 g5 g6 => ?_) (fun s2 g1 g2 g3 g5 g6 => ?_)
  · dsimp only
    have hcl := Sg_len g4
    have c1 : cR F n ≤ n := cn_le n
    have c2 : cM F n ≤ n := cn_le n
    have c3 : cM F' n ≤ n := cn_le n
    have e10 := g2.2.2.2.1
    have e11 := g2.2.2.2.2
    have es : scr how F n i j = wth how F F' n := by unfold scr; rw [g1]
    have w1 : Unit → wr ((cM F n : Int) - (cM F' n : Nat)) = (cM F n : Int) - (cM F' n : Nat) := fun _ => by rw [wr_id (by omega) (by omega)]
    have w2 : Unit → wr ((cR F n : Int) - (cR F' n : Nat)) = (cR F n : Int) - (cR F' n : Nat) := fun _ => by rw [wr_id (by omega) (by omega)]
    have fin : ∀ v : Int, v = wth how F F' n → AW (P 170) Q (MS (d + 2)) 0 (fun _ => 0) 6 [vr o, vi how, vi i, vi j, vi J, vi (cR F n : Nat), vi (cM F n : Nat), vi v] [] s2 := by
      intro v hv
      rw [awu 170 6]
      try simp only [awu 170 6, pe170, xs, i_load, i_loadR, i_inc, lg, lp, true_and, and_true, List.length_cons, List.length_nil, Nat.reduceAdd, Nat.reduceLeDiff, Nat.zero_le, Int.toNat_natCast, natLit, k0]
      refine sp_ftake ho hn g2 g3 (by omega) g4 (fun s4 y1 y2 y3 y4 => ?_)
      dsimp only
      rw [hv, ← es]
      refine hq s4 y1 y2 (fun q hq => ?_) (fun q hq => ?_)
      · rw [y4 (o + 5) (by omega), y4 (o + 6) (by omega)]
        exact g5 q hq
      · rw [y4 q (by omega)]
        exact g6 q hq
    try simp only [awu 170 1, awu 170 2, awu 170 3, awu 170 4, awu 170 5, pe170, xs, i_load, i_loadR, i_inc, lg, lp, true_and, and_true, List.length_cons, List.length_nil, Nat.reduceAdd, Nat.reduceLeDiff, Nat.zero_le, Int.toNat_natCast, natLit, k0, e10, e11, w1 (), w2 ()]
    unfold wth at fin
    refine ⟨fun _ => ⟨fun h => ⟨fun h2 => ?_, fun h2 => ?_⟩, fun h => ?_⟩, fun h => absurd (by decide) h⟩
    · exact fin 0 (by rw [if_neg h, if_neg h2])
    · exact fin _ (by rw [if_neg h, if_pos (by omega)])
    · exact fin _ (by rw [if_pos (by omega)])
  · dsimp only
    have es : scr how F n i j = -1 := by unfold scr; rw [g1]
    try simp only [awu 170 1, awu 170 2, pe170, xs, i_load, i_loadR, i_inc, lg, lp, true_and, and_true, List.length_cons, List.length_nil, Nat.reduceAdd, Nat.reduceLeDiff, Nat.zero_le, Int.toNat_natCast, natLit, k0]
    refine ⟨fun h => absurd trivial h, fun _ => ?_⟩
    rw [← es]
    exact hq s2 g2 g3 g5 g6
/-! the reference -/
def MR (st : St) (n a : Nat) (F : FS) : Prop := st 99 14 = n ∧ st 99 2 = a ∧ (∀ k, k < n → st 109 k = (if F.1 k = k then -1 else (F.1 k : Int)) ∧ st 110 k = F.2.1 k ∧ st 111 k = F.2.2.1 k) ∧ (∀ k, k < 4 * n → st 112 k = F.2.2.2 k) ∧ st 99 19 = (cR F n : Nat)
def LA (n a : Nat) (F : FS) : Prop := ∀ k l, k < n → a ≤ l → l < 4 → F.2.2.2 (4 * k + l) = -1
theorem LA_ab {n a x y : Nat} {F : FS} (h : LA n a F) (hx : x < n) (hy : y < n) : LA n a (ab F x y) := by
  intro k l hk h1 h2
  show abk F x y 4 (4 * k + l) = -1
  unfold abk
  split
  · rename_i q
    have : k = x := by omega
    subst this
    rw [show 4 * y + (4 * k + l - 4 * k) = 4 * y + l by omega]
    exact h y l hy h1 h2
  · exact h k l hk h1 h2
theorem sp_mnof {d n a : Nat} {st : St} {F : FS} {node : Nat} {Q : Rn} (hn : n ≤ 120) (hC : MR st n a F) (hF : FI n F) (hk : node < n) (hq : Q (vi (rt F.1 node : Nat)) st) : MS (d + 1) 61 [vr 99, vi node] st Q := by
  have k0 : kl 99 = 12 := rfl
  have k1 : kl 109 = 50 := rfl
  have l1 : len 109 = 161 := rfl
  obtain ⟨-, -, h1, -⟩ := hC
  refine MS_v [vr 99, vi node, none] rfl rfl rfl rfl ?_
  try simp only [awu 61 0, pe61, xs, i_load, i_loadR, i_inc, lg, lp, true_and, and_true, List.length_cons, List.length_nil, Nat.reduceAdd, Nat.reduceLeDiff, Nat.zero_le, Int.toNat_natCast, natLit, k0]
  have key : ∀ m k : Nat, k ≤ m → k < n → rt F.1 k = rt F.1 node → AW (P 61) Q (MS d) 0 (fun _ => 0) 1 [vr 99, vi node, vi k] [] st := by
    intro m
    induction m with
    | zero =>
      intro k g1 g2 g4
      have hu := hF.1 k g2
      have h0 : rt F.1 k = k := rt_self (by omega)
      rw [← g4, h0] at hq
      have e := (h1 k g2).1
      rw [if_pos (by omega)] at e
      rw [awu 61 1]
      try simp only [awu 61 3, pe61, xs, i_load, i_loadR, i_inc, lg, lp, true_and, and_true, List.length_cons, List.length_nil, Nat.reduceAdd, Nat.reduceLeDiff, Nat.zero_le, Int.toNat_natCast, natLit, k0, k1, l1, e]
      exact ⟨by omega, fun _ => hq, fun h => absurd trivial h⟩
    | succ m ih =>
      intro k g1 g2 g4
      have hu := hF.1 k g2
      have e := (h1 k g2).1
      by_cases hr : F.1 k = k
      · have h0 : rt F.1 k = k := rt_self (by omega)
        rw [← g4, h0] at hq
        rw [if_pos hr] at e
        rw [awu 61 1]
        try simp only [awu 61 3, pe61, xs, i_load, i_loadR, i_inc, lg, lp, true_and, and_true, List.length_cons, List.length_nil, Nat.reduceAdd, Nat.reduceLeDiff, Nat.zero_le, Int.toNat_natCast, natLit, k0, k1, l1, e]
        exact ⟨by omega, fun _ => hq, fun h => absurd trivial h⟩
      · rw [if_neg hr] at e
        rw [awu 61 1]
        try simp only [awu 61 2, awu 61 3, pe61, xs, i_load, i_loadR, i_inc, lg, lp, true_and, and_true, List.length_cons, List.length_nil, Nat.reduceAdd, Nat.reduceLeDiff, Nat.zero_le, Int.toNat_natCast, natLit, k0, k1, l1, e]
        refine ⟨by omega, fun h => by omega, fun _ => ⟨by omega, ?_⟩⟩
        exact ih (F.1 k) (by omega) (by omega) (by rw [← rt_eq (by omega)]; exact g4)
  exact key node node (Nat.le_refl _) hk rfl
theorem sp_mname {d n a : Nat} {st : St} {F : FS} {k : Int} {Q : Rn} (hn : n ≤ 120) (hC : MR st n a F) (h1 : isN F n k → Q (vi 1) st) (h0 : ¬ isN F n k → Q (vi 0) st) : MS (d + 2) 62 [vr 99, vi k] st Q := by
  have k0 : kl 99 = 12 := rfl
  have k1 : kl 109 = 50 := rfl
  have l1 : len 109 = 161 := rfl
  obtain ⟨h14, -, ht, -⟩ := hC
  have ew : Unit → wr ((n : Int) - 1) = (n : Int) - 1 := fun _ => by rw [wr_id (by omega) (by omega)]
  refine MS_v [vr 99, vi k] rfl rfl rfl rfl ?_
  try simp only [awu 62 0, pe62, xs, i_load, i_loadR, i_inc, lg, lp, true_and, and_true, List.length_cons, List.length_nil, Nat.reduceAdd, Nat.reduceLeDiff, Nat.zero_le, Int.toNat_natCast, natLit, k0, h14, ew ()]
  refine sp_isIn ?_
  dsimp only
  by_cases hk : 0 ≤ k ∧ k < n
  · rw [if_pos (by omega)]
    have e := (ht k.toNat (by omega)).1
    try simp only [awu 62 1, awu 62 2, awu 62 3, awu 62 4, pe62, xs, i_load, i_loadR, i_inc, lg, lp, true_and, and_true, List.length_cons, List.length_nil, Nat.reduceAdd, Nat.reduceLeDiff, Nat.zero_le, Int.toNat_natCast, natLit, k0, k1, l1, e]
    refine ⟨fun h => absurd h (by decide), fun _ => ⟨by omega, ?_⟩⟩
    by_cases hr : F.1 k.toNat = k.toNat
    · rw [if_pos hr]
      exact ⟨fun h => absurd rfl h, fun _ => ⟨ok01_1, h1 ⟨hk.1, hk.2, hr⟩⟩⟩
    · rw [if_neg hr]
      exact ⟨fun _ => ⟨ok01_0, h0 (fun z => hr z.2.2)⟩, fun h => by omega⟩
  · rw [if_neg (by omega)]
    try simp only [awu 62 1, awu 62 2, awu 62 3, awu 62 4, pe62, xs, i_load, i_loadR, i_inc, lg, lp, true_and, and_true, List.length_cons, List.length_nil, Nat.reduceAdd, Nat.reduceLeDiff, Nat.zero_le, Int.toNat_natCast, natLit, k0, k1, l1]
    exact ⟨fun _ => ⟨ok01_0, h0 (fun z => hk ⟨z.1, z.2.1⟩)⟩, fun h => absurd trivial h⟩
theorem sp_mtwo {d n a : Nat} {st : St} {F : FS} {i j : Int} {Q : Rn} (hn : n ≤ 120) (hC : MR st n a F) (h1 : i ≠ j → isN F n i → isN F n j → Q (vi 1) st) (h0 : ¬ (i ≠ j ∧ isN F n i ∧ isN F n j) → Q (vi 0) st) : MS (d + 3) 91 [vr 99, vi i, vi j] st Q := by
  have k0 : kl 99 = 12 := rfl
  refine MS_v [vr 99, vi i, vi j] rfl rfl rfl rfl ?_
  try simp only [awu 91 0, pe91, xs, i_load, i_loadR, i_inc, lg, lp, true_and, and_true, List.length_cons, List.length_nil, Nat.reduceAdd, Nat.reduceLeDiff, Nat.zero_le, Int.toNat_natCast, natLit, k0]
  refine sp_mname hn hC (fun hi => ?_) (fun hi => ?_)
  · dsimp only
    try simp only [awu 91 1, awu 91 2, awu 91 3, awu 91 4, awu 91 5, pe91, xs, i_load, i_loadR, i_inc, lg, lp, true_and, and_true, List.length_cons, List.length_nil, Nat.reduceAdd, Nat.reduceLeDiff, Nat.zero_le, Int.toNat_natCast, natLit, k0]
    refine ⟨fun h => absurd h (by decide), fun _ => ?_⟩
    refine sp_mname hn hC (fun hj => ?_) (fun hj => ?_)
    · dsimp only
      try simp only [awu 91 1, awu 91 2, awu 91 3, awu 91 4, awu 91 5, pe91, xs, i_load, i_loadR, i_inc, lg, lp, true_and, and_true, List.length_cons, List.length_nil, Nat.reduceAdd, Nat.reduceLeDiff, Nat.zero_le, Int.toNat_natCast, natLit, k0]
      refine ⟨fun h => absurd h (by decide), fun _ => ⟨fun e => ⟨ok01_0, h0 (fun z => z.1 e)⟩, fun e => ⟨ok01_1, h1 e hi hj⟩⟩⟩
    · dsimp only
      try simp only [awu 91 1, awu 91 2, awu 91 3, awu 91 4, awu 91 5, pe91, xs, i_load, i_loadR, i_inc, lg, lp, true_and, and_true, List.length_cons, List.length_nil, Nat.reduceAdd, Nat.reduceLeDiff, Nat.zero_le, Int.toNat_natCast, natLit, k0]
      exact ⟨fun _ => ⟨ok01_0, h0 (fun z => hj z.2.2)⟩, fun h => absurd trivial h⟩
  · dsimp only
    try simp only [awu 91 1, awu 91 2, awu 91 3, awu 91 4, awu 91 5, pe91, xs, i_load, i_loadR, i_inc, lg, lp, true_and, and_true, List.length_cons, List.length_nil, Nat.reduceAdd, Nat.reduceLeDiff, Nat.zero_le, Int.toNat_natCast, natLit, k0]
    exact ⟨fun _ => ⟨ok01_0, h0 (fun z => hi z.2.1)⟩, fun h => absurd trivial h⟩
end
