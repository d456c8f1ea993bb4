section
/-- a private method of a class that the tables say can be made, by its rows of tables_1 -/
def lw_okq (q : MethodName × Nat) : Prop := (q.1.cls ≠ "java/lang/invoke/MethodHandle" ∧ q.1.cls ≠ "java/lang/invoke/VarHandle") ∧ Cond.instantiable q.1.cls q.2 ∈ tables_1 ∧ Cond.privateMethod q.1 ∈ tables_1 ∧ Cond.instanceMethod q.1 ∈ tables_1
theorem lw_p0 : lw_okq (⟨"AtariGarden$Club", "lowestOff", "()LAtariGarden$Match;"⟩, 6) := ⟨⟨by decide +kernel, by decide +kernel⟩, List.mem_of_getElem? (i := 28) (by decide +kernel), List.mem_of_getElem? (i := 90) (by decide +kernel), List.mem_of_getElem? (i := 91) (by decide +kernel)⟩
theorem lw_p1 : lw_okq (⟨"AtariGarden$Club", "isOff", "(LAtariGarden$Match;)Z"⟩, 6) := ⟨⟨by decide +kernel, by decide +kernel⟩, List.mem_of_getElem? (i := 28) (by decide +kernel), List.mem_of_getElem? (i := 94) (by decide +kernel), List.mem_of_getElem? (i := 95) (by decide +kernel)⟩
theorem lw_p2 : lw_okq (⟨"AtariGarden$Club", "pairing", "(III)I"⟩, 6) := ⟨⟨by decide +kernel, by decide +kernel⟩, List.mem_of_getElem? (i := 28) (by decide +kernel), List.mem_of_getElem? (i := 102) (by decide +kernel), List.mem_of_getElem? (i := 103) (by decide +kernel)⟩
theorem lw_p3 : lw_okq (⟨"java/lang/Throwable", "fillInStackTrace", "(I)Ljava/lang/Throwable;"⟩, 6) := ⟨⟨by decide +kernel, by decide +kernel⟩, List.mem_of_getElem? (i := 181) (by decide +kernel), List.mem_of_getElem? (i := 179) (by decide +kernel), List.mem_of_getElem? (i := 180) (by decide +kernel)⟩
theorem lw_p4 : lw_okq (⟨"AtariGarden", "requirePlayer", "(I)V"⟩, 2) := ⟨⟨by decide +kernel, by decide +kernel⟩, List.mem_of_getElem? (i := 20) (by decide +kernel), List.mem_of_getElem? (i := 239) (by decide +kernel), List.mem_of_getElem? (i := 240) (by decide +kernel)⟩
theorem lw_p5 : lw_okq (⟨"AtariGarden$Club", "isBusy", "(I)Z"⟩, 6) := ⟨⟨by decide +kernel, by decide +kernel⟩, List.mem_of_getElem? (i := 28) (by decide +kernel), List.mem_of_getElem? (i := 292) (by decide +kernel), List.mem_of_getElem? (i := 293) (by decide +kernel)⟩
theorem lw_p6 : lw_okq (⟨"AtariGarden$Match", "keepLiberties", "(J)V"⟩, 10) := ⟨⟨by decide +kernel, by decide +kernel⟩, List.mem_of_getElem? (i := 299) (by decide +kernel), List.mem_of_getElem? (i := 346) (by decide +kernel), List.mem_of_getElem? (i := 347) (by decide +kernel)⟩
theorem lw_p7 : lw_okq (⟨"AtariGarden$Match", "keepForAll", "(JI)V"⟩, 10) := ⟨⟨by decide +kernel, by decide +kernel⟩, List.mem_of_getElem? (i := 299) (by decide +kernel), List.mem_of_getElem? (i := 350) (by decide +kernel), List.mem_of_getElem? (i := 351) (by decide +kernel)⟩
theorem lw_p8 : lw_okq (⟨"AtariGarden", "matchOf", "(I)LAtariGarden$Match;"⟩, 2) := ⟨⟨by decide +kernel, by decide +kernel⟩, List.mem_of_getElem? (i := 20) (by decide +kernel), List.mem_of_getElem? (i := 428) (by decide +kernel), List.mem_of_getElem? (i := 429) (by decide +kernel)⟩
theorem lw_p9 : lw_okq (⟨"AtariGarden$Position", "wasThere", "(JJ)Z"⟩, 6) := ⟨⟨by decide +kernel, by decide +kernel⟩, List.mem_of_getElem? (i := 308) (by decide +kernel), List.mem_of_getElem? (i := 456) (by decide +kernel), List.mem_of_getElem? (i := 457) (by decide +kernel)⟩
theorem lw_p10 : lw_okq (⟨"AtariGarden$School", "isFull", "()Z"⟩, 3) := ⟨⟨by decide +kernel, by decide +kernel⟩, List.mem_of_getElem? (i := 57) (by decide +kernel), List.mem_of_getElem? (i := 676) (by decide +kernel), List.mem_of_getElem? (i := 677) (by decide +kernel)⟩
theorem lw_p11 : lw_okq (⟨"AtariGarden", "twigOf", "(I)LAtariGarden$Twig;"⟩, 2) := ⟨⟨by decide +kernel, by decide +kernel⟩, List.mem_of_getElem? (i := 20) (by decide +kernel), List.mem_of_getElem? (i := 725) (by decide +kernel), List.mem_of_getElem? (i := 726) (by decide +kernel)⟩
theorem lw_p12 : lw_okq (⟨"AtariGarden$School", "childOf", "(LAtariGarden$Twig;I)LAtariGarden$Twig;"⟩, 3) := ⟨⟨by decide +kernel, by decide +kernel⟩, List.mem_of_getElem? (i := 57) (by decide +kernel), List.mem_of_getElem? (i := 738) (by decide +kernel), List.mem_of_getElem? (i := 739) (by decide +kernel)⟩
theorem lw_p13 : lw_okq (⟨"AtariGarden$School", "grow", "(LAtariGarden$Twig;ILAtariGarden$Position;)LAtariGarden$Twig;"⟩, 3) := ⟨⟨by decide +kernel, by decide +kernel⟩, List.mem_of_getElem? (i := 57) (by decide +kernel), List.mem_of_getElem? (i := 744) (by decide +kernel), List.mem_of_getElem? (i := 745) (by decide +kernel)⟩
theorem lw_p14 : lw_okq (⟨"AtariGarden$Twig", "hasMark", "(I)Z"⟩, 8) := ⟨⟨by decide +kernel, by decide +kernel⟩, List.mem_of_getElem? (i := 679) (by decide +kernel), List.mem_of_getElem? (i := 772) (by decide +kernel), List.mem_of_getElem? (i := 773) (by decide +kernel)⟩
theorem lw_p15 : lw_okq (⟨"AtariGarden$School", "countMissing", "(LAtariGarden$Twig;LAtariGarden$Twig;)I"⟩, 3) := ⟨⟨by decide +kernel, by decide +kernel⟩, List.mem_of_getElem? (i := 57) (by decide +kernel), List.mem_of_getElem? (i := 792) (by decide +kernel), List.mem_of_getElem? (i := 793) (by decide +kernel)⟩
def lw_privs_1 : List (MethodName × Nat) := [(⟨"AtariGarden$Club", "lowestOff", "()LAtariGarden$Match;"⟩, 6), (⟨"AtariGarden$Club", "isOff", "(LAtariGarden$Match;)Z"⟩, 6), (⟨"AtariGarden$Club", "pairing", "(III)I"⟩, 6), (⟨"java/lang/Throwable", "fillInStackTrace", "(I)Ljava/lang/Throwable;"⟩, 6), (⟨"AtariGarden", "requirePlayer", "(I)V"⟩, 2), (⟨"AtariGarden$Club", "isBusy", "(I)Z"⟩, 6), (⟨"AtariGarden$Match", "keepLiberties", "(J)V"⟩, 10), (⟨"AtariGarden$Match", "keepForAll", "(JI)V"⟩, 10), (⟨"AtariGarden", "matchOf", "(I)LAtariGarden$Match;"⟩, 2), (⟨"AtariGarden$Position", "wasThere", "(JJ)Z"⟩, 6), (⟨"AtariGarden$School", "isFull", "()Z"⟩, 3), (⟨"AtariGarden", "twigOf", "(I)LAtariGarden$Twig;"⟩, 2), (⟨"AtariGarden$School", "childOf", "(LAtariGarden$Twig;I)LAtariGarden$Twig;"⟩, 3), (⟨"AtariGarden$School", "grow", "(LAtariGarden$Twig;ILAtariGarden$Position;)LAtariGarden$Twig;"⟩, 3), (⟨"AtariGarden$Twig", "hasMark", "(I)Z"⟩, 8), (⟨"AtariGarden$School", "countMissing", "(LAtariGarden$Twig;LAtariGarden$Twig;)I"⟩, 3)]
theorem lw_r1 : ∀ q ∈ lw_privs_1, lw_okq q := List.forall_mem_cons.mpr ⟨lw_p0, List.forall_mem_cons.mpr ⟨lw_p1, List.forall_mem_cons.mpr ⟨lw_p2, List.forall_mem_cons.mpr ⟨lw_p3, List.forall_mem_cons.mpr ⟨lw_p4, List.forall_mem_cons.mpr ⟨lw_p5, List.forall_mem_cons.mpr ⟨lw_p6, List.forall_mem_cons.mpr ⟨lw_p7, List.forall_mem_cons.mpr ⟨lw_p8, List.forall_mem_cons.mpr ⟨lw_p9, List.forall_mem_cons.mpr ⟨lw_p10, List.forall_mem_cons.mpr ⟨lw_p11, List.forall_mem_cons.mpr ⟨lw_p12, List.forall_mem_cons.mpr ⟨lw_p13, List.forall_mem_cons.mpr ⟨lw_p14, List.forall_mem_cons.mpr ⟨lw_p15, fun _ h => absurd h List.not_mem_nil⟩⟩⟩⟩⟩⟩⟩⟩⟩⟩⟩⟩⟩⟩⟩⟩
theorem lw_p16 : lw_okq (⟨"AtariGarden$School", "twinOf", "(LAtariGarden$Twig;LAtariGarden$Twig;)LAtariGarden$Twig;"⟩, 3) := ⟨⟨by decide +kernel, by decide +kernel⟩, List.mem_of_getElem? (i := 57) (by decide +kernel), List.mem_of_getElem? (i := 796) (by decide +kernel), List.mem_of_getElem? (i := 797) (by decide +kernel)⟩
theorem lw_p17 : lw_okq (⟨"AtariGarden$School", "twinOfParent", "(LAtariGarden$Twig;)LAtariGarden$Twig;"⟩, 3) := ⟨⟨by decide +kernel, by decide +kernel⟩, List.mem_of_getElem? (i := 57) (by decide +kernel), List.mem_of_getElem? (i := 800) (by decide +kernel), List.mem_of_getElem? (i := 801) (by decide +kernel)⟩
theorem lw_p18 : lw_okq (⟨"AtariGarden$School", "twinOrNew", "(LAtariGarden$Twig;LAtariGarden$Twig;)LAtariGarden$Twig;"⟩, 3) := ⟨⟨by decide +kernel, by decide +kernel⟩, List.mem_of_getElem? (i := 57) (by decide +kernel), List.mem_of_getElem? (i := 804) (by decide +kernel), List.mem_of_getElem? (i := 805) (by decide +kernel)⟩
theorem lw_p19 : lw_okq (⟨"AtariGardenModel", "fails", "(I)Z"⟩, 48) := ⟨⟨by decide +kernel, by decide +kernel⟩, List.mem_of_getElem? (i := 813) (by decide +kernel), List.mem_of_getElem? (i := 977) (by decide +kernel), List.mem_of_getElem? (i := 978) (by decide +kernel)⟩
theorem lw_p20 : lw_okq (⟨"AtariGardenModel", "isPlayer", "(I)Z"⟩, 48) := ⟨⟨by decide +kernel, by decide +kernel⟩, List.mem_of_getElem? (i := 813) (by decide +kernel), List.mem_of_getElem? (i := 985) (by decide +kernel), List.mem_of_getElem? (i := 986) (by decide +kernel)⟩
theorem lw_p21 : lw_okq (⟨"AtariGardenModel", "plays", "(I)Z"⟩, 48) := ⟨⟨by decide +kernel, by decide +kernel⟩, List.mem_of_getElem? (i := 813) (by decide +kernel), List.mem_of_getElem? (i := 993) (by decide +kernel), List.mem_of_getElem? (i := 994) (by decide +kernel)⟩
theorem lw_p22 : lw_okq (⟨"AtariGardenModel", "blackOf", "(II)I"⟩, 48) := ⟨⟨by decide +kernel, by decide +kernel⟩, List.mem_of_getElem? (i := 813) (by decide +kernel), List.mem_of_getElem? (i := 997) (by decide +kernel), List.mem_of_getElem? (i := 998) (by decide +kernel)⟩
theorem lw_p23 : lw_okq (⟨"AtariGardenModel", "handicapOf", "(II)I"⟩, 48) := ⟨⟨by decide +kernel, by decide +kernel⟩, List.mem_of_getElem? (i := 813) (by decide +kernel), List.mem_of_getElem? (i := 1001) (by decide +kernel), List.mem_of_getElem? (i := 1002) (by decide +kernel)⟩
theorem lw_p24 : lw_okq (⟨"AtariGardenModel", "apart", "(II)I"⟩, 48) := ⟨⟨by decide +kernel, by decide +kernel⟩, List.mem_of_getElem? (i := 813) (by decide +kernel), List.mem_of_getElem? (i := 1005) (by decide +kernel), List.mem_of_getElem? (i := 1006) (by decide +kernel)⟩
theorem lw_p25 : lw_okq (⟨"AtariGardenModel", "keeps", "(JJI)I"⟩, 48) := ⟨⟨by decide +kernel, by decide +kernel⟩, List.mem_of_getElem? (i := 813) (by decide +kernel), List.mem_of_getElem? (i := 1015) (by decide +kernel), List.mem_of_getElem? (i := 1016) (by decide +kernel)⟩
theorem lw_p26 : lw_okq (⟨"AtariGardenModel", "isGame", "(I)Z"⟩, 48) := ⟨⟨by decide +kernel, by decide +kernel⟩, List.mem_of_getElem? (i := 813) (by decide +kernel), List.mem_of_getElem? (i := 1023) (by decide +kernel), List.mem_of_getElem? (i := 1024) (by decide +kernel)⟩
theorem lw_p27 : lw_okq (⟨"AtariGardenModel", "canPlay", "(II)Z"⟩, 48) := ⟨⟨by decide +kernel, by decide +kernel⟩, List.mem_of_getElem? (i := 813) (by decide +kernel), List.mem_of_getElem? (i := 1030) (by decide +kernel), List.mem_of_getElem? (i := 1031) (by decide +kernel)⟩
theorem lw_p28 : lw_okq (⟨"AtariGardenModel", "isEmpty", "(JJI)Z"⟩, 48) := ⟨⟨by decide +kernel, by decide +kernel⟩, List.mem_of_getElem? (i := 813) (by decide +kernel), List.mem_of_getElem? (i := 1034) (by decide +kernel), List.mem_of_getElem? (i := 1035) (by decide +kernel)⟩
theorem lw_p29 : lw_okq (⟨"AtariGardenModel", "sideOf", "(II)I"⟩, 48) := ⟨⟨by decide +kernel, by decide +kernel⟩, List.mem_of_getElem? (i := 813) (by decide +kernel), List.mem_of_getElem? (i := 1038) (by decide +kernel), List.mem_of_getElem? (i := 1039) (by decide +kernel)⟩
theorem lw_p30 : lw_okq (⟨"AtariGardenModel", "puts", "(JJII)V"⟩, 48) := ⟨⟨by decide +kernel, by decide +kernel⟩, List.mem_of_getElem? (i := 813) (by decide +kernel), List.mem_of_getElem? (i := 1042) (by decide +kernel), List.mem_of_getElem? (i := 1043) (by decide +kernel)⟩
theorem lw_p31 : lw_okq (⟨"AtariGardenModel", "wasThere", "(IJJ)Z"⟩, 48) := ⟨⟨by decide +kernel, by decide +kernel⟩, List.mem_of_getElem? (i := 813) (by decide +kernel), List.mem_of_getElem? (i := 1065) (by decide +kernel), List.mem_of_getElem? (i := 1066) (by decide +kernel)⟩
def lw_privs_2 : List (MethodName × Nat) := [(⟨"AtariGarden$School", "twinOf", "(LAtariGarden$Twig;LAtariGarden$Twig;)LAtariGarden$Twig;"⟩, 3), (⟨"AtariGarden$School", "twinOfParent", "(LAtariGarden$Twig;)LAtariGarden$Twig;"⟩, 3), (⟨"AtariGarden$School", "twinOrNew", "(LAtariGarden$Twig;LAtariGarden$Twig;)LAtariGarden$Twig;"⟩, 3), (⟨"AtariGardenModel", "fails", "(I)Z"⟩, 48), (⟨"AtariGardenModel", "isPlayer", "(I)Z"⟩, 48), (⟨"AtariGardenModel", "plays", "(I)Z"⟩, 48), (⟨"AtariGardenModel", "blackOf", "(II)I"⟩, 48), (⟨"AtariGardenModel", "handicapOf", "(II)I"⟩, 48), (⟨"AtariGardenModel", "apart", "(II)I"⟩, 48), (⟨"AtariGardenModel", "keeps", "(JJI)I"⟩, 48), (⟨"AtariGardenModel", "isGame", "(I)Z"⟩, 48), (⟨"AtariGardenModel", "canPlay", "(II)Z"⟩, 48), (⟨"AtariGardenModel", "isEmpty", "(JJI)Z"⟩, 48), (⟨"AtariGardenModel", "sideOf", "(II)I"⟩, 48), (⟨"AtariGardenModel", "puts", "(JJII)V"⟩, 48), (⟨"AtariGardenModel", "wasThere", "(IJJ)Z"⟩, 48)]
theorem lw_r2 : ∀ q ∈ lw_privs_2, lw_okq q := List.forall_mem_cons.mpr ⟨lw_p16, List.forall_mem_cons.mpr ⟨lw_p17, List.forall_mem_cons.mpr ⟨lw_p18, List.forall_mem_cons.mpr ⟨lw_p19, List.forall_mem_cons.mpr ⟨lw_p20, List.forall_mem_cons.mpr ⟨lw_p21, List.forall_mem_cons.mpr ⟨lw_p22, List.forall_mem_cons.mpr ⟨lw_p23, List.forall_mem_cons.mpr ⟨lw_p24, List.forall_mem_cons.mpr ⟨lw_p25, List.forall_mem_cons.mpr ⟨lw_p26, List.forall_mem_cons.mpr ⟨lw_p27, List.forall_mem_cons.mpr ⟨lw_p28, List.forall_mem_cons.mpr ⟨lw_p29, List.forall_mem_cons.mpr ⟨lw_p30, List.forall_mem_cons.mpr ⟨lw_p31, fun _ h => absurd h List.not_mem_nil⟩⟩⟩⟩⟩⟩⟩⟩⟩⟩⟩⟩⟩⟩⟩⟩
theorem lw_p32 : lw_okq (⟨"AtariGardenModel", "runsOut", "(II)Z"⟩, 48) := ⟨⟨by decide +kernel, by decide +kernel⟩, List.mem_of_getElem? (i := 813) (by decide +kernel), List.mem_of_getElem? (i := 1069) (by decide +kernel), List.mem_of_getElem? (i := 1070) (by decide +kernel)⟩
theorem lw_p33 : lw_okq (⟨"AtariGardenModel", "ends", "(II)V"⟩, 48) := ⟨⟨by decide +kernel, by decide +kernel⟩, List.mem_of_getElem? (i := 813) (by decide +kernel), List.mem_of_getElem? (i := 1073) (by decide +kernel), List.mem_of_getElem? (i := 1074) (by decide +kernel)⟩
theorem lw_p34 : lw_okq (⟨"AtariGardenModel", "counts", "(I)V"⟩, 48) := ⟨⟨by decide +kernel, by decide +kernel⟩, List.mem_of_getElem? (i := 813) (by decide +kernel), List.mem_of_getElem? (i := 1077) (by decide +kernel), List.mem_of_getElem? (i := 1078) (by decide +kernel)⟩
theorem lw_p35 : lw_okq (⟨"AtariGardenModel", "grows", "(IZ)V"⟩, 48) := ⟨⟨by decide +kernel, by decide +kernel⟩, List.mem_of_getElem? (i := 813) (by decide +kernel), List.mem_of_getElem? (i := 1081) (by decide +kernel), List.mem_of_getElem? (i := 1082) (by decide +kernel)⟩
theorem lw_p36 : lw_okq (⟨"AtariGardenModel", "scoreOf", "(I)I"⟩, 48) := ⟨⟨by decide +kernel, by decide +kernel⟩, List.mem_of_getElem? (i := 813) (by decide +kernel), List.mem_of_getElem? (i := 1089) (by decide +kernel), List.mem_of_getElem? (i := 1090) (by decide +kernel)⟩
theorem lw_p37 : lw_okq (⟨"AtariGardenModel", "stateOf", "(I)I"⟩, 48) := ⟨⟨by decide +kernel, by decide +kernel⟩, List.mem_of_getElem? (i := 813) (by decide +kernel), List.mem_of_getElem? (i := 1101) (by decide +kernel), List.mem_of_getElem? (i := 1102) (by decide +kernel)⟩
theorem lw_p38 : lw_okq (⟨"AtariGardenModel", "libertiesOf", "(II)I"⟩, 48) := ⟨⟨by decide +kernel, by decide +kernel⟩, List.mem_of_getElem? (i := 813) (by decide +kernel), List.mem_of_getElem? (i := 1125) (by decide +kernel), List.mem_of_getElem? (i := 1126) (by decide +kernel)⟩
theorem lw_p39 : lw_okq (⟨"AtariGardenModel", "finds", "(I)V"⟩, 48) := ⟨⟨by decide +kernel, by decide +kernel⟩, List.mem_of_getElem? (i := 813) (by decide +kernel), List.mem_of_getElem? (i := 1140) (by decide +kernel), List.mem_of_getElem? (i := 1141) (by decide +kernel)⟩
theorem lw_p40 : lw_okq (⟨"AtariGardenModel", "off", "()I"⟩, 48) := ⟨⟨by decide +kernel, by decide +kernel⟩, List.mem_of_getElem? (i := 813) (by decide +kernel), List.mem_of_getElem? (i := 1144) (by decide +kernel), List.mem_of_getElem? (i := 1145) (by decide +kernel)⟩
theorem lw_p41 : lw_okq (⟨"AtariGardenModel", "isOff", "(I)Z"⟩, 48) := ⟨⟨by decide +kernel, by decide +kernel⟩, List.mem_of_getElem? (i := 813) (by decide +kernel), List.mem_of_getElem? (i := 1148) (by decide +kernel), List.mem_of_getElem? (i := 1149) (by decide +kernel)⟩
theorem lw_p42 : lw_okq (⟨"AtariGardenModel", "dueOf", "(I)I"⟩, 48) := ⟨⟨by decide +kernel, by decide +kernel⟩, List.mem_of_getElem? (i := 813) (by decide +kernel), List.mem_of_getElem? (i := 1152) (by decide +kernel), List.mem_of_getElem? (i := 1153) (by decide +kernel)⟩
theorem lw_p43 : lw_okq (⟨"AtariGardenModel", "reads", "(IIII)Z"⟩, 48) := ⟨⟨by decide +kernel, by decide +kernel⟩, List.mem_of_getElem? (i := 813) (by decide +kernel), List.mem_of_getElem? (i := 1168) (by decide +kernel), List.mem_of_getElem? (i := 1169) (by decide +kernel)⟩
theorem lw_p44 : lw_okq (⟨"AtariGardenModel", "catches", "(JJIII)Z"⟩, 48) := ⟨⟨by decide +kernel, by decide +kernel⟩, List.mem_of_getElem? (i := 813) (by decide +kernel), List.mem_of_getElem? (i := 1172) (by decide +kernel), List.mem_of_getElem? (i := 1173) (by decide +kernel)⟩
theorem lw_p45 : lw_okq (⟨"AtariGardenModel", "libertiesAt", "(JJI)I"⟩, 48) := ⟨⟨by decide +kernel, by decide +kernel⟩, List.mem_of_getElem? (i := 813) (by decide +kernel), List.mem_of_getElem? (i := 1176) (by decide +kernel), List.mem_of_getElem? (i := 1177) (by decide +kernel)⟩
theorem lw_p46 : lw_okq (⟨"AtariGardenModel", "attacks", "(JJII)J"⟩, 48) := ⟨⟨by decide +kernel, by decide +kernel⟩, List.mem_of_getElem? (i := 813) (by decide +kernel), List.mem_of_getElem? (i := 1180) (by decide +kernel), List.mem_of_getElem? (i := 1181) (by decide +kernel)⟩
theorem lw_p47 : lw_okq (⟨"AtariGardenModel", "replies", "(JJII)J"⟩, 48) := ⟨⟨by decide +kernel, by decide +kernel⟩, List.mem_of_getElem? (i := 813) (by decide +kernel), List.mem_of_getElem? (i := 1187) (by decide +kernel), List.mem_of_getElem? (i := 1188) (by decide +kernel)⟩
def lw_privs_3 : List (MethodName × Nat) := [(⟨"AtariGardenModel", "runsOut", "(II)Z"⟩, 48), (⟨"AtariGardenModel", "ends", "(II)V"⟩, 48), (⟨"AtariGardenModel", "counts", "(I)V"⟩, 48), (⟨"AtariGardenModel", "grows", "(IZ)V"⟩, 48), (⟨"AtariGardenModel", "scoreOf", "(I)I"⟩, 48), (⟨"AtariGardenModel", "stateOf", "(I)I"⟩, 48), (⟨"AtariGardenModel", "libertiesOf", "(II)I"⟩, 48), (⟨"AtariGardenModel", "finds", "(I)V"⟩, 48), (⟨"AtariGardenModel", "off", "()I"⟩, 48), (⟨"AtariGardenModel", "isOff", "(I)Z"⟩, 48), (⟨"AtariGardenModel", "dueOf", "(I)I"⟩, 48), (⟨"AtariGardenModel", "reads", "(IIII)Z"⟩, 48), (⟨"AtariGardenModel", "catches", "(JJIII)Z"⟩, 48), (⟨"AtariGardenModel", "libertiesAt", "(JJI)I"⟩, 48), (⟨"AtariGardenModel", "attacks", "(JJII)J"⟩, 48), (⟨"AtariGardenModel", "replies", "(JJII)J"⟩, 48)]
theorem lw_r3 : ∀ q ∈ lw_privs_3, lw_okq q := List.forall_mem_cons.mpr ⟨lw_p32, List.forall_mem_cons.mpr ⟨lw_p33, List.forall_mem_cons.mpr ⟨lw_p34, List.forall_mem_cons.mpr ⟨lw_p35, List.forall_mem_cons.mpr ⟨lw_p36, List.forall_mem_cons.mpr ⟨lw_p37, List.forall_mem_cons.mpr ⟨lw_p38, List.forall_mem_cons.mpr ⟨lw_p39, List.forall_mem_cons.mpr ⟨lw_p40, List.forall_mem_cons.mpr ⟨lw_p41, List.forall_mem_cons.mpr ⟨lw_p42, List.forall_mem_cons.mpr ⟨lw_p43, List.forall_mem_cons.mpr ⟨lw_p44, List.forall_mem_cons.mpr ⟨lw_p45, List.forall_mem_cons.mpr ⟨lw_p46, List.forall_mem_cons.mpr ⟨lw_p47, fun _ h => absurd h List.not_mem_nil⟩⟩⟩⟩⟩⟩⟩⟩⟩⟩⟩⟩⟩⟩⟩⟩
theorem lw_p48 : lw_okq (⟨"AtariGardenModel", "allowed", "(JJIJ)J"⟩, 48) := ⟨⟨by decide +kernel, by decide +kernel⟩, List.mem_of_getElem? (i := 813) (by decide +kernel), List.mem_of_getElem? (i := 1191) (by decide +kernel), List.mem_of_getElem? (i := 1192) (by decide +kernel)⟩
theorem lw_p49 : lw_okq (⟨"AtariGardenModel", "position", "(II)I"⟩, 48) := ⟨⟨by decide +kernel, by decide +kernel⟩, List.mem_of_getElem? (i := 813) (by decide +kernel), List.mem_of_getElem? (i := 1203) (by decide +kernel), List.mem_of_getElem? (i := 1204) (by decide +kernel)⟩
theorem lw_p50 : lw_okq (⟨"AtariGardenModel", "makes", "(IIJJI)I"⟩, 48) := ⟨⟨by decide +kernel, by decide +kernel⟩, List.mem_of_getElem? (i := 813) (by decide +kernel), List.mem_of_getElem? (i := 1207) (by decide +kernel), List.mem_of_getElem? (i := 1208) (by decide +kernel)⟩
theorem lw_p51 : lw_okq (⟨"AtariGardenModel", "isNode", "(I)Z"⟩, 48) := ⟨⟨by decide +kernel, by decide +kernel⟩, List.mem_of_getElem? (i := 813) (by decide +kernel), List.mem_of_getElem? (i := 1215) (by decide +kernel), List.mem_of_getElem? (i := 1216) (by decide +kernel)⟩
theorem lw_p52 : lw_okq (⟨"AtariGardenModel", "child", "(II)I"⟩, 48) := ⟨⟨by decide +kernel, by decide +kernel⟩, List.mem_of_getElem? (i := 813) (by decide +kernel), List.mem_of_getElem? (i := 1219) (by decide +kernel), List.mem_of_getElem? (i := 1220) (by decide +kernel)⟩
theorem lw_p53 : lw_okq (⟨"AtariGardenModel", "canBranch", "(II)Z"⟩, 48) := ⟨⟨by decide +kernel, by decide +kernel⟩, List.mem_of_getElem? (i := 813) (by decide +kernel), List.mem_of_getElem? (i := 1223) (by decide +kernel), List.mem_of_getElem? (i := 1224) (by decide +kernel)⟩
theorem lw_p54 : lw_okq (⟨"AtariGardenModel", "isRoot", "(I)Z"⟩, 48) := ⟨⟨by decide +kernel, by decide +kernel⟩, List.mem_of_getElem? (i := 813) (by decide +kernel), List.mem_of_getElem? (i := 1239) (by decide +kernel), List.mem_of_getElem? (i := 1240) (by decide +kernel)⟩
theorem lw_p55 : lw_okq (⟨"AtariGardenModel", "lacks", "(II)I"⟩, 48) := ⟨⟨by decide +kernel, by decide +kernel⟩, List.mem_of_getElem? (i := 813) (by decide +kernel), List.mem_of_getElem? (i := 1243) (by decide +kernel), List.mem_of_getElem? (i := 1244) (by decide +kernel)⟩
def lw_privs_4 : List (MethodName × Nat) := [(⟨"AtariGardenModel", "allowed", "(JJIJ)J"⟩, 48), (⟨"AtariGardenModel", "position", "(II)I"⟩, 48), (⟨"AtariGardenModel", "makes", "(IIJJI)I"⟩, 48), (⟨"AtariGardenModel", "isNode", "(I)Z"⟩, 48), (⟨"AtariGardenModel", "child", "(II)I"⟩, 48), (⟨"AtariGardenModel", "canBranch", "(II)Z"⟩, 48), (⟨"AtariGardenModel", "isRoot", "(I)Z"⟩, 48), (⟨"AtariGardenModel", "lacks", "(II)I"⟩, 48)]
theorem lw_r4 : ∀ q ∈ lw_privs_4, lw_okq q := List.forall_mem_cons.mpr ⟨lw_p48, List.forall_mem_cons.mpr ⟨lw_p49, List.forall_mem_cons.mpr ⟨lw_p50, List.forall_mem_cons.mpr ⟨lw_p51, List.forall_mem_cons.mpr ⟨lw_p52, List.forall_mem_cons.mpr ⟨lw_p53, List.forall_mem_cons.mpr ⟨lw_p54, List.forall_mem_cons.mpr ⟨lw_p55, fun _ h => absurd h List.not_mem_nil⟩⟩⟩⟩⟩⟩⟩⟩
def lw_privs : List (MethodName × Nat) := lw_privs_1 ++ (lw_privs_2 ++ (lw_privs_3 ++ (lw_privs_4)))
def lw_tbl : List Cond := k2_sels lw_privs ++ tables_1
theorem lw_privs_ok : ∀ q ∈ lw_privs, lw_okq q := by
  show ∀ q ∈ lw_privs_1 ++ (lw_privs_2 ++ (lw_privs_3 ++ (lw_privs_4))), lw_okq q
  exact List.forall_mem_append.mpr ⟨lw_r1, List.forall_mem_append.mpr ⟨lw_r2, List.forall_mem_append.mpr ⟨lw_r3, lw_r4⟩⟩⟩
/-- the words that every method of ours takes: all of the tables' that stay true -/
def wt : List Cond := lw_tbl.filter goodWord
theorem w_fil {w : Cond} (h : w ∈ lw_tbl) (g : goodWord w = true) : w ∈ wt := List.mem_filter.mpr ⟨h, g⟩
theorem wl0 {i : Nat} {w : Cond} (h : (k2_sels lw_privs)[i]? = some w) (g : goodWord w = true) : w ∈ wt := w_fil (List.mem_append_left _ (List.mem_of_getElem? h)) g
theorem wl1 {i : Nat} {w : Cond} (h : (tables_1_1)[i]? = some w) (g : goodWord w = true) : w ∈ wt := w_fil (List.mem_append_right _ (List.mem_append_left _ (List.mem_of_getElem? h))) g
theorem wl2 {i : Nat} {w : Cond} (h : (tables_1_2)[i]? = some w) (g : goodWord w = true) : w ∈ wt := w_fil (List.mem_append_right _ (List.mem_append_right _ (List.mem_append_left _ (List.mem_of_getElem? h)))) g
theorem wl3 {i : Nat} {w : Cond} (h : (tables_1_3)[i]? = some w) (g : goodWord w = true) : w ∈ wt := w_fil (List.mem_append_right _ (List.mem_append_right _ (List.mem_append_right _ (List.mem_append_left _ (List.mem_of_getElem? h))))) g
theorem wl4 {i : Nat} {w : Cond} (h : (tables_1_4)[i]? = some w) (g : goodWord w = true) : w ∈ wt := w_fil (List.mem_append_right _ (List.mem_append_right _ (List.mem_append_right _ (List.mem_append_right _ (List.mem_append_left _ (List.mem_of_getElem? h)))))) g
theorem wl5 {i : Nat} {w : Cond} (h : (tables_1_5)[i]? = some w) (g : goodWord w = true) : w ∈ wt := w_fil (List.mem_append_right _ (List.mem_append_right _ (List.mem_append_right _ (List.mem_append_right _ (List.mem_append_right _ (List.mem_append_left _ (List.mem_of_getElem? h))))))) g
theorem wl6 {i : Nat} {w : Cond} (h : (tables_1_6)[i]? = some w) (g : goodWord w = true) : w ∈ wt := w_fil (List.mem_append_right _ (List.mem_append_right _ (List.mem_append_right _ (List.mem_append_right _ (List.mem_append_right _ (List.mem_append_right _ (List.mem_of_getElem? h))))))) g
theorem wm0 {i : Nat} {w : Cond} (h : (k2_sels lw_privs)[i]? = some w) : w ∈ lw_tbl := List.mem_append_left _ (List.mem_of_getElem? h)
theorem wm1 {i : Nat} {w : Cond} (h : (tables_1_1)[i]? = some w) : w ∈ lw_tbl := List.mem_append_right _ (List.mem_append_left _ (List.mem_of_getElem? h))
theorem wm2 {i : Nat} {w : Cond} (h : (tables_1_2)[i]? = some w) : w ∈ lw_tbl := List.mem_append_right _ (List.mem_append_right _ (List.mem_append_left _ (List.mem_of_getElem? h)))
theorem wm3 {i : Nat} {w : Cond} (h : (tables_1_3)[i]? = some w) : w ∈ lw_tbl := List.mem_append_right _ (List.mem_append_right _ (List.mem_append_right _ (List.mem_append_left _ (List.mem_of_getElem? h))))
theorem wm4 {i : Nat} {w : Cond} (h : (tables_1_4)[i]? = some w) : w ∈ lw_tbl := List.mem_append_right _ (List.mem_append_right _ (List.mem_append_right _ (List.mem_append_right _ (List.mem_append_left _ (List.mem_of_getElem? h)))))
theorem wm5 {i : Nat} {w : Cond} (h : (tables_1_5)[i]? = some w) : w ∈ lw_tbl := List.mem_append_right _ (List.mem_append_right _ (List.mem_append_right _ (List.mem_append_right _ (List.mem_append_right _ (List.mem_append_left _ (List.mem_of_getElem? h))))))
theorem wm6 {i : Nat} {w : Cond} (h : (tables_1_6)[i]? = some w) : w ∈ lw_tbl := List.mem_append_right _ (List.mem_append_right _ (List.mem_append_right _ (List.mem_append_right _ (List.mem_append_right _ (List.mem_append_right _ (List.mem_of_getElem? h))))))
theorem wt_good : ∀ w ∈ wt, (w.onTables && w.keeps) = true ∨ ∃ ty, w = .arrayClass ty := fun w h => good_of_word (List.mem_filter.mp h).2
theorem wt_sub : ∀ w ∈ wt, w ∈ lw_tbl := fun w h => (List.mem_filter.mp h).1
end
section
def RX0 : String := "AtariGarden$Board"
def TX0 : u_T := fun k => match k with
  | _ => ("", "", "", false)
def tyX0 : Nat → FieldType := fun k => match k with
  | _ => .int
abbrev wsX00 : List Cond := u_ws RX0 TX0 0
theorem nmX0 : ∀ a, a < 0 → ∀ b, b < 0 → a ≠ b → (TX0 a).2.1 ≠ (TX0 b).2.1 := by decide +kernel
theorem tyX0_ok : ∀ k, k < 0 → parseFieldDescriptor (TX0 k).2.2.1 = some (tyX0 k) := by decide +kernel
abbrev cX0_around : ByteArray := prog_2_method_2_code
def yX0_around : MethodName := ⟨RX0, "around", "(J)J"⟩
abbrev cX0_flood : ByteArray := prog_2_method_3_code
def yX0_flood : MethodName := ⟨RX0, "flood", "(JJ)J"⟩
abbrev cX0_libertiesOf : ByteArray := prog_2_method_4_code
def yX0_libertiesOf : MethodName := ⟨RX0, "libertiesOf", "(JJ)J"⟩
abbrev cX0_leftBehind : ByteArray := prog_2_method_5_code
def yX0_leftBehind : MethodName := ⟨RX0, "leftBehind", "(JJJ)J"⟩
abbrev cX0_lead : ByteArray := prog_2_method_6_code
def yX0_lead : MethodName := ⟨RX0, "lead", "(JJ)I"⟩
def RX1 : String := "AtariGarden$Clock"
def TX1 : u_T := fun k => match k with
  | 0 => ("AtariGarden$Clock", "main", "I", false)
  | 1 => ("AtariGarden$Clock", "periods", "I", false)
  | _ => ("AtariGarden$Clock", "length", "I", true)
def tyX1 : Nat → FieldType := fun k => match k with
  | 0 => .int
  | 1 => .int
  | _ => .int
abbrev wsX10 : List Cond := u_ws RX1 TX1 3
theorem nmX1 : ∀ a, a < 3 → ∀ b, b < 3 → a ≠ b → (TX1 a).2.1 ≠ (TX1 b).2.1 := by decide +kernel
theorem tyX1_ok : ∀ k, k < 3 → parseFieldDescriptor (TX1 k).2.2.1 = some (tyX1 k) := by decide +kernel
abbrev cX1_init : ByteArray := prog_3_method_1_code
def yX1_init : MethodName := ⟨RX1, "<init>", "(III)V"⟩
abbrev cX1_take : ByteArray := prog_3_method_2_code
def yX1_take : MethodName := ⟨RX1, "take", "(I)Z"⟩
abbrev cX1_reading : ByteArray := prog_3_method_3_code
def yX1_reading : MethodName := ⟨RX1, "reading", "()I"⟩
def RX2 : String := "AtariGarden$Club"
def TX2 : u_T := fun k => match k with
  | 0 => ("AtariGarden$Club", "firstRanks", "[I", true)
  | 1 => ("AtariGarden$Club", "players", "I", false)
  | 2 => ("AtariGarden$Club", "matches", "[LAtariGarden$Match;", true)
  | 3 => ("AtariGarden$Club", "begun", "I", false)
  | 4 => ("AtariGarden$Club", "ended", "[LAtariGarden$Match;", true)
  | _ => ("AtariGarden$Club", "endedCount", "I", false)
def tyX2 : Nat → FieldType := fun k => match k with
  | 0 => .array .int
  | 1 => .int
  | 2 => .array (.object "AtariGarden$Match")
  | 3 => .int
  | 4 => .array (.object "AtariGarden$Match")
  | _ => .int
abbrev wsX20 : List Cond := u_ws RX2 TX2 6
theorem nmX2 : ∀ a, a < 6 → ∀ b, b < 6 → a ≠ b → (TX2 a).2.1 ≠ (TX2 b).2.1 := by decide +kernel
theorem tyX2_ok : ∀ k, k < 6 → parseFieldDescriptor (TX2 k).2.2.1 = some (tyX2 k) := by decide +kernel
abbrev cX2_init : ByteArray := prog_4_method_1_code
def yX2_init : MethodName := ⟨RX2, "<init>", "()V"⟩
abbrev cX2_hasPlayer : ByteArray := prog_4_method_2_code
def yX2_hasPlayer : MethodName := ⟨RX2, "hasPlayer", "(I)Z"⟩
abbrev cX2_enrol : ByteArray := prog_4_method_3_code
def yX2_enrol : MethodName := ⟨RX2, "enrol", "(I)I"⟩
abbrev cX2_matchAt : ByteArray := prog_4_method_4_code
def yX2_matchAt : MethodName := ⟨RX2, "matchAt", "(I)LAtariGarden$Match;"⟩
abbrev cX2_begin : ByteArray := prog_4_method_5_code
def yX2_begin : MethodName := ⟨RX2, "begin", "(IILAtariGarden$Clock;LAtariGarden$Clock;)I"⟩
abbrev cX2_isBusy : ByteArray := prog_4_method_6_code
def yX2_isBusy : MethodName := ⟨RX2, "isBusy", "(I)Z"⟩
abbrev cX2_spend : ByteArray := prog_4_method_7_code
def yX2_spend : MethodName := ⟨RX2, "spend", "(LAtariGarden$Match;I)Z"⟩
abbrev cX2_passIn : ByteArray := prog_4_method_8_code
def yX2_passIn : MethodName := ⟨RX2, "passIn", "(LAtariGarden$Match;)V"⟩
abbrev cX2_end : ByteArray := prog_4_method_9_code
def yX2_end : MethodName := ⟨RX2, "end", "(LAtariGarden$Match;I)V"⟩
abbrev cX2_standing : ByteArray := prog_4_method_10_code
def yX2_standing : MethodName := ⟨RX2, "standing", "(II)I"⟩
abbrev cX2_pairing : ByteArray := prog_4_method_11_code
def yX2_pairing : MethodName := ⟨RX2, "pairing", "(III)I"⟩
abbrev cX2_duePairing : ByteArray := prog_4_method_12_code
def yX2_duePairing : MethodName := ⟨RX2, "duePairing", "(LAtariGarden$Match;)I"⟩
abbrev cX2_isOff : ByteArray := prog_4_method_13_code
def yX2_isOff : MethodName := ⟨RX2, "isOff", "(LAtariGarden$Match;)Z"⟩
abbrev cX2_offSet : ByteArray := prog_4_method_14_code
def yX2_offSet : MethodName := ⟨RX2, "offSet", "()I"⟩
abbrev cX2_lowestOff : ByteArray := prog_4_method_15_code
def yX2_lowestOff : MethodName := ⟨RX2, "lowestOff", "()LAtariGarden$Match;"⟩
abbrev cX2_annulWhileOff : ByteArray := prog_4_method_16_code
def yX2_annulWhileOff : MethodName := ⟨RX2, "annulWhileOff", "()I"⟩
def RX3 : String := "AtariGarden$Match"
def TX3 : u_T := fun k => match k with
  | 0 => ("AtariGarden$Match", "first", "I", true)
  | 1 => ("AtariGarden$Match", "second", "I", true)
  | 2 => ("AtariGarden$Match", "pairing", "I", true)
  | 3 => ("AtariGarden$Match", "endedBefore", "I", true)
  | 4 => ("AtariGarden$Match", "blackClock", "LAtariGarden$Clock;", true)
  | 5 => ("AtariGarden$Match", "whiteClock", "LAtariGarden$Clock;", true)
  | 6 => ("AtariGarden$Match", "position", "LAtariGarden$Position;", false)
  | 7 => ("AtariGarden$Match", "kept", "[I", true)
  | 8 => ("AtariGarden$Match", "result", "I", false)
  | _ => ("AtariGarden$Match", "annulled", "Z", false)
def tyX3 : Nat → FieldType := fun k => match k with
  | 0 => .int
  | 1 => .int
  | 2 => .int
  | 3 => .int
  | 4 => .object "AtariGarden$Clock"
  | 5 => .object "AtariGarden$Clock"
  | 6 => .object "AtariGarden$Position"
  | 7 => .array .int
  | 8 => .int
  | _ => .boolean
abbrev wsX30 : List Cond := u_ws RX3 TX3 10
theorem nmX3 : ∀ a, a < 10 → ∀ b, b < 10 → a ≠ b → (TX3 a).2.1 ≠ (TX3 b).2.1 := by decide +kernel
theorem tyX3_ok : ∀ k, k < 10 → parseFieldDescriptor (TX3 k).2.2.1 = some (tyX3 k) := by decide +kernel
abbrev cX3_init : ByteArray := prog_5_method_1_code
def yX3_init : MethodName := ⟨RX3, "<init>", "(IIIILAtariGarden$Clock;LAtariGarden$Clock;)V"⟩
abbrev cX3_goesOn : ByteArray := prog_5_method_2_code
def yX3_goesOn : MethodName := ⟨RX3, "goesOn", "()Z"⟩
abbrev cX3_isPlayedBy : ByteArray := prog_5_method_3_code
def yX3_isPlayedBy : MethodName := ⟨RX3, "isPlayedBy", "(I)Z"⟩
abbrev cX3_winner : ByteArray := prog_5_method_4_code
def yX3_winner : MethodName := ⟨RX3, "winner", "()I"⟩
abbrev cX3_told : ByteArray := prog_5_method_5_code
def yX3_told : MethodName := ⟨RX3, "told", "()I"⟩
abbrev cX3_wonAgainstMover : ByteArray := prog_5_method_6_code
def yX3_wonAgainstMover : MethodName := ⟨RX3, "wonAgainstMover", "()I"⟩
abbrev cX3_wonByCounting : ByteArray := prog_5_method_7_code
def yX3_wonByCounting : MethodName := ⟨RX3, "wonByCounting", "()I"⟩
abbrev cX3_lead : ByteArray := prog_5_method_8_code
def yX3_lead : MethodName := ⟨RX3, "lead", "()I"⟩
abbrev cX3_clockOf : ByteArray := prog_5_method_9_code
def yX3_clockOf : MethodName := ⟨RX3, "clockOf", "(I)LAtariGarden$Clock;"⟩
abbrev cX3_advance : ByteArray := prog_5_method_10_code
def yX3_advance : MethodName := ⟨RX3, "advance", "(LAtariGarden$Position;)I"⟩
abbrev cX3_annul : ByteArray := prog_5_method_11_code
def yX3_annul : MethodName := ⟨RX3, "annul", "()V"⟩
abbrev cX3_keptLiberties : ByteArray := prog_5_method_12_code
def yX3_keptLiberties : MethodName := ⟨RX3, "keptLiberties", "(I)I"⟩
abbrev cX3_keepLiberties : ByteArray := prog_5_method_13_code
def yX3_keepLiberties : MethodName := ⟨RX3, "keepLiberties", "(J)V"⟩
abbrev cX3_keepForAll : ByteArray := prog_5_method_14_code
def yX3_keepForAll : MethodName := ⟨RX3, "keepForAll", "(JI)V"⟩
def RX4 : String := "AtariGarden$Position"
def TX4 : u_T := fun k => match k with
  | 0 => ("AtariGarden$Position", "black", "J", true)
  | 1 => ("AtariGarden$Position", "white", "J", true)
  | 2 => ("AtariGarden$Position", "colour", "I", true)
  | 3 => ("AtariGarden$Position", "moves", "I", true)
  | 4 => ("AtariGarden$Position", "passings", "I", true)
  | _ => ("AtariGarden$Position", "before", "LAtariGarden$Position;", true)
def tyX4 : Nat → FieldType := fun k => match k with
  | 0 => .long
  | 1 => .long
  | 2 => .int
  | 3 => .int
  | 4 => .int
  | _ => .object "AtariGarden$Position"
abbrev wsX40 : List Cond := u_ws RX4 TX4 6
theorem nmX4 : ∀ a, a < 6 → ∀ b, b < 6 → a ≠ b → (TX4 a).2.1 ≠ (TX4 b).2.1 := by decide +kernel
theorem tyX4_ok : ∀ k, k < 6 → parseFieldDescriptor (TX4 k).2.2.1 = some (tyX4 k) := by decide +kernel
abbrev cX4_init : ByteArray := prog_6_method_1_code
def yX4_init : MethodName := ⟨RX4, "<init>", "(JJIILAtariGarden$Position;)V"⟩
abbrev cX4_beginning : ByteArray := prog_6_method_2_code
def yX4_beginning : MethodName := ⟨RX4, "beginning", "(I)LAtariGarden$Position;"⟩
abbrev cX4_withStone : ByteArray := prog_6_method_3_code
def yX4_withStone : MethodName := ⟨RX4, "withStone", "(I)LAtariGarden$Position;"⟩
abbrev cX4_withPassing : ByteArray := prog_6_method_4_code
def yX4_withPassing : MethodName := ⟨RX4, "withPassing", "()LAtariGarden$Position;"⟩
abbrev cX4_wasThere : ByteArray := prog_6_method_5_code
def yX4_wasThere : MethodName := ⟨RX4, "wasThere", "(JJ)Z"⟩
abbrev cX4_behind : ByteArray := prog_6_method_6_code
def yX4_behind : MethodName := ⟨RX4, "behind", "(I)LAtariGarden$Position;"⟩
abbrev cX4_stonesOf : ByteArray := prog_6_method_7_code
def yX4_stonesOf : MethodName := ⟨RX4, "stonesOf", "(I)J"⟩
abbrev cX4_stones : ByteArray := prog_6_method_8_code
def yX4_stones : MethodName := ⟨RX4, "stones", "()J"⟩
abbrev cX4_chainAt : ByteArray := prog_6_method_9_code
def yX4_chainAt : MethodName := ⟨RX4, "chainAt", "(I)J"⟩
abbrev cX4_countLiberties : ByteArray := prog_6_method_10_code
def yX4_countLiberties : MethodName := ⟨RX4, "countLiberties", "(I)I"⟩
abbrev cX4_signAt : ByteArray := prog_6_method_11_code
def yX4_signAt : MethodName := ⟨RX4, "signAt", "(I)C"⟩
abbrev cX4_canBeCaught : ByteArray := prog_6_method_12_code
def yX4_canBeCaught : MethodName := ⟨RX4, "canBeCaught", "(III)Z"⟩
def RX5 : String := "AtariGarden$Reading"
def TX5 : u_T := fun k => match k with
  | _ => ("", "", "", false)
def tyX5 : Nat → FieldType := fun k => match k with
  | _ => .int
abbrev wsX50 : List Cond := u_ws RX5 TX5 0
theorem nmX5 : ∀ a, a < 0 → ∀ b, b < 0 → a ≠ b → (TX5 a).2.1 ≠ (TX5 b).2.1 := by decide +kernel
theorem tyX5_ok : ∀ k, k < 0 → parseFieldDescriptor (TX5 k).2.2.1 = some (tyX5 k) := by decide +kernel
abbrev cX5_caught : ByteArray := prog_7_method_2_code
def yX5_caught : MethodName := ⟨RX5, "caught", "(JJJII)Z"⟩
abbrev cX5_catches : ByteArray := prog_7_method_3_code
def yX5_catches : MethodName := ⟨RX5, "catches", "(JJJJII)Z"⟩
abbrev cX5_caughtForEachAnswer : ByteArray := prog_7_method_4_code
def yX5_caughtForEachAnswer : MethodName := ⟨RX5, "caughtForEachAnswer", "(JJJII)Z"⟩
abbrev cX5_answers : ByteArray := prog_7_method_5_code
def yX5_answers : MethodName := ⟨RX5, "answers", "(JJJ)J"⟩
def RX6 : String := "AtariGarden$School"
def TX6 : u_T := fun k => match k with
  | 0 => ("AtariGarden$School", "twigs", "[LAtariGarden$Twig;", true)
  | 1 => ("AtariGarden$School", "twins", "[LAtariGarden$Twig;", true)
  | _ => ("AtariGarden$School", "count", "I", false)
def tyX6 : Nat → FieldType := fun k => match k with
  | 0 => .array (.object "AtariGarden$Twig")
  | 1 => .array (.object "AtariGarden$Twig")
  | _ => .int
abbrev wsX60 : List Cond := u_ws RX6 TX6 3
theorem nmX6 : ∀ a, a < 3 → ∀ b, b < 3 → a ≠ b → (TX6 a).2.1 ≠ (TX6 b).2.1 := by decide +kernel
theorem tyX6_ok : ∀ k, k < 3 → parseFieldDescriptor (TX6 k).2.2.1 = some (tyX6 k) := by decide +kernel
abbrev cX6_init : ByteArray := prog_8_method_1_code
def yX6_init : MethodName := ⟨RX6, "<init>", "()V"⟩
abbrev cX6_twigAt : ByteArray := prog_8_method_2_code
def yX6_twigAt : MethodName := ⟨RX6, "twigAt", "(I)LAtariGarden$Twig;"⟩
abbrev cX6_isFull : ByteArray := prog_8_method_3_code
def yX6_isFull : MethodName := ⟨RX6, "isFull", "()Z"⟩
abbrev cX6_begin : ByteArray := prog_8_method_4_code
def yX6_begin : MethodName := ⟨RX6, "begin", "(ILAtariGarden$Position;)I"⟩
abbrev cX6_childOf : ByteArray := prog_8_method_5_code
def yX6_childOf : MethodName := ⟨RX6, "childOf", "(LAtariGarden$Twig;I)LAtariGarden$Twig;"⟩
abbrev cX6_childOrNew : ByteArray := prog_8_method_6_code
def yX6_childOrNew : MethodName := ⟨RX6, "childOrNew", "(LAtariGarden$Twig;I)I"⟩
abbrev cX6_grow : ByteArray := prog_8_method_7_code
def yX6_grow : MethodName := ⟨RX6, "grow", "(LAtariGarden$Twig;ILAtariGarden$Position;)LAtariGarden$Twig;"⟩
abbrev cX6_graft : ByteArray := prog_8_method_8_code
def yX6_graft : MethodName := ⟨RX6, "graft", "(LAtariGarden$Twig;LAtariGarden$Twig;)I"⟩
abbrev cX6_countMissing : ByteArray := prog_8_method_9_code
def yX6_countMissing : MethodName := ⟨RX6, "countMissing", "(LAtariGarden$Twig;LAtariGarden$Twig;)I"⟩
abbrev cX6_twinOfParent : ByteArray := prog_8_method_10_code
def yX6_twinOfParent : MethodName := ⟨RX6, "twinOfParent", "(LAtariGarden$Twig;)LAtariGarden$Twig;"⟩
abbrev cX6_twinOf : ByteArray := prog_8_method_11_code
def yX6_twinOf : MethodName := ⟨RX6, "twinOf", "(LAtariGarden$Twig;LAtariGarden$Twig;)LAtariGarden$Twig;"⟩
abbrev cX6_twinOrNew : ByteArray := prog_8_method_12_code
def yX6_twinOrNew : MethodName := ⟨RX6, "twinOrNew", "(LAtariGarden$Twig;LAtariGarden$Twig;)LAtariGarden$Twig;"⟩
def RX7 : String := "AtariGarden$Twig"
def TX7 : u_T := fun k => match k with
  | 0 => ("AtariGarden$Twig", "number", "I", true)
  | 1 => ("AtariGarden$Twig", "lesson", "I", true)
  | 2 => ("AtariGarden$Twig", "game", "I", true)
  | 3 => ("AtariGarden$Twig", "parent", "LAtariGarden$Twig;", true)
  | 4 => ("AtariGarden$Twig", "point", "I", true)
  | 5 => ("AtariGarden$Twig", "position", "LAtariGarden$Position;", true)
  | 6 => ("AtariGarden$Twig", "marks", "[I", true)
  | _ => ("AtariGarden$Twig", "children", "I", false)
def tyX7 : Nat → FieldType := fun k => match k with
  | 0 => .int
  | 1 => .int
  | 2 => .int
  | 3 => .object "AtariGarden$Twig"
  | 4 => .int
  | 5 => .object "AtariGarden$Position"
  | 6 => .array .int
  | _ => .int
abbrev wsX70 : List Cond := u_ws RX7 TX7 8
theorem nmX7 : ∀ a, a < 8 → ∀ b, b < 8 → a ≠ b → (TX7 a).2.1 ≠ (TX7 b).2.1 := by decide +kernel
theorem tyX7_ok : ∀ k, k < 8 → parseFieldDescriptor (TX7 k).2.2.1 = some (tyX7 k) := by decide +kernel
abbrev cX7_init : ByteArray := prog_9_method_1_code
def yX7_init : MethodName := ⟨RX7, "<init>", "(IIILAtariGarden$Twig;ILAtariGarden$Position;)V"⟩
abbrev cX7_beginsAs : ByteArray := prog_9_method_2_code
def yX7_beginsAs : MethodName := ⟨RX7, "beginsAs", "(LAtariGarden$Twig;)Z"⟩
abbrev cX7_changeMark : ByteArray := prog_9_method_3_code
def yX7_changeMark : MethodName := ⟨RX7, "changeMark", "(II)I"⟩
abbrev cX7_takeMarks : ByteArray := prog_9_method_4_code
def yX7_takeMarks : MethodName := ⟨RX7, "takeMarks", "(LAtariGarden$Twig;)V"⟩
abbrev cX7_hasMark : ByteArray := prog_9_method_5_code
def yX7_hasMark : MethodName := ⟨RX7, "hasMark", "(I)Z"⟩
abbrev cX7_told : ByteArray := prog_9_method_6_code
def yX7_told : MethodName := ⟨RX7, "told", "()I"⟩
def RX8 : String := "AtariGarden"
def TX8 : u_T := fun k => match k with
  | 0 => ("AtariGarden", "club", "LAtariGarden$Club;", true)
  | _ => ("AtariGarden", "school", "LAtariGarden$School;", true)
def tyX8 : Nat → FieldType := fun k => match k with
  | 0 => .object "AtariGarden$Club"
  | _ => .object "AtariGarden$School"
abbrev wsX80 : List Cond := u_ws RX8 TX8 2
theorem nmX8 : ∀ a, a < 2 → ∀ b, b < 2 → a ≠ b → (TX8 a).2.1 ≠ (TX8 b).2.1 := by decide +kernel
theorem tyX8_ok : ∀ k, k < 2 → parseFieldDescriptor (TX8 k).2.2.1 = some (tyX8 k) := by decide +kernel
abbrev cX8_init : ByteArray := prog_1_method_1_code
def yX8_init : MethodName := ⟨RX8, "<init>", "()V"⟩
abbrev cX8_player : ByteArray := prog_1_method_2_code
def yX8_player : MethodName := ⟨RX8, "player", "(I)I"⟩
abbrev cX8_rank : ByteArray := prog_1_method_3_code
def yX8_rank : MethodName := ⟨RX8, "rank", "(I)I"⟩
abbrev cX8_game : ByteArray := prog_1_method_4_code
def yX8_game : MethodName := ⟨RX8, "game", "(IIIII)I"⟩
abbrev cX8_play : ByteArray := prog_1_method_5_code
def yX8_play : MethodName := ⟨RX8, "play", "(III)I"⟩
abbrev cX8_pass : ByteArray := prog_1_method_6_code
def yX8_pass : MethodName := ⟨RX8, "pass", "(II)I"⟩
abbrev cX8_resign : ByteArray := prog_1_method_7_code
def yX8_resign : MethodName := ⟨RX8, "resign", "(I)I"⟩
abbrev cX8_state : ByteArray := prog_1_method_8_code
def yX8_state : MethodName := ⟨RX8, "state", "(I)I"⟩
abbrev cX8_handicap : ByteArray := prog_1_method_9_code
def yX8_handicap : MethodName := ⟨RX8, "handicap", "(I)I"⟩
abbrev cX8_sign : ByteArray := prog_1_method_10_code
def yX8_sign : MethodName := ⟨RX8, "sign", "(II)C"⟩
abbrev cX8_clock : ByteArray := prog_1_method_11_code
def yX8_clock : MethodName := ⟨RX8, "clock", "(II)I"⟩
abbrev cX8_score : ByteArray := prog_1_method_12_code
def yX8_score : MethodName := ⟨RX8, "score", "(I)I"⟩
abbrev cX8_liberties : ByteArray := prog_1_method_13_code
def yX8_liberties : MethodName := ⟨RX8, "liberties", "(II)I"⟩
abbrev cX8_flooded : ByteArray := prog_1_method_14_code
def yX8_flooded : MethodName := ⟨RX8, "flooded", "(II)I"⟩
abbrev cX8_judge : ByteArray := prog_1_method_15_code
def yX8_judge : MethodName := ⟨RX8, "judge", "(I)I"⟩
abbrev cX8_due : ByteArray := prog_1_method_16_code
def yX8_due : MethodName := ⟨RX8, "due", "(I)I"⟩
abbrev cX8_settle : ByteArray := prog_1_method_17_code
def yX8_settle : MethodName := ⟨RX8, "settle", "()I"⟩
abbrev cX8_ladder : ByteArray := prog_1_method_18_code
def yX8_ladder : MethodName := ⟨RX8, "ladder", "(III)Z"⟩
abbrev cX8_net : ByteArray := prog_1_method_19_code
def yX8_net : MethodName := ⟨RX8, "net", "(III)Z"⟩
abbrev cX8_lesson : ByteArray := prog_1_method_20_code
def yX8_lesson : MethodName := ⟨RX8, "lesson", "(II)I"⟩
abbrev cX8_branch : ByteArray := prog_1_method_21_code
def yX8_branch : MethodName := ⟨RX8, "branch", "(II)I"⟩
abbrev cX8_mark : ByteArray := prog_1_method_22_code
def yX8_mark : MethodName := ⟨RX8, "mark", "(III)I"⟩
abbrev cX8_node : ByteArray := prog_1_method_23_code
def yX8_node : MethodName := ⟨RX8, "node", "(I)I"⟩
abbrev cX8_merge : ByteArray := prog_1_method_24_code
def yX8_merge : MethodName := ⟨RX8, "merge", "(II)I"⟩
abbrev cX8_requireRange : ByteArray := prog_1_method_25_code
def yX8_requireRange : MethodName := ⟨RX8, "requireRange", "(III)V"⟩
abbrev cX8_requirePoint : ByteArray := prog_1_method_26_code
def yX8_requirePoint : MethodName := ⟨RX8, "requirePoint", "(I)V"⟩
abbrev cX8_requirePlayer : ByteArray := prog_1_method_27_code
def yX8_requirePlayer : MethodName := ⟨RX8, "requirePlayer", "(I)V"⟩
abbrev cX8_requireGoesOn : ByteArray := prog_1_method_28_code
def yX8_requireGoesOn : MethodName := ⟨RX8, "requireGoesOn", "(LAtariGarden$Match;)V"⟩
abbrev cX8_matchOf : ByteArray := prog_1_method_29_code
def yX8_matchOf : MethodName := ⟨RX8, "matchOf", "(I)LAtariGarden$Match;"⟩
abbrev cX8_twigOf : ByteArray := prog_1_method_30_code
def yX8_twigOf : MethodName := ⟨RX8, "twigOf", "(I)LAtariGarden$Twig;"⟩
def RX9 : String := "AtariGardenModel"
def TX9 : u_T := fun k => match k with
  | 0 => ("AtariGardenModel", "players", "I", false)
  | 1 => ("AtariGardenModel", "start", "[I", true)
  | 2 => ("AtariGardenModel", "rank", "[I", true)
  | 3 => ("AtariGardenModel", "string", "[I", true)
  | 4 => ("AtariGardenModel", "games", "I", false)
  | 5 => ("AtariGardenModel", "first", "[I", true)
  | 6 => ("AtariGardenModel", "second", "[I", true)
  | 7 => ("AtariGardenModel", "black", "[I", true)
  | 8 => ("AtariGardenModel", "white", "[I", true)
  | 9 => ("AtariGardenModel", "handicap", "[I", true)
  | 10 => ("AtariGardenModel", "state", "[I", true)
  | 11 => ("AtariGardenModel", "isVoid", "[Z", true)
  | 12 => ("AtariGardenModel", "endedThen", "[I", true)
  | 13 => ("AtariGardenModel", "last", "[I", true)
  | 14 => ("AtariGardenModel", "moves", "[I", true)
  | 15 => ("AtariGardenModel", "passings", "[I", true)
  | 16 => ("AtariGardenModel", "main", "[I", true)
  | 17 => ("AtariGardenModel", "periods", "[I", true)
  | 18 => ("AtariGardenModel", "length", "[I", true)
  | 19 => ("AtariGardenModel", "ended", "I", false)
  | 20 => ("AtariGardenModel", "order", "[I", true)
  | 21 => ("AtariGardenModel", "positions", "I", false)
  | 22 => ("AtariGardenModel", "ofBlack", "[J", true)
  | 23 => ("AtariGardenModel", "ofWhite", "[J", true)
  | 24 => ("AtariGardenModel", "ahead", "[I", true)
  | 25 => ("AtariGardenModel", "newBlack", "J", false)
  | 26 => ("AtariGardenModel", "newWhite", "J", false)
  | 27 => ("AtariGardenModel", "taken", "I", false)
  | 28 => ("AtariGardenModel", "isSuicide", "Z", false)
  | 29 => ("AtariGardenModel", "wayBlack", "[J", true)
  | 30 => ("AtariGardenModel", "wayWhite", "[J", true)
  | 31 => ("AtariGardenModel", "tries", "[J", true)
  | 32 => ("AtariGardenModel", "midBlack", "[J", true)
  | 33 => ("AtariGardenModel", "midWhite", "[J", true)
  | 34 => ("AtariGardenModel", "answers", "[J", true)
  | 35 => ("AtariGardenModel", "passes", "[Z", true)
  | 36 => ("AtariGardenModel", "nodes", "I", false)
  | 37 => ("AtariGardenModel", "parent", "[I", true)
  | 38 => ("AtariGardenModel", "root", "[I", true)
  | 39 => ("AtariGardenModel", "move", "[I", true)
  | 40 => ("AtariGardenModel", "game", "[I", true)
  | 41 => ("AtariGardenModel", "number", "[I", true)
  | 42 => ("AtariGardenModel", "side", "[I", true)
  | 43 => ("AtariGardenModel", "nodeBlack", "[J", true)
  | 44 => ("AtariGardenModel", "nodeWhite", "[J", true)
  | 45 => ("AtariGardenModel", "marks", "[I", true)
  | 46 => ("AtariGardenModel", "image", "[I", true)
  | _ => ("AtariGardenModel", "thrown", "I", false)
def tyX9 : Nat → FieldType := fun k => match k with
  | 0 => .int
  | 1 => .array .int
  | 2 => .array .int
  | 3 => .array .int
  | 4 => .int
  | 5 => .array .int
  | 6 => .array .int
  | 7 => .array .int
  | 8 => .array .int
  | 9 => .array .int
  | 10 => .array .int
  | 11 => .array .boolean
  | 12 => .array .int
  | 13 => .array .int
  | 14 => .array .int
  | 15 => .array .int
  | 16 => .array .int
  | 17 => .array .int
  | 18 => .array .int
  | 19 => .int
  | 20 => .array .int
  | 21 => .int
  | 22 => .array .long
  | 23 => .array .long
  | 24 => .array .int
  | 25 => .long
  | 26 => .long
  | 27 => .int
  | 28 => .boolean
  | 29 => .array .long
  | 30 => .array .long
  | 31 => .array .long
  | 32 => .array .long
  | 33 => .array .long
  | 34 => .array .long
  | 35 => .array .boolean
  | 36 => .int
  | 37 => .array .int
  | 38 => .array .int
  | 39 => .array .int
  | 40 => .array .int
  | 41 => .array .int
  | 42 => .array .int
  | 43 => .array .long
  | 44 => .array .long
  | 45 => .array .int
  | 46 => .array .int
  | _ => .int
abbrev wsX90 : List Cond := u_ws RX9 TX9 48
theorem nmX9 : ∀ a, a < 48 → ∀ b, b < 48 → a ≠ b → (TX9 a).2.1 ≠ (TX9 b).2.1 := by decide +kernel
theorem tyX9_ok : ∀ k, k < 48 → parseFieldDescriptor (TX9 k).2.2.1 = some (tyX9 k) := by decide +kernel
abbrev cX9_init : ByteArray := prog_11_method_1_code
def yX9_init : MethodName := ⟨RX9, "<init>", "()V"⟩
abbrev cX9_thrown : ByteArray := prog_11_method_2_code
def yX9_thrown : MethodName := ⟨RX9, "thrown", "()I"⟩
abbrev cX9_fails : ByteArray := prog_11_method_3_code
def yX9_fails : MethodName := ⟨RX9, "fails", "(I)Z"⟩
abbrev cX9_isIn : ByteArray := prog_11_method_4_code
def yX9_isIn : MethodName := ⟨RX9, "isIn", "(III)Z"⟩
abbrev cX9_isPlayer : ByteArray := prog_11_method_5_code
def yX9_isPlayer : MethodName := ⟨RX9, "isPlayer", "(I)Z"⟩
abbrev cX9_isGame : ByteArray := prog_11_method_6_code
def yX9_isGame : MethodName := ⟨RX9, "isGame", "(I)Z"⟩
abbrev cX9_isPoint : ByteArray := prog_11_method_7_code
def yX9_isPoint : MethodName := ⟨RX9, "isPoint", "(I)Z"⟩
abbrev cX9_around : ByteArray := prog_11_method_8_code
def yX9_around : MethodName := ⟨RX9, "around", "(J)J"⟩
abbrev cX9_flood : ByteArray := prog_11_method_9_code
def yX9_flood : MethodName := ⟨RX9, "flood", "(JJ)J"⟩
abbrev cX9_bit : ByteArray := prog_11_method_10_code
def yX9_bit : MethodName := ⟨RX9, "bit", "(I)J"⟩
abbrev cX9_bits : ByteArray := prog_11_method_11_code
def yX9_bits : MethodName := ⟨RX9, "bits", "(J)I"⟩
abbrev cX9_free : ByteArray := prog_11_method_12_code
def yX9_free : MethodName := ⟨RX9, "free", "(JJJ)J"⟩
abbrev cX9_dead : ByteArray := prog_11_method_13_code
def yX9_dead : MethodName := ⟨RX9, "dead", "(JJJ)J"⟩
abbrev cX9_puts : ByteArray := prog_11_method_14_code
def yX9_puts : MethodName := ⟨RX9, "puts", "(JJII)V"⟩
abbrev cX9_player : ByteArray := prog_11_method_15_code
def yX9_player : MethodName := ⟨RX9, "player", "(I)I"⟩
abbrev cX9_rank : ByteArray := prog_11_method_16_code
def yX9_rank : MethodName := ⟨RX9, "rank", "(I)I"⟩
abbrev cX9_plays : ByteArray := prog_11_method_17_code
def yX9_plays : MethodName := ⟨RX9, "plays", "(I)Z"⟩
abbrev cX9_apart : ByteArray := prog_11_method_18_code
def yX9_apart : MethodName := ⟨RX9, "apart", "(II)I"⟩
abbrev cX9_handicapOf : ByteArray := prog_11_method_19_code
def yX9_handicapOf : MethodName := ⟨RX9, "handicapOf", "(II)I"⟩
abbrev cX9_blackOf : ByteArray := prog_11_method_20_code
def yX9_blackOf : MethodName := ⟨RX9, "blackOf", "(II)I"⟩
abbrev cX9_stones : ByteArray := prog_11_method_21_code
def yX9_stones : MethodName := ⟨RX9, "stones", "(I)J"⟩
abbrev cX9_keeps : ByteArray := prog_11_method_22_code
def yX9_keeps : MethodName := ⟨RX9, "keeps", "(JJI)I"⟩
abbrev cX9_game : ByteArray := prog_11_method_23_code
def yX9_game : MethodName := ⟨RX9, "game", "(IIIII)I"⟩
abbrev cX9_sideOf : ByteArray := prog_11_method_24_code
def yX9_sideOf : MethodName := ⟨RX9, "sideOf", "(II)I"⟩
abbrev cX9_grows : ByteArray := prog_11_method_25_code
def yX9_grows : MethodName := ⟨RX9, "grows", "(IZ)V"⟩
abbrev cX9_counts : ByteArray := prog_11_method_26_code
def yX9_counts : MethodName := ⟨RX9, "counts", "(I)V"⟩
abbrev cX9_ends : ByteArray := prog_11_method_27_code
def yX9_ends : MethodName := ⟨RX9, "ends", "(II)V"⟩
abbrev cX9_runsOut : ByteArray := prog_11_method_28_code
def yX9_runsOut : MethodName := ⟨RX9, "runsOut", "(II)Z"⟩
abbrev cX9_wasThere : ByteArray := prog_11_method_29_code
def yX9_wasThere : MethodName := ⟨RX9, "wasThere", "(IJJ)Z"⟩
abbrev cX9_isEmpty : ByteArray := prog_11_method_30_code
def yX9_isEmpty : MethodName := ⟨RX9, "isEmpty", "(JJI)Z"⟩
abbrev cX9_canPlay : ByteArray := prog_11_method_31_code
def yX9_canPlay : MethodName := ⟨RX9, "canPlay", "(II)Z"⟩
abbrev cX9_play : ByteArray := prog_11_method_32_code
def yX9_play : MethodName := ⟨RX9, "play", "(III)I"⟩
abbrev cX9_pass : ByteArray := prog_11_method_33_code
def yX9_pass : MethodName := ⟨RX9, "pass", "(II)I"⟩
abbrev cX9_resign : ByteArray := prog_11_method_34_code
def yX9_resign : MethodName := ⟨RX9, "resign", "(I)I"⟩
abbrev cX9_stateOf : ByteArray := prog_11_method_35_code
def yX9_stateOf : MethodName := ⟨RX9, "stateOf", "(I)I"⟩
abbrev cX9_state : ByteArray := prog_11_method_36_code
def yX9_state : MethodName := ⟨RX9, "state", "(I)I"⟩
abbrev cX9_handicap : ByteArray := prog_11_method_37_code
def yX9_handicap : MethodName := ⟨RX9, "handicap", "(I)I"⟩
abbrev cX9_sign : ByteArray := prog_11_method_38_code
def yX9_sign : MethodName := ⟨RX9, "sign", "(II)C"⟩
abbrev cX9_clock : ByteArray := prog_11_method_39_code
def yX9_clock : MethodName := ⟨RX9, "clock", "(II)I"⟩
abbrev cX9_scoreOf : ByteArray := prog_11_method_40_code
def yX9_scoreOf : MethodName := ⟨RX9, "scoreOf", "(I)I"⟩
abbrev cX9_score : ByteArray := prog_11_method_41_code
def yX9_score : MethodName := ⟨RX9, "score", "(I)I"⟩
abbrev cX9_libertiesOf : ByteArray := prog_11_method_42_code
def yX9_libertiesOf : MethodName := ⟨RX9, "libertiesOf", "(II)I"⟩
abbrev cX9_chainAt : ByteArray := prog_11_method_43_code
def yX9_chainAt : MethodName := ⟨RX9, "chainAt", "(JJI)J"⟩
abbrev cX9_liberties : ByteArray := prog_11_method_44_code
def yX9_liberties : MethodName := ⟨RX9, "liberties", "(II)I"⟩
abbrev cX9_flooded : ByteArray := prog_11_method_45_code
def yX9_flooded : MethodName := ⟨RX9, "flooded", "(II)I"⟩
abbrev cX9_finds : ByteArray := prog_11_method_46_code
def yX9_finds : MethodName := ⟨RX9, "finds", "(I)V"⟩
abbrev cX9_dueOf : ByteArray := prog_11_method_47_code
def yX9_dueOf : MethodName := ⟨RX9, "dueOf", "(I)I"⟩
abbrev cX9_isOff : ByteArray := prog_11_method_48_code
def yX9_isOff : MethodName := ⟨RX9, "isOff", "(I)Z"⟩
abbrev cX9_off : ByteArray := prog_11_method_49_code
def yX9_off : MethodName := ⟨RX9, "off", "()I"⟩
abbrev cX9_judge : ByteArray := prog_11_method_50_code
def yX9_judge : MethodName := ⟨RX9, "judge", "(I)I"⟩
abbrev cX9_due : ByteArray := prog_11_method_51_code
def yX9_due : MethodName := ⟨RX9, "due", "(I)I"⟩
abbrev cX9_settle : ByteArray := prog_11_method_52_code
def yX9_settle : MethodName := ⟨RX9, "settle", "()I"⟩
abbrev cX9_attacks : ByteArray := prog_11_method_53_code
def yX9_attacks : MethodName := ⟨RX9, "attacks", "(JJII)J"⟩
abbrev cX9_replies : ByteArray := prog_11_method_54_code
def yX9_replies : MethodName := ⟨RX9, "replies", "(JJII)J"⟩
abbrev cX9_lowest : ByteArray := prog_11_method_55_code
def yX9_lowest : MethodName := ⟨RX9, "lowest", "(J)I"⟩
abbrev cX9_libertiesAt : ByteArray := prog_11_method_56_code
def yX9_libertiesAt : MethodName := ⟨RX9, "libertiesAt", "(JJI)I"⟩
abbrev cX9_allowed : ByteArray := prog_11_method_57_code
def yX9_allowed : MethodName := ⟨RX9, "allowed", "(JJIJ)J"⟩
abbrev cX9_catches : ByteArray := prog_11_method_58_code
def yX9_catches : MethodName := ⟨RX9, "catches", "(JJIII)Z"⟩
abbrev cX9_reads : ByteArray := prog_11_method_59_code
def yX9_reads : MethodName := ⟨RX9, "reads", "(IIII)Z"⟩
abbrev cX9_ladder : ByteArray := prog_11_method_60_code
def yX9_ladder : MethodName := ⟨RX9, "ladder", "(III)Z"⟩
abbrev cX9_net : ByteArray := prog_11_method_61_code
def yX9_net : MethodName := ⟨RX9, "net", "(III)Z"⟩
abbrev cX9_isNode : ByteArray := prog_11_method_62_code
def yX9_isNode : MethodName := ⟨RX9, "isNode", "(I)Z"⟩
abbrev cX9_position : ByteArray := prog_11_method_63_code
def yX9_position : MethodName := ⟨RX9, "position", "(II)I"⟩
abbrev cX9_makes : ByteArray := prog_11_method_64_code
def yX9_makes : MethodName := ⟨RX9, "makes", "(IIJJI)I"⟩
abbrev cX9_lesson : ByteArray := prog_11_method_65_code
def yX9_lesson : MethodName := ⟨RX9, "lesson", "(II)I"⟩
abbrev cX9_child : ByteArray := prog_11_method_66_code
def yX9_child : MethodName := ⟨RX9, "child", "(II)I"⟩
abbrev cX9_canBranch : ByteArray := prog_11_method_67_code
def yX9_canBranch : MethodName := ⟨RX9, "canBranch", "(II)Z"⟩
abbrev cX9_branch : ByteArray := prog_11_method_68_code
def yX9_branch : MethodName := ⟨RX9, "branch", "(II)I"⟩
abbrev cX9_mark : ByteArray := prog_11_method_69_code
def yX9_mark : MethodName := ⟨RX9, "mark", "(III)I"⟩
abbrev cX9_node : ByteArray := prog_11_method_70_code
def yX9_node : MethodName := ⟨RX9, "node", "(I)I"⟩
abbrev cX9_isRoot : ByteArray := prog_11_method_71_code
def yX9_isRoot : MethodName := ⟨RX9, "isRoot", "(I)Z"⟩
abbrev cX9_lacks : ByteArray := prog_11_method_72_code
def yX9_lacks : MethodName := ⟨RX9, "lacks", "(II)I"⟩
abbrev cX9_merge : ByteArray := prog_11_method_73_code
def yX9_merge : MethodName := ⟨RX9, "merge", "(II)I"⟩
def RL : String := "AtariGardenLaw"
abbrev cL_player : ByteArray := method_3_code
def yL_player : MethodName := ⟨RL, "player", "(LAtariGarden;I[J)I"⟩
abbrev cL_rank : ByteArray := method_4_code
def yL_rank : MethodName := ⟨RL, "rank", "(LAtariGarden;I[J)I"⟩
abbrev cL_game : ByteArray := method_5_code
def yL_game : MethodName := ⟨RL, "game", "(LAtariGarden;IIIII[J)I"⟩
abbrev cL_play : ByteArray := method_6_code
def yL_play : MethodName := ⟨RL, "play", "(LAtariGarden;III[J)I"⟩
abbrev cL_pass : ByteArray := method_7_code
def yL_pass : MethodName := ⟨RL, "pass", "(LAtariGarden;II[J)I"⟩
abbrev cL_resign : ByteArray := method_8_code
def yL_resign : MethodName := ⟨RL, "resign", "(LAtariGarden;I[J)I"⟩
abbrev cL_state : ByteArray := method_9_code
def yL_state : MethodName := ⟨RL, "state", "(LAtariGarden;I[J)I"⟩
abbrev cL_handicap : ByteArray := method_10_code
def yL_handicap : MethodName := ⟨RL, "handicap", "(LAtariGarden;I[J)I"⟩
abbrev cL_sign : ByteArray := method_11_code
def yL_sign : MethodName := ⟨RL, "sign", "(LAtariGarden;II[J)I"⟩
abbrev cL_clock : ByteArray := method_12_code
def yL_clock : MethodName := ⟨RL, "clock", "(LAtariGarden;II[J)I"⟩
abbrev cL_score : ByteArray := method_13_code
def yL_score : MethodName := ⟨RL, "score", "(LAtariGarden;I[J)I"⟩
abbrev cL_liberties : ByteArray := method_14_code
def yL_liberties : MethodName := ⟨RL, "liberties", "(LAtariGarden;II[J)I"⟩
abbrev cL_flooded : ByteArray := method_15_code
def yL_flooded : MethodName := ⟨RL, "flooded", "(LAtariGarden;II[J)I"⟩
abbrev cL_judge : ByteArray := method_16_code
def yL_judge : MethodName := ⟨RL, "judge", "(LAtariGarden;I[J)I"⟩
abbrev cL_due : ByteArray := method_17_code
def yL_due : MethodName := ⟨RL, "due", "(LAtariGarden;I[J)I"⟩
abbrev cL_ladder : ByteArray := method_18_code
def yL_ladder : MethodName := ⟨RL, "ladder", "(LAtariGarden;III[J)I"⟩
abbrev cL_net : ByteArray := method_19_code
def yL_net : MethodName := ⟨RL, "net", "(LAtariGarden;III[J)I"⟩
abbrev cL_lesson : ByteArray := method_20_code
def yL_lesson : MethodName := ⟨RL, "lesson", "(LAtariGarden;II[J)I"⟩
abbrev cL_branch : ByteArray := method_21_code
def yL_branch : MethodName := ⟨RL, "branch", "(LAtariGarden;II[J)I"⟩
abbrev cL_mark : ByteArray := method_22_code
def yL_mark : MethodName := ⟨RL, "mark", "(LAtariGarden;III[J)I"⟩
abbrev cL_node : ByteArray := method_23_code
def yL_node : MethodName := ⟨RL, "node", "(LAtariGarden;I[J)I"⟩
abbrev cL_merge : ByteArray := method_24_code
def yL_merge : MethodName := ⟨RL, "merge", "(LAtariGarden;II[J)I"⟩
abbrev cL_law : ByteArray := code
def yL_law : MethodName := ⟨RL, "law", "([I)Z"⟩
abbrev vwCl : List vw_C := [(RX1, TX1, 3), (RX2, TX2, 6), (RX3, TX3, 10), (RX4, TX4, 6), (RX6, TX6, 3), (RX7, TX7, 8), (RX8, TX8, 2), (RX9, TX9, 48)]
end
section
/-! ===== BEGIN words of one list among another's, by their places ===== -/
theorem goodIn_r {big : List Cond} (ws : List Cond) (ps : List Nat) (hp : ws = ps.filterMap (fun i => big[i]?)) (h : ws.all goodWord = true) : GoodIn big ws := by
  intro w hw
  have h1 := List.all_eq_true.mp h w hw
  rw [hp] at hw
  obtain ⟨i, -, hi⟩ := List.mem_filterMap.mp hw
  have hm : w ∈ big := by first | exact List.mem_of_getElem? hi | exact List.getElem?_mem hi
  exact ⟨hm, good_of_word h1⟩
theorem goodIn_app {big a b : List Cond} (ha : GoodIn big a) (hb : GoodIn big b) : GoodIn big (a ++ b) := fun w h => (List.mem_append.mp h).elim (ha w) (hb w)
theorem goodIn_ca {big a b : List Cond} {c : Cond} (ha : GoodIn big (c :: a)) (hb : GoodIn big b) : GoodIn big (c :: (a ++ b)) := fun w h => (List.mem_cons.mp h).elim (fun e => ha w (List.mem_cons.mpr (Or.inl e))) (fun h => (List.mem_append.mp h).elim (fun h => ha w (List.mem_cons.mpr (Or.inr h))) (hb w))
theorem goodIn_sub {big ws : List Cond} (hm : ∀ w ∈ ws, w ∈ big) (h : ws.all goodWord = true) : GoodIn big ws := fun w hw => ⟨hm w hw, good_of_word (List.all_eq_true.mp h w hw)⟩
/-! ===== END ===== -/

/-! ===== BEGIN exceptions that leave a method, and their catching by the caller (launches without stack traces) ===== -/
section VXA
/-! The laws vx_back, vx_callV, vx_callS, vx_callSW, vx_throw0, vx_throwS follow proofs of the library, with one case more: JvmDerived/Free/Laws.lean (Back.of_free), Shelf42/LK1.lean (callV, callS), Shelf/KitTraced.lean (throwNew0V, throwNewS). -/
/-- where a method has thrown q: the class by its name, the cell, what was written, the world -/
def vx_T (XC : String → State → State → Prop) (st : State) (q : Addr) (t : State) (mc ms : Nat) (free : Addr → Prop) : Prop :=
  ∃ (E : String) (ce : Cell) (L : List Loc), XC E st t ∧ t.heap[q]? = some ce ∧ ce.vm = .none ∧ st.vm.findClass E = some ce.cls ∧ st.WarmedH t.vm ∧ st.sameButNew ({ t with vm := st.vm } : State) L mc ms ∧ ∀ z ∈ L, free z.base
def vx_Q (Qc : Array Value → State → Outcome → State → Prop) (XC : String → State → State → Prop) (mc ms : Nat) (free : Addr → Prop) : Array Value → State → Outcome → State → Prop := fun a st o t =>
  (Qc a st o t ∧ ∃ L, FrameEnd st o t L mc ms ∧ ∀ q ∈ L, free q.base) ∨ ∃ q, o = .threw q ∧ vx_T XC st q t mc ms free
/-- a callee that returns or throws -/
def vx_Met (l : Launch) (y : MethodName) (ws : List Cond) (rm : Room) (Pc : Array Value → State → Prop) (Qc : Array Value → State → Outcome → State → Prop) (XC : String → State → State → Prop) (mc ms : Nat) (free : Addr → Prop) : Prop :=
  MetFree l y (headSpec ws rm) Pc (fun _ _ _ _ _ => True) (vx_Q Qc XC mc ms free)
def vx_Post (XC : String → State → State → Prop) (mc ms : Nat) (free : Addr → Prop) : Pt → Array Value → Addr → Pt → Prop := fun A a q B =>
  ∃ (g : JFrame) (mk : MethodId) (t : State) (L : List Loc) (E : String) (ce : Cell), B.U.heap = t.heap ∧ B.U.vm = t.vm ∧ XC E (A.U.calling g mk a) t ∧ t.heap[q]? = some ce ∧ ce.vm = .none ∧ A.U.vm.findClass E = some ce.cls ∧ B.locs = A.locs ++ L ∧ (∀ z ∈ L, free z.base) ∧ B.cells = A.cells + mc ∧ B.slots = A.slots + ms
def vx_Back (l : Launch) (R : Room) (p : Program) (e : Env) (below : List Frame) (s : State) (sargs : Array Value) (y : MethodName) (len W9 : Nat)
    (Pre : Pt → Array Value → Prop) (Post : Pt → Array Value → Option Value → Pt → Prop) (PostX : Pt → Array Value → Addr → Pt → Prop) : Prop :=
  ∀ (m : MethodId) (meth : Method) (c : Code) (A : Pt) (g : JFrame) (ig : Instr) (mk : MethodId) (a : Array Value),
    Stand p l e R s m sargs below meth c A.U A.locs A.cells A.slots → g.method = m → g.locals.size = c.maxLocals → decode c.code g.pc = .ok (ig, len) →
    2 * g.monitorRoom + (g.stack.map fun v => v.category).sum ≤ W9 → A.U.methodNamed? y = some mk → Pre A a →
    (∃ (v : Option Value) (B : Pt), Stand p l e R s m sargs below meth c B.U B.locs B.cells B.slots ∧ Post A a v B ∧
      Steps p.tables e below (doInvoke e (A.U.setTop g) [] mk a).1 (B.U.setTop { g with pc := g.pc + len, stack := v.toList ++ g.stack })) ∨
    (∃ (q : Addr) (B : Pt), Stand p l e R s m sargs below meth c B.U B.locs B.cells B.slots ∧ PostX A a q B ∧
      Steps p.tables e below (doInvoke e (A.U.setTop g) [] mk a).1 ((B.U.setTop g).pushFrame (.throwing q)))
section Payer
variable {l : Launch} {R : Room} {p : Program} {e : Env} {below : List Frame} {s : State} {sargs : Array Value} {y : MethodName} {len W9 : Nat}
theorem vx_back {ws : List Cond} {rm : Room} {Pc : Array Value → State → Prop} {Qc : Array Value → State → Outcome → State → Prop} {XC : String → State → State → Prop} {mc ms : Nat} {free : Addr → Prop} {bytes : ByteArray} {maxL : Nat} {ret : Option FieldType}
    (hM : vx_Met l y ws rm Pc Qc XC mc ms free) (hblind : FrameBlind Pc) (hrc : rm.cells = mc) (hrs : rm.slots = ms)
    (hframes : rm.frames + 1 ≤ R.frames) (hlocals : W9 + (maxL + 11) + rm.locals ≤ R.locals)
    (hws : ∀ w ∈ ws, ∀ a' U, s.WarmedH U.vm → w.before a' U = true) (hcode : Cond.code y bytes maxL ret ∈ ws) (hinit : ∀ a' U, s.WarmedH U.vm → (Cond.initialized y.cls).before a' U = true) :
    vx_Back l R p e below s sargs y len W9 (PreOf R mc ms Pc) (PostOf Qc mc ms free) (vx_Post XC mc ms free) := by
  intro m meth c A g ig mk a X hg hsize hdg hW hn hp
  have h1 : (headSpec ws rm).pre.before a A.U = true := atoms_intro fun w hw => hws w hw _ _ X.warmed
  have h2 : (Cond.code y bytes maxL ret).before a A.U = true := hws _ hcode _ _ X.warmed
  have h3 : (Cond.initialized y.cls).before a A.U = true := hinit _ _ X.warmed
  have h4 : A.cells + (headSpec ws rm).room.cells ≤ R.cells := by rw [show (headSpec ws rm).room.cells = mc from hrc]; exact hp.1
  have h5 : A.slots + (headSpec ws rm).room.slots ≤ R.slots := by rw [show (headSpec ws rm).room.slots = ms from hrs]; exact hp.2.1
  have hPc : Pc a (A.U.calling g mk a) := hblind _ _ _ _ hp.2.2
  obtain ⟨U, Ls, c0, s0⟩ := A
  dsimp only [Pt.U, Pt.locs, Pt.cells, Pt.slots] at h1 h2 h3 h4 h5 X hn hPc ⊢
  obtain ⟨methY, cY, hmY, hcY, -, hlY, -, -, -, -⟩ := Cond.code_spec hn h2
  obtain ⟨kY, hkY, -⟩ := className_of_methodNamed hn
  have hinitY : kY.init = .initialized := Cond.initialized_spec (findClass_of_methodNamed hn) hkY h3
  have h : At U g.method c below := by rw [hg]; exact X.here
  have hlocals9 : W9 + (maxL + 11) + (headSpec ws rm).room.locals ≤ R.locals := hlocals
  have happ : (headSpec ws rm).appliesLoose y e.platform (U.calling g mk a) = true :=
    Spec.appliesLoose_calling (g := g) h hdg hn hkY hinitY
      (X.room_calling (g := g) (R' := (headSpec ws rm).room) hsize hmY hcY hframes (by rw [hlY]; omega) h4 h5) h1
  obtain ⟨mid, hmid⟩ := h.above
  have hfr : (U.setTop g).frames = (.java g :: mid) ++ below := by rw [State.frames_setTop' g h.top, hmid]; rfl
  obtain ⟨o, s₂, hsteps, -, hend, hq⟩ := Steps.callFree hM p X.admits X.cas X.clock (acts := []) hfr happ hPc trivial
  have hq' : vx_Q Qc XC mc ms free a (U.calling g mk a) o s₂ := hq
  rw [State.frames_setTop' g h.top] at hend
  obtain ⟨g₀, hg0⟩ := Option.isSome_iff_exists.mp h.top
  obtain ⟨r, hr⟩ := State.topJava?_eq_some.mp hg0
  have hr' : (({ U with heap := s₂.heap, slotsUsed := s₂.slotsUsed } : State).setVm s₂.vm).frames = .java g₀ :: r := hr
  rcases hq' with ⟨hqc, L, hfe, hL⟩ | ⟨q, rfl, E, ce, L, hx, hce, hcv, hcl, hW₂, hsm, hL⟩
  · obtain ⟨⟨v, rfl⟩, hW₂, e2, q2, q3, q4, q5, q6⟩ := id hfe
    have e3 : s₂ = ({ (U.calling g mk a).setFrames s₂.frames with heap := s₂.heap, slotsUsed := s₂.slotsUsed } : State).setVm s₂.vm := by
      have : s₂ = ({ s₂ with vm := (U.calling g mk a).vm } : State).setVm s₂.vm := rfl
      rw [e2] at this
      exact this
    obtain ⟨c₂, i₂, len₂, hc₂, hd₂, hf₂⟩ := hend
    have hW' : U.WarmedH s₂.vm := hW₂
    have hcc : c₂ = c := by
      have h1 : s₂.code? g.method = U.code? g.method := by
        rw [State.code?_eq, State.code?_eq, hW'.alike.method?]
      exact Option.some.inj (hc₂.symm.trans (h1.trans h.code))
    subst hcc
    have hlen : len₂ = len := by rw [hdg] at hd₂; cases hd₂; rfl
    subst hlen
    have hs₂ : s₂ = (({ U with heap := s₂.heap, slotsUsed := s₂.slotsUsed } : State).setVm s₂.vm).setTop { g with pc := g.pc + len₂, stack := v.toList ++ g.stack } := by
      refine e3.trans ?_
      rw [hf₂, State.calling_eq h.top, State.setFrames_setFrames, State.setTop_of_frames _ hr', hr]
      rfl
    have hsame : U.sameButNew ({ U with heap := s₂.heap, slotsUsed := s₂.slotsUsed } : State) L mc ms := by
      refine ⟨?_, q2, q3, q4, q5, q6⟩
      obtain ⟨t, ht, -⟩ := State.frames_cons hr
      show ({ U with heap := s₂.heap, slotsUsed := s₂.slotsUsed } : State) = { U.setFrames U.frames with heap := s₂.heap, slotsUsed := s₂.slotsUsed }
      rw [State.setFrames_self ht]
    subst hg
    refine Or.inl ⟨v, ⟨(({ U with heap := s₂.heap, slotsUsed := s₂.slotsUsed } : State).setVm s₂.vm), Ls ++ L, c0 + mc, s0 + ms⟩,
      ⟨X.admits, X.cas, X.clock, X.frames, X.room, X.hears, X.method, X.code, (X.here.setHeapUsed s₂.heap s₂.slotsUsed).setVm hW'.alike, X.tail, State.WarmedH.trans X.warmed hW', X.limits, X.bytes, X.same.trans (hsame.setVm s.vm)⟩,
      ⟨g, mk, s₂, L, rfl, rfl, hqc, rfl, hL, rfl, rfl⟩, ?_⟩
    show Steps p.tables e below _ ((({ U with heap := s₂.heap, slotsUsed := s₂.slotsUsed } : State).setVm s₂.vm).setTop { g with pc := g.pc + len₂, stack := v.toList ++ g.stack })
    rw [← hs₂]
    exact hsteps
  · obtain ⟨e2, q2, q3, q4, q5, q6⟩ := id hsm
    have e3 : s₂ = ({ (U.calling g mk a).setFrames s₂.frames with heap := s₂.heap, slotsUsed := s₂.slotsUsed } : State).setVm s₂.vm := by
      have : s₂ = ({ s₂ with vm := (U.calling g mk a).vm } : State).setVm s₂.vm := rfl
      rw [e2] at this
      exact this
    have hf₂ : s₂.frames = .throwing q :: .java g :: U.frames.tail := hend
    have hW' : U.WarmedH s₂.vm := hW₂
    have hs₂ : s₂ = ((({ U with heap := s₂.heap, slotsUsed := s₂.slotsUsed } : State).setVm s₂.vm).setTop g).pushFrame (.throwing q) := by
      refine e3.trans ?_
      rw [hf₂, State.calling_eq h.top, State.setFrames_setFrames, State.pushFrame, State.frames_setTop _ hr', State.setTop_of_frames _ hr', State.setFrames_setFrames, hr]
      rfl
    have hsame : U.sameButNew ({ U with heap := s₂.heap, slotsUsed := s₂.slotsUsed } : State) L mc ms := by
      refine ⟨?_, q2, q3, q4, q5, q6⟩
      obtain ⟨t, ht, -⟩ := State.frames_cons hr
      show ({ U with heap := s₂.heap, slotsUsed := s₂.slotsUsed } : State) = { U.setFrames U.frames with heap := s₂.heap, slotsUsed := s₂.slotsUsed }
      rw [State.setFrames_self ht]
    subst hg
    refine Or.inr ⟨q, ⟨(({ U with heap := s₂.heap, slotsUsed := s₂.slotsUsed } : State).setVm s₂.vm), Ls ++ L, c0 + mc, s0 + ms⟩,
      ⟨X.admits, X.cas, X.clock, X.frames, X.room, X.hears, X.method, X.code, (X.here.setHeapUsed s₂.heap s₂.slotsUsed).setVm hW'.alike, X.tail, State.WarmedH.trans X.warmed hW', X.limits, X.bytes, X.same.trans (hsame.setVm s.vm)⟩,
      ⟨g, mk, s₂, L, E, ce, rfl, rfl, hx, hce, hcv, hcl, rfl, hL, rfl, rfl⟩, ?_⟩
    show Steps p.tables e below _ (((({ U with heap := s₂.heap, slotsUsed := s₂.slotsUsed } : State).setVm s₂.vm).setTop g).pushFrame (.throwing q))
    rw [← hs₂]
    exact hsteps
end Payer
section Calls
variable {p : Program} {l : Launch} {e : Env} {R : Room} {s : State} {m : MethodId} {args : Array Value} {below : List Frame} {meth : Method} {c : Code} {T : State} {locs : List Loc} {cells slots : Nat}
theorem vx_callV (X : Stand p l e R s m args below meth c T locs cells slots) (hexec : p.tables.exec = Jvm.exec) {own C : String} {index : Nat} {y : MethodName} {bytes : ByteArray} {maxL : Nat} {ret : Option FieldType}
    (hown : s.vm.findClass own = some m.cls) (hlink : (Cond.methodLink own index y).before args s = true) (hinst : (Cond.instanceMethod y).before args s = true) (hsel : (Cond.selects C y y).before args s = true)
    (hcode : (Cond.code y bytes maxL ret).before args s = true) (hy : y.cls ≠ "java/lang/invoke/MethodHandle" ∧ y.cls ≠ "java/lang/invoke/VarHandle")
    {W9 : Nat} {Pre : Pt → Array Value → Prop} {Post : Pt → Array Value → Option Value → Pt → Prop} {PostX : Pt → Array Value → Addr → Pt → Prop} (hK : vx_Back l R p e below s args y 3 W9 Pre Post PostX)
    {b : Addr} {cellB : Cell} (hcell : T.heap[b]? = some cellB) (hobj : cellB.vm.isStatics = false) (hcls : s.vm.findClass C = some cellB.cls)
    {g : JFrame} (hg : g.method = m) (hsize : g.locals.size = c.maxLocals) {argsL rest : List Value} (hlen : ∀ sig, parseMethodDescriptor y.desc = some sig → argsL.length = sig.parameters.length)
    (hstack : g.stack = argsL.reverse ++ .ref b :: rest) (hW : 2 * g.monitorRoom + (rest.map fun v => v.category).sum ≤ W9) (hdg : decode c.code g.pc = .ok (.invokevirtual index, 3))
    (hpre : ∀ vm₁, s.WarmedH vm₁ → Pre ⟨T.setVm vm₁, locs, cells, slots⟩ (Value.ref b :: argsL).toArray) :
    (∃ (v : Option Value) (vm₁ : Vm) (B : Pt), s.WarmedH vm₁ ∧ Stand p l e R s m args below meth c B.U B.locs B.cells B.slots ∧ Post ⟨T.setVm vm₁, locs, cells, slots⟩ (Value.ref b :: argsL).toArray v B ∧
      ∀ target, Steps p.tables e below (B.U.setTop { g with pc := g.pc + 3, stack := v.toList ++ rest }) target → Steps p.tables e below (T.setTop g) target) ∨
    (∃ (q : Addr) (vm₁ : Vm) (B : Pt), s.WarmedH vm₁ ∧ Stand p l e R s m args below meth c B.U B.locs B.cells B.slots ∧ PostX ⟨T.setVm vm₁, locs, cells, slots⟩ (Value.ref b :: argsL).toArray q B ∧
      Steps p.tables e below (T.setTop g) ((B.U.setTop { g with stack := rest }).pushFrame (.throwing q))) := by
  obtain ⟨mk, methM, hnamed, hmethM, hstM, habM⟩ := Cond.instanceMethod_spec hinst
  obtain ⟨methM', cM, hmethM', -, -, -, -, -, -, hsigM⟩ := Cond.code_spec hnamed hcode
  cases hmethM.symm.trans hmethM'
  obtain ⟨c2, r2, m2, q1, q2, q3, q4, kP, hkP, hkPi⟩ := Cond.selects_spec hsel
  cases hcls.symm.trans q1
  cases (State.methodFound?_of_named hnamed hy).symm.trans q2
  cases hnamed.symm.trans q3
  have hselP : selectMethod e.platform s.vm cellB.cls mk = .method mk := by rw [Launch.admits_selectMethod X.admits]; exact q4
  obtain ⟨vm₁, X₁, hstep₁⟩ := X.invokevirtual hexec hown hlink hnamed hmethM hstM hkP hkPi hy (a := b) (cell := cellB) hcell
    (fun z h => by rw [h] at hobj; cases hobj) hselP hmethM habM hkP hkPi (g := g) hg (argsL := argsL) (rest := rest) (hlen _ hsigM) hstack hdg
  rcases hK m meth c ⟨T.setVm vm₁, locs, cells, slots⟩ { g with stack := rest } (.invokevirtual index) mk (Value.ref b :: argsL).toArray X₁ hg hsize hdg hW (X₁.named hnamed) (hpre vm₁ X₁.warmed) with ⟨v, B, X', hpost, hsteps⟩ | ⟨q, B, X', hpost, hsteps⟩
  · exact Or.inl ⟨v, vm₁, B, X₁.warmed, X', hpost, fun target h => hstep₁ _ fun acts => by rw [doInvoke_state]; exact hsteps.trans h⟩
  · exact Or.inr ⟨q, vm₁, B, X₁.warmed, X', hpost, hstep₁ _ fun acts => by rw [doInvoke_state]; exact hsteps⟩
theorem vx_callS (X : Stand p l e R s m args below meth c T locs cells slots) (hexec : p.tables.exec = Jvm.exec) {own : String} {index : Nat} {y : MethodName} {bytes : ByteArray} {maxL : Nat} {ret : Option FieldType}
    (hown : s.vm.findClass own = some m.cls) (hlink : (Cond.methodLink own index y).before args s = true) (hstat : (Cond.static y).before args s = true) (hinit : (Cond.initialized y.cls).before args s = true)
    (hcode : (Cond.code y bytes maxL ret).before args s = true) (hy : y.cls ≠ "java/lang/invoke/MethodHandle" ∧ y.cls ≠ "java/lang/invoke/VarHandle")
    {W9 : Nat} {Pre : Pt → Array Value → Prop} {Post : Pt → Array Value → Option Value → Pt → Prop} {PostX : Pt → Array Value → Addr → Pt → Prop} (hK : vx_Back l R p e below s args y 3 W9 Pre Post PostX)
    {g : JFrame} (hg : g.method = m) (hsize : g.locals.size = c.maxLocals) {argsL rest : List Value} (hlen : ∀ sig, parseMethodDescriptor y.desc = some sig → argsL.length = sig.parameters.length)
    (hstack : g.stack = argsL.reverse ++ rest) (hW : 2 * g.monitorRoom + (rest.map fun v => v.category).sum ≤ W9) (hdg : decode c.code g.pc = .ok (.invokestatic index, 3))
    (hpre : ∀ vm₁, s.WarmedH vm₁ → Pre ⟨T.setVm vm₁, locs, cells, slots⟩ argsL.toArray) :
    (∃ (v : Option Value) (vm₁ : Vm) (B : Pt), s.WarmedH vm₁ ∧ Stand p l e R s m args below meth c B.U B.locs B.cells B.slots ∧ Post ⟨T.setVm vm₁, locs, cells, slots⟩ argsL.toArray v B ∧
      ∀ target, Steps p.tables e below (B.U.setTop { g with pc := g.pc + 3, stack := v.toList ++ rest }) target → Steps p.tables e below (T.setTop g) target) ∨
    (∃ (q : Addr) (vm₁ : Vm) (B : Pt), s.WarmedH vm₁ ∧ Stand p l e R s m args below meth c B.U B.locs B.cells B.slots ∧ PostX ⟨T.setVm vm₁, locs, cells, slots⟩ argsL.toArray q B ∧
      Steps p.tables e below (T.setTop g) ((B.U.setTop { g with stack := rest }).pushFrame (.throwing q))) := by
  obtain ⟨mk, hnamed⟩ := Cond.code_named hcode
  obtain ⟨methM, cM, hmethM, -, -, -, -, -, -, hsigM⟩ := Cond.code_spec hnamed hcode
  have hstatic : methM.isStatic = true := Cond.static_spec hnamed hmethM hstat
  obtain ⟨kP, hkP, -⟩ := className_of_methodNamed hnamed
  have hinitP : kP.init = .initialized := Cond.initialized_spec (findClass_of_methodNamed hnamed) hkP hinit
  obtain ⟨vm₁, X₁, hstep₁⟩ := X.invokestatic hexec hown hlink hnamed hmethM hstatic hkP hinitP hy (g := g) hg (argsL := argsL) (rest := rest) (hlen _ hsigM) hstack hdg
  rcases hK m meth c ⟨T.setVm vm₁, locs, cells, slots⟩ { g with stack := rest } (.invokestatic index) mk argsL.toArray X₁ hg hsize hdg hW (X₁.named hnamed) (hpre vm₁ X₁.warmed) with ⟨v, B, X', hpost, hsteps⟩ | ⟨q, B, X', hpost, hsteps⟩
  · exact Or.inl ⟨v, vm₁, B, X₁.warmed, X', hpost, fun target h => hstep₁ _ fun acts => by rw [doInvoke_state]; exact hsteps.trans h⟩
  · exact Or.inr ⟨q, vm₁, B, X₁.warmed, X', hpost, hstep₁ _ fun acts => by rw [doInvoke_state]; exact hsteps⟩
end Calls
theorem vx_cls {s : State} {T : State} {vm₁ : Vm} {E : String} {k : ClassId} (hW : s.WarmedH vm₁) (h : (T.setVm vm₁).vm.findClass E = some k) : s.vm.findClass E = some k := by
  have h1 : vm₁.findClass E = some k := h
  rw [hW.alike.findClass] at h1
  exact h1
/-- the method's frame g, with q thrown over it -/
def vx_W (p : Program) (l : Launch) (e : Env) (R : Room) (s : State) (m : MethodId) (args : Array Value) (below : List Frame) (meth : Method) (c : Code) (H : Heap) (locs : List Loc) (cells slots : Nat) (Q : State → Prop) (g : JFrame) (q : Addr) : Prop :=
  ∀ T : State, T.heap = H → Stand p l e R s m args below meth c T locs cells slots → ∃ t, Steps p.tables e below ((T.setTop g).pushFrame (.throwing q)) t ∧ Q t
def vx_Run (p : Program) (l : Launch) (e : Env) (R : Room) (s : State) (m : MethodId) (args : Array Value) (below : List Frame) (meth : Method) (c : Code) (H : Heap) (locs : List Loc) (cells slots mc ms : Nat) (g : JFrame) (rest : List Value) (Qa : State → Outcome → State → Prop) (XC : String → State → State → Prop) (free : Addr → Prop) : Prop :=
  ∀ T : State, T.heap = H → Stand p l e R s m args below meth c T locs cells slots →
    (∃ (v : Option Value) (st₀ t T' : State) (L : List Loc), st₀.heap = H ∧ Stand p l e R s m args below meth c T' (locs ++ L) (cells + mc) (slots + ms) ∧ (∀ q ∈ L, free q.base) ∧ T'.heap = t.heap ∧ T'.vm = t.vm ∧ Qa st₀ (.returned v) t ∧
      Goes p e below T g T' { g with pc := g.pc + 3, stack := v.toList ++ rest }) ∨
    (∃ (q : Addr) (st₀ t T' : State) (L : List Loc) (E : String) (ce : Cell), st₀.heap = H ∧ Stand p l e R s m args below meth c T' (locs ++ L) (cells + mc) (slots + ms) ∧ (∀ z ∈ L, free z.base) ∧ T'.heap = t.heap ∧ T'.vm = t.vm ∧ XC E st₀ t ∧ t.heap[q]? = some ce ∧ ce.vm = .none ∧ s.vm.findClass E = some ce.cls ∧
      Steps p.tables e below (T.setTop g) ((T'.setTop { g with stack := rest }).pushFrame (.throwing q)))
def vx_X {S : Type} (px : S → Prop) (B : String → S → State → Prop) (A : Nat → Prop) : String → State → State → Prop := fun E st t => ∃ u : S, px u ∧ B E u t ∧ va_F A st t
section Runs
variable {p : Program} {l : Launch} {e : Env} {R : Room} {s : State} {m : MethodId} {args : Array Value} {below : List Frame} {meth : Method} {c : Code} {H : Heap} {locs : List Loc} {cells slots : Nat}
variable {y : MethodName} {bytes cc : ByteArray} {maxL nL mc ms n index : Nat} {ret : Option FieldType} {ws : List Cond} {rm : Room} {Pc : Array Value → State → Prop} {Qc : Array Value → State → Outcome → State → Prop} {XC : String → State → State → Prop} {free : Addr → Prop} {Ts : List Cond} {own C : String} {b : Addr} {As rest : List Value} {g : JFrame}
theorem vx_callBack (cb : CallB R s args own index y bytes maxL ret ws rm mc ms n) (hM : vx_Met l y ws rm Pc Qc XC mc ms free) (hbl : FrameBlind Pc) : vx_Back l R p e below s args y 3 8 (PreOf R mc ms Pc) (PostOf Qc mc ms free) (vx_Post XC mc ms free) := by
  obtain ⟨hrc, hrs, hfr, hlo, hws, hcw, -, hini, -⟩ := cb
  exact vx_back (bytes := bytes) (maxL := maxL) (ret := ret) hM hbl hrc hrs hfr hlo hws hcw (fun a' U hW => word_at hW (Or.inl (by first | rfl | simp [Cond.onTables, Cond.keeps, Cond.steady])) hini)
theorem vx_runV (S : CallFix p m c cc nL s args Ts own) (hM : vx_Met l y ws rm Pc Qc XC mc ms free) (cw : CallW R s args own C index y bytes maxL ret ws rm mc ms n) (hp : PreV s H C b Pc As)
    (hg : g.method = m) (hn : As.length = n) (hsize : g.locals.size = nL) (hstack : g.stack = As.reverse ++ .ref b :: rest) (hW : 2 * g.monitorRoom + (rest.map fun v => v.category).sum ≤ 8) (hdg : decode cc g.pc = .ok (.invokevirtual index, 3)) (hf : cells + mc ≤ R.cells ∧ slots + ms ≤ R.slots) :
    vx_Run p l e R s m args below meth c H locs cells slots mc ms g rest (Qc (Value.ref b :: As).toArray) XC free := by
  have hK : vx_Back l R p e below s args y 3 8 (PreOf R mc ms Pc) (PostOf Qc mc ms free) (vx_Post XC mc ms free) := vx_callBack cw.1 hM hp.1
  obtain ⟨⟨-, -, -, -, -, -, hcode, -, hy, hlen, hl⟩, hin, hse⟩ := cw
  obtain ⟨hx, hb, hml, ho, -⟩ := S
  obtain ⟨-, ⟨cellB, hcB, hoB, hclB⟩, hPc⟩ := hp
  intro T hT X
  rcases vx_callV X hx (C := C) (bytes := bytes) (maxL := maxL) (ret := ret) ho hl hin hse hcode hy hK (by rw [hT]; exact hcB) hoB hclB hg (hsize.trans hml.symm) (argsL := As) (rest := rest) (fun sig h => hn.trans (hlen sig h)) hstack hW (by rw [hb]; exact hdg)
    (fun vm₁ hW₁ => ⟨hf.1, hf.2, hPc (T.setVm vm₁) hT hW₁⟩) with ⟨v, vm₁, ⟨U', l2, c2, s2⟩, hW₁, X', ⟨g', mk, t, L, e1, e2, hq, h1, hL, h2, h3⟩, st⟩ | ⟨q, vm₁, ⟨U', l2, c2, s2⟩, hW₁, X', ⟨g', mk, t, L, E, ce, e1, e2, hq, hce, hcv, hcl, h1, hL, h2, h3⟩, st⟩
  · dsimp only [Pt.U, Pt.locs, Pt.cells, Pt.slots] at X' e1 e2 h1 h2 h3 st
    subst h1; subst h2; subst h3
    exact Or.inl ⟨v, (T.setVm vm₁).calling g' mk (Value.ref b :: As).toArray, t, U', L, hT, X', hL, e1, e2, hq, st⟩
  · dsimp only [Pt.U, Pt.locs, Pt.cells, Pt.slots] at X' e1 e2 h1 h2 h3 st hcl
    subst h1; subst h2; subst h3
    exact Or.inr ⟨q, (T.setVm vm₁).calling g' mk (Value.ref b :: As).toArray, t, U', L, E, ce, hT, X', hL, e1, e2, hq, hce, hcv, vx_cls hW₁ hcl, st⟩
theorem vx_runS (S : CallFix p m c cc nL s args Ts own) (hM : vx_Met l y ws rm Pc Qc XC mc ms free) (cw : CallB R s args own index y bytes maxL ret ws rm mc ms n ∧ (Cond.static y).before args s = true) (hp : PreS s H Pc As)
    (hg : g.method = m) (hn : As.length = n) (hsize : g.locals.size = nL) (hstack : g.stack = As.reverse ++ rest) (hW : 2 * g.monitorRoom + (rest.map fun v => v.category).sum ≤ 8) (hdg : decode cc g.pc = .ok (.invokestatic index, 3)) (hf : cells + mc ≤ R.cells ∧ slots + ms ≤ R.slots) :
    vx_Run p l e R s m args below meth c H locs cells slots mc ms g rest (Qc As.toArray) XC free := by
  have hK : vx_Back l R p e below s args y 3 8 (PreOf R mc ms Pc) (PostOf Qc mc ms free) (vx_Post XC mc ms free) := vx_callBack cw.1 hM hp.1
  obtain ⟨⟨-, -, -, -, -, -, hcode, hini, hy, hlen, hl⟩, hstt⟩ := cw
  obtain ⟨hx, hb, hml, ho, -⟩ := S
  intro T hT X
  rcases vx_callS X hx (bytes := bytes) (maxL := maxL) (ret := ret) ho hl hstt hini hcode hy hK hg (hsize.trans hml.symm) (argsL := As) (rest := rest) (fun sig h => hn.trans (hlen sig h)) hstack hW (by rw [hb]; exact hdg)
    (fun vm₁ hW₁ => ⟨hf.1, hf.2, hp.2 (T.setVm vm₁) hT hW₁⟩) with ⟨v, vm₁, ⟨U', l2, c2, s2⟩, hW₁, X', ⟨g', mk, t, L, e1, e2, hq, h1, hL, h2, h3⟩, st⟩ | ⟨q, vm₁, ⟨U', l2, c2, s2⟩, hW₁, X', ⟨g', mk, t, L, E, ce, e1, e2, hq, hce, hcv, hcl, h1, hL, h2, h3⟩, st⟩
  · dsimp only [Pt.U, Pt.locs, Pt.cells, Pt.slots] at X' e1 e2 h1 h2 h3 st
    subst h1; subst h2; subst h3
    exact Or.inl ⟨v, (T.setVm vm₁).calling g' mk As.toArray, t, U', L, hT, X', hL, e1, e2, hq, st⟩
  · dsimp only [Pt.U, Pt.locs, Pt.cells, Pt.slots] at X' e1 e2 h1 h2 h3 st hcl
    subst h1; subst h2; subst h3
    exact Or.inr ⟨q, (T.setVm vm₁).calling g' mk As.toArray, t, U', L, E, ce, hT, X', hL, e1, e2, hq, hce, hcv, vx_cls hW₁ hcl, st⟩
end Runs
section Rows
variable {p : Program} {l : Launch} {e : Env} {R : Room} {s : State} {m : MethodId} {args : Array Value} {below : List Frame} {meth : Method} {c : Code} {H : Heap} {locs : List Loc} {cells slots : Nat} {Q : State → Prop}
variable {mc ms : Nat} {free : Addr → Prop} {A0 A1 : Nat → Prop} {H0 : Heap} {a : Array Value} {pc : Nat} {ls : Array Slot} {st0 rest : List Value}
theorem vx_keep {st₀ t T' : State} {L : List Loc} (h0 : st₀.heap = H) (e1 : T'.heap = t.heap) (hS : va_S A0 H0 H locs) (hA : ∀ q, q < H.size → A1 q → A0 q) (hf : ∀ q, free q → A0 q) (hL : ∀ q ∈ L, free q.base) (hF : va_F A1 st₀ t) :
    H.size ≤ T'.heap.size ∧ (∀ q : Nat, q < H.size → ¬ A1 q → T'.heap[q]? = H[q]?) ∧ va_S A0 H0 T'.heap (locs ++ L) := by
  obtain ⟨hz, hk⟩ := hF
  rw [h0] at hz hk
  exact ⟨by rw [e1]; exact hz, fun q h1 h2 => by rw [e1]; exact hk q h1 h2,
    ⟨Nat.le_trans hS.1 (by rw [e1]; exact hz), fun q h1 h2 => by rw [e1, hk q (Nat.lt_of_lt_of_le h1 hS.1) (fun z => h2 (hA q (Nat.lt_of_lt_of_le h1 hS.1) z))]; exact hS.2.1 q h1 h2, fun q hq => by
      rcases List.mem_append.mp hq with h | h
      · exact hS.2.2 q h
      · exact hf _ (hL q h)⟩⟩
theorem vx_calli {S SX : Type} {post : Int32 → S → Prop} {px : SX → Prop} {B : S → State → Prop} {BX : String → SX → State → Prop} {AX : Nat → Prop} (hr : vx_Run p l e R s m args below meth c H locs cells slots mc ms (F0 m pc ls st0) rest (va_Qi post B A1 a) (vx_X px BX AX) free) (hS : va_S A0 H0 H locs) (hA : ∀ q, q < H.size → A1 q → A0 q) (hf : ∀ q, free q → A0 q) (hAX : ∀ q, q < H.size → AX q → A0 q)
    (kx : ∀ (E : String) (ce : Cell) (q9 : Addr) (u : SX) (t : State) (H1 : Heap) (locs1 : List Loc), t.heap = H1 → s.vm.Alike t.vm → px u → BX E u t → H.size ≤ H1.size → (∀ q : Nat, q < H.size → ¬ AX q → H1[q]? = H[q]?) → va_S A0 H0 H1 locs1 → H1[q9]? = some ce → ce.vm = .none → s.vm.findClass E = some ce.cls → vx_W p l e R s m args below meth c H1 locs1 (cells + mc) (slots + ms) Q (F0 m pc ls rest) q9)
    (kk : ∀ (r : Int32) (u : S) (t : State) (H1 : Heap) (locs1 : List Loc), t.heap = H1 → s.vm.Alike t.vm → post r u → B u t → H.size ≤ H1.size → (∀ q : Nat, q < H.size → ¬ A1 q → H1[q]? = H[q]?) → va_S A0 H0 H1 locs1 → W p l e R s m args below meth c H1 locs1 (cells + mc) (slots + ms) Q (F0 m (pc + 3) ls (.int r :: rest))) : W p l e R s m args below meth c H locs cells slots Q (F0 m pc ls st0) := by
  intro T hT X
  rcases hr T hT X with ⟨v, st₀, t, T', L, h0, X', hL, e1, e2, ⟨⟨r, u, hv, hp, hb⟩, hF⟩, st⟩ | ⟨q, st₀, t, T', L, E, ce, h0, X', hL, e1, e2, ⟨u, hp, hb, hF⟩, hce, hcv, hcl, st⟩
  · cases hv
    obtain ⟨k1, k2, k3⟩ := vx_keep h0 e1 hS hA hf hL hF
    obtain ⟨t2, a1, b1⟩ := kk r u t T'.heap (locs ++ L) e1.symm (by rw [← e2]; exact X'.warmed.alike) hp hb k1 k2 k3 T' rfl X'
    exact ⟨t2, st t2 a1, b1⟩
  · obtain ⟨k1, k2, k3⟩ := vx_keep h0 e1 hS hAX hf hL hF
    obtain ⟨t2, a1, b1⟩ := kx E ce q u t T'.heap (locs ++ L) e1.symm (by rw [← e2]; exact X'.warmed.alike) hp hb k1 k2 k3 (by rw [e1]; exact hce) hcv hcl T' rfl X'
    exact ⟨t2, st.trans a1, b1⟩
theorem vx_calll {S SX : Type} {post : Int64 → S → Prop} {px : SX → Prop} {B : S → State → Prop} {BX : String → SX → State → Prop} {AX : Nat → Prop} (hr : vx_Run p l e R s m args below meth c H locs cells slots mc ms (F0 m pc ls st0) rest (va_Ql post B A1 a) (vx_X px BX AX) free) (hS : va_S A0 H0 H locs) (hA : ∀ q, q < H.size → A1 q → A0 q) (hf : ∀ q, free q → A0 q) (hAX : ∀ q, q < H.size → AX q → A0 q)
    (kx : ∀ (E : String) (ce : Cell) (q9 : Addr) (u : SX) (t : State) (H1 : Heap) (locs1 : List Loc), t.heap = H1 → s.vm.Alike t.vm → px u → BX E u t → H.size ≤ H1.size → (∀ q : Nat, q < H.size → ¬ AX q → H1[q]? = H[q]?) → va_S A0 H0 H1 locs1 → H1[q9]? = some ce → ce.vm = .none → s.vm.findClass E = some ce.cls → vx_W p l e R s m args below meth c H1 locs1 (cells + mc) (slots + ms) Q (F0 m pc ls rest) q9)
    (kk : ∀ (r : Int64) (u : S) (t : State) (H1 : Heap) (locs1 : List Loc), t.heap = H1 → s.vm.Alike t.vm → post r u → B u t → H.size ≤ H1.size → (∀ q : Nat, q < H.size → ¬ A1 q → H1[q]? = H[q]?) → va_S A0 H0 H1 locs1 → W p l e R s m args below meth c H1 locs1 (cells + mc) (slots + ms) Q (F0 m (pc + 3) ls (.long r :: rest))) : W p l e R s m args below meth c H locs cells slots Q (F0 m pc ls st0) := by
  intro T hT X
  rcases hr T hT X with ⟨v, st₀, t, T', L, h0, X', hL, e1, e2, ⟨⟨r, u, hv, hp, hb⟩, hF⟩, st⟩ | ⟨q, st₀, t, T', L, E, ce, h0, X', hL, e1, e2, ⟨u, hp, hb, hF⟩, hce, hcv, hcl, st⟩
  · cases hv
    obtain ⟨k1, k2, k3⟩ := vx_keep h0 e1 hS hA hf hL hF
    obtain ⟨t2, a1, b1⟩ := kk r u t T'.heap (locs ++ L) e1.symm (by rw [← e2]; exact X'.warmed.alike) hp hb k1 k2 k3 T' rfl X'
    exact ⟨t2, st t2 a1, b1⟩
  · obtain ⟨k1, k2, k3⟩ := vx_keep h0 e1 hS hAX hf hL hF
    obtain ⟨t2, a1, b1⟩ := kx E ce q u t T'.heap (locs ++ L) e1.symm (by rw [← e2]; exact X'.warmed.alike) hp hb k1 k2 k3 (by rw [e1]; exact hce) hcv hcl T' rfl X'
    exact ⟨t2, st.trans a1, b1⟩
theorem vx_callf {S SX : Type} {post : UInt32 → S → Prop} {px : SX → Prop} {B : S → State → Prop} {BX : String → SX → State → Prop} {AX : Nat → Prop} (hr : vx_Run p l e R s m args below meth c H locs cells slots mc ms (F0 m pc ls st0) rest (va_Qf post B A1 a) (vx_X px BX AX) free) (hS : va_S A0 H0 H locs) (hA : ∀ q, q < H.size → A1 q → A0 q) (hf : ∀ q, free q → A0 q) (hAX : ∀ q, q < H.size → AX q → A0 q)
    (kx : ∀ (E : String) (ce : Cell) (q9 : Addr) (u : SX) (t : State) (H1 : Heap) (locs1 : List Loc), t.heap = H1 → s.vm.Alike t.vm → px u → BX E u t → H.size ≤ H1.size → (∀ q : Nat, q < H.size → ¬ AX q → H1[q]? = H[q]?) → va_S A0 H0 H1 locs1 → H1[q9]? = some ce → ce.vm = .none → s.vm.findClass E = some ce.cls → vx_W p l e R s m args below meth c H1 locs1 (cells + mc) (slots + ms) Q (F0 m pc ls rest) q9)
    (kk : ∀ (r : UInt32) (u : S) (t : State) (H1 : Heap) (locs1 : List Loc), t.heap = H1 → s.vm.Alike t.vm → post r u → B u t → H.size ≤ H1.size → (∀ q : Nat, q < H.size → ¬ A1 q → H1[q]? = H[q]?) → va_S A0 H0 H1 locs1 → W p l e R s m args below meth c H1 locs1 (cells + mc) (slots + ms) Q (F0 m (pc + 3) ls (.float r :: rest))) : W p l e R s m args below meth c H locs cells slots Q (F0 m pc ls st0) := by
  intro T hT X
  rcases hr T hT X with ⟨v, st₀, t, T', L, h0, X', hL, e1, e2, ⟨⟨r, u, hv, hp, hb⟩, hF⟩, st⟩ | ⟨q, st₀, t, T', L, E, ce, h0, X', hL, e1, e2, ⟨u, hp, hb, hF⟩, hce, hcv, hcl, st⟩
  · cases hv
    obtain ⟨k1, k2, k3⟩ := vx_keep h0 e1 hS hA hf hL hF
    obtain ⟨t2, a1, b1⟩ := kk r u t T'.heap (locs ++ L) e1.symm (by rw [← e2]; exact X'.warmed.alike) hp hb k1 k2 k3 T' rfl X'
    exact ⟨t2, st t2 a1, b1⟩
  · obtain ⟨k1, k2, k3⟩ := vx_keep h0 e1 hS hAX hf hL hF
    obtain ⟨t2, a1, b1⟩ := kx E ce q u t T'.heap (locs ++ L) e1.symm (by rw [← e2]; exact X'.warmed.alike) hp hb k1 k2 k3 (by rw [e1]; exact hce) hcv hcl T' rfl X'
    exact ⟨t2, st.trans a1, b1⟩
theorem vx_calld {S SX : Type} {post : UInt64 → S → Prop} {px : SX → Prop} {B : S → State → Prop} {BX : String → SX → State → Prop} {AX : Nat → Prop} (hr : vx_Run p l e R s m args below meth c H locs cells slots mc ms (F0 m pc ls st0) rest (va_Qd post B A1 a) (vx_X px BX AX) free) (hS : va_S A0 H0 H locs) (hA : ∀ q, q < H.size → A1 q → A0 q) (hf : ∀ q, free q → A0 q) (hAX : ∀ q, q < H.size → AX q → A0 q)
    (kx : ∀ (E : String) (ce : Cell) (q9 : Addr) (u : SX) (t : State) (H1 : Heap) (locs1 : List Loc), t.heap = H1 → s.vm.Alike t.vm → px u → BX E u t → H.size ≤ H1.size → (∀ q : Nat, q < H.size → ¬ AX q → H1[q]? = H[q]?) → va_S A0 H0 H1 locs1 → H1[q9]? = some ce → ce.vm = .none → s.vm.findClass E = some ce.cls → vx_W p l e R s m args below meth c H1 locs1 (cells + mc) (slots + ms) Q (F0 m pc ls rest) q9)
    (kk : ∀ (r : UInt64) (u : S) (t : State) (H1 : Heap) (locs1 : List Loc), t.heap = H1 → s.vm.Alike t.vm → post r u → B u t → H.size ≤ H1.size → (∀ q : Nat, q < H.size → ¬ A1 q → H1[q]? = H[q]?) → va_S A0 H0 H1 locs1 → W p l e R s m args below meth c H1 locs1 (cells + mc) (slots + ms) Q (F0 m (pc + 3) ls (.double r :: rest))) : W p l e R s m args below meth c H locs cells slots Q (F0 m pc ls st0) := by
  intro T hT X
  rcases hr T hT X with ⟨v, st₀, t, T', L, h0, X', hL, e1, e2, ⟨⟨r, u, hv, hp, hb⟩, hF⟩, st⟩ | ⟨q, st₀, t, T', L, E, ce, h0, X', hL, e1, e2, ⟨u, hp, hb, hF⟩, hce, hcv, hcl, st⟩
  · cases hv
    obtain ⟨k1, k2, k3⟩ := vx_keep h0 e1 hS hA hf hL hF
    obtain ⟨t2, a1, b1⟩ := kk r u t T'.heap (locs ++ L) e1.symm (by rw [← e2]; exact X'.warmed.alike) hp hb k1 k2 k3 T' rfl X'
    exact ⟨t2, st t2 a1, b1⟩
  · obtain ⟨k1, k2, k3⟩ := vx_keep h0 e1 hS hAX hf hL hF
    obtain ⟨t2, a1, b1⟩ := kx E ce q u t T'.heap (locs ++ L) e1.symm (by rw [← e2]; exact X'.warmed.alike) hp hb k1 k2 k3 (by rw [e1]; exact hce) hcv hcl T' rfl X'
    exact ⟨t2, st.trans a1, b1⟩
theorem vx_callv {S SX : Type} {post : S → Prop} {px : SX → Prop} {B : S → State → Prop} {BX : String → SX → State → Prop} {AX : Nat → Prop} (hr : vx_Run p l e R s m args below meth c H locs cells slots mc ms (F0 m pc ls st0) rest (va_Qv post B A1 a) (vx_X px BX AX) free) (hS : va_S A0 H0 H locs) (hA : ∀ q, q < H.size → A1 q → A0 q) (hf : ∀ q, free q → A0 q) (hAX : ∀ q, q < H.size → AX q → A0 q)
    (kx : ∀ (E : String) (ce : Cell) (q9 : Addr) (u : SX) (t : State) (H1 : Heap) (locs1 : List Loc), t.heap = H1 → s.vm.Alike t.vm → px u → BX E u t → H.size ≤ H1.size → (∀ q : Nat, q < H.size → ¬ AX q → H1[q]? = H[q]?) → va_S A0 H0 H1 locs1 → H1[q9]? = some ce → ce.vm = .none → s.vm.findClass E = some ce.cls → vx_W p l e R s m args below meth c H1 locs1 (cells + mc) (slots + ms) Q (F0 m pc ls rest) q9)
    (kk : ∀ (u : S) (t : State) (H1 : Heap) (locs1 : List Loc), t.heap = H1 → s.vm.Alike t.vm → post u → B u t → H.size ≤ H1.size → (∀ q : Nat, q < H.size → ¬ A1 q → H1[q]? = H[q]?) → va_S A0 H0 H1 locs1 → W p l e R s m args below meth c H1 locs1 (cells + mc) (slots + ms) Q (F0 m (pc + 3) ls (rest))) : W p l e R s m args below meth c H locs cells slots Q (F0 m pc ls st0) := by
  intro T hT X
  rcases hr T hT X with ⟨v, st₀, t, T', L, h0, X', hL, e1, e2, ⟨⟨u, hv, hp, hb⟩, hF⟩, st⟩ | ⟨q, st₀, t, T', L, E, ce, h0, X', hL, e1, e2, ⟨u, hp, hb, hF⟩, hce, hcv, hcl, st⟩
  · cases hv
    obtain ⟨k1, k2, k3⟩ := vx_keep h0 e1 hS hA hf hL hF
    obtain ⟨t2, a1, b1⟩ := kk u t T'.heap (locs ++ L) e1.symm (by rw [← e2]; exact X'.warmed.alike) hp hb k1 k2 k3 T' rfl X'
    exact ⟨t2, st t2 a1, b1⟩
  · obtain ⟨k1, k2, k3⟩ := vx_keep h0 e1 hS hAX hf hL hF
    obtain ⟨t2, a1, b1⟩ := kx E ce q u t T'.heap (locs ++ L) e1.symm (by rw [← e2]; exact X'.warmed.alike) hp hb k1 k2 k3 (by rw [e1]; exact hce) hcv hcl T' rfl X'
    exact ⟨t2, st.trans a1, b1⟩
/-- caught by the row x of this method's table; the rows ahead don't take it -/
theorem vx_catch {own name : String} {E : String} {ce : Cell} {q : Addr} (hown : s.vm.findClass own = some m.cls) (pre : List ExceptionTableEntry) (x : ExceptionTableEntry) (suf : List ExceptionTableEntry) (hsplit : c.exceptionTable.toList = pre ++ x :: suf)
    (hpass : ∀ z ∈ pre, covers z pc = false ∨ (z.catchType ≠ 0 ∧ ∃ nm : String, (Cond.classLink own z.catchType nm).before args s = true ∧ va_Nc E nm s)) (hx : covers x pc = true) (h0 : x.catchType ≠ 0)
    (hlink : (Cond.classLink own x.catchType name).before args s = true) (hcast : (Cond.castable E name).before args s = true) (hcell : H[q]? = some ce) (hv : ce.vm = .none) (hcl : s.vm.findClass E = some ce.cls)
    (kk : W p l e R s m args below meth c H locs cells slots Q (F0 m x.handlerPc ls [.ref q])) : vx_W p l e R s m args below meth c H locs cells slots Q (F0 m pc ls rest) q := by
  intro T hT X
  have hpl : e.platform.magicAccessors = ({} : Platform).magicAccessors := by rw [X.admits.platform]
  obtain ⟨c3, c4, hc3, hc4, hasg⟩ := Cond.castable_spec hcast
  cases Option.some.inj (hc3.symm.trans hcl)
  obtain ⟨c5, hc5, hcl5⟩ := Cond.classLink_spec hown hlink e.platform hpl
  cases Option.some.inj (hc4.symm.trans hc5)
  obtain ⟨vm', X', st⟩ := X.thenCaughtThrough q (g := F0 m pc ls rest) rfl (Steps.refl _) (by rw [hT]; exact hcell) (by rw [hv]; rfl) (by obtain ⟨k9, h9, -⟩ := Vm.findClass_spec hcl; exact ⟨k9, h9⟩) pre x suf hsplit
    (fun z hz => by
      rcases hpass z hz with h | ⟨hz0, nm, hl1, hn1⟩
      · exact Or.inl h
      · obtain ⟨c6, hc6, hcl6⟩ := Cond.classLink_spec hown hl1 e.platform hpl
        obtain ⟨a8, b8, h1, h2, h3⟩ := hn1
        cases Option.some.inj (h1.symm.trans hcl)
        cases Option.some.inj (h2.symm.trans hc6)
        exact Or.inr ⟨hz0, _, hcl6, h3⟩) hx (Or.inr ⟨h0, c4, hcl5, hasg⟩)
  obtain ⟨t, a1, b1⟩ := kk (T.setVm vm') hT X'
  exact ⟨t, st.trans a1, b1⟩
end Rows
section Ends
variable {p : Program} {l : Launch} {e : Env} {R : Room} {s : State} {m : MethodId} {args : Array Value} {below : List Frame} {meth : Method} {c : Code} {H : Heap} {locs : List Loc} {cells slots : Nat} {Q : State → Prop}
variable {mc ms : Nat} {free : Addr → Prop} {A0 A1 : Nat → Prop} {H0 : Heap} {a : Array Value} {ls : Array Slot} {st0 rest : List Value}
variable {Qc : Array Value → State → Outcome → State → Prop} {XC : String → State → State → Prop}
/-- what a body that may throw owes at its end -/
def vx_MQ (below : List Frame) (Qc : Array Value → State → Outcome → State → Prop) (XC : String → State → State → Prop) (a : Array Value) (s : State) (mc ms : Nat) (free : Addr → Prop) : State → Prop := fun t =>
  ∃ o, t.status = .running ∧ Ended t below o ∧ vx_Q Qc XC mc ms free a s o t
theorem vx_ret {g : JFrame} {mc ms : Nat} (k : W p l e R s m args below meth c H locs cells slots (MQ below Qc args s mc ms free) g) : W p l e R s m args below meth c H locs cells slots (vx_MQ below Qc XC args s mc ms free) g := by
  intro T hT X
  obtain ⟨t, a1, o, b1, b2, b3, b4⟩ := k T hT X
  exact ⟨t, a1, o, b1, b2, Or.inl ⟨b3, b4⟩⟩
/-- not caught here: it goes on to the caller -/
theorem vx_widen {g : JFrame} {q : Addr} {k n : Nat} (h1 : cells ≤ k) (h2 : slots ≤ n) (kk : vx_W p l e R s m args below meth c H locs k n Q g q) : vx_W p l e R s m args below meth c H locs cells slots Q g q := fun T hT X => kk T hT (stand_widen X h1 h2)
theorem vx_out {pc : Nat} {E : String} {ce : Cell} {q : Addr} {mc ms : Nat} (hout : ∀ x ∈ c.exceptionTable.toList, covers x pc = false) (hlocks : meth.locks = false) (hcell : H[q]? = some ce) (hv : ce.vm = .none) (hcl : s.vm.findClass E = some ce.cls)
    (hx : ∀ t : State, t.heap = H → s.vm.Alike t.vm → XC E s t) (hf : ∀ z ∈ locs, free z.base) (hc : cells ≤ mc) (hs : slots ≤ ms) :
    vx_W p l e R s m args below meth c H locs cells slots (vx_MQ below Qc XC args s mc ms free) (F0 m pc ls rest) q := by
  intro T hT X
  obtain ⟨st1, hrun, hend, hW, hsm⟩ := X.leaveThrown q (g := F0 m pc ls rest) rfl rfl rfl hout hlocks
  have hcell9 : (T.setFrames (.throwing q :: below)).heap[q]? = some ce := by
    show T.heap[q]? = some ce
    rw [hT]; exact hcell
  exact ⟨_, st1, .threw q, hrun, hend, Or.inr ⟨q, rfl, E, ce, locs, hx _ hT hW.alike, hcell9, hv, hcl, hW, hsm.mono hc hs, hf⟩⟩
theorem vx_frame {U : State} {k n : Nat} (h : s.sameButNew ({ U with vm := s.vm } : State) locs k n) : s.heap.size ≤ U.heap.size ∧ ∀ q : Nat, q < s.heap.size → (∀ z ∈ locs, z.base ≠ q) → U.heap[q]? = s.heap[q]? := by
  obtain ⟨-, h2, -, -, -, h6⟩ := h
  refine ⟨h2, fun q hq hz => ?_⟩
  obtain ⟨c9, e1, e2, e3, e4⟩ := h6 q _ (Array.getElem?_eq_getElem hq)
  have hs : c9.slots = (s.heap[q]).slots := Array.ext_getElem? fun i => e4 i fun hm => hz _ hm rfl
  have h9 : c9 = s.heap[q] := by
    rw [hs] at e2
    exact e2
  have e5 : U.heap[q]? = some c9 := e1
  rw [e5, h9, Array.getElem?_eq_getElem hq]
/-- the words of a throw but the four that speak of the heap -/
def vx_no (w : Cond) : Bool := decide (w ≠ .isRef (.static Bundle.tN "UNASSIGNED_STACK" Bundle.steD)) && decide (w ≠ .isRef (.static Bundle.tN "SUPPRESSED_SENTINEL" Bundle.listD)) && decide (w ≠ .laysStatic Bundle.tN "UNASSIGNED_STACK" Bundle.steD) && decide (w ≠ .laysStatic Bundle.tN "SUPPRESSED_SENTINEL" Bundle.listD)
def vx_at0 (own : String) (ic : Nat) (X : String) (names : List String) : List Cond := (Bundle.ownAtoms0 own ic X names).filter vx_no
def vx_atS (own : String) (ic : Nat) (X : String) (names : List String) : List Cond := (Bundle.ownAtoms own ic X names).filter vx_no
/-- a word that the tables alone decide, or a good one -/
def vx_ot (w : Cond) : Bool := w.onTables || goodWord w
theorem vx_ot_at {args a' : Array Value} {s U : State} {w : Cond} (hW : s.WarmedH U.vm) (hvm : s.vm = U.vm) (hg : vx_ot w = true) (h : w.before args s = true) : w.before a' U = true := by
  simp only [vx_ot, Bool.or_eq_true] at hg
  rcases hg with hg | hg
  · exact va_tabs hg hvm h
  · exact word_at hW (good_of_word hg) h
/-- a list's words: the good ones out of the method's own list, the others by premises of their own -/
theorem vx_hat {args : Array Value} {s : State} {L B : List Cond} (h1 : ∀ w ∈ L.filter goodWord, w.before args s = true) (h2 : ∀ w ∈ L.filter (fun w => !goodWord w), w ∈ B) (h3 : ∀ w ∈ B, w.before args s = true) : ∀ w ∈ L, w.before args s = true := by
  intro w hw
  by_cases g : goodWord w = true
  · exact h1 w (List.mem_filter.mpr ⟨hw, g⟩)
  · refine h3 w (h2 w (List.mem_filter.mpr ⟨hw, ?_⟩))
    show (!goodWord w) = true
    cases hgw : goodWord w
    · rfl
    · exact absurd hgw g
theorem vx_c {args : Array Value} {s : State} {w : Cond} {B : List Cond} (h : w.before args s = true) (t : ∀ w ∈ B, w.before args s = true) : ∀ w' ∈ w :: B, w'.before args s = true := fun w' h' => (List.mem_cons.mp h').elim (fun e => by rw [e]; exact h) (t w')
theorem vx_n {args : Array Value} {s : State} : ∀ w ∈ ([] : List Cond), w.before args s = true := fun _ h => nomatch h
theorem vx_own {args : Array Value} {s : State} {L : List Cond} (h1 : ∀ w ∈ L.filter vx_no, w.before args s = true)
    (hU : (Cond.isRef (.static Bundle.tN "UNASSIGNED_STACK" Bundle.steD)).before args s = true) (hN : (Cond.isRef (.static Bundle.tN "SUPPRESSED_SENTINEL" Bundle.listD)).before args s = true)
    (lU : (Cond.laysStatic Bundle.tN "UNASSIGNED_STACK" Bundle.steD).before args s = true) (lN : (Cond.laysStatic Bundle.tN "SUPPRESSED_SENTINEL" Bundle.listD).before args s = true) : ∀ w ∈ L, w.before args s = true := by
  intro w hw
  by_cases e1 : w = .isRef (.static Bundle.tN "UNASSIGNED_STACK" Bundle.steD)
  · rw [e1]; exact hU
  · by_cases e2 : w = .isRef (.static Bundle.tN "SUPPRESSED_SENTINEL" Bundle.listD)
    · rw [e2]; exact hN
    · by_cases e3 : w = .laysStatic Bundle.tN "UNASSIGNED_STACK" Bundle.steD
      · rw [e3]; exact lU
      · by_cases e4 : w = .laysStatic Bundle.tN "SUPPRESSED_SENTINEL" Bundle.listD
        · rw [e4]; exact lN
        · exact h1 w (List.mem_filter.mpr ⟨hw, by unfold vx_no; rw [decide_eq_true e1, decide_eq_true e2, decide_eq_true e3, decide_eq_true e4]; rfl⟩)
/-- where a static field lies, its class's statics cell in H -/
def vx_L (C n d : String) (A : Nat → Prop) (U : State) (H : Heap) : Prop := ∃ (c : ClassId) (k : Class) (i : Nat) (f : Field) (a : Nat) (cell : Cell), U.vm.findClass C = some c ∧ U.fieldFound? C n d = some (c, k, i, f) ∧ f.isStatic = true ∧ k.statics = some a ∧ H[a]? = some cell ∧ cell.vm.isStatics = true ∧ cell.cls = c ∧ f.slot < cell.slots.size ∧ k.staticTypes[f.slot]? = some f.type ∧ ¬ A a
theorem vx_L.moved {C n d : String} {A : Nat → Prop} {u U : State} {H : Heap} (hvm : u.vm.Alike U.vm) (h : vx_L C n d A u H) : vx_L C n d A U H := by
  obtain ⟨c, k, i, f, a, cell, h1, h2, h3, h4, h5, h6, h7, h8, h9, h10⟩ := h
  obtain ⟨k', hi', he⟩ := State.fieldFound?_setVm hvm h2
  exact ⟨c, k', i, f, a, cell, by rw [hvm.findClass]; exact h1, hi', h3, by rw [he]; exact h4, h5, h6, h7, h8, by rw [he]; exact h9, h10⟩
theorem vx_L.kept {C n d : String} {A : Nat → Prop} {U : State} {H H1 : Heap} (h : vx_L C n d A U H) (hq : ∀ a : Nat, a < H.size → ¬ A a → H1[a]? = H[a]?) : vx_L C n d A U H1 := by
  obtain ⟨c, k, i, f, a, cell, h1, h2, h3, h4, h5, h6, h7, h8, h9, h10⟩ := h
  exact ⟨c, k, i, f, a, cell, h1, h2, h3, h4, by rw [hq a (Array.getElem?_eq_some_iff.mp h5).1 h10]; exact h5, h6, h7, h8, h9, h10⟩
theorem vx_L.narrow {C n d : String} {A B : Nat → Prop} {U : State} {H : Heap} (h : vx_L C n d A U H) (hAB : ∀ q, B q → A q) : vx_L C n d B U H := by
  obtain ⟨c, k, i, f, a, cell, h1, h2, h3, h4, h5, h6, h7, h8, h9, h10⟩ := h
  exact ⟨c, k, i, f, a, cell, h1, h2, h3, h4, h5, h6, h7, h8, h9, fun z => h10 (hAB _ z)⟩
theorem vx_L.word {C n d : String} {A : Nat → Prop} {s : State} {args : Array Value} (h : vx_L C n d A s s.heap) : (Cond.laysStatic C n d).before args s = true := by
  obtain ⟨c, k, i, f, a, cell, h1, h2, h3, h4, h5, h6, h7, h8, h9, -⟩ := h
  show (Cond.laysStatic C n d).holds args s none s [] = true
  exact Cond.laysStatic_of h1 h2 h3 h4 h5 h6 h7 h8 h9
/-- .. and what it holds: null or some reference -/
def vx_Zq (C n d : String) (A : Nat → Prop) (U : State) (H : Heap) : Prop := va_Zq C n d A U H ∧ vx_L C n d A U H
theorem vx_Zq.moved {C n d : String} {A : Nat → Prop} {u U : State} {H : Heap} (hvm : u.vm.Alike U.vm) (h : vx_Zq C n d A u H) : vx_Zq C n d A U H := ⟨va_Zq.moved hvm h.1, vx_L.moved hvm h.2⟩
theorem vx_Zq.kept {C n d : String} {A : Nat → Prop} {U : State} {H H1 : Heap} (h : vx_Zq C n d A U H) (hq : ∀ a : Nat, a < H.size → ¬ A a → H1[a]? = H[a]?) : vx_Zq C n d A U H1 := ⟨va_Zq.kept h.1 hq, vx_L.kept h.2 hq⟩
theorem vx_Zq.narrow {C n d : String} {A B : Nat → Prop} {U : State} {H : Heap} (h : vx_Zq C n d A U H) (hAB : ∀ q, B q → A q) : vx_Zq C n d B U H := ⟨va_Zq.narrow h.1 hAB, vx_L.narrow h.2 hAB⟩
theorem vx_Zqof {args : Array Value} {s : State} {C n d : String} {A : Nat → Prop} (hl : (Cond.laysStatic C n d).before args s = true) (hini : (Cond.initialized C).before args s = true) (h : (Cond.isRef (.static C n d)).before args s = true) (hA : ∀ a : Nat, a < s.heap.size → ¬ A a) : vx_Zq C n d A s s.heap := by
  refine ⟨va_Zqof hl hini h hA, ?_⟩
  obtain ⟨c, k, i, f, a, cell, h1, h2, h3, h4, h5, h6, h7, h8, h9⟩ := Cond.laysStatic_spec hl
  exact ⟨c, k, i, f, a, cell, h1, h2, h3, h4, h5, h6, h7, h8, h9, hA a (Array.getElem?_eq_some_iff.mp h5).1⟩
theorem vx_isRef {C n d : String} {v : Value} {A : Nat → Prop} {s : State} {args : Array Value} (h : va_Z C n d v A s s.heap) (hv : v.isRef = true) : (Cond.isRef (.static C n d)).before args s = true := by
  obtain ⟨cf, kf, fi, f, a, cell, h1, h2, h3, h4, h5, h6, h7, -⟩ := h
  have he : (Term.static C n d).eval args s none [] s = some v := by
    simp [Term.eval, State.fieldNamed?, h1, h2, h4, h5, h6, h7]
  simp only [Cond.before, Cond.holds, Cond.value, he]
  cases v <;> simp_all [Value.isRef]
theorem vx_isRefq {C n d : String} {A : Nat → Prop} {s : State} {args : Array Value} (h : va_Zq C n d A s s.heap) : (Cond.isRef (.static C n d)).before args s = true := by
  rcases h with h | ⟨t, h⟩
  · exact vx_isRef h rfl
  · exact vx_isRef h rfl
/-- the same frame, seen from here: as if the method were called anew in this heap -/
theorem vx_rebase {T : State} (X : Stand p l e R s m args below meth c T locs cells slots) {R' : Room} (hf : R'.frames ≤ R.frames) (hl : R'.locals ≤ R.locals) (hc : cells + R'.cells ≤ R.cells) (hs : slots + R'.slots ≤ R.slots) :
    Stand p l e R' ((T.setVm s.vm).setFrames (.invoking m args :: below)) m args below meth c T [] 0 0 := by
  have htop : (T.setVm s.vm).topJava?.isSome := X.here.top
  have hF : ((T.setVm s.vm).setFrames (.invoking m args :: below)).frames = .invoking m args :: below := State.frames_setFrames _ (State.cur_lt_of_top htop)
  obtain ⟨g₀, hg0⟩ := Option.isSome_iff_exists.mp htop
  obtain ⟨r, hr⟩ := State.topJava?_eq_some.mp hg0
  have hl9 : e.platform.stackLimits (T.setVm s.vm).me = e.platform.stackLimits s.me := X.limits
  have hb9 : (T.setVm s.vm).me.stackBytes = s.me.stackBytes := X.bytes
  refine ⟨X.admits, X.cas, X.clock, hF, ?_, X.hears, X.method, X.code, X.here, X.tail, X.warmed, ?_, ?_, ?_⟩
  · have h := X.room
    have hU : ((T.setVm s.vm).setFrames (.invoking m args :: below)).localsInUse = s.localsInUse := by
      rw [State.localsInUse_invoking hF (meth := meth) (c := c) X.method X.code, State.localsInUse_invoking X.frames X.method X.code]
    simp only [State.hasRoom, Bool.and_eq_true, decide_eq_true_eq] at h ⊢
    obtain ⟨⟨⟨⟨h1, h2, h3, h4, h5, h6⟩, h7⟩, h8⟩, h9⟩ := h
    rw [X.frames, List.length_cons] at h2 h3
    have q1 := X.heapSize
    have q2 := X.used
    simp only [hF, hU, List.length_cons, State.stackLimits_setFrames, State.stackBytes_setFrames, hl9, hb9]
    refine ⟨⟨⟨⟨by omega, by omega, by omega, by omega, by omega, h6⟩, ?_⟩, ?_⟩, X.book⟩
    · show T.heap.size + R'.cells ≤ e.platform.maxCells
      omega
    · show T.slotsUsed + R'.slots ≤ e.platform.maxSlots
      omega
  · rw [State.stackLimits_setFrames]; rfl
  · rw [State.stackBytes_setFrames]; rfl
  · refine ⟨?_, Nat.le_refl _, Nat.le_refl _, ?_, ?_, fun a c9 h9 => ⟨c9, h9, rfl, rfl, fun _ _ => rfl⟩⟩
    · obtain ⟨t, ht, -⟩ := State.frames_cons hr
      show T.setVm s.vm = { ((T.setVm s.vm).setFrames (.invoking m args :: below)).setFrames (T.setVm s.vm).frames with heap := T.heap, slotsUsed := T.slotsUsed }
      rw [State.setFrames_setFrames, State.setFrames_self ht]
      rfl
    · show T.slotsUsed = T.slotsUsed + ((T.heap.toList.drop T.heap.size).map (·.slots.size)).sum
      rw [List.drop_eq_nil_of_le (Nat.le_of_eq Array.length_toList)]
      rfl
    · show ((T.heap.toList.drop T.heap.size).map (·.slots.size)).sum ≤ 0
      rw [List.drop_eq_nil_of_le (Nat.le_of_eq Array.length_toList)]
      exact Nat.le_refl _
/-- 'throw new E()': new; dup; invokespecial; athrow -/
theorem vx_throw0 {cc : ByteArray} {pc : Nat} (hexec : p.tables.exec = Jvm.exec) (hb : c.code = cc) (hl : l.stackTraces = false) {own cls : String} {names : List String} {ik ic mc ms : Nat} {A : Nat → Prop}
    (hown : s.vm.findClass own = some m.cls) (hcls : Bundle.fit cls = true) (hnames : ∀ n ∈ names, Bundle.fit n = true)
    (hk : (Cond.classLink own ik cls).before args s = true) (hini : (Cond.initialized cls).before args s = true) (hat : ∀ w ∈ vx_at0 own ic cls names, w.before args s = true)
    (hgood : ∀ w ∈ Cond.classLink own ik cls :: Cond.initialized cls :: vx_at0 own ic cls names, vx_ot w = true)
    (hU : vx_Zq Bundle.tN "UNASSIGNED_STACK" Bundle.steD A s s.heap) (hN : vx_Zq Bundle.tN "SUPPRESSED_SENTINEL" Bundle.listD A s s.heap) (hS : va_S A s.heap H locs) (hsize : ls.size = c.maxLocals)
    (d0 : decode cc pc = .ok (.new ik, 3)) (d3 : decode cc (pc + 3) = .ok (.dup, 1)) (d4 : decode cc (pc + 4) = .ok (.invokespecial ic, 3)) (d7 : decode cc (pc + 7) = .ok (.athrow, 1))
    (hout : ∀ x ∈ c.exceptionTable.toList, covers x (pc + 7) = false)
    (hRframes : names.length + 3 < R.frames) (hRlocals : (rest.map fun v => v.category).sum + (13 * (names.length + 1) + 42) ≤ R.locals) (hRcells : cells + 1 ≤ R.cells) (hRslots : slots + 6 ≤ R.slots) (hlocks : meth.locks = false)
    (hx : ∀ t : State, s.vm.Alike t.vm → H.size ≤ t.heap.size → (∀ q : Nat, q < H.size → t.heap[q]? = H[q]?) → XC cls s t)
    (hf : ∀ z ∈ locs, free z.base) (hc : cells + 1 ≤ mc) (hs : slots + 6 ≤ ms) :
    W p l e R s m args below meth c H locs cells slots (vx_MQ below Qc XC args s mc ms free) (F0 m pc ls rest) := by
  intro T hT X
  have htr : e.platform.stackTraces = false := (show e.platform.stackTraces = l.stackTraces by rw [X.admits.platform]).trans hl
  have Y := vx_rebase X (R' := { frames := R.frames, locals := R.locals, cells := 1, slots := 6 }) (Nat.le_refl _) (Nat.le_refl _) hRcells hRslots
  obtain ⟨s', hA⟩ : ∃ z, z = (T.setVm s.vm).setFrames (.invoking m args :: below) := ⟨_, rfl⟩
  rw [← hA] at Y
  have hvm : s'.vm = s.vm := by rw [hA]; rfl
  have hhp : s'.heap = H := by rw [hA]; exact hT
  have hW0 : s.WarmedH s'.vm := by rw [hvm]; exact State.WarmedH.refl s
  have hat' : ∀ w ∈ vx_at0 own ic cls names, w.before args s' = true := fun w hw => vx_ot_at hW0 hvm.symm (hgood w (List.mem_cons_of_mem _ (List.mem_cons_of_mem _ hw))) (hat w hw)
  have hk' : (Cond.classLink own ik cls).before args s' = true := vx_ot_at hW0 hvm.symm (hgood _ List.mem_cons_self) hk
  have hini' : (Cond.initialized cls).before args s' = true := vx_ot_at hW0 hvm.symm (hgood _ (List.mem_cons_of_mem _ List.mem_cons_self)) hini
  have hU' : vx_Zq Bundle.tN "UNASSIGNED_STACK" Bundle.steD A s' s'.heap := by rw [hhp]; exact vx_Zq.moved hW0.alike (hU.kept hS.2.1)
  have hN' : vx_Zq Bundle.tN "SUPPRESSED_SENTINEL" Bundle.listD A s' s'.heap := by rw [hhp]; exact vx_Zq.moved hW0.alike (hN.kept hS.2.1)
  have h : ∀ w ∈ Bundle.ownAtoms0 own ic cls names, w.before args s' = true := vx_own hat' (vx_isRefq hU'.1) (vx_isRefq hN'.1) hU'.2.word hN'.2.word
  have hown' : s'.vm.findClass own = some m.cls := by rw [hvm]; exact hown
  have hins : (Cond.instantiable cls 6).before args s' = true := h _ (by simp [Bundle.ownAtoms0])
  obtain ⟨vm₁, cX, kX, hfX, hkX, -, -, X₁, st1⟩ := Y.newCold hexec (own := own) (C := cls) (index := ik) (n := 6) hown' hk' hins hini'
    (g := F0 m pc ls rest) rfl (by rw [hb]; exact d0) (Nat.le_refl _) (Nat.le_refl _)
  generalize hT1 : (T.setVm vm₁).pushCell { cls := cX, slots := kX.instanceTypes.map defaultValue, vm := .none } = T1 at X₁ st1
  have hcat : (Value.ref T.heap.size).category = 1 := rfl
  have hcellA : T1.heap[T.heap.size]? = some (freshCell cX kX) := by rw [← hT1]; exact State.heap_pushCell_size _ _
  have d3' : decode c.code (pc + 3) = .ok (.dup, 1) := by rw [hb]; exact d3
  obtain ⟨U, hsteps, hrun, hend, hW, hsame, ce, hce, hO⟩ := X₁.ctorThrow0 hexec htr (own := own) (cls := cls) (names := names) (ic := ic) hown' hcls hnames h (fun x hx => nomatch hx) hfX hkX hcellA (by rw [hhp, hT]; exact Nat.le_refl _)
    (g := { method := m, pc := pc + 4, locals := ls, stack := .ref T.heap.size :: .ref T.heap.size :: rest, locked := none }) rfl hsize rfl rfl (rest := rest) rfl
    (by rw [hb]; exact d4) (by rw [hb]; exact d7) hout hRframes (by simp only [List.map_cons, List.sum_cons, hcat]; omega) hlocks
  obtain ⟨f1, f2⟩ := vx_frame hsame
  rw [hhp] at f1 f2
  have hWs : s.WarmedH U.vm := State.WarmedH.trans hW0 hW
  have hcl : s.vm.findClass cls = some ce.cls := by
    have h9 := hO.cls
    rw [hvm] at h9
    exact h9
  have hall : s.sameButNew ({ U with vm := s.vm } : State) locs mc ms := by
    subst hA
    obtain ⟨e1, e2⟩ := hsame
    rw [State.setFrames_setFrames] at e1
    have h2 : (T.setVm s.vm).sameButNew ({ U with vm := s.vm } : State) [] (0 + 1) (0 + 6) := ⟨e1, e2⟩
    have h3 := X.same.trans h2
    rw [List.append_nil] at h3
    exact h3.mono hc hs
  refine ⟨U, ?_, .threw T.heap.size, hrun, hend, Or.inr ⟨T.heap.size, rfl, cls, ce, locs, hx U hWs.alike f1 (fun q hq => f2 q hq (fun z hz => nomatch hz)), hce, hO.vm, hcl, hWs, hall, hf⟩⟩
  refine st1 _ ?_
  show Steps p.tables e below (T1.setTop { method := m, pc := pc + 3, locals := ls, stack := .ref T.heap.size :: rest, locked := none }) _
  jvm_step X₁.here [X₁.here.top, hexec, d3', Value.category]
  exact hsteps
/-- 'throw new E("text")': new; dup; ldc; invokespecial; athrow -/
theorem vx_throwS {cc : ByteArray} {pc : Nat} (hexec : p.tables.exec = Jvm.exec) (hb : c.code = cc) (hl : l.stackTraces = false) {own cls text : String} {names : List String} {ik is ic mc ms sa : Nat} {A : Nat → Prop}
    (hown : s.vm.findClass own = some m.cls) (hcls : Bundle.fit cls = true) (hnames : ∀ n ∈ names, Bundle.fit n = true)
    (hk : (Cond.classLink own ik cls).before args s = true) (hini : (Cond.initialized cls).before args s = true) (hstr : vk_R own is text sa s) (hat : ∀ w ∈ vx_atS own ic cls names, w.before args s = true)
    (hgood : ∀ w ∈ Cond.classLink own ik cls :: Cond.initialized cls :: vx_atS own ic cls names, vx_ot w = true)
    (hU : vx_Zq Bundle.tN "UNASSIGNED_STACK" Bundle.steD A s s.heap) (hN : vx_Zq Bundle.tN "SUPPRESSED_SENTINEL" Bundle.listD A s s.heap) (hS : va_S A s.heap H locs) (hsize : ls.size = c.maxLocals)
    (d0 : decode cc pc = .ok (.new ik, 3)) (d3 : decode cc (pc + 3) = .ok (.dup, 1)) (d4 : decode cc (pc + 4) = .ok (.ldc is, 2)) (d6 : decode cc (pc + 6) = .ok (.invokespecial ic, 3)) (d9 : decode cc (pc + 9) = .ok (.athrow, 1))
    (hout : ∀ x ∈ c.exceptionTable.toList, covers x (pc + 9) = false)
    (hRframes : names.length + 3 < R.frames) (hRlocals : (rest.map fun v => v.category).sum + (13 * (names.length + 1) + 43) ≤ R.locals) (hRcells : cells + 1 ≤ R.cells) (hRslots : slots + 6 ≤ R.slots) (hlocks : meth.locks = false)
    (hx : ∀ t : State, s.vm.Alike t.vm → H.size ≤ t.heap.size → (∀ q : Nat, q < H.size → t.heap[q]? = H[q]?) → XC cls s t)
    (hf : ∀ z ∈ locs, free z.base) (hc : cells + 1 ≤ mc) (hs : slots + 6 ≤ ms) :
    W p l e R s m args below meth c H locs cells slots (vx_MQ below Qc XC args s mc ms free) (F0 m pc ls rest) := by
  intro T hT X
  have htr : e.platform.stackTraces = false := (show e.platform.stackTraces = l.stackTraces by rw [X.admits.platform]).trans hl
  have Y := vx_rebase X (R' := { frames := R.frames, locals := R.locals, cells := 1, slots := 6 }) (Nat.le_refl _) (Nat.le_refl _) hRcells hRslots
  obtain ⟨s', hA⟩ : ∃ z, z = (T.setVm s.vm).setFrames (.invoking m args :: below) := ⟨_, rfl⟩
  rw [← hA] at Y
  have hvm : s'.vm = s.vm := by rw [hA]; rfl
  have hhp : s'.heap = H := by rw [hA]; exact hT
  have hW0 : s.WarmedH s'.vm := by rw [hvm]; exact State.WarmedH.refl s
  have hat' : ∀ w ∈ vx_atS own ic cls names, w.before args s' = true := fun w hw => vx_ot_at hW0 hvm.symm (hgood w (List.mem_cons_of_mem _ (List.mem_cons_of_mem _ hw))) (hat w hw)
  have hk' : (Cond.classLink own ik cls).before args s' = true := vx_ot_at hW0 hvm.symm (hgood _ List.mem_cons_self) hk
  have hini' : (Cond.initialized cls).before args s' = true := vx_ot_at hW0 hvm.symm (hgood _ (List.mem_cons_of_mem _ List.mem_cons_self)) hini
  have hU' : vx_Zq Bundle.tN "UNASSIGNED_STACK" Bundle.steD A s' s'.heap := by rw [hhp]; exact vx_Zq.moved hW0.alike (hU.kept hS.2.1)
  have hN' : vx_Zq Bundle.tN "SUPPRESSED_SENTINEL" Bundle.listD A s' s'.heap := by rw [hhp]; exact vx_Zq.moved hW0.alike (hN.kept hS.2.1)
  have h : ∀ w ∈ Bundle.ownAtoms own ic cls names, w.before args s' = true := vx_own hat' (vx_isRefq hU'.1) (vx_isRefq hN'.1) hU'.2.word hN'.2.word
  have hown' : s'.vm.findClass own = some m.cls := by rw [hvm]; exact hown
  have hins : (Cond.instantiable cls 6).before args s' = true := h _ (by simp [Bundle.ownAtoms])
  obtain ⟨vm₁, cX, kX, hfX, hkX, -, -, X₁, st1⟩ := Y.newCold hexec (own := own) (C := cls) (index := ik) (n := 6) hown' hk' hins hini'
    (g := F0 m pc ls rest) rfl (by rw [hb]; exact d0) (Nat.le_refl _) (Nat.le_refl _)
  generalize hT1 : (T.setVm vm₁).pushCell { cls := cX, slots := kX.instanceTypes.map defaultValue, vm := .none } = T1 at X₁ st1
  have hcat : (Value.ref T.heap.size).category = 1 := rfl
  have hcellA : T1.heap[T.heap.size]? = some (freshCell cX kX) := by rw [← hT1]; exact State.heap_pushCell_size _ _
  have d3' : decode c.code (pc + 3) = .ok (.dup, 1) := by rw [hb]; exact d3
  have d4' : decode c.code (pc + 4) = .ok (.ldc is, 2) := by rw [hb]; exact d4
  have hstr' : vk_R own is text sa s' := vk_R.warm hW0 hstr
  obtain ⟨U, hsteps, hrun, hend, hW, hsame, ce, hce, hO⟩ := X₁.ctorThrowS hexec htr (own := own) (cls := cls) (names := names) (ic := ic) hown' hcls hnames h (fun x hx => nomatch hx) hfX hkX hcellA (by rw [hhp, hT]; exact Nat.le_refl _) (msg := .ref sa) rfl
    (g := { method := m, pc := pc + 6, locals := ls, stack := .ref sa :: .ref T.heap.size :: .ref T.heap.size :: rest, locked := none }) rfl hsize rfl rfl (rest := rest) rfl
    (by rw [hb]; exact d6) (by rw [hb]; exact d9) hout hRframes (by simp only [List.map_cons, List.sum_cons, hcat]; omega) hlocks
  obtain ⟨f1, f2⟩ := vx_frame hsame
  rw [hhp] at f1 f2
  have hWs : s.WarmedH U.vm := State.WarmedH.trans hW0 hW
  have hcl : s.vm.findClass cls = some ce.cls := by
    have h9 := hO.cls
    rw [hvm] at h9
    exact h9
  have hall : s.sameButNew ({ U with vm := s.vm } : State) locs mc ms := by
    subst hA
    obtain ⟨e1, e2⟩ := hsame
    rw [State.setFrames_setFrames] at e1
    have h2 : (T.setVm s.vm).sameButNew ({ U with vm := s.vm } : State) [] (0 + 1) (0 + 6) := ⟨e1, e2⟩
    have h3 := X.same.trans h2
    rw [List.append_nil] at h3
    exact h3.mono hc hs
  refine ⟨U, ?_, .threw T.heap.size, hrun, hend, Or.inr ⟨T.heap.size, rfl, cls, ce, locs, hx U hWs.alike f1 (fun q hq => f2 q hq (fun z hz => nomatch hz)), hce, hO.vm, hcl, hWs, hall, hf⟩⟩
  refine st1 _ ?_
  show Steps p.tables e below (T1.setTop { method := m, pc := pc + 3, locals := ls, stack := .ref T.heap.size :: rest, locked := none }) _
  jvm_step X₁.here [X₁.here.top, hexec, d3', Value.category]
  exact X₁.ldcString hexec (own := own) (text := text) (index := is) (a := sa) hown' hstr'.1 hstr'.2
    (g := { method := m, pc := pc + 4, locals := ls, stack := .ref T.heap.size :: .ref T.heap.size :: rest, locked := none }) rfl d4' _ hsteps
/-- 'throw new E("text")', the text by a wide index -/
theorem vx_throwSW {cc : ByteArray} {pc : Nat} (hexec : p.tables.exec = Jvm.exec) (hb : c.code = cc) (hl : l.stackTraces = false) {own cls text : String} {names : List String} {ik is ic mc ms sa : Nat} {A : Nat → Prop}
    (hown : s.vm.findClass own = some m.cls) (hcls : Bundle.fit cls = true) (hnames : ∀ n ∈ names, Bundle.fit n = true)
    (hk : (Cond.classLink own ik cls).before args s = true) (hini : (Cond.initialized cls).before args s = true) (hstr : vk_R own is text sa s) (hat : ∀ w ∈ vx_atS own ic cls names, w.before args s = true)
    (hgood : ∀ w ∈ Cond.classLink own ik cls :: Cond.initialized cls :: vx_atS own ic cls names, vx_ot w = true)
    (hU : vx_Zq Bundle.tN "UNASSIGNED_STACK" Bundle.steD A s s.heap) (hN : vx_Zq Bundle.tN "SUPPRESSED_SENTINEL" Bundle.listD A s s.heap) (hS : va_S A s.heap H locs) (hsize : ls.size = c.maxLocals)
    (d0 : decode cc pc = .ok (.new ik, 3)) (d3 : decode cc (pc + 3) = .ok (.dup, 1)) (d4 : decode cc (pc + 4) = .ok (.ldc_w is, 3)) (d7 : decode cc (pc + 7) = .ok (.invokespecial ic, 3)) (d10 : decode cc (pc + 10) = .ok (.athrow, 1))
    (hout : ∀ x ∈ c.exceptionTable.toList, covers x (pc + 10) = false)
    (hRframes : names.length + 3 < R.frames) (hRlocals : (rest.map fun v => v.category).sum + (13 * (names.length + 1) + 43) ≤ R.locals) (hRcells : cells + 1 ≤ R.cells) (hRslots : slots + 6 ≤ R.slots) (hlocks : meth.locks = false)
    (hx : ∀ t : State, s.vm.Alike t.vm → H.size ≤ t.heap.size → (∀ q : Nat, q < H.size → t.heap[q]? = H[q]?) → XC cls s t)
    (hf : ∀ z ∈ locs, free z.base) (hc : cells + 1 ≤ mc) (hs : slots + 6 ≤ ms) :
    W p l e R s m args below meth c H locs cells slots (vx_MQ below Qc XC args s mc ms free) (F0 m pc ls rest) := by
  intro T hT X
  have htr : e.platform.stackTraces = false := (show e.platform.stackTraces = l.stackTraces by rw [X.admits.platform]).trans hl
  have Y := vx_rebase X (R' := { frames := R.frames, locals := R.locals, cells := 1, slots := 6 }) (Nat.le_refl _) (Nat.le_refl _) hRcells hRslots
  obtain ⟨s', hA⟩ : ∃ z, z = (T.setVm s.vm).setFrames (.invoking m args :: below) := ⟨_, rfl⟩
  rw [← hA] at Y
  have hvm : s'.vm = s.vm := by rw [hA]; rfl
  have hhp : s'.heap = H := by rw [hA]; exact hT
  have hW0 : s.WarmedH s'.vm := by rw [hvm]; exact State.WarmedH.refl s
  have hat' : ∀ w ∈ vx_atS own ic cls names, w.before args s' = true := fun w hw => vx_ot_at hW0 hvm.symm (hgood w (List.mem_cons_of_mem _ (List.mem_cons_of_mem _ hw))) (hat w hw)
  have hk' : (Cond.classLink own ik cls).before args s' = true := vx_ot_at hW0 hvm.symm (hgood _ List.mem_cons_self) hk
  have hini' : (Cond.initialized cls).before args s' = true := vx_ot_at hW0 hvm.symm (hgood _ (List.mem_cons_of_mem _ List.mem_cons_self)) hini
  have hU' : vx_Zq Bundle.tN "UNASSIGNED_STACK" Bundle.steD A s' s'.heap := by rw [hhp]; exact vx_Zq.moved hW0.alike (hU.kept hS.2.1)
  have hN' : vx_Zq Bundle.tN "SUPPRESSED_SENTINEL" Bundle.listD A s' s'.heap := by rw [hhp]; exact vx_Zq.moved hW0.alike (hN.kept hS.2.1)
  have h : ∀ w ∈ Bundle.ownAtoms own ic cls names, w.before args s' = true := vx_own hat' (vx_isRefq hU'.1) (vx_isRefq hN'.1) hU'.2.word hN'.2.word
  have hown' : s'.vm.findClass own = some m.cls := by rw [hvm]; exact hown
  have hins : (Cond.instantiable cls 6).before args s' = true := h _ (by simp [Bundle.ownAtoms])
  obtain ⟨vm₁, cX, kX, hfX, hkX, -, -, X₁, st1⟩ := Y.newCold hexec (own := own) (C := cls) (index := ik) (n := 6) hown' hk' hins hini'
    (g := F0 m pc ls rest) rfl (by rw [hb]; exact d0) (Nat.le_refl _) (Nat.le_refl _)
  generalize hT1 : (T.setVm vm₁).pushCell { cls := cX, slots := kX.instanceTypes.map defaultValue, vm := .none } = T1 at X₁ st1
  have hcat : (Value.ref T.heap.size).category = 1 := rfl
  have hcellA : T1.heap[T.heap.size]? = some (freshCell cX kX) := by rw [← hT1]; exact State.heap_pushCell_size _ _
  have d3' : decode c.code (pc + 3) = .ok (.dup, 1) := by rw [hb]; exact d3
  have d4' : decode c.code (pc + 4) = .ok (.ldc_w is, 3) := by rw [hb]; exact d4
  have hstr' : vk_R own is text sa s' := vk_R.warm hW0 hstr
  obtain ⟨U, hsteps, hrun, hend, hW, hsame, ce, hce, hO⟩ := X₁.ctorThrowS hexec htr (own := own) (cls := cls) (names := names) (ic := ic) hown' hcls hnames h (fun x hx => nomatch hx) hfX hkX hcellA (by rw [hhp, hT]; exact Nat.le_refl _) (msg := .ref sa) rfl
    (g := { method := m, pc := pc + 7, locals := ls, stack := .ref sa :: .ref T.heap.size :: .ref T.heap.size :: rest, locked := none }) rfl hsize rfl rfl (rest := rest) rfl
    (by rw [hb]; exact d7) (by rw [hb]; exact d10) hout hRframes (by simp only [List.map_cons, List.sum_cons, hcat]; omega) hlocks
  obtain ⟨f1, f2⟩ := vx_frame hsame
  rw [hhp] at f1 f2
  have hWs : s.WarmedH U.vm := State.WarmedH.trans hW0 hW
  have hcl : s.vm.findClass cls = some ce.cls := by
    have h9 := hO.cls
    rw [hvm] at h9
    exact h9
  have hall : s.sameButNew ({ U with vm := s.vm } : State) locs mc ms := by
    subst hA
    obtain ⟨e1, e2⟩ := hsame
    rw [State.setFrames_setFrames] at e1
    have h2 : (T.setVm s.vm).sameButNew ({ U with vm := s.vm } : State) [] (0 + 1) (0 + 6) := ⟨e1, e2⟩
    have h3 := X.same.trans h2
    rw [List.append_nil] at h3
    exact h3.mono hc hs
  refine ⟨U, ?_, .threw T.heap.size, hrun, hend, Or.inr ⟨T.heap.size, rfl, cls, ce, locs, hx U hWs.alike f1 (fun q hq => f2 q hq (fun z hz => nomatch hz)), hce, hO.vm, hcl, hWs, hall, hf⟩⟩
  refine st1 _ ?_
  show Steps p.tables e below (T1.setTop { method := m, pc := pc + 3, locals := ls, stack := .ref T.heap.size :: rest, locked := none }) _
  jvm_step X₁.here [X₁.here.top, hexec, d3', Value.category]
  exact X₁.ldcStringW hexec (own := own) (text := text) (index := is) (a := sa) hown' hstr'.1 hstr'.2
    (g := { method := m, pc := pc + 4, locals := ls, stack := .ref T.heap.size :: .ref T.heap.size :: rest, locked := none }) rfl d4' _ hsteps
end Ends
section Bodies
variable {l : Launch}
theorem vx_ofW {y : MethodName} {ws ws' : List Cond} {rm : Room} {Pc : Array Value → State → Prop} {Qc : Array Value → State → Outcome → State → Prop} {XC : String → State → State → Prop} {mc ms : Nat} {free : Addr → Prop} {cc : ByteArray} {maxL : Nat} {ret : Option FieldType}
    (hy : plainName y.cls = true) (hw : ws = Cond.code y cc maxL ret :: ws')
    (body : ∀ p e s m args below meth c s₁, BodyLoose p l y (headSpec ws rm) cc maxL ret e s m args below meth c s₁ → c.maxLocals = maxL → (∀ x ∈ c.exceptionTable.toList, False) → Pc args s →
      W p l e (headSpec ws rm).room s m args below meth c s.heap [] 0 0 (vx_MQ below Qc XC args s mc ms free) (entryFrame m args maxL)) : vx_Met l y ws rm Pc Qc XC mc ms free := by
  refine MetFree.of_bodyS (code := cc) (maxLocals := maxL) (ret := ret) hy ?_ ?_
  · intro args s m h hn
    obtain ⟨meth, c, h1, h2, h3, h4, h5, h6, -, -⟩ := Cond.code_spec hn (atoms_spec (ws := ws) h _ (by rw [hw]; exact List.mem_cons_self))
    exact ⟨meth, c, h1, h2, h3, h4, h5, h6⟩
  · intro p e s m args below meth c s₁ B hml hP _
    have hh0 : s₁.heap = s.heap := by rw [B.state]; rfl
    have ht : ∀ x ∈ c.exceptionTable.toList, False := by
      obtain ⟨meth9, c9, h1, h2, -, -, -, -, h7, -⟩ := Cond.code_spec B.named (atoms_spec (ws := ws) B.pre _ (by rw [hw]; exact List.mem_cons_self))
      cases Option.some.inj (h1.symm.trans B.method)
      cases Option.some.inj (h2.symm.trans (Stand.of_body B).code)
      intro x hx
      rw [Array.isEmpty_iff.mp h7] at hx
      cases hx
    obtain ⟨t, a1, o, b1, b2, b3⟩ := body p e s m args below meth c s₁ B hml ht hP s₁ hh0 (Stand.of_body B)
    exact ⟨t, o, a1, b1, b2, b3⟩
/-- the table of a body with handlers -/
theorem vx_table {p : Program} {x y : MethodName} {S : Spec} {cc bytes : ByteArray} {maxL maxL' : Nat} {ret ret' : Option FieldType} {e : Env} {s s₁ : State} {m : MethodId} {args : Array Value} {below : List Frame} {meth : Method} {c : Code} {hh : List (Nat × Nat × Nat × Nat)}
    (B : BodyLoose p l y S cc maxL ret e s m args below meth c s₁) (h : (Cond.codeWith y bytes maxL' ret' hh).before args s = true) : c.exceptionTable.toList = tableOf hh := by
  obtain ⟨m9, meth9, c9, hn9, h1, h2, -, -, h6, -⟩ := Cond.codeWith_spec h
  cases Option.some.inj (hn9.symm.trans B.named)
  cases Option.some.inj (h1.symm.trans B.method)
  cases Option.some.inj (h2.symm.trans (Stand.of_body B).code)
  rw [← h6, table_eq]
end Bodies
end VXA
/-! ===== END ===== -/
/-! ===== BEGIN a static call of a method with an exception table ===== -/
section VXS
variable {p : Program} {l : Launch} {e : Env} {R : Room} {s : State} {m : MethodId} {args : Array Value} {below : List Frame} {meth : Method} {c : Code} {T : State} {H : Heap} {locs : List Loc} {cells slots : Nat}
abbrev vx_CSW (R : Room) (s : State) (args : Array Value) (own : String) (index : Nat) (y : MethodName) (bytes : ByteArray) (maxL : Nat) (ret : Option FieldType) (hh : List (Nat × Nat × Nat × Nat)) (ws : List Cond) (rm : Room) (mc ms n : Nat) : Prop :=
  (rm.cells = mc ∧ rm.slots = ms ∧ rm.frames + 1 ≤ R.frames ∧ 8 + (maxL + 11) + rm.locals ≤ R.locals ∧ (∀ w ∈ ws, ∀ (a' : Array Value) (U : State), s.WarmedH U.vm → w.before a' U = true) ∧ Cond.codeWith y bytes maxL ret hh ∈ ws) ∧
  (Cond.codeWith y bytes maxL ret hh).before args s = true ∧ (Cond.initialized y.cls).before args s = true ∧ (y.cls ≠ "java/lang/invoke/MethodHandle" ∧ y.cls ≠ "java/lang/invoke/VarHandle") ∧
  (∀ sig, parseMethodDescriptor y.desc = some sig → n = sig.parameters.length) ∧ (Cond.methodLink own index y).before args s = true ∧ (Cond.static y).before args s = true
theorem vx_cwSW {own : String} {index maxL mc ms : Nat} {y : MethodName} {bytes : ByteArray} {ret : Option FieldType} {hh : List (Nat × Nat × Nat × Nat)} {Ts ws ws' : List Cond} {rm : Room} (n : Nat) (ht : ∀ w ∈ Ts, w.before args s = true) (hT : GoodIn Ts (va_wsS own index y ws)) (hw : ws = Cond.codeWith y bytes maxL ret hh :: ws') (hrc : rm.cells = mc) (hrs : rm.slots = ms)
    (hd : y.cls ≠ "java/lang/invoke/MethodHandle" ∧ y.cls ≠ "java/lang/invoke/VarHandle" ∧ (parseMethodDescriptor y.desc).map (fun d => d.parameters.length) = some n) (hR : rm.frames + 1 ≤ R.frames ∧ 8 + (maxL + 11) + rm.locals ≤ R.locals) :
    vx_CSW R s args own index y bytes maxL ret hh ws rm mc ms n := by
  have ok : ∀ w ∈ va_wsS own index y ws, w.before args s = true := fun w h => ht w (hT w h).1
  have hG : GoodIn Ts ws := fun w h => hT w (by unfold va_wsS; exact List.mem_append_right _ h)
  have hc : Cond.codeWith y bytes maxL ret hh ∈ ws := by rw [hw]; exact List.mem_cons_self
  refine ⟨⟨hrc, hrs, hR.1, hR.2, pay_in ht hG, hc⟩, ht _ (hG _ hc).1, ok _ (by simp [va_wsS]), ⟨hd.1, hd.2.1⟩, fun sig h => ?_, ok _ (by simp [va_wsS]), ok _ (by simp [va_wsS])⟩
  have h2 := hd.2.2
  rw [h] at h2
  exact (Option.some.inj h2).symm
theorem vx_callSW (X : Stand p l e R s m args below meth c T locs cells slots) (hexec : p.tables.exec = Jvm.exec) {own : String} {index : Nat} {y : MethodName} {bytes : ByteArray} {maxL : Nat} {ret : Option FieldType} {hh : List (Nat × Nat × Nat × Nat)}
    (hown : s.vm.findClass own = some m.cls) (hlink : (Cond.methodLink own index y).before args s = true) (hstat : (Cond.static y).before args s = true) (hinit : (Cond.initialized y.cls).before args s = true)
    (hcode : (Cond.codeWith y bytes maxL ret hh).before args s = true) (hy : y.cls ≠ "java/lang/invoke/MethodHandle" ∧ y.cls ≠ "java/lang/invoke/VarHandle")
    {W9 : Nat} {Pre : Pt → Array Value → Prop} {Post : Pt → Array Value → Option Value → Pt → Prop} (hK : Back l R p e below s args y 3 W9 Pre Post)
    {g : JFrame} (hg : g.method = m) (hsize : g.locals.size = c.maxLocals) {argsL rest : List Value} (hlen : ∀ sig, parseMethodDescriptor y.desc = some sig → argsL.length = sig.parameters.length)
    (hstack : g.stack = argsL.reverse ++ rest) (hW : 2 * g.monitorRoom + (rest.map fun v => v.category).sum ≤ W9) (hdg : decode c.code g.pc = .ok (.invokestatic index, 3))
    (hpre : ∀ vm₁, s.WarmedH vm₁ → Pre ⟨T.setVm vm₁, locs, cells, slots⟩ argsL.toArray) :
    ∃ (v : Option Value) (vm₁ : Vm) (B : Pt), s.WarmedH vm₁ ∧ Stand p l e R s m args below meth c B.U B.locs B.cells B.slots ∧ Post ⟨T.setVm vm₁, locs, cells, slots⟩ argsL.toArray v B ∧
      ∀ target, Steps p.tables e below (B.U.setTop { g with pc := g.pc + 3, stack := v.toList ++ rest }) target → Steps p.tables e below (T.setTop g) target := by
  obtain ⟨mk, methM, cM, hnamed, hmethM, -, -, -, -, -, -, hsigM⟩ := Cond.codeWith_spec hcode
  have hstatic : methM.isStatic = true := Cond.static_spec hnamed hmethM hstat
  obtain ⟨kP, hkP, -⟩ := className_of_methodNamed hnamed
  have hinitP : kP.init = .initialized := Cond.initialized_spec (findClass_of_methodNamed hnamed) hkP hinit
  obtain ⟨vm₁, X₁, hstep₁⟩ := X.invokestatic hexec hown hlink hnamed hmethM hstatic hkP hinitP hy (g := g) hg (argsL := argsL) (rest := rest) (hlen _ hsigM) hstack hdg
  obtain ⟨v, B, X', hpost, hsteps⟩ := hK m meth c ⟨T.setVm vm₁, locs, cells, slots⟩ { g with stack := rest } (.invokestatic index) mk argsL.toArray X₁ hg hsize hdg hW (X₁.named hnamed) (hpre vm₁ X₁.warmed)
  exact ⟨v, vm₁, B, X₁.warmed, X', hpost, fun target h => hstep₁ _ fun acts => by rw [doInvoke_state]; exact hsteps.trans h⟩
theorem vx_runSW {y : MethodName} {bytes cc : ByteArray} {maxL nL mc ms n index : Nat} {ret : Option FieldType} {hh : List (Nat × Nat × Nat × Nat)} {ws : List Cond} {rm : Room} {Pc : Array Value → State → Prop} {Qc : Array Value → State → Outcome → State → Prop} {free : Addr → Prop} {Ts : List Cond} {own : String} {As rest : List Value} {g : JFrame}
    (S : CallFix p m c cc nL s args Ts own) (hM : Met l y ws rm Pc Qc mc ms free) (cw : vx_CSW R s args own index y bytes maxL ret hh ws rm mc ms n) (hp : PreS s H Pc As)
    (hg : g.method = m) (hn : As.length = n) (hsize : g.locals.size = nL) (hstack : g.stack = As.reverse ++ rest) (hW : 2 * g.monitorRoom + (rest.map fun v => v.category).sum ≤ 8) (hdg : decode cc g.pc = .ok (.invokestatic index, 3)) (hf : cells + mc ≤ R.cells ∧ slots + ms ≤ R.slots) :
    va_Run p l e R s m args below meth c H locs cells slots mc ms g rest (Qc As.toArray) (free) := by
  obtain ⟨⟨hrc, hrs, hfr, hlo, hws, hcw⟩, hcode, hini, hy, hlen, hl, hstt⟩ := cw
  have hK : Back l R p e below s args y 3 8 (PreOf R mc ms Pc) (PostOf Qc mc ms free) := va_backW (hh := hh) (bytes := bytes) (maxL := maxL) (ret := ret) hM hp.1 hrc hrs hfr hlo hws hcw (fun a' U hW => word_at hW (Or.inl (by first | rfl | simp [Cond.onTables, Cond.keeps, Cond.steady])) hini)
  obtain ⟨hx, hb, hml, ho, -⟩ := S
  intro T hT X
  obtain ⟨v, vm₁, ⟨U', l2, c2, s2⟩, hW₁, X', ⟨g', mk, t, L, e1, e2, hq, h1, hL, h2, h3⟩, st⟩ := vx_callSW X hx (hh := hh) (bytes := bytes) (maxL := maxL) (ret := ret) ho hl hstt hini hcode hy hK hg (hsize.trans hml.symm) (argsL := As) (rest := rest) (fun sig h => hn.trans (hlen sig h)) hstack hW (by rw [hb]; exact hdg)
    (fun vm₁ hW₁ => ⟨hf.1, hf.2, hp.2 (T.setVm vm₁) hT hW₁⟩)
  dsimp only [Pt.U, Pt.locs, Pt.cells, Pt.slots] at X' e1 e2 h1 h2 h3 st
  subst h1; subst h2; subst h3
  exact ⟨v, (T.setVm vm₁).calling g' mk As.toArray, t, U', L, hT, X', hL, e1, e2, hq, st⟩
/-- not caught here, past rows that name other classes: it goes on to the caller -/
theorem vx_outP {p : Program} {l : Launch} {e : Env} {R : Room} {s : State} {m : MethodId} {args : Array Value} {below : List Frame} {meth : Method} {c : Code} {H : Heap} {locs : List Loc} {cells slots : Nat} {free : Addr → Prop} {ls : Array Slot} {rest : List Value} {Qc : Array Value → State → Outcome → State → Prop} {XC : String → State → State → Prop}
    {pc : Nat} {own E : String} {ce : Cell} {q : Addr} {mc ms : Nat} (hown : s.vm.findClass own = some m.cls) (hlocks : meth.locks = false)
    (hpass : ∀ z ∈ c.exceptionTable.toList, covers z pc = false ∨ (z.catchType ≠ 0 ∧ ∃ nm : String, (Cond.classLink own z.catchType nm).before args s = true ∧ va_Nc E nm s)) (hcell : H[q]? = some ce) (hv : ce.vm = .none) (hcl : s.vm.findClass E = some ce.cls)
    (hx : ∀ t : State, t.heap = H → s.vm.Alike t.vm → XC E s t) (hf : ∀ z ∈ locs, free z.base) (hc : cells ≤ mc) (hs : slots ≤ ms) :
    vx_W p l e R s m args below meth c H locs cells slots (vx_MQ below Qc XC args s mc ms free) (F0 m pc ls rest) q := by
  intro T hT X
  have hpl : e.platform.magicAccessors = ({} : Platform).magicAccessors := by rw [X.admits.platform]
  obtain ⟨vm', hW', X', st⟩ := X.outThrough hlocks q (g := F0 m pc ls rest) rfl rfl rfl (cell := ce) (by rw [hT]; exact hcell) (by rw [hv]; rfl)
    (by obtain ⟨k9, h9, -⟩ := Vm.findClass_spec hcl; exact ⟨k9, h9⟩) (fun z hz => by
      rcases hpass z hz with h | ⟨hz0, nm, hl1, hn1⟩
      · exact Or.inl h
      · obtain ⟨c6, hc6, hcl6⟩ := Cond.classLink_spec hown hl1 e.platform hpl
        obtain ⟨a8, b8, h1, h2, h3⟩ := hn1
        cases Option.some.inj (h1.symm.trans hcl)
        cases Option.some.inj (h2.symm.trans hc6)
        exact Or.inr ⟨hz0, _, hcl6, h3⟩)
  obtain ⟨g₀, hfr⟩ := X'.frames_eq
  have hcell9 : ((T.setVm vm').setFrames (.throwing q :: below)).heap[q]? = some ce := by
    show T.heap[q]? = some ce
    rw [hT]; exact hcell
  have hend : Ended ((T.setVm vm').setFrames (.throwing q :: below)) below (.threw q) := State.frames_setFrames _ (State.cur_lt_of_frames hfr)
  refine ⟨(T.setVm vm').setFrames (.throwing q :: below), ?_, .threw q, X'.here.running, hend, Or.inr ⟨q, rfl, E, ce, locs, hx _ hT (X'.ends _).1.alike, hcell9, hv, hcl, (X'.ends _).1, (X'.ends _).2.mono hc hs, hf⟩⟩
  rw [X.pushThrowing_eq]
  exact st
/-- a thing of a world lies in the heap -/
theorem vx_lt {D : va_G} {cl : List vw_C} {ws : va_W} {H1 : Heap} (h : va_P D cl ws H1) {k : Nat} {q : Nat × va_E} (hk : ws[k]? = some q) : q.1 < H1.size := (h k q hk).lt
end VXS
/-! ===== END ===== -/
/-! ===== BEGIN methods with a table of their own: called by a name, returning or throwing ===== -/
section VXH
/-! vx_backW, vx_callVX, vx_callSX, vx_callVW, vx_runVW, vx_runVX, vx_runSX, vx_ofWH follow the same proofs as their sisters above (Free/Laws.lean, Shelf42/LK1.lean); vx_outP calls Shelf42/NT130.lean (outThrough). -/
section
variable {l : Launch} {R : Room} {p : Program} {e : Env} {below : List Frame} {s : State} {sargs : Array Value} {y : MethodName} {len W9 : Nat}
theorem vx_backW {ws : List Cond} {rm : Room} {Pc : Array Value → State → Prop} {Qc : Array Value → State → Outcome → State → Prop} {XC : String → State → State → Prop} {mc ms : Nat} {free : Addr → Prop} {bytes : ByteArray} {maxL : Nat} {ret : Option FieldType} {hh : List (Nat × Nat × Nat × Nat)}
    (hM : vx_Met l y ws rm Pc Qc XC mc ms free) (hblind : FrameBlind Pc) (hrc : rm.cells = mc) (hrs : rm.slots = ms)
    (hframes : rm.frames + 1 ≤ R.frames) (hlocals : W9 + (maxL + 11) + rm.locals ≤ R.locals)
    (hws : ∀ w ∈ ws, ∀ a' U, s.WarmedH U.vm → w.before a' U = true) (hcode : Cond.codeWith y bytes maxL ret hh ∈ ws) (hinit : ∀ a' U, s.WarmedH U.vm → (Cond.initialized y.cls).before a' U = true) :
    vx_Back l R p e below s sargs y len W9 (PreOf R mc ms Pc) (PostOf Qc mc ms free) (vx_Post XC mc ms free) := by
  intro m meth c A g ig mk a X hg hsize hdg hW hn hp
  have h1 : (headSpec ws rm).pre.before a A.U = true := atoms_intro fun w hw => hws w hw _ _ X.warmed
  have h2 : (Cond.codeWith y bytes maxL ret hh).before a A.U = true := hws _ hcode _ _ X.warmed
  have h3 : (Cond.initialized y.cls).before a A.U = true := hinit _ _ X.warmed
  have h4 : A.cells + (headSpec ws rm).room.cells ≤ R.cells := by rw [show (headSpec ws rm).room.cells = mc from hrc]; exact hp.1
  have h5 : A.slots + (headSpec ws rm).room.slots ≤ R.slots := by rw [show (headSpec ws rm).room.slots = ms from hrs]; exact hp.2.1
  have hPc : Pc a (A.U.calling g mk a) := hblind _ _ _ _ hp.2.2
  obtain ⟨U, Ls, c0, s0⟩ := A
  dsimp only [Pt.U, Pt.locs, Pt.cells, Pt.slots] at h1 h2 h3 h4 h5 X hn hPc ⊢
  obtain ⟨m9, methY, cY, hn9, hmY, hcY, -, hlY, -⟩ := Cond.codeWith_spec h2
  cases Option.some.inj (hn9.symm.trans hn)
  obtain ⟨kY, hkY, -⟩ := className_of_methodNamed hn
  have hinitY : kY.init = .initialized := Cond.initialized_spec (findClass_of_methodNamed hn) hkY h3
  have h : At U g.method c below := by rw [hg]; exact X.here
  have hlocals9 : W9 + (maxL + 11) + (headSpec ws rm).room.locals ≤ R.locals := hlocals
  have happ : (headSpec ws rm).appliesLoose y e.platform (U.calling g mk a) = true :=
    Spec.appliesLoose_calling (g := g) h hdg hn hkY hinitY
      (X.room_calling (g := g) (R' := (headSpec ws rm).room) hsize hmY hcY hframes (by rw [hlY]; omega) h4 h5) h1
  obtain ⟨mid, hmid⟩ := h.above
  have hfr : (U.setTop g).frames = (.java g :: mid) ++ below := by rw [State.frames_setTop' g h.top, hmid]; rfl
  obtain ⟨o, s₂, hsteps, -, hend, hq⟩ := Steps.callFree hM p X.admits X.cas X.clock (acts := []) hfr happ hPc trivial
  have hq' : vx_Q Qc XC mc ms free a (U.calling g mk a) o s₂ := hq
  rw [State.frames_setTop' g h.top] at hend
  obtain ⟨g₀, hg0⟩ := Option.isSome_iff_exists.mp h.top
  obtain ⟨r, hr⟩ := State.topJava?_eq_some.mp hg0
  have hr' : (({ U with heap := s₂.heap, slotsUsed := s₂.slotsUsed } : State).setVm s₂.vm).frames = .java g₀ :: r := hr
  rcases hq' with ⟨hqc, L, hfe, hL⟩ | ⟨q, rfl, E, ce, L, hx, hce, hcv, hcl, hW₂, hsm, hL⟩
  · obtain ⟨⟨v, rfl⟩, hW₂, e2, q2, q3, q4, q5, q6⟩ := id hfe
    have e3 : s₂ = ({ (U.calling g mk a).setFrames s₂.frames with heap := s₂.heap, slotsUsed := s₂.slotsUsed } : State).setVm s₂.vm := by
      have : s₂ = ({ s₂ with vm := (U.calling g mk a).vm } : State).setVm s₂.vm := rfl
      rw [e2] at this
      exact this
    obtain ⟨c₂, i₂, len₂, hc₂, hd₂, hf₂⟩ := hend
    have hW' : U.WarmedH s₂.vm := hW₂
    have hcc : c₂ = c := by
      have h1 : s₂.code? g.method = U.code? g.method := by
        rw [State.code?_eq, State.code?_eq, hW'.alike.method?]
      exact Option.some.inj (hc₂.symm.trans (h1.trans h.code))
    subst hcc
    have hlen : len₂ = len := by rw [hdg] at hd₂; cases hd₂; rfl
    subst hlen
    have hs₂ : s₂ = (({ U with heap := s₂.heap, slotsUsed := s₂.slotsUsed } : State).setVm s₂.vm).setTop { g with pc := g.pc + len₂, stack := v.toList ++ g.stack } := by
      refine e3.trans ?_
      rw [hf₂, State.calling_eq h.top, State.setFrames_setFrames, State.setTop_of_frames _ hr', hr]
      rfl
    have hsame : U.sameButNew ({ U with heap := s₂.heap, slotsUsed := s₂.slotsUsed } : State) L mc ms := by
      refine ⟨?_, q2, q3, q4, q5, q6⟩
      obtain ⟨t, ht, -⟩ := State.frames_cons hr
      show ({ U with heap := s₂.heap, slotsUsed := s₂.slotsUsed } : State) = { U.setFrames U.frames with heap := s₂.heap, slotsUsed := s₂.slotsUsed }
      rw [State.setFrames_self ht]
    subst hg
    refine Or.inl ⟨v, ⟨(({ U with heap := s₂.heap, slotsUsed := s₂.slotsUsed } : State).setVm s₂.vm), Ls ++ L, c0 + mc, s0 + ms⟩,
      ⟨X.admits, X.cas, X.clock, X.frames, X.room, X.hears, X.method, X.code, (X.here.setHeapUsed s₂.heap s₂.slotsUsed).setVm hW'.alike, X.tail, State.WarmedH.trans X.warmed hW', X.limits, X.bytes, X.same.trans (hsame.setVm s.vm)⟩,
      ⟨g, mk, s₂, L, rfl, rfl, hqc, rfl, hL, rfl, rfl⟩, ?_⟩
    show Steps p.tables e below _ ((({ U with heap := s₂.heap, slotsUsed := s₂.slotsUsed } : State).setVm s₂.vm).setTop { g with pc := g.pc + len₂, stack := v.toList ++ g.stack })
    rw [← hs₂]
    exact hsteps
  · obtain ⟨e2, q2, q3, q4, q5, q6⟩ := id hsm
    have e3 : s₂ = ({ (U.calling g mk a).setFrames s₂.frames with heap := s₂.heap, slotsUsed := s₂.slotsUsed } : State).setVm s₂.vm := by
      have : s₂ = ({ s₂ with vm := (U.calling g mk a).vm } : State).setVm s₂.vm := rfl
      rw [e2] at this
      exact this
    have hf₂ : s₂.frames = .throwing q :: .java g :: U.frames.tail := hend
    have hW' : U.WarmedH s₂.vm := hW₂
    have hs₂ : s₂ = ((({ U with heap := s₂.heap, slotsUsed := s₂.slotsUsed } : State).setVm s₂.vm).setTop g).pushFrame (.throwing q) := by
      refine e3.trans ?_
      rw [hf₂, State.calling_eq h.top, State.setFrames_setFrames, State.pushFrame, State.frames_setTop _ hr', State.setTop_of_frames _ hr', State.setFrames_setFrames, hr]
      rfl
    have hsame : U.sameButNew ({ U with heap := s₂.heap, slotsUsed := s₂.slotsUsed } : State) L mc ms := by
      refine ⟨?_, q2, q3, q4, q5, q6⟩
      obtain ⟨t, ht, -⟩ := State.frames_cons hr
      show ({ U with heap := s₂.heap, slotsUsed := s₂.slotsUsed } : State) = { U.setFrames U.frames with heap := s₂.heap, slotsUsed := s₂.slotsUsed }
      rw [State.setFrames_self ht]
    subst hg
    refine Or.inr ⟨q, ⟨(({ U with heap := s₂.heap, slotsUsed := s₂.slotsUsed } : State).setVm s₂.vm), Ls ++ L, c0 + mc, s0 + ms⟩,
      ⟨X.admits, X.cas, X.clock, X.frames, X.room, X.hears, X.method, X.code, (X.here.setHeapUsed s₂.heap s₂.slotsUsed).setVm hW'.alike, X.tail, State.WarmedH.trans X.warmed hW', X.limits, X.bytes, X.same.trans (hsame.setVm s.vm)⟩,
      ⟨g, mk, s₂, L, E, ce, rfl, rfl, hx, hce, hcv, hcl, rfl, hL, rfl, rfl⟩, ?_⟩
    show Steps p.tables e below _ (((({ U with heap := s₂.heap, slotsUsed := s₂.slotsUsed } : State).setVm s₂.vm).setTop g).pushFrame (.throwing q))
    rw [← hs₂]
    exact hsteps
end
variable {p : Program} {l : Launch} {e : Env} {R : Room} {s : State} {m : MethodId} {args : Array Value} {below : List Frame} {meth : Method} {c : Code} {T : State} {H : Heap} {locs : List Loc} {cells slots : Nat}
theorem vx_callVX (X : Stand p l e R s m args below meth c T locs cells slots) (hexec : p.tables.exec = Jvm.exec) {own C : String} {index : Nat} {y : MethodName} {bytes : ByteArray} {maxL : Nat} {ret : Option FieldType} {hh : List (Nat × Nat × Nat × Nat)}
    (hown : s.vm.findClass own = some m.cls) (hlink : (Cond.methodLink own index y).before args s = true) (hinst : (Cond.instanceMethod y).before args s = true) (hsel : (Cond.selects C y y).before args s = true)
    (hcode : (Cond.codeWith y bytes maxL ret hh).before args s = true) (hy : y.cls ≠ "java/lang/invoke/MethodHandle" ∧ y.cls ≠ "java/lang/invoke/VarHandle")
    {W9 : Nat} {Pre : Pt → Array Value → Prop} {Post : Pt → Array Value → Option Value → Pt → Prop} {PostX : Pt → Array Value → Addr → Pt → Prop} (hK : vx_Back l R p e below s args y 3 W9 Pre Post PostX)
    {b : Addr} {cellB : Cell} (hcell : T.heap[b]? = some cellB) (hobj : cellB.vm.isStatics = false) (hcls : s.vm.findClass C = some cellB.cls)
    {g : JFrame} (hg : g.method = m) (hsize : g.locals.size = c.maxLocals) {argsL rest : List Value} (hlen : ∀ sig, parseMethodDescriptor y.desc = some sig → argsL.length = sig.parameters.length)
    (hstack : g.stack = argsL.reverse ++ .ref b :: rest) (hW : 2 * g.monitorRoom + (rest.map fun v => v.category).sum ≤ W9) (hdg : decode c.code g.pc = .ok (.invokevirtual index, 3))
    (hpre : ∀ vm₁, s.WarmedH vm₁ → Pre ⟨T.setVm vm₁, locs, cells, slots⟩ (Value.ref b :: argsL).toArray) :
    (∃ (v : Option Value) (vm₁ : Vm) (B : Pt), s.WarmedH vm₁ ∧ Stand p l e R s m args below meth c B.U B.locs B.cells B.slots ∧ Post ⟨T.setVm vm₁, locs, cells, slots⟩ (Value.ref b :: argsL).toArray v B ∧
      ∀ target, Steps p.tables e below (B.U.setTop { g with pc := g.pc + 3, stack := v.toList ++ rest }) target → Steps p.tables e below (T.setTop g) target) ∨
    (∃ (q : Addr) (vm₁ : Vm) (B : Pt), s.WarmedH vm₁ ∧ Stand p l e R s m args below meth c B.U B.locs B.cells B.slots ∧ PostX ⟨T.setVm vm₁, locs, cells, slots⟩ (Value.ref b :: argsL).toArray q B ∧
      Steps p.tables e below (T.setTop g) ((B.U.setTop { g with stack := rest }).pushFrame (.throwing q))) := by
  obtain ⟨mk, methM, hnamed, hmethM, hstM, habM⟩ := Cond.instanceMethod_spec hinst
  obtain ⟨m8, methM', cM, hn8, hmethM', -, -, -, -, -, -, hsigM⟩ := Cond.codeWith_spec hcode
  cases Option.some.inj (hn8.symm.trans hnamed)
  cases hmethM.symm.trans hmethM'
  obtain ⟨c2, r2, m2, q1, q2, q3, q4, kP, hkP, hkPi⟩ := Cond.selects_spec hsel
  cases hcls.symm.trans q1
  cases (State.methodFound?_of_named hnamed hy).symm.trans q2
  cases hnamed.symm.trans q3
  have hselP : selectMethod e.platform s.vm cellB.cls mk = .method mk := by rw [Launch.admits_selectMethod X.admits]; exact q4
  obtain ⟨vm₁, X₁, hstep₁⟩ := X.invokevirtual hexec hown hlink hnamed hmethM hstM hkP hkPi hy (a := b) (cell := cellB) hcell
    (fun z h => by rw [h] at hobj; cases hobj) hselP hmethM habM hkP hkPi (g := g) hg (argsL := argsL) (rest := rest) (hlen _ hsigM) hstack hdg
  rcases hK m meth c ⟨T.setVm vm₁, locs, cells, slots⟩ { g with stack := rest } (.invokevirtual index) mk (Value.ref b :: argsL).toArray X₁ hg hsize hdg hW (X₁.named hnamed) (hpre vm₁ X₁.warmed) with ⟨v, B, X', hpost, hsteps⟩ | ⟨q, B, X', hpost, hsteps⟩
  · exact Or.inl ⟨v, vm₁, B, X₁.warmed, X', hpost, fun target h => hstep₁ _ fun acts => by rw [doInvoke_state]; exact hsteps.trans h⟩
  · exact Or.inr ⟨q, vm₁, B, X₁.warmed, X', hpost, hstep₁ _ fun acts => by rw [doInvoke_state]; exact hsteps⟩
theorem vx_callSX (X : Stand p l e R s m args below meth c T locs cells slots) (hexec : p.tables.exec = Jvm.exec) {own : String} {index : Nat} {y : MethodName} {bytes : ByteArray} {maxL : Nat} {ret : Option FieldType} {hh : List (Nat × Nat × Nat × Nat)}
    (hown : s.vm.findClass own = some m.cls) (hlink : (Cond.methodLink own index y).before args s = true) (hstat : (Cond.static y).before args s = true) (hinit : (Cond.initialized y.cls).before args s = true)
    (hcode : (Cond.codeWith y bytes maxL ret hh).before args s = true) (hy : y.cls ≠ "java/lang/invoke/MethodHandle" ∧ y.cls ≠ "java/lang/invoke/VarHandle")
    {W9 : Nat} {Pre : Pt → Array Value → Prop} {Post : Pt → Array Value → Option Value → Pt → Prop} {PostX : Pt → Array Value → Addr → Pt → Prop} (hK : vx_Back l R p e below s args y 3 W9 Pre Post PostX)
    {g : JFrame} (hg : g.method = m) (hsize : g.locals.size = c.maxLocals) {argsL rest : List Value} (hlen : ∀ sig, parseMethodDescriptor y.desc = some sig → argsL.length = sig.parameters.length)
    (hstack : g.stack = argsL.reverse ++ rest) (hW : 2 * g.monitorRoom + (rest.map fun v => v.category).sum ≤ W9) (hdg : decode c.code g.pc = .ok (.invokestatic index, 3))
    (hpre : ∀ vm₁, s.WarmedH vm₁ → Pre ⟨T.setVm vm₁, locs, cells, slots⟩ argsL.toArray) :
    (∃ (v : Option Value) (vm₁ : Vm) (B : Pt), s.WarmedH vm₁ ∧ Stand p l e R s m args below meth c B.U B.locs B.cells B.slots ∧ Post ⟨T.setVm vm₁, locs, cells, slots⟩ argsL.toArray v B ∧
      ∀ target, Steps p.tables e below (B.U.setTop { g with pc := g.pc + 3, stack := v.toList ++ rest }) target → Steps p.tables e below (T.setTop g) target) ∨
    (∃ (q : Addr) (vm₁ : Vm) (B : Pt), s.WarmedH vm₁ ∧ Stand p l e R s m args below meth c B.U B.locs B.cells B.slots ∧ PostX ⟨T.setVm vm₁, locs, cells, slots⟩ argsL.toArray q B ∧
      Steps p.tables e below (T.setTop g) ((B.U.setTop { g with stack := rest }).pushFrame (.throwing q))) := by
  obtain ⟨mk, methM, cM, hnamed, hmethM, -, -, -, -, -, -, hsigM⟩ := Cond.codeWith_spec hcode
  have hstatic : methM.isStatic = true := Cond.static_spec hnamed hmethM hstat
  obtain ⟨kP, hkP, -⟩ := className_of_methodNamed hnamed
  have hinitP : kP.init = .initialized := Cond.initialized_spec (findClass_of_methodNamed hnamed) hkP hinit
  obtain ⟨vm₁, X₁, hstep₁⟩ := X.invokestatic hexec hown hlink hnamed hmethM hstatic hkP hinitP hy (g := g) hg (argsL := argsL) (rest := rest) (hlen _ hsigM) hstack hdg
  rcases hK m meth c ⟨T.setVm vm₁, locs, cells, slots⟩ { g with stack := rest } (.invokestatic index) mk argsL.toArray X₁ hg hsize hdg hW (X₁.named hnamed) (hpre vm₁ X₁.warmed) with ⟨v, B, X', hpost, hsteps⟩ | ⟨q, B, X', hpost, hsteps⟩
  · exact Or.inl ⟨v, vm₁, B, X₁.warmed, X', hpost, fun target h => hstep₁ _ fun acts => by rw [doInvoke_state]; exact hsteps.trans h⟩
  · exact Or.inr ⟨q, vm₁, B, X₁.warmed, X', hpost, hstep₁ _ fun acts => by rw [doInvoke_state]; exact hsteps⟩
theorem vx_callVW (X : Stand p l e R s m args below meth c T locs cells slots) (hexec : p.tables.exec = Jvm.exec) {own C : String} {index : Nat} {y : MethodName} {bytes : ByteArray} {maxL : Nat} {ret : Option FieldType} {hh : List (Nat × Nat × Nat × Nat)}
    (hown : s.vm.findClass own = some m.cls) (hlink : (Cond.methodLink own index y).before args s = true) (hinst : (Cond.instanceMethod y).before args s = true) (hsel : (Cond.selects C y y).before args s = true)
    (hcode : (Cond.codeWith y bytes maxL ret hh).before args s = true) (hy : y.cls ≠ "java/lang/invoke/MethodHandle" ∧ y.cls ≠ "java/lang/invoke/VarHandle")
    {W9 : Nat} {Pre : Pt → Array Value → Prop} {Post : Pt → Array Value → Option Value → Pt → Prop} (hK : Back l R p e below s args y 3 W9 Pre Post)
    {b : Addr} {cellB : Cell} (hcell : T.heap[b]? = some cellB) (hobj : cellB.vm.isStatics = false) (hcls : s.vm.findClass C = some cellB.cls)
    {g : JFrame} (hg : g.method = m) (hsize : g.locals.size = c.maxLocals) {argsL rest : List Value} (hlen : ∀ sig, parseMethodDescriptor y.desc = some sig → argsL.length = sig.parameters.length)
    (hstack : g.stack = argsL.reverse ++ .ref b :: rest) (hW : 2 * g.monitorRoom + (rest.map fun v => v.category).sum ≤ W9) (hdg : decode c.code g.pc = .ok (.invokevirtual index, 3))
    (hpre : ∀ vm₁, s.WarmedH vm₁ → Pre ⟨T.setVm vm₁, locs, cells, slots⟩ (Value.ref b :: argsL).toArray) :
    ∃ (v : Option Value) (vm₁ : Vm) (B : Pt), s.WarmedH vm₁ ∧ Stand p l e R s m args below meth c B.U B.locs B.cells B.slots ∧ Post ⟨T.setVm vm₁, locs, cells, slots⟩ (Value.ref b :: argsL).toArray v B ∧
      ∀ target, Steps p.tables e below (B.U.setTop { g with pc := g.pc + 3, stack := v.toList ++ rest }) target → Steps p.tables e below (T.setTop g) target := by
  obtain ⟨mk, methM, hnamed, hmethM, hstM, habM⟩ := Cond.instanceMethod_spec hinst
  obtain ⟨m8, methM', cM, hn8, hmethM', -, -, -, -, -, -, hsigM⟩ := Cond.codeWith_spec hcode
  cases Option.some.inj (hn8.symm.trans hnamed)
  cases hmethM.symm.trans hmethM'
  obtain ⟨c2, r2, m2, q1, q2, q3, q4, kP, hkP, hkPi⟩ := Cond.selects_spec hsel
  cases hcls.symm.trans q1
  cases (State.methodFound?_of_named hnamed hy).symm.trans q2
  cases hnamed.symm.trans q3
  have hselP : selectMethod e.platform s.vm cellB.cls mk = .method mk := by rw [Launch.admits_selectMethod X.admits]; exact q4
  obtain ⟨vm₁, X₁, hstep₁⟩ := X.invokevirtual hexec hown hlink hnamed hmethM hstM hkP hkPi hy (a := b) (cell := cellB) hcell
    (fun z h => by rw [h] at hobj; cases hobj) hselP hmethM habM hkP hkPi (g := g) hg (argsL := argsL) (rest := rest) (hlen _ hsigM) hstack hdg
  obtain ⟨v, B, X', hpost, hsteps⟩ := hK m meth c ⟨T.setVm vm₁, locs, cells, slots⟩ { g with stack := rest } (.invokevirtual index) mk (Value.ref b :: argsL).toArray X₁ hg hsize hdg hW (X₁.named hnamed) (hpre vm₁ X₁.warmed)
  exact ⟨v, vm₁, B, X₁.warmed, X', hpost, fun target h => hstep₁ _ fun acts => by rw [doInvoke_state]; exact hsteps.trans h⟩
abbrev vx_CVW (R : Room) (s : State) (args : Array Value) (own C : String) (index : Nat) (y : MethodName) (bytes : ByteArray) (maxL : Nat) (ret : Option FieldType) (hh : List (Nat × Nat × Nat × Nat)) (ws : List Cond) (rm : Room) (mc ms n : Nat) : Prop :=
  (rm.cells = mc ∧ rm.slots = ms ∧ rm.frames + 1 ≤ R.frames ∧ 8 + (maxL + 11) + rm.locals ≤ R.locals ∧ (∀ w ∈ ws, ∀ (a' : Array Value) (U : State), s.WarmedH U.vm → w.before a' U = true) ∧ Cond.codeWith y bytes maxL ret hh ∈ ws) ∧
  (Cond.codeWith y bytes maxL ret hh).before args s = true ∧ (Cond.initialized y.cls).before args s = true ∧ (y.cls ≠ "java/lang/invoke/MethodHandle" ∧ y.cls ≠ "java/lang/invoke/VarHandle") ∧
  (∀ sig, parseMethodDescriptor y.desc = some sig → n = sig.parameters.length) ∧ (Cond.methodLink own index y).before args s = true ∧ (Cond.instanceMethod y).before args s = true ∧ (Cond.selects C y y).before args s = true
theorem vx_cwVW {own C : String} {index maxL mc ms : Nat} {y : MethodName} {bytes : ByteArray} {ret : Option FieldType} {hh : List (Nat × Nat × Nat × Nat)} {Ts ws ws' : List Cond} {rm : Room} (n : Nat) (ht : ∀ w ∈ Ts, w.before args s = true) (hT : GoodIn Ts (wsV own index C y ws)) (hw : ws = Cond.codeWith y bytes maxL ret hh :: ws') (hrc : rm.cells = mc) (hrs : rm.slots = ms)
    (hd : y.cls = C ∧ y.cls ≠ "java/lang/invoke/MethodHandle" ∧ y.cls ≠ "java/lang/invoke/VarHandle" ∧ (parseMethodDescriptor y.desc).map (fun d => d.parameters.length) = some n) (hR : rm.frames + 1 ≤ R.frames ∧ 8 + (maxL + 11) + rm.locals ≤ R.locals) :
    vx_CVW R s args own C index y bytes maxL ret hh ws rm mc ms n := by
  obtain ⟨hC, hd⟩ := hd
  subst hC
  have ok : ∀ w ∈ wsV own index y.cls y ws, w.before args s = true := fun w h => ht w (hT w h).1
  have hG : GoodIn Ts ws := fun w h => hT w (by unfold wsV; exact List.mem_append_right _ h)
  have hc : Cond.codeWith y bytes maxL ret hh ∈ ws := by rw [hw]; exact List.mem_cons_self
  refine ⟨⟨hrc, hrs, hR.1, hR.2, pay_in ht hG, hc⟩, ht _ (hG _ hc).1, ok _ (by simp [wsV]), ⟨hd.1, hd.2.1⟩, fun sig h => ?_, ok _ (by simp [wsV]), ok _ (by simp [wsV]), ok _ (by simp [wsV])⟩
  have h2 := hd.2.2
  rw [h] at h2
  exact (Option.some.inj h2).symm
theorem vx_runVW {y : MethodName} {bytes cc : ByteArray} {maxL nL mc ms n index : Nat} {ret : Option FieldType} {hh : List (Nat × Nat × Nat × Nat)} {ws : List Cond} {rm : Room} {Pc : Array Value → State → Prop} {Qc : Array Value → State → Outcome → State → Prop} {free : Addr → Prop} {Ts : List Cond} {own C : String} {b : Addr} {As rest : List Value} {g : JFrame}
    (S : CallFix p m c cc nL s args Ts own) (hM : Met l y ws rm Pc Qc mc ms free) (cw : vx_CVW R s args own C index y bytes maxL ret hh ws rm mc ms n) (hp : PreV s H C b Pc As)
    (hg : g.method = m) (hn : As.length = n) (hsize : g.locals.size = nL) (hstack : g.stack = As.reverse ++ .ref b :: rest) (hW : 2 * g.monitorRoom + (rest.map fun v => v.category).sum ≤ 8) (hdg : decode cc g.pc = .ok (.invokevirtual index, 3)) (hf : cells + mc ≤ R.cells ∧ slots + ms ≤ R.slots) :
    va_Run p l e R s m args below meth c H locs cells slots mc ms g rest (Qc (Value.ref b :: As).toArray) free := by
  obtain ⟨⟨hrc, hrs, hfr, hlo, hws, hcw⟩, hcode, hini, hy, hlen, hl, hin, hse⟩ := cw
  have hK : Back l R p e below s args y 3 8 (PreOf R mc ms Pc) (PostOf Qc mc ms free) := va_backW (hh := hh) (bytes := bytes) (maxL := maxL) (ret := ret) hM hp.1 hrc hrs hfr hlo hws hcw (fun a' U hW => word_at hW (Or.inl (by first | rfl | simp [Cond.onTables, Cond.keeps, Cond.steady])) hini)
  obtain ⟨hx, hb, hml, ho, -⟩ := S
  obtain ⟨-, ⟨cellB, hcB, hoB, hclB⟩, hPc⟩ := hp
  intro T hT X
  obtain ⟨v, vm₁, ⟨U', l2, c2, s2⟩, hW₁, X', ⟨g', mk, t, L, e1, e2, hq, h1, hL, h2, h3⟩, st⟩ := vx_callVW X hx (C := C) (hh := hh) (bytes := bytes) (maxL := maxL) (ret := ret) ho hl hin hse hcode hy hK (by rw [hT]; exact hcB) hoB hclB hg (hsize.trans hml.symm) (argsL := As) (rest := rest) (fun sig h => hn.trans (hlen sig h)) hstack hW (by rw [hb]; exact hdg)
    (fun vm₁ hW₁ => ⟨hf.1, hf.2, hPc (T.setVm vm₁) hT hW₁⟩)
  dsimp only [Pt.U, Pt.locs, Pt.cells, Pt.slots] at X' e1 e2 h1 h2 h3 st
  subst h1; subst h2; subst h3
  exact ⟨v, (T.setVm vm₁).calling g' mk (Value.ref b :: As).toArray, t, U', L, hT, X', hL, e1, e2, hq, st⟩
section
variable {y : MethodName} {bytes cc : ByteArray} {maxL nL mc ms n index : Nat} {ret : Option FieldType} {ws : List Cond} {rm : Room} {Pc : Array Value → State → Prop} {Qc : Array Value → State → Outcome → State → Prop} {XC : String → State → State → Prop} {free : Addr → Prop} {Ts : List Cond} {own C : String} {b : Addr} {As rest : List Value} {g : JFrame}
theorem vx_runVX {hh : List (Nat × Nat × Nat × Nat)} (S : CallFix p m c cc nL s args Ts own) (hM : vx_Met l y ws rm Pc Qc XC mc ms free) (cw : vx_CVW R s args own C index y bytes maxL ret hh ws rm mc ms n) (hp : PreV s H C b Pc As)
    (hg : g.method = m) (hn : As.length = n) (hsize : g.locals.size = nL) (hstack : g.stack = As.reverse ++ .ref b :: rest) (hW : 2 * g.monitorRoom + (rest.map fun v => v.category).sum ≤ 8) (hdg : decode cc g.pc = .ok (.invokevirtual index, 3)) (hf : cells + mc ≤ R.cells ∧ slots + ms ≤ R.slots) :
    vx_Run p l e R s m args below meth c H locs cells slots mc ms g rest (Qc (Value.ref b :: As).toArray) XC free := by
  obtain ⟨⟨hrc, hrs, hfr, hlo, hws, hcw⟩, hcode, hini, hy, hlen, hl, hin, hse⟩ := cw
  have hK : vx_Back l R p e below s args y 3 8 (PreOf R mc ms Pc) (PostOf Qc mc ms free) (vx_Post XC mc ms free) := vx_backW (hh := hh) (bytes := bytes) (maxL := maxL) (ret := ret) hM hp.1 hrc hrs hfr hlo hws hcw (fun a' U hW => word_at hW (Or.inl (by first | rfl | simp [Cond.onTables, Cond.keeps, Cond.steady])) hini)
  obtain ⟨hx, hb, hml, ho, -⟩ := S
  obtain ⟨-, ⟨cellB, hcB, hoB, hclB⟩, hPc⟩ := hp
  intro T hT X
  rcases vx_callVX X hx (C := C) (hh := hh) (bytes := bytes) (maxL := maxL) (ret := ret) ho hl hin hse hcode hy hK (by rw [hT]; exact hcB) hoB hclB hg (hsize.trans hml.symm) (argsL := As) (rest := rest) (fun sig h => hn.trans (hlen sig h)) hstack hW (by rw [hb]; exact hdg)
    (fun vm₁ hW₁ => ⟨hf.1, hf.2, hPc (T.setVm vm₁) hT hW₁⟩) with ⟨v, vm₁, ⟨U', l2, c2, s2⟩, hW₁, X', ⟨g', mk, t, L, e1, e2, hq, h1, hL, h2, h3⟩, st⟩ | ⟨q, vm₁, ⟨U', l2, c2, s2⟩, hW₁, X', ⟨g', mk, t, L, E, ce, e1, e2, hq, hce, hcv, hcl, h1, hL, h2, h3⟩, st⟩
  · dsimp only [Pt.U, Pt.locs, Pt.cells, Pt.slots] at X' e1 e2 h1 h2 h3 st
    subst h1; subst h2; subst h3
    exact Or.inl ⟨v, (T.setVm vm₁).calling g' mk (Value.ref b :: As).toArray, t, U', L, hT, X', hL, e1, e2, hq, st⟩
  · dsimp only [Pt.U, Pt.locs, Pt.cells, Pt.slots] at X' e1 e2 h1 h2 h3 st hcl
    subst h1; subst h2; subst h3
    exact Or.inr ⟨q, (T.setVm vm₁).calling g' mk (Value.ref b :: As).toArray, t, U', L, E, ce, hT, X', hL, e1, e2, hq, hce, hcv, vx_cls hW₁ hcl, st⟩
theorem vx_runSX {hh : List (Nat × Nat × Nat × Nat)} (S : CallFix p m c cc nL s args Ts own) (hM : vx_Met l y ws rm Pc Qc XC mc ms free) (cw : vx_CSW R s args own index y bytes maxL ret hh ws rm mc ms n) (hp : PreS s H Pc As)
    (hg : g.method = m) (hn : As.length = n) (hsize : g.locals.size = nL) (hstack : g.stack = As.reverse ++ rest) (hW : 2 * g.monitorRoom + (rest.map fun v => v.category).sum ≤ 8) (hdg : decode cc g.pc = .ok (.invokestatic index, 3)) (hf : cells + mc ≤ R.cells ∧ slots + ms ≤ R.slots) :
    vx_Run p l e R s m args below meth c H locs cells slots mc ms g rest (Qc As.toArray) XC free := by
  obtain ⟨⟨hrc, hrs, hfr, hlo, hws, hcw⟩, hcode, hini, hy, hlen, hl, hstt⟩ := cw
  have hK : vx_Back l R p e below s args y 3 8 (PreOf R mc ms Pc) (PostOf Qc mc ms free) (vx_Post XC mc ms free) := vx_backW (hh := hh) (bytes := bytes) (maxL := maxL) (ret := ret) hM hp.1 hrc hrs hfr hlo hws hcw (fun a' U hW => word_at hW (Or.inl (by first | rfl | simp [Cond.onTables, Cond.keeps, Cond.steady])) hini)
  obtain ⟨hx, hb, hml, ho, -⟩ := S
  intro T hT X
  rcases vx_callSX X hx (hh := hh) (bytes := bytes) (maxL := maxL) (ret := ret) ho hl hstt hini hcode hy hK hg (hsize.trans hml.symm) (argsL := As) (rest := rest) (fun sig h => hn.trans (hlen sig h)) hstack hW (by rw [hb]; exact hdg)
    (fun vm₁ hW₁ => ⟨hf.1, hf.2, hp.2 (T.setVm vm₁) hT hW₁⟩) with ⟨v, vm₁, ⟨U', l2, c2, s2⟩, hW₁, X', ⟨g', mk, t, L, e1, e2, hq, h1, hL, h2, h3⟩, st⟩ | ⟨q, vm₁, ⟨U', l2, c2, s2⟩, hW₁, X', ⟨g', mk, t, L, E, ce, e1, e2, hq, hce, hcv, hcl, h1, hL, h2, h3⟩, st⟩
  · dsimp only [Pt.U, Pt.locs, Pt.cells, Pt.slots] at X' e1 e2 h1 h2 h3 st
    subst h1; subst h2; subst h3
    exact Or.inl ⟨v, (T.setVm vm₁).calling g' mk As.toArray, t, U', L, hT, X', hL, e1, e2, hq, st⟩
  · dsimp only [Pt.U, Pt.locs, Pt.cells, Pt.slots] at X' e1 e2 h1 h2 h3 st hcl
    subst h1; subst h2; subst h3
    exact Or.inr ⟨q, (T.setVm vm₁).calling g' mk As.toArray, t, U', L, E, ce, hT, X', hL, e1, e2, hq, hce, hcv, vx_cls hW₁ hcl, st⟩
end
end VXH
theorem vx_ofWH {l : Launch} {y : MethodName} {ws ws' : List Cond} {rm : Room} {Pc : Array Value → State → Prop} {Qc : Array Value → State → Outcome → State → Prop} {XC : String → State → State → Prop} {mc ms : Nat} {free : Addr → Prop} {cc : ByteArray} {maxL : Nat} {ret : Option FieldType} {hh : List (Nat × Nat × Nat × Nat)}
    (hy : plainName y.cls = true) (hw : ws = Cond.codeWith y cc maxL ret hh :: ws')
    (body : ∀ p e s m args below meth c s₁, BodyLoose p l y (headSpec ws rm) cc maxL ret e s m args below meth c s₁ → c.maxLocals = maxL → Pc args s →
      W p l e (headSpec ws rm).room s m args below meth c s.heap [] 0 0 (vx_MQ below Qc XC args s mc ms free) (entryFrame m args maxL)) : vx_Met l y ws rm Pc Qc XC mc ms free := by
  refine MetFree.of_bodyS (code := cc) (maxLocals := maxL) (ret := ret) hy ?_ ?_
  · intro args s m h hn
    obtain ⟨m9, meth, c, hn9, h1, h2, h3, h4, -, h5, h6, -⟩ := Cond.codeWith_spec (atoms_spec (ws := ws) h _ (by rw [hw]; exact List.mem_cons_self))
    cases hn.symm.trans hn9
    exact ⟨meth, c, h1, h2, h3, h4, h5, h6⟩
  · intro p e s m args below meth c s₁ B hml hP _
    have hh0 : s₁.heap = s.heap := by rw [B.state]; rfl
    obtain ⟨t, a1, o, b1, b2, b3⟩ := body p e s m args below meth c s₁ B hml hP s₁ hh0 (Stand.of_body B)
    exact ⟨t, o, a1, b1, b2, b3⟩
/-! ===== END ===== -/
end
section
/-! AW: a walk of one method over an abstract world. A world is its size and what lies at which of its own addresses. -/
abbrev xG : Type := va_G × ClassId × ClassId × ClassId × ClassId × ClassId
def xTys (g : xG) : List (ClassId × FieldType) := [(g.2.1, .int), (g.2.2.1, .long), (g.2.2.2.1, .boolean), (g.2.2.2.2.1, .object RX3), (g.2.2.2.2.2, .object RX7)]
abbrev xV : Type := Nat × (Nat → Option va_E)
def xF (x : xV) : Nat → Prop := fun q => x.2 q ≠ none ∨ x.1 ≤ q
def xP (g : xG) (x : xV) (H : Heap) : Prop := H.size = x.1 ∧ ∀ (a : Nat) (e : va_E), x.2 a = some e → va_at g.1 vwCl (a, e) H
def xD (x0 x : xV) : Prop := ∀ a, x.2 a ≠ none → xF x0 a
/-- a method: its class, its bytes, its locals, what it returns, its name -/
abbrev xM : Type := String × ByteArray × Nat × Option FieldType × String
/-- what stays besides: the board's handicap points, arrays of games and nodes can be made, what a throw reads -/
def hpV (j : Nat) : Value := .int (match j with | 0 => 16 | 1 => 32 | 2 => 18 | _ => 30)
/-- the words of the tables that stay true though they aren't among wt -/
def xNk : Cond → Bool
  | .fieldLinkNest .. | .methodLinkNest .. | .castable .. => true
  | _ => false
def xI (x : xV) (U : State) (H : Heap) : Prop :=
  (∃ t : Nat, va_Z RX4 "HANDICAP_POINTS" "[I" (.ref t) (xF x) U H ∧ va_T .int t 4 hpV (xF x) U H) ∧ va_AO RX3 U ∧ va_AO RX7 U ∧ vx_Zq Bundle.tN "UNASSIGNED_STACK" Bundle.steD (xF x) U H ∧ vx_Zq Bundle.tN "SUPPRESSED_SENTINEL" Bundle.listD (xF x) U H ∧ ∀ (own : String) (k : Nat) (tx : String), Cond.stringRef own k tx ∈ lw_tbl → ∃ a : Nat, vk_R own k tx a U
def xJ (U : State) : Prop := ∀ w ∈ lw_tbl, xNk w = true → va_Nw w U
def xB (M : xM) (l : Launch) (g : xG) (x0 : xV) (o1 : Option Value ⊕ String) (p : Program) (s : State) (m : MethodId) (args : Array Value) (meth : Method) (c : Code) : Prop :=
  p.tables.exec = Jvm.exec ∧ c.code = M.2.1 ∧ c.maxLocals = M.2.2.1 ∧ meth.sig.returnType = M.2.2.2.1 ∧ meth.locks = false ∧ s.vm.findClass M.1 = some m.cls ∧ (∀ w ∈ wt, w.before args s = true) ∧ va_K g.1 vwCl (xTys g) s ∧ s.heap.size = x0.1 ∧ meth.name = M.2.2.2.2 ∧ (xI x0 s s.heap ∧ xJ s) ∧ (∀ E : String, o1 = .inr E → ∀ y ∈ c.exceptionTable.toList, False) ∧ l.stackTraces = false
def xH (g : xG) (x0 x : xV) (s : State) (H : Heap) (locs : List Loc) : Prop := xP g x H ∧ xD x0 x ∧ va_S (xF x0) s.heap H locs
def xQ (g : xG) (x0 : xV) (v1 : Option Value) (x1 : xV) : Array Value → State → Outcome → State → Prop := fun _ st o t => o = .returned v1 ∧ xP g x1 t.heap ∧ xD x0 x1 ∧ va_F (xF x0) st t
def xX (g : xG) (x0 : xV) (E : String) (x1 : xV) : String → State → State → Prop := fun E2 st t => E2 = E ∧ (∃ z : Nat, x1.1 ≤ z ∧ xP g (z, x1.2) t.heap) ∧ xD x0 x1 ∧ va_F (xF x0) st t
def xZ (rm : Room) (g : xG) (x0 : xV) (o1 : Option Value ⊕ String) (x1 : xV) (below : List Frame) (args : Array Value) (s : State) : State → Prop := match o1 with
  | .inl v => MQ below (xQ g x0 v x1) args s rm.cells rm.slots (xF x0)
  | .inr E => vx_MQ below (fun _ _ _ _ => False) (xX g x0 E x1) args s rm.cells rm.slots (xF x0)
/-- the walk: from pc with these locals and this stack over the world x, with kc cells and ks slots made so far, the method comes to its end: it returns (.inl) or throws (.inr) so, and leaves the world x1 -/
def AW (M : xM) (rm : Room) (l : Launch) (g : xG) (x0 : xV) (o1 : Option Value ⊕ String) (x1 : xV) (kc ks : Nat) (x : xV) (pc : Nat) (lv : List (Nat × Value)) (st : List Value) : Prop :=
  ∀ (p : Program) (e : Env) (s : State) (m : MethodId) (args : Array Value) (below : List Frame) (meth : Method) (c : Code), xB M l g x0 o1 p s m args meth c →
    ∀ (H : Heap) (locs : List Loc) (ls : Array Slot), xH g x0 x s H locs → lv_has ls M.2.2.1 lv →
      W p l e rm s m args below meth c H locs kc ks (xZ rm g x0 o1 x1 below args s) (F0 m pc ls st)
def xPc (g : xG) (x0 : xV) : State → Prop := fun U => xP g x0 U.heap ∧ va_K g.1 vwCl (xTys g) U ∧ xI x0 U U.heap ∧ xJ U
/-- a method's contract: from the world x0 it returns or throws so, and leaves the world x1 -/
def CT (y : MethodName) (M : xM) (rm : Room) (l : Launch) (g : xG) (av : List Value) (x0 : xV) (o1 : Option Value ⊕ String) (x1 : xV) : Prop := match o1 with
  | .inl v => Met l y (.code y M.2.1 M.2.2.1 M.2.2.2.1 :: wt) rm (va_Pc av (xPc g x0)) (xQ g x0 v x1) rm.cells rm.slots (xF x0)
  | .inr E => vx_Met l y (.code y M.2.1 M.2.2.1 M.2.2.2.1 :: wt) rm (va_Pc av (xPc g x0)) (fun _ _ _ _ => False) (xX g x0 E x1) rm.cells rm.slots (xF x0)
theorem xD.self {x : xV} : xD x x := fun _ h => Or.inl h
theorem CT.of {y : MethodName} {M : xM} {lv0 : List (Nat × Value)} {rm : Room} {l : Launch} {g : xG} {av : List Value} {x0 : xV} {o1 : Option Value ⊕ String} {x1 : xV} (hy : plainName y.cls = true) (hc : y.cls = M.1) (hn : y.name = M.2.2.2.2) (hL : (lg_sl av).length ≤ M.2.2.1) (hlv : lv_args 0 av = lv0) (hl : l.stackTraces = false)
    (hw : AW M rm l g x0 o1 x1 0 0 x0 0 lv0 []) : CT y M rm l g av x0 o1 x1 := by
  subst hlv
  cases o1 with
  | inl v =>
    refine Met.ofW (cc := M.2.1) (maxL := M.2.2.1) (ret := M.2.2.2.1) hy rfl ?_
    intro p e s m args below meth c s₁ B hml hv
    obtain ⟨rfl, hP, hK, hI⟩ := hv
    have hts := atoms_spec (ws := .code y M.2.1 M.2.2.1 M.2.2.2.1 :: wt) B.pre
    rw [lg_entry_eq]
    refine hw p e s m _ below meth c ⟨B.exec, B.bytes, hml, B.returns, B.notSynchronized, ?_, fun w h => hts w (List.mem_cons_of_mem _ h), hK, hP.1, ?_, hI, (fun E h => by cases h), hl⟩ s.heap [] _ ⟨hP, xD.self, va_S.rf⟩ (lv_entry av hL)
    · rw [← hc]; exact findClass_of_methodNamed B.named
    · rw [← hn]; exact (name_of_methodNamed B.named B.method).1
  | inr E =>
    refine vx_ofW (cc := M.2.1) (maxL := M.2.2.1) (ret := M.2.2.2.1) hy rfl ?_
    intro p e s m args below meth c s₁ B hml ht hv
    obtain ⟨rfl, hP, hK, hI⟩ := hv
    have hts := atoms_spec (ws := .code y M.2.1 M.2.2.1 M.2.2.2.1 :: wt) B.pre
    rw [lg_entry_eq]
    refine hw p e s m _ below meth c ⟨B.exec, B.bytes, hml, B.returns, B.notSynchronized, ?_, fun w h => hts w (List.mem_cons_of_mem _ h), hK, hP.1, ?_, hI, (fun E h => ht), hl⟩ s.heap [] _ ⟨hP, xD.self, va_S.rf⟩ (lv_entry av hL)
    · rw [← hc]; exact findClass_of_methodNamed B.named
    · rw [← hn]; exact (name_of_methodNamed B.named B.method).1
section AWR
variable {M : xM} {rm : Room} {l : Launch} {g : xG} {x0 : xV} {o1 : Option Value ⊕ String} {x1 : xV} {kc ks : Nat} {x : xV} {pc : Nat} {lv : List (Nat × Value)} {st : List Value}
theorem aw_iconst (v : Int32) {n : Int} (hd : decode M.2.1 pc = .ok (.iconst n, 1)) (hv : Int32.ofInt n = v) (k : AW M rm l g x0 o1 x1 kc ks x (pc + 1) lv (.int v :: st)) : AW M rm l g x0 o1 x1 kc ks x (pc) lv (st) := fun p e s m args below meth c B H locs ls hH hl => lv_iconst B.1 B.2.1 hd hv (k p e s m args below meth c B H locs ls hH hl)
theorem aw_bipush (v : Int32) {n : Int} (hd : decode M.2.1 pc = .ok (.bipush n, 2)) (hv : (Int8.ofInt n).toInt32 = v) (k : AW M rm l g x0 o1 x1 kc ks x (pc + 2) lv (.int v :: st)) : AW M rm l g x0 o1 x1 kc ks x (pc) lv (st) := fun p e s m args below meth c B H locs ls hH hl => lv_bipush B.1 B.2.1 hd hv (k p e s m args below meth c B H locs ls hH hl)
theorem aw_sipush (v : Int32) {n : Int} (hd : decode M.2.1 pc = .ok (.sipush n, 3)) (hv : (Int16.ofInt n).toInt32 = v) (k : AW M rm l g x0 o1 x1 kc ks x (pc + 3) lv (.int v :: st)) : AW M rm l g x0 o1 x1 kc ks x (pc) lv (st) := fun p e s m args below meth c B H locs ls hH hl => lv_sipush B.1 B.2.1 hd hv (k p e s m args below meth c B H locs ls hH hl)
theorem aw_lconst (v : Int64) {n : Fin 2} (hd : decode M.2.1 pc = .ok (.lconst n, 1)) (hv : Int64.ofNat (n : Nat) = v) (k : AW M rm l g x0 o1 x1 kc ks x (pc + 1) lv (.long v :: st)) : AW M rm l g x0 o1 x1 kc ks x (pc) lv (st) := fun p e s m args below meth c B H locs ls hH hl => lv_lconst B.1 B.2.1 hd hv (k p e s m args below meth c B H locs ls hH hl)
theorem aw_ldc (v : Int32) {own : String} {index : Nat} (ho : own = M.1) (hc : Jvm.Cond.constant own index v ∈ wt) (hd : decode M.2.1 pc = .ok (.ldc index, 2)) (k : AW M rm l g x0 o1 x1 kc ks x (pc + 2) lv (.int v :: st)) : AW M rm l g x0 o1 x1 kc ks x (pc) lv (st) := fun p e s m args below meth c B H locs ls hH hl => lv_ldc B.1 B.2.1 (by rw [ho]; exact B.2.2.2.2.2.1) (B.2.2.2.2.2.2.1 _ hc) hd (k p e s m args below meth c B H locs ls hH hl)
theorem aw_ldc2 (v : Int64) {own : String} {index : Nat} (ho : own = M.1) (hc : Jvm.Cond.constantLong own index v ∈ wt) (hd : decode M.2.1 pc = .ok (.ldc2_w index, 3)) (k : AW M rm l g x0 o1 x1 kc ks x (pc + 3) lv (.long v :: st)) : AW M rm l g x0 o1 x1 kc ks x (pc) lv (st) := fun p e s m args below meth c B H locs ls hH hl => lv_ldc2 B.1 B.2.1 (by rw [ho]; exact B.2.2.2.2.2.1) (B.2.2.2.2.2.2.1 _ hc) hd (k p e s m args below meth c B H locs ls hH hl)
theorem aw_iload_n (j : Nat) {q : Fin 4} {x_ : Int32} (hd : decode M.2.1 pc = .ok (.iload_n q, 1)) (hj : lv[j]? = some ((q : Nat), Value.int x_)) (k : AW M rm l g x0 o1 x1 kc ks x (pc + 1) lv (Value.int x_ :: st)) : AW M rm l g x0 o1 x1 kc ks x (pc) lv (st) := fun p e s m args below meth c B H locs ls hH hl => lv_iload_n B.1 B.2.1 hd rfl (lv_at hl j hj) (k p e s m args below meth c B H locs ls hH hl)
theorem aw_iload (j : Nat) {q : Nat} {x_ : Int32} (hd : decode M.2.1 pc = .ok (.iload q, 2)) (hj : lv[j]? = some (q, Value.int x_)) (k : AW M rm l g x0 o1 x1 kc ks x (pc + 2) lv (Value.int x_ :: st)) : AW M rm l g x0 o1 x1 kc ks x (pc) lv (st) := fun p e s m args below meth c B H locs ls hH hl => lv_iload B.1 B.2.1 hd (lv_at hl j hj) (k p e s m args below meth c B H locs ls hH hl)
theorem aw_lload_n (j : Nat) {q : Fin 4} {x_ : Int64} (hd : decode M.2.1 pc = .ok (.lload_n q, 1)) (hj : lv[j]? = some ((q : Nat), Value.long x_)) (k : AW M rm l g x0 o1 x1 kc ks x (pc + 1) lv (Value.long x_ :: st)) : AW M rm l g x0 o1 x1 kc ks x (pc) lv (st) := fun p e s m args below meth c B H locs ls hH hl => lv_lload_n B.1 B.2.1 hd rfl (lv_at hl j hj) (k p e s m args below meth c B H locs ls hH hl)
theorem aw_lload (j : Nat) {q : Nat} {x_ : Int64} (hd : decode M.2.1 pc = .ok (.lload q, 2)) (hj : lv[j]? = some (q, Value.long x_)) (k : AW M rm l g x0 o1 x1 kc ks x (pc + 2) lv (Value.long x_ :: st)) : AW M rm l g x0 o1 x1 kc ks x (pc) lv (st) := fun p e s m args below meth c B H locs ls hH hl => lv_lload B.1 B.2.1 hd (lv_at hl j hj) (k p e s m args below meth c B H locs ls hH hl)
theorem aw_aload_n (j : Nat) {q : Fin 4} {x_ : Nat} (hd : decode M.2.1 pc = .ok (.aload_n q, 1)) (hj : lv[j]? = some ((q : Nat), Value.ref x_)) (k : AW M rm l g x0 o1 x1 kc ks x (pc + 1) lv (Value.ref x_ :: st)) : AW M rm l g x0 o1 x1 kc ks x (pc) lv (st) := fun p e s m args below meth c B H locs ls hH hl => lv_aload_n B.1 B.2.1 hd rfl (lv_at hl j hj) (k p e s m args below meth c B H locs ls hH hl)
theorem aw_aload (j : Nat) {q : Nat} {x_ : Nat} (hd : decode M.2.1 pc = .ok (.aload q, 2)) (hj : lv[j]? = some (q, Value.ref x_)) (k : AW M rm l g x0 o1 x1 kc ks x (pc + 2) lv (Value.ref x_ :: st)) : AW M rm l g x0 o1 x1 kc ks x (pc) lv (st) := fun p e s m args below meth c B H locs ls hH hl => lv_aload B.1 B.2.1 hd (lv_at hl j hj) (k p e s m args below meth c B H locs ls hH hl)
theorem aw_qload_n (j : Nat) {q : Fin 4} {r : Option Nat} (hd : decode M.2.1 pc = .ok (.aload_n q, 1)) (hj : lv[j]? = some ((q : Nat), va_rf r)) (k : AW M rm l g x0 o1 x1 kc ks x (pc + 1) lv (va_rf r :: st)) : AW M rm l g x0 o1 x1 kc ks x (pc) lv (st) := fun p e s m args below meth c B H locs ls hH hl => by
  cases r with
  | none => exact lv_aload_nN B.1 B.2.1 hd rfl (lv_at hl j hj) (k p e s m args below meth c B H locs ls hH hl)
  | some a => exact lv_aload_n B.1 B.2.1 hd rfl (lv_at hl j hj) (k p e s m args below meth c B H locs ls hH hl)
theorem aw_qload (j : Nat) {q : Nat} {r : Option Nat} (hd : decode M.2.1 pc = .ok (.aload q, 2)) (hj : lv[j]? = some (q, va_rf r)) (k : AW M rm l g x0 o1 x1 kc ks x (pc + 2) lv (va_rf r :: st)) : AW M rm l g x0 o1 x1 kc ks x (pc) lv (st) := fun p e s m args below meth c B H locs ls hH hl => by
  cases r with
  | none => exact lv_aloadN B.1 B.2.1 hd (lv_at hl j hj) (k p e s m args below meth c B H locs ls hH hl)
  | some a => exact lv_aload B.1 B.2.1 hd (lv_at hl j hj) (k p e s m args below meth c B H locs ls hH hl)
theorem aw_istore_n (lv2 : List (Nat × Value)) {q : Fin 4} {i : Nat} {x_ : Int32} (hd : decode M.2.1 pc = .ok (.istore_n q, 1)) (hi : (q : Nat) = i) (hn : i < M.2.2.1) (hl2 : (i, Value.int x_) :: lv.filter (fun q => !(q.1 == i) && !(q.1 + 1 == i && q.2.category == 2)) = lv2) (k : AW M rm l g x0 o1 x1 kc ks x (pc + 1) lv2 (st)) : AW M rm l g x0 o1 x1 kc ks x (pc) lv (Value.int x_ :: st) := fun p e s m args below meth c B H locs ls hH hl => lv_istore_n B.1 B.2.1 hd hi hl hn hl2 (fun ls2 hl3 => k p e s m args below meth c B H locs ls2 hH hl3)
theorem aw_istore (lv2 : List (Nat × Value)) {i : Nat} {x_ : Int32} (hd : decode M.2.1 pc = .ok (.istore i, 2)) (hn : i < M.2.2.1) (hl2 : (i, Value.int x_) :: lv.filter (fun q => !(q.1 == i) && !(q.1 + 1 == i && q.2.category == 2)) = lv2) (k : AW M rm l g x0 o1 x1 kc ks x (pc + 2) lv2 (st)) : AW M rm l g x0 o1 x1 kc ks x (pc) lv (Value.int x_ :: st) := fun p e s m args below meth c B H locs ls hH hl => lv_istore B.1 B.2.1 hd hl hn hl2 (fun ls2 hl3 => k p e s m args below meth c B H locs ls2 hH hl3)
theorem aw_lstore_n (lv2 : List (Nat × Value)) {q : Fin 4} {i : Nat} {x_ : Int64} (hd : decode M.2.1 pc = .ok (.lstore_n q, 1)) (hi : (q : Nat) = i) (hn : i + 1 < M.2.2.1) (hl2 : (i, Value.long x_) :: lv.filter (fun q => !(q.1 == i) && (!(q.1 == i + 1) && !(q.1 + 1 == i && q.2.category == 2))) = lv2) (k : AW M rm l g x0 o1 x1 kc ks x (pc + 1) lv2 (st)) : AW M rm l g x0 o1 x1 kc ks x (pc) lv (Value.long x_ :: st) := fun p e s m args below meth c B H locs ls hH hl => lv_lstore_n B.1 B.2.1 hd hi hl hn hl2 (fun ls2 hl3 => k p e s m args below meth c B H locs ls2 hH hl3)
theorem aw_lstore (lv2 : List (Nat × Value)) {i : Nat} {x_ : Int64} (hd : decode M.2.1 pc = .ok (.lstore i, 2)) (hn : i + 1 < M.2.2.1) (hl2 : (i, Value.long x_) :: lv.filter (fun q => !(q.1 == i) && (!(q.1 == i + 1) && !(q.1 + 1 == i && q.2.category == 2))) = lv2) (k : AW M rm l g x0 o1 x1 kc ks x (pc + 2) lv2 (st)) : AW M rm l g x0 o1 x1 kc ks x (pc) lv (Value.long x_ :: st) := fun p e s m args below meth c B H locs ls hH hl => lv_lstore B.1 B.2.1 hd hl hn hl2 (fun ls2 hl3 => k p e s m args below meth c B H locs ls2 hH hl3)
theorem aw_qstore_n (lv2 : List (Nat × Value)) {q : Fin 4} {i : Nat} {r : Option Nat} (hd : decode M.2.1 pc = .ok (.astore_n q, 1)) (hi : (q : Nat) = i) (hn : i < M.2.2.1) (hl2 : (i, va_rf r) :: lv.filter (fun q => !(q.1 == i) && !(q.1 + 1 == i && q.2.category == 2)) = lv2) (k : AW M rm l g x0 o1 x1 kc ks x (pc + 1) lv2 (st)) : AW M rm l g x0 o1 x1 kc ks x (pc) lv (va_rf r :: st) := fun p e s m args below meth c B H locs ls hH hl => by
  cases r with
  | none => exact lv_astore_nN B.1 B.2.1 hd hi hl hn hl2 (fun ls2 hl3 => k p e s m args below meth c B H locs ls2 hH hl3)
  | some a => exact lv_astore_n B.1 B.2.1 hd hi hl hn hl2 (fun ls2 hl3 => k p e s m args below meth c B H locs ls2 hH hl3)
theorem aw_qstore (lv2 : List (Nat × Value)) {i : Nat} {r : Option Nat} (hd : decode M.2.1 pc = .ok (.astore i, 2)) (hn : i < M.2.2.1) (hl2 : (i, va_rf r) :: lv.filter (fun q => !(q.1 == i) && !(q.1 + 1 == i && q.2.category == 2)) = lv2) (k : AW M rm l g x0 o1 x1 kc ks x (pc + 2) lv2 (st)) : AW M rm l g x0 o1 x1 kc ks x (pc) lv (va_rf r :: st) := fun p e s m args below meth c B H locs ls hH hl => by
  cases r with
  | none => exact lv_astoreN B.1 B.2.1 hd hl hn hl2 (fun ls2 hl3 => k p e s m args below meth c B H locs ls2 hH hl3)
  | some a => exact lv_astore B.1 B.2.1 hd hl hn hl2 (fun ls2 hl3 => k p e s m args below meth c B H locs ls2 hH hl3)
theorem aw_iinc (lv2 : List (Nat × Value)) (j : Nat) {i : Nat} {n : Int} {x_ v : Int32} (hd : decode M.2.1 pc = .ok (.iinc i n, 3)) (hj : lv[j]? = some (i, .int x_)) (hv : x_ + Int32.ofInt n = v) (hn : i < M.2.2.1) (hl2 : (i, Value.int v) :: lv.filter (fun q => !(q.1 == i) && !(q.1 + 1 == i && q.2.category == 2)) = lv2) (k : AW M rm l g x0 o1 x1 kc ks x (pc + 3) lv2 (st)) : AW M rm l g x0 o1 x1 kc ks x (pc) lv (st) := fun p e s m args below meth c B H locs ls hH hl => lv_iinc B.1 B.2.1 hd hl hj hv hn hl2 (fun ls2 hl3 => k p e s m args below meth c B H locs ls2 hH hl3)
theorem aw_iadd {a b : Int32} (hd : decode M.2.1 pc = .ok (.iadd, 1)) (k : AW M rm l g x0 o1 x1 kc ks x (pc + 1) lv (.int (a + b) :: st)) : AW M rm l g x0 o1 x1 kc ks x (pc) lv (.int b :: .int a :: st) := fun p e s m args below meth c B H locs ls hH hl => lv_iadd B.1 B.2.1 hd (k p e s m args below meth c B H locs ls hH hl)
theorem aw_isub {a b : Int32} (hd : decode M.2.1 pc = .ok (.isub, 1)) (k : AW M rm l g x0 o1 x1 kc ks x (pc + 1) lv (.int (a - b) :: st)) : AW M rm l g x0 o1 x1 kc ks x (pc) lv (.int b :: .int a :: st) := fun p e s m args below meth c B H locs ls hH hl => lv_isub B.1 B.2.1 hd (k p e s m args below meth c B H locs ls hH hl)
theorem aw_imul {a b : Int32} (hd : decode M.2.1 pc = .ok (.imul, 1)) (k : AW M rm l g x0 o1 x1 kc ks x (pc + 1) lv (.int (a * b) :: st)) : AW M rm l g x0 o1 x1 kc ks x (pc) lv (.int b :: .int a :: st) := fun p e s m args below meth c B H locs ls hH hl => lv_imul B.1 B.2.1 hd (k p e s m args below meth c B H locs ls hH hl)
theorem aw_iand {a b : Int32} (hd : decode M.2.1 pc = .ok (.iand, 1)) (k : AW M rm l g x0 o1 x1 kc ks x (pc + 1) lv (.int (a &&& b) :: st)) : AW M rm l g x0 o1 x1 kc ks x (pc) lv (.int b :: .int a :: st) := fun p e s m args below meth c B H locs ls hH hl => lv_iand B.1 B.2.1 hd (k p e s m args below meth c B H locs ls hH hl)
theorem aw_ior {a b : Int32} (hd : decode M.2.1 pc = .ok (.ior, 1)) (k : AW M rm l g x0 o1 x1 kc ks x (pc + 1) lv (.int (a ||| b) :: st)) : AW M rm l g x0 o1 x1 kc ks x (pc) lv (.int b :: .int a :: st) := fun p e s m args below meth c B H locs ls hH hl => lv_ior B.1 B.2.1 hd (k p e s m args below meth c B H locs ls hH hl)
theorem aw_lsub {a b : Int64} (hd : decode M.2.1 pc = .ok (.lsub, 1)) (k : AW M rm l g x0 o1 x1 kc ks x (pc + 1) lv (.long (a - b) :: st)) : AW M rm l g x0 o1 x1 kc ks x (pc) lv (.long b :: .long a :: st) := fun p e s m args below meth c B H locs ls hH hl => lv_lsub B.1 B.2.1 hd (k p e s m args below meth c B H locs ls hH hl)
theorem aw_land {a b : Int64} (hd : decode M.2.1 pc = .ok (.land, 1)) (k : AW M rm l g x0 o1 x1 kc ks x (pc + 1) lv (.long (a &&& b) :: st)) : AW M rm l g x0 o1 x1 kc ks x (pc) lv (.long b :: .long a :: st) := fun p e s m args below meth c B H locs ls hH hl => lv_land B.1 B.2.1 hd (k p e s m args below meth c B H locs ls hH hl)
theorem aw_lor {a b : Int64} (hd : decode M.2.1 pc = .ok (.lor, 1)) (k : AW M rm l g x0 o1 x1 kc ks x (pc + 1) lv (.long (a ||| b) :: st)) : AW M rm l g x0 o1 x1 kc ks x (pc) lv (.long b :: .long a :: st) := fun p e s m args below meth c B H locs ls hH hl => lv_lor B.1 B.2.1 hd (k p e s m args below meth c B H locs ls hH hl)
theorem aw_lxor {a b : Int64} (hd : decode M.2.1 pc = .ok (.lxor, 1)) (k : AW M rm l g x0 o1 x1 kc ks x (pc + 1) lv (.long (a ^^^ b) :: st)) : AW M rm l g x0 o1 x1 kc ks x (pc) lv (.long b :: .long a :: st) := fun p e s m args below meth c B H locs ls hH hl => lv_lxor B.1 B.2.1 hd (k p e s m args below meth c B H locs ls hH hl)
theorem aw_ladd {a b : Int64} (hd : decode M.2.1 pc = .ok (.ladd, 1)) (k : AW M rm l g x0 o1 x1 kc ks x (pc + 1) lv (.long (a + b) :: st)) : AW M rm l g x0 o1 x1 kc ks x (pc) lv (.long b :: .long a :: st) := fun p e s m args below meth c B H locs ls hH hl => lv_ladd B.1 B.2.1 hd (k p e s m args below meth c B H locs ls hH hl)
theorem aw_idiv {a b : Int32} (hd : decode M.2.1 pc = .ok (.idiv, 1)) (hne : ¬ b = 0) (k : AW M rm l g x0 o1 x1 kc ks x (pc + 1) lv (.int (a / b) :: st)) : AW M rm l g x0 o1 x1 kc ks x (pc) lv (.int b :: .int a :: st) := fun p e s m args below meth c B H locs ls hH hl => lv_idiv B.1 B.2.1 hd hne (k p e s m args below meth c B H locs ls hH hl)
theorem aw_irem {a b : Int32} (hd : decode M.2.1 pc = .ok (.irem, 1)) (hne : ¬ b = 0) (k : AW M rm l g x0 o1 x1 kc ks x (pc + 1) lv (.int (a - a / b * b) :: st)) : AW M rm l g x0 o1 x1 kc ks x (pc) lv (.int b :: .int a :: st) := fun p e s m args below meth c B H locs ls hH hl => lv_irem B.1 B.2.1 hd hne (k p e s m args below meth c B H locs ls hH hl)
theorem aw_ineg {a : Int32} (hd : decode M.2.1 pc = .ok (.ineg, 1)) (k : AW M rm l g x0 o1 x1 kc ks x (pc + 1) lv (.int (-a) :: st)) : AW M rm l g x0 o1 x1 kc ks x (pc) lv (.int a :: st) := fun p e s m args below meth c B H locs ls hH hl => lv_ineg B.1 B.2.1 hd (k p e s m args below meth c B H locs ls hH hl)
theorem aw_lneg {a : Int64} (hd : decode M.2.1 pc = .ok (.lneg, 1)) (k : AW M rm l g x0 o1 x1 kc ks x (pc + 1) lv (.long (-a) :: st)) : AW M rm l g x0 o1 x1 kc ks x (pc) lv (.long a :: st) := fun p e s m args below meth c B H locs ls hH hl => lv_lneg B.1 B.2.1 hd (k p e s m args below meth c B H locs ls hH hl)
theorem aw_i2l {a : Int32} (hd : decode M.2.1 pc = .ok (.i2l, 1)) (k : AW M rm l g x0 o1 x1 kc ks x (pc + 1) lv (.long a.toInt64 :: st)) : AW M rm l g x0 o1 x1 kc ks x (pc) lv (.int a :: st) := fun p e s m args below meth c B H locs ls hH hl => lv_i2l B.1 B.2.1 hd rfl (k p e s m args below meth c B H locs ls hH hl)
def x_ushr (a : Int64) (b : Int32) : Int64 := (a.toUInt64 >>> (b.toInt64.toUInt64 &&& Int64.toUInt64 63)).toInt64
theorem aw_lushr {a : Int64} {b : Int32} (hd : decode M.2.1 pc = .ok (.lushr, 1)) (k : AW M rm l g x0 o1 x1 kc ks x (pc + 1) lv (.long (x_ushr a b) :: st)) : AW M rm l g x0 o1 x1 kc ks x (pc) lv (.int b :: .long a :: st) := fun p e s m args below meth c B H locs ls hH hl => lv_lushr B.1 B.2.1 hd rfl (k p e s m args below meth c B H locs ls hH hl)
def x_shl (a : Int64) (b : Int32) : Int64 := a <<< (b.toInt64 &&& 63)
theorem aw_lshl {a : Int64} {b : Int32} (hd : decode M.2.1 pc = .ok (.lshl, 1)) (k : AW M rm l g x0 o1 x1 kc ks x (pc + 1) lv (.long (x_shl a b) :: st)) : AW M rm l g x0 o1 x1 kc ks x (pc) lv (.int b :: .long a :: st) := fun p e s m args below meth c B H locs ls hH hl => lv_lshl B.1 B.2.1 hd rfl (k p e s m args below meth c B H locs ls hH hl)
def x_ishl (a b : Int32) : Int32 := a <<< (b &&& 31)
def x_ishr (a b : Int32) : Int32 := a >>> (b &&& 31)
theorem aw_ishl {a b : Int32} (hd : decode M.2.1 pc = .ok (.ishl, 1)) (k : AW M rm l g x0 o1 x1 kc ks x (pc + 1) lv (.int (x_ishl a b) :: st)) : AW M rm l g x0 o1 x1 kc ks x (pc) lv (.int b :: .int a :: st) := fun p e s m args below meth c B H locs ls hH hl => lv_ishl B.1 B.2.1 hd (k p e s m args below meth c B H locs ls hH hl)
theorem aw_ishr {a b : Int32} (hd : decode M.2.1 pc = .ok (.ishr, 1)) (k : AW M rm l g x0 o1 x1 kc ks x (pc + 1) lv (.int (x_ishr a b) :: st)) : AW M rm l g x0 o1 x1 kc ks x (pc) lv (.int b :: .int a :: st) := fun p e s m args below meth c B H locs ls hH hl => lv_ishr B.1 B.2.1 hd (k p e s m args below meth c B H locs ls hH hl)
theorem aw_icmp_eq (tgt : Nat) {a b : Int32} {off : Int} (hd : decode M.2.1 pc = .ok (.if_icmp .eq off, 3)) (ht : (pc : Int) + off = (tgt : Int)) (kt : a = b → AW M rm l g x0 o1 x1 kc ks x (tgt) lv (st)) (kf : ¬ (a = b) → AW M rm l g x0 o1 x1 kc ks x (pc + 3) lv (st)) : AW M rm l g x0 o1 x1 kc ks x (pc) lv (.int b :: .int a :: st) := fun p e s m args below meth c B H locs ls hH hl => lv_icmp_eq B.1 B.2.1 hd ht (fun q => kt q p e s m args below meth c B H locs ls hH hl) (fun q => kf q p e s m args below meth c B H locs ls hH hl)
theorem aw_icmp_ne (tgt : Nat) {a b : Int32} {off : Int} (hd : decode M.2.1 pc = .ok (.if_icmp .ne off, 3)) (ht : (pc : Int) + off = (tgt : Int)) (kt : a ≠ b → AW M rm l g x0 o1 x1 kc ks x (tgt) lv (st)) (kf : (a = b) → AW M rm l g x0 o1 x1 kc ks x (pc + 3) lv (st)) : AW M rm l g x0 o1 x1 kc ks x (pc) lv (.int b :: .int a :: st) := fun p e s m args below meth c B H locs ls hH hl => lv_icmp_ne B.1 B.2.1 hd ht (fun q => kt q p e s m args below meth c B H locs ls hH hl) (fun q => kf q p e s m args below meth c B H locs ls hH hl)
theorem aw_icmp_lt (tgt : Nat) {a b : Int32} {off : Int} (hd : decode M.2.1 pc = .ok (.if_icmp .lt off, 3)) (ht : (pc : Int) + off = (tgt : Int)) (kt : a < b → AW M rm l g x0 o1 x1 kc ks x (tgt) lv (st)) (kf : ¬ (a < b) → AW M rm l g x0 o1 x1 kc ks x (pc + 3) lv (st)) : AW M rm l g x0 o1 x1 kc ks x (pc) lv (.int b :: .int a :: st) := fun p e s m args below meth c B H locs ls hH hl => lv_icmp_lt B.1 B.2.1 hd ht (fun q => kt q p e s m args below meth c B H locs ls hH hl) (fun q => kf q p e s m args below meth c B H locs ls hH hl)
theorem aw_icmp_ge (tgt : Nat) {a b : Int32} {off : Int} (hd : decode M.2.1 pc = .ok (.if_icmp .ge off, 3)) (ht : (pc : Int) + off = (tgt : Int)) (kt : b ≤ a → AW M rm l g x0 o1 x1 kc ks x (tgt) lv (st)) (kf : ¬ (b ≤ a) → AW M rm l g x0 o1 x1 kc ks x (pc + 3) lv (st)) : AW M rm l g x0 o1 x1 kc ks x (pc) lv (.int b :: .int a :: st) := fun p e s m args below meth c B H locs ls hH hl => lv_icmp_ge B.1 B.2.1 hd ht (fun q => kt q p e s m args below meth c B H locs ls hH hl) (fun q => kf q p e s m args below meth c B H locs ls hH hl)
theorem aw_icmp_gt (tgt : Nat) {a b : Int32} {off : Int} (hd : decode M.2.1 pc = .ok (.if_icmp .gt off, 3)) (ht : (pc : Int) + off = (tgt : Int)) (kt : b < a → AW M rm l g x0 o1 x1 kc ks x (tgt) lv (st)) (kf : ¬ (b < a) → AW M rm l g x0 o1 x1 kc ks x (pc + 3) lv (st)) : AW M rm l g x0 o1 x1 kc ks x (pc) lv (.int b :: .int a :: st) := fun p e s m args below meth c B H locs ls hH hl => lv_icmp_gt B.1 B.2.1 hd ht (fun q => kt q p e s m args below meth c B H locs ls hH hl) (fun q => kf q p e s m args below meth c B H locs ls hH hl)
theorem aw_icmp_le (tgt : Nat) {a b : Int32} {off : Int} (hd : decode M.2.1 pc = .ok (.if_icmp .le off, 3)) (ht : (pc : Int) + off = (tgt : Int)) (kt : a ≤ b → AW M rm l g x0 o1 x1 kc ks x (tgt) lv (st)) (kf : ¬ (a ≤ b) → AW M rm l g x0 o1 x1 kc ks x (pc + 3) lv (st)) : AW M rm l g x0 o1 x1 kc ks x (pc) lv (.int b :: .int a :: st) := fun p e s m args below meth c B H locs ls hH hl => lv_icmp_le B.1 B.2.1 hd ht (fun q => kt q p e s m args below meth c B H locs ls hH hl) (fun q => kf q p e s m args below meth c B H locs ls hH hl)
theorem aw_if_eq (tgt : Nat) {a : Int32} {off : Int} (hd : decode M.2.1 pc = .ok (.ifCond .eq off, 3)) (ht : (pc : Int) + off = (tgt : Int)) (kt : a = 0 → AW M rm l g x0 o1 x1 kc ks x (tgt) lv (st)) (kf : ¬ (a = 0) → AW M rm l g x0 o1 x1 kc ks x (pc + 3) lv (st)) : AW M rm l g x0 o1 x1 kc ks x (pc) lv (.int a :: st) := fun p e s m args below meth c B H locs ls hH hl => lv_if_eq B.1 B.2.1 hd ht (fun q => kt q p e s m args below meth c B H locs ls hH hl) (fun q => kf q p e s m args below meth c B H locs ls hH hl)
theorem aw_if_ne (tgt : Nat) {a : Int32} {off : Int} (hd : decode M.2.1 pc = .ok (.ifCond .ne off, 3)) (ht : (pc : Int) + off = (tgt : Int)) (kt : a ≠ 0 → AW M rm l g x0 o1 x1 kc ks x (tgt) lv (st)) (kf : (a = 0) → AW M rm l g x0 o1 x1 kc ks x (pc + 3) lv (st)) : AW M rm l g x0 o1 x1 kc ks x (pc) lv (.int a :: st) := fun p e s m args below meth c B H locs ls hH hl => lv_if_ne B.1 B.2.1 hd ht (fun q => kt q p e s m args below meth c B H locs ls hH hl) (fun q => kf q p e s m args below meth c B H locs ls hH hl)
theorem aw_if_lt (tgt : Nat) {a : Int32} {off : Int} (hd : decode M.2.1 pc = .ok (.ifCond .lt off, 3)) (ht : (pc : Int) + off = (tgt : Int)) (kt : a < 0 → AW M rm l g x0 o1 x1 kc ks x (tgt) lv (st)) (kf : ¬ (a < 0) → AW M rm l g x0 o1 x1 kc ks x (pc + 3) lv (st)) : AW M rm l g x0 o1 x1 kc ks x (pc) lv (.int a :: st) := fun p e s m args below meth c B H locs ls hH hl => lv_if_lt B.1 B.2.1 hd ht (fun q => kt q p e s m args below meth c B H locs ls hH hl) (fun q => kf q p e s m args below meth c B H locs ls hH hl)
theorem aw_if_ge (tgt : Nat) {a : Int32} {off : Int} (hd : decode M.2.1 pc = .ok (.ifCond .ge off, 3)) (ht : (pc : Int) + off = (tgt : Int)) (kt : 0 ≤ a → AW M rm l g x0 o1 x1 kc ks x (tgt) lv (st)) (kf : ¬ (0 ≤ a) → AW M rm l g x0 o1 x1 kc ks x (pc + 3) lv (st)) : AW M rm l g x0 o1 x1 kc ks x (pc) lv (.int a :: st) := fun p e s m args below meth c B H locs ls hH hl => lv_if_ge B.1 B.2.1 hd ht (fun q => kt q p e s m args below meth c B H locs ls hH hl) (fun q => kf q p e s m args below meth c B H locs ls hH hl)
theorem aw_if_gt (tgt : Nat) {a : Int32} {off : Int} (hd : decode M.2.1 pc = .ok (.ifCond .gt off, 3)) (ht : (pc : Int) + off = (tgt : Int)) (kt : 0 < a → AW M rm l g x0 o1 x1 kc ks x (tgt) lv (st)) (kf : ¬ (0 < a) → AW M rm l g x0 o1 x1 kc ks x (pc + 3) lv (st)) : AW M rm l g x0 o1 x1 kc ks x (pc) lv (.int a :: st) := fun p e s m args below meth c B H locs ls hH hl => lv_if_gt B.1 B.2.1 hd ht (fun q => kt q p e s m args below meth c B H locs ls hH hl) (fun q => kf q p e s m args below meth c B H locs ls hH hl)
theorem aw_if_le (tgt : Nat) {a : Int32} {off : Int} (hd : decode M.2.1 pc = .ok (.ifCond .le off, 3)) (ht : (pc : Int) + off = (tgt : Int)) (kt : a ≤ 0 → AW M rm l g x0 o1 x1 kc ks x (tgt) lv (st)) (kf : ¬ (a ≤ 0) → AW M rm l g x0 o1 x1 kc ks x (pc + 3) lv (st)) : AW M rm l g x0 o1 x1 kc ks x (pc) lv (.int a :: st) := fun p e s m args below meth c B H locs ls hH hl => lv_if_le B.1 B.2.1 hd ht (fun q => kt q p e s m args below meth c B H locs ls hH hl) (fun q => kf q p e s m args below meth c B H locs ls hH hl)
theorem aw_lcmp {a b : Int64} (hd : decode M.2.1 pc = .ok (.lcmp, 1)) (k : AW M rm l g x0 o1 x1 kc ks x (pc + 1) lv (.int (lg_cmp a b) :: st)) : AW M rm l g x0 o1 x1 kc ks x (pc) lv (.long b :: .long a :: st) := fun p e s m args below meth c B H locs ls hH hl => W.lcmp B.1 B.2.1 hd (k p e s m args below meth c B H locs ls hH hl)
theorem aw_goto (tgt : Nat) {off : Int} (hd : decode M.2.1 pc = .ok (.goto off, 3)) (ht : (pc : Int) + off = (tgt : Int)) (k : AW M rm l g x0 o1 x1 kc ks x (tgt) lv (st)) : AW M rm l g x0 o1 x1 kc ks x (pc) lv (st) := fun p e s m args below meth c B H locs ls hH hl => lv_goto B.1 B.2.1 hd ht (k p e s m args below meth c B H locs ls hH hl)
theorem aw_null (hd : decode M.2.1 pc = .ok (.aconst_null, 1)) (k : AW M rm l g x0 o1 x1 kc ks x (pc + 1) lv (va_rf none :: st)) : AW M rm l g x0 o1 x1 kc ks x (pc) lv (st) := fun p e s m args below meth c B H locs ls hH hl => lv_null B.1 B.2.1 hd (k p e s m args below meth c B H locs ls hH hl)
theorem aw_ifnull (tgt : Nat) {r : Option Nat} {off : Int} (hd : decode M.2.1 pc = .ok (.ifnull off, 3)) (ht : (pc : Int) + off = (tgt : Int)) (kt : r = none → AW M rm l g x0 o1 x1 kc ks x (tgt) lv (st)) (kf : ¬ (r = none) → AW M rm l g x0 o1 x1 kc ks x (pc + 3) lv (st)) : AW M rm l g x0 o1 x1 kc ks x (pc) lv (va_rf r :: st) := fun p e s m args below meth c B H locs ls hH hl => by
  cases r with
  | none => exact lv_ifnullN B.1 B.2.1 hd ht (kt rfl p e s m args below meth c B H locs ls hH hl)
  | some a => exact lv_ifnull B.1 B.2.1 hd (kf (fun h => by cases h) p e s m args below meth c B H locs ls hH hl)
theorem aw_ifnonnull (tgt : Nat) {r : Option Nat} {off : Int} (hd : decode M.2.1 pc = .ok (.ifnonnull off, 3)) (ht : (pc : Int) + off = (tgt : Int)) (kt : r ≠ none → AW M rm l g x0 o1 x1 kc ks x (tgt) lv (st)) (kf : r = none → AW M rm l g x0 o1 x1 kc ks x (pc + 3) lv (st)) : AW M rm l g x0 o1 x1 kc ks x (pc) lv (va_rf r :: st) := fun p e s m args below meth c B H locs ls hH hl => by
  cases r with
  | none => exact lv_ifnonnullN B.1 B.2.1 hd (kf rfl p e s m args below meth c B H locs ls hH hl)
  | some a => exact lv_ifnonnull B.1 B.2.1 hd ht (kt (fun h => by cases h) p e s m args below meth c B H locs ls hH hl)
theorem aw_acmp_ne (tgt : Nat) {a b : Option Nat} {off : Int} (hd : decode M.2.1 pc = .ok (.if_acmp .ne off, 3)) (ht : (pc : Int) + off = (tgt : Int)) (kt : a ≠ b → AW M rm l g x0 o1 x1 kc ks x (tgt) lv (st)) (kf : a = b → AW M rm l g x0 o1 x1 kc ks x (pc + 3) lv (st)) : AW M rm l g x0 o1 x1 kc ks x (pc) lv (va_rf b :: va_rf a :: st) := fun p e s m args below meth c B H locs ls hH hl => lv_acmp_ne B.1 B.2.1 hd ht (fun q => kt q p e s m args below meth c B H locs ls hH hl) (fun q => kf q p e s m args below meth c B H locs ls hH hl)
theorem aw_dup {a : Value} (hd : decode M.2.1 pc = .ok (.dup, 1)) (ha : a.category = 1) (k : AW M rm l g x0 o1 x1 kc ks x (pc + 1) lv (a :: a :: st)) : AW M rm l g x0 o1 x1 kc ks x (pc) lv (a :: st) := fun p e s m args below meth c B H locs ls hH hl => lv_dup B.1 B.2.1 hd ha (k p e s m args below meth c B H locs ls hH hl)
theorem aw_dup2 {a b : Value} (hd : decode M.2.1 pc = .ok (.dup2, 1)) (ha : a.category = 1) (hb : b.category = 1) (k : AW M rm l g x0 o1 x1 kc ks x (pc + 1) lv (a :: b :: a :: b :: st)) : AW M rm l g x0 o1 x1 kc ks x (pc) lv (a :: b :: st) := fun p e s m args below meth c B H locs ls hH hl => lv_dup2_11 B.1 B.2.1 hd ha hb (k p e s m args below meth c B H locs ls hH hl)
theorem aw_dup_x1 {a b : Value} (hd : decode M.2.1 pc = .ok (.dup_x1, 1)) (ha : a.category = 1) (hb : b.category = 1) (k : AW M rm l g x0 o1 x1 kc ks x (pc + 1) lv (a :: b :: a :: st)) : AW M rm l g x0 o1 x1 kc ks x (pc) lv (a :: b :: st) := fun p e s m args below meth c B H locs ls hH hl => lv_dup_x1 B.1 B.2.1 hd ha hb (k p e s m args below meth c B H locs ls hH hl)
theorem aw_pop {a : Value} (hd : decode M.2.1 pc = .ok (.pop, 1)) (ha : a.category = 1) (k : AW M rm l g x0 o1 x1 kc ks x (pc + 1) lv (st)) : AW M rm l g x0 o1 x1 kc ks x (pc) lv (a :: st) := fun p e s m args below meth c B H locs ls hH hl => lv_pop B.1 B.2.1 hd ha (k p e s m args below meth c B H locs ls hH hl)
theorem aw_lv (js : List Nat) {lv2 : List (Nat × Value)} (h : lv_pick lv js = lv2) (k : AW M rm l g x0 o1 x1 kc ks x (pc) lv2 (st)) : AW M rm l g x0 o1 x1 kc ks x (pc) lv (st) := fun p e s m args below meth c B H locs ls hH hl => k p e s m args below meth c B H locs ls hH (lv_sub hl js h)
theorem aw_widen (kc2 ks2 : Nat) (h1 : kc ≤ kc2) (h2 : ks ≤ ks2) (k : AW M rm l g x0 o1 x1 kc2 ks2 x pc lv st) : AW M rm l g x0 o1 x1 kc ks x (pc) lv (st) := fun p e s m args below meth c B H locs ls hH hl => W.widen h1 h2 (k p e s m args below meth c B H locs ls hH hl)
theorem x_end {v1 : Option Value} {s t : State} {H : Heap} {locs : List Loc} {args : Array Value} (hH : xH g x0 x s H locs) (hx : x = x1) (ht : t.heap = H) : xQ g x0 v1 x1 args s (.returned v1) t := by
  subst hx
  exact ⟨rfl, by rw [ht]; exact hH.1, hH.2.1, hH.2.2.F ht⟩
theorem aw_iret {a : Int32} (hd : decode M.2.1 pc = .ok (.ireturn, 1)) (hr : M.2.2.2.1 = some .int) (hv : o1 = .inl (some (.int a))) (hx : x = x1) (hk : kc ≤ rm.cells ∧ ks ≤ rm.slots) : AW M rm l g x0 o1 x1 kc ks x pc lv [.int a] := fun p e s m args below meth c B H locs ls hH hl => by subst hv; exact W.widen hk.1 hk.2 (W.iret (hlocks := B.2.2.2.2.1) B.1 B.2.1 (by rw [B.2.2.2.1, hr]) (fun t ht hW => by exact x_end hH hx ht) hH.2.2.2.2 hd)
theorem aw_zret {a : Int32} {ty : FieldType} (hd : decode M.2.1 pc = .ok (.ireturn, 1)) (hr : M.2.2.2.1 = some ty) (hn : narrow ty (.int a) = .int a) (hv : o1 = .inl (some (.int a))) (hx : x = x1) (hk : kc ≤ rm.cells ∧ ks ≤ rm.slots) : AW M rm l g x0 o1 x1 kc ks x pc lv [.int a] := fun p e s m args below meth c B H locs ls hH hl => by subst hv; exact W.widen hk.1 hk.2 (W.zret (hlocks := B.2.2.2.2.1) B.1 B.2.1 (by rw [B.2.2.2.1, hr]) hn (fun t ht hW => by exact x_end hH hx ht) hH.2.2.2.2 hd)
theorem aw_lret {a : Int64} (hd : decode M.2.1 pc = .ok (.lreturn, 1)) (hr : M.2.2.2.1 = some .long) (hv : o1 = .inl (some (.long a))) (hx : x = x1) (hk : kc ≤ rm.cells ∧ ks ≤ rm.slots) : AW M rm l g x0 o1 x1 kc ks x pc lv [.long a] := fun p e s m args below meth c B H locs ls hH hl => by subst hv; exact W.widen hk.1 hk.2 (W.lret (hlocks := B.2.2.2.2.1) B.1 B.2.1 (by rw [B.2.2.2.1, hr]) (fun t ht hW => by exact x_end hH hx ht) hH.2.2.2.2 hd)
theorem aw_vret (hd : decode M.2.1 pc = .ok (.return_, 1)) (hr : M.2.2.2.1 = none) (hv : o1 = .inl none) (hx : x = x1) (hk : kc ≤ rm.cells ∧ ks ≤ rm.slots) : AW M rm l g x0 o1 x1 kc ks x pc lv [] := fun p e s m args below meth c B H locs ls hH hl => by subst hv; exact W.widen hk.1 hk.2 (W.vret (hlocks := B.2.2.2.2.1) B.1 B.2.1 (by rw [B.2.2.2.1, hr]) (fun t ht hW => by exact x_end hH hx ht) hH.2.2.2.2 hd)
theorem aw_aret {r : Option Nat} (C : String) (hd : decode M.2.1 pc = .ok (.areturn, 1)) (hr : M.2.2.2.1 = some (.object C)) (hv : o1 = .inl (some (va_rf r))) (hx : x = x1) (hk : kc ≤ rm.cells ∧ ks ≤ rm.slots) : AW M rm l g x0 o1 x1 kc ks x pc lv [va_rf r] := fun p e s m args below meth c B H locs ls hH hl => by subst hv; exact W.widen hk.1 hk.2 (W.aret (hlocks := B.2.2.2.2.1) B.1 B.2.1 (by rw [B.2.2.2.1, hr]) (Or.inl ⟨C, rfl⟩) (by cases r <;> first | exact Or.inl rfl | exact Or.inr ⟨_, rfl⟩) (fun t ht hW => by exact x_end hH hx ht) hH.2.2.2.2 hd)
end AWR
end
section
/-! What a world brings along to a callee, and the rows of calls. -/
theorem xF.up {x0 x : xV} (hD : xD x0 x) (hz : x0.1 ≤ x.1) : ∀ q, xF x q → xF x0 q := fun q h => h.elim (hD q) (fun h => Or.inr (Nat.le_trans hz h))
theorem xP.lt {g : xG} {x : xV} {H : Heap} (h : xP g x H) {a : Nat} (ha : x.2 a ≠ none) : a < H.size := by
  cases he : x.2 a with
  | none => exact absurd he ha
  | some e => exact (h.2 a e he).lt
theorem xH.size {g : xG} {x0 x : xV} {s : State} {H : Heap} {locs : List Loc} (h : xH g x0 x s H locs) (h0 : s.heap.size = x0.1) : x0.1 ≤ x.1 := by rw [← h0, ← h.1.1]; exact h.2.2.1
theorem va_T.kept0 {ty : FieldType} {t N : Nat} {f : Nat → Value} {A : Nat → Prop} {U : State} {H H1 : Heap} (h : va_T ty t N f A U H) (hq : ∀ a : Nat, a < H.size → ¬ A a → H1[a]? = H[a]?) : va_T ty t N f A U H1 := va_T.kept h hq
theorem xI.go {x0 x : xV} {s U : State} {H H1 : Heap} (h : xI x0 s H) (hW : s.WarmedH U.vm) (hq : ∀ a : Nat, a < H.size → ¬ xF x0 a → H1[a]? = H[a]?) (hF : ∀ q, xF x q → xF x0 q) : xI x U H1 := by
  obtain ⟨⟨t, h1, h2⟩, h3, h4, h5, h6, h7⟩ := h
  have ha := hW.alike
  exact ⟨⟨t, ((h1.moved ha).kept hq).narrow hF, ((h2.moved ha).kept hq).narrow hF⟩, h3.moved ha, h4.moved ha, ((h5.moved ha).kept hq).narrow hF, ((h6.moved ha).kept hq).narrow hF, fun own k tx hk => by
    obtain ⟨a, h8⟩ := h7 own k tx hk
    exact ⟨a, h8.warm hW⟩⟩
theorem xJ.go {s U : State} (h : xJ s) (hW : s.WarmedH U.vm) : xJ U := fun w hw hk => by
  have h1 := h w hw hk
  cases w <;> first | exact h1.warmF hW | exact h1.warmM hW | exact h1.warmC hW | (simp [xNk] at hk; done)
theorem xJ.same {U V : State} (h : xJ U) (hv : V.vm = U.vm) : xJ V := fun w hw hk => by
  have h1 := h w hw hk
  cases w <;> first | exact h1.same rfl hv.symm | (simp [xNk] at hk; done)
theorem xI.same {x : xV} {U V : State} (h : xI x U U.heap) (hv : V.vm = U.vm) (hh : V.heap = U.heap) : xI x V V.heap := by
  obtain ⟨⟨t, h1, h2⟩, h3, h4, h5, h6, h7⟩ := h
  have ha : U.vm.Alike V.vm := by rw [hv]; exact Vm.Alike.refl _
  rw [hh]
  exact ⟨⟨t, h1.moved ha, h2.moved ha⟩, h3.moved ha, h4.moved ha, h5.moved ha, h6.moved ha, fun own k tx hk => by
    obtain ⟨a, h8⟩ := h7 own k tx hk
    exact ⟨a, h8.same hv⟩⟩
theorem xPc.blind {g : xG} {x : xV} {av : List Value} : FrameBlind (va_Pc av (xPc g x)) := by
  intro a U f mk h
  obtain ⟨h1, h2, h3, h4, h5⟩ := h
  exact ⟨h1, h2, va_K.moved (u := U) (U := U.calling f mk a) (Vm.Alike.refl U.vm) h3, h4.same rfl rfl, h5.same rfl⟩
theorem xPc.at {M : xM} {l : Launch} {g : xG} {x0 x : xV} {o1 : Option Value ⊕ String} {p : Program} {s : State} {m : MethodId} {args : Array Value} {meth : Method} {c : Code} {H : Heap} {locs : List Loc} (B : xB M l g x0 o1 p s m args meth c) (hH : xH g x0 x s H locs) (av : List Value) : ∀ U : State, U.heap = H → s.WarmedH U.vm → va_Pc av (xPc g x) av.toArray U := by
  intro U hU hW
  refine ⟨rfl, by rw [hU]; exact hH.1, va_K.moved hW.alike B.2.2.2.2.2.2.2.1, ?_⟩
  rw [hU]
  exact ⟨xI.go B.2.2.2.2.2.2.2.2.2.2.1.1 hW (fun a h1 h2 => hH.2.2.2.1 a h1 h2) (xF.up hH.2.1 (hH.size B.2.2.2.2.2.2.2.2.1)), B.2.2.2.2.2.2.2.2.2.2.1.2.go hW⟩
theorem wt_in {y : MethodName} {b : ByteArray} {n : Nat} {r : Option FieldType} (h : Cond.code y b n r ∈ wt) : GoodIn wt (.code y b n r :: wt) := fun w hw => (List.mem_cons.mp hw).elim (fun e => by subst e; exact ⟨h, wt_good _ h⟩) (fun h => ⟨h, wt_good _ h⟩)
theorem cat_q (r : Option Nat) : (va_rf r).category = 1 := by cases r <;> rfl
theorem cat_i (a : Int32) : (Value.int a).category = 1 := rfl
theorem cat_l (a : Int64) : (Value.long a).category = 2 := rfl
theorem cat_r (a : Nat) : (Value.ref a).category = 1 := rfl
theorem xD.trans {x0 x x2 : xV} (h1 : xD x0 x) (h2 : xD x x2) (hz : x0.1 ≤ x.1) : xD x0 x2 := fun a h => xF.up h1 hz a (h2 a h)
section AWC
variable {M My : xM} {rm rmy : Room} {l : Launch} {g : xG} {x0 : xV} {o1 : Option Value ⊕ String} {x1 x2 : xV} {kc ks : Nat} {x : xV} {pc : Nat} {lv : List (Nat × Value)} {rest : List Value} {y : MethodName} {index : Nat} {v : Option Value}
variable {p : Program} {e : Env} {s : State} {m : MethodId} {args : Array Value} {below : List Frame} {meth : Method} {c : Code} {H : Heap} {locs : List Loc} {ls : Array Slot} {Q : State → Prop}
/-- behind a call that returned -/
theorem xRun {g0 : JFrame} (hr : va_Run p l e rm s m args below meth c H locs kc ks rmy.cells rmy.slots g0 rest ((xQ g x v x2) args) (xF x)) (h0 : s.heap.size = x0.1) (hH : xH g x0 x s H locs)
    (k : ∀ (H1 : Heap) (locs1 : List Loc), xH g x0 x2 s H1 locs1 → W p l e rm s m args below meth c H1 locs1 (kc + rmy.cells) (ks + rmy.slots) Q { g0 with pc := g0.pc + 3, stack := v.toList ++ rest }) : W p l e rm s m args below meth c H locs kc ks Q g0 := by
  intro T hT X
  obtain ⟨v', st₀, t, T', L, e0, X', hL, e1, e2, ⟨hv, hP, hD, hF⟩, st⟩ := hr T hT X
  cases hv
  have hz := hH.size h0
  have hup := xF.up hH.2.1 hz
  rw [va_F, e0] at hF
  have hH1 : xH g x0 x2 s T'.heap (locs ++ L) := by
    refine ⟨by rw [e1]; exact hP, hH.2.1.trans hD hz, ?_, ?_, ?_⟩
    · rw [e1]; exact Nat.le_trans hH.2.2.1 hF.1
    · intro q h1 h2
      rw [e1, hF.2 q (Nat.lt_of_lt_of_le h1 hH.2.2.1) (fun z => h2 (hup q z))]
      exact hH.2.2.2.1 q h1 h2
    · intro q hq
      rcases List.mem_append.mp hq with h | h
      · exact hH.2.2.2.2 q h
      · exact hup _ (hL q h)
  obtain ⟨t2, a1, b1⟩ := k T'.heap (locs ++ L) hH1 T' rfl X'
  exact ⟨t2, st t2 a1, b1⟩
/-- what a call needs of the tables and the room, in one -/
abbrev xCall (M My : xM) (rm rmy : Room) (y : MethodName) (index n : Nat) : Prop := Cond.methodLink M.1 index y ∈ wt ∧ Cond.code y My.2.1 My.2.2.1 My.2.2.2.1 ∈ wt ∧ Cond.initialized y.cls ∈ wt ∧ (y.cls ≠ "java/lang/invoke/MethodHandle" ∧ y.cls ≠ "java/lang/invoke/VarHandle" ∧ (parseMethodDescriptor y.desc).map (fun d => d.parameters.length) = some n)
theorem xCallB (B : xB M l g x0 o1 p s m args meth c) {n : Nat} (hc : xCall M My rm rmy y index n) (hR : rmy.frames + 1 ≤ rm.frames ∧ 8 + (My.2.2.1 + 11) + rmy.locals ≤ rm.locals) : CallB rm s args M.1 index y My.2.1 My.2.2.1 My.2.2.2.1 (.code y My.2.1 My.2.2.1 My.2.2.2.1 :: wt) rmy rmy.cells rmy.slots n :=
  callB_of n (Ts := wt) (ws' := wt) B.2.2.2.2.2.2.1 (wt_in hc.2.1) rfl rfl rfl (B.2.2.2.2.2.2.1 _ hc.2.2.1) (B.2.2.2.2.2.2.1 _ hc.1) hc.2.2.2 hR
theorem xFix (B : xB M l g x0 o1 p s m args meth c) : CallFix p m c M.2.1 M.2.2.1 s args wt M.1 := ⟨B.1, B.2.1, B.2.2.1, B.2.2.2.2.2.1, B.2.2.2.2.2.2.1⟩
theorem aw_callS (av : List Value) (n : Nat) (hc : CT y My rmy l g av x (.inl v) x2) (hw : xCall M My rm rmy y index n) (hst : Cond.static y ∈ wt) (hd : decode M.2.1 pc = .ok (.invokestatic index, 3)) {st : List Value} (hs : st = av.reverse ++ rest) (hn : av.length = n) (hr : (rest.map fun v => v.category).sum ≤ 8) (hR : rmy.frames + 1 ≤ rm.frames ∧ 8 + (My.2.2.1 + 11) + rmy.locals ≤ rm.locals) (hf : kc + rmy.cells ≤ rm.cells ∧ ks + rmy.slots ≤ rm.slots)
    (k : AW M rm l g x0 o1 x1 (kc + rmy.cells) (ks + rmy.slots) x2 (pc + 3) lv (v.toList ++ rest)) : AW M rm l g x0 o1 x1 kc ks x pc lv st := fun p e s m args below meth c B H locs ls hH hl =>
  xRun (va_runS (As := av) (rest := rest) (xFix B) hc ⟨xCallB B hw hR, B.2.2.2.2.2.2.1 _ hst⟩ ⟨xPc.blind, xPc.at B hH av⟩ rfl hn hl.1 hs (lv_room hr) hd hf) B.2.2.2.2.2.2.2.2.1 hH (fun H1 locs1 h1 => k p e s m args below meth c B H1 locs1 ls h1 hl)
theorem xRecv (B : xB M l g x0 o1 p s m args meth c) (hH : xH g x0 x s H locs) {a ci : Nat} {fs : List Value} {q : vw_C} (ha : x.2 a = some (.inr (ci, fs))) (hq : vwCl[ci]? = some q) : ∃ cellB : Cell, H[a]? = some cellB ∧ cellB.vm.isStatics = false ∧ s.vm.findClass q.1 = some cellB.cls :=
  va_recv (ws := [(a, .inr (ci, fs))]) (q0 := 0) B.2.2.2.2.2.2.2.1 (fun k z hz => by
    cases k with
    | zero => cases hz; exact hH.1.2 a _ ha
    | succ k => cases hz) hq rfl
theorem aw_callV (ci : Nat) (r : Option Nat) (av : List Value) (n : Nat) {a : Nat} {fs : List Value} (hra : r = some a) (ha : x.2 a = some (.inr (ci, fs))) {q : vw_C} (hq : vwCl[ci]? = some q) (hqc : q.1 = y.cls) (hc : CT y My rmy l g (va_rf (some a) :: av) x (.inl v) x2) (hw : xCall M My rm rmy y index n) (hin : Cond.instanceMethod y ∈ wt) (hse : Cond.selects y.cls y y ∈ wt) (hd : decode M.2.1 pc = .ok (.invokevirtual index, 3)) {st : List Value} (hs : st = av.reverse ++ va_rf r :: rest) (hn : av.length = n) (hr : (rest.map fun v => v.category).sum ≤ 8) (hR : rmy.frames + 1 ≤ rm.frames ∧ 8 + (My.2.2.1 + 11) + rmy.locals ≤ rm.locals) (hf : kc + rmy.cells ≤ rm.cells ∧ ks + rmy.slots ≤ rm.slots)
    (k : AW M rm l g x0 o1 x1 (kc + rmy.cells) (ks + rmy.slots) x2 (pc + 3) lv (v.toList ++ rest)) : AW M rm l g x0 o1 x1 kc ks x pc lv st := fun p e s m args below meth c B H locs ls hH hl => by
  subst hra
  exact xRun (va_runV (As := av) (rest := rest) (C := y.cls) (b := a) (xFix B) hc ⟨xCallB B hw hR, B.2.2.2.2.2.2.1 _ hin, B.2.2.2.2.2.2.1 _ hse⟩ ⟨xPc.blind, by rw [← hqc]; exact xRecv B hH ha hq, xPc.at B hH (.ref a :: av)⟩ rfl hn hl.1 hs (lv_room hr) hd hf) B.2.2.2.2.2.2.2.2.1 hH (fun H1 locs1 h1 => k p e s m args below meth c B H1 locs1 ls h1 hl)
theorem aw_callI (a : Nat) (av : List Value) (n : Nat) (hret : My.2.2.2.1 = none) (hyn : y.name = "<init>") (hc : CT y My rmy l g (va_rf (some a) :: av) x (.inl v) x2) (hw : xCall M My rm rmy y index n) (hin : Cond.instanceMethod y ∈ wt) (hd : decode M.2.1 pc = .ok (.invokespecial index, 3)) {st : List Value} (hs : st = av.reverse ++ va_rf (some a) :: rest) (hn : av.length = n) (hr : (rest.map fun v => v.category).sum ≤ 8) (hR : rmy.frames + 1 ≤ rm.frames ∧ 8 + (My.2.2.1 + 11) + rmy.locals ≤ rm.locals) (hf : kc + rmy.cells ≤ rm.cells ∧ ks + rmy.slots ≤ rm.slots)
    (k : AW M rm l g x0 o1 x1 (kc + rmy.cells) (ks + rmy.slots) x2 (pc + 3) lv (v.toList ++ rest)) : AW M rm l g x0 o1 x1 kc ks x pc lv st := fun p e s m args below meth c B H locs ls hH hl => by
  have hcb := xCallB B hw hR
  unfold CT at hc
  rw [hret] at hcb hc
  exact xRun (va_runI (As := av) (rest := rest) (b := a) (xFix B) hc ⟨hcb, hyn, B.2.2.2.2.2.2.1 _ hin⟩ ⟨xPc.blind, xPc.at B hH (.ref a :: av)⟩ rfl hn hl.1 hs (lv_room hr) hd hf) B.2.2.2.2.2.2.2.2.1 hH (fun H1 locs1 h1 => k p e s m args below meth c B H1 locs1 ls h1 hl)
/-- .. of a nest mate's private method -/
abbrev xCallN (M My : xM) (y : MethodName) (index n : Nat) (host : String) : Prop := Cond.methodLinkNest M.1 index y host ∈ lw_tbl ∧ Cond.code y My.2.1 My.2.2.1 My.2.2.2.1 ∈ wt ∧ Cond.initialized y.cls ∈ wt ∧ (y.cls ≠ "java/lang/invoke/MethodHandle" ∧ y.cls ≠ "java/lang/invoke/VarHandle" ∧ (parseMethodDescriptor y.desc).map (fun d => d.parameters.length) = some n)
theorem xCallNB (B : xB M l g x0 o1 p s m args meth c) {n : Nat} {host : String} (hc : xCallN M My y index n host) (hR : rmy.frames + 1 ≤ rm.frames ∧ 8 + (My.2.2.1 + 11) + rmy.locals ≤ rm.locals) : va_CN rm s args M.1 index y host My.2.1 My.2.2.1 My.2.2.2.1 (.code y My.2.1 My.2.2.1 My.2.2.2.1 :: wt) rmy rmy.cells rmy.slots n :=
  va_cnB n (Ts := wt) (ws' := wt) B.2.2.2.2.2.2.1 (wt_in hc.2.1) rfl rfl rfl (B.2.2.2.2.2.2.2.2.2.2.1.2 _ hc.1 rfl) (B.2.2.2.2.2.2.1 _ hc.2.2.1) hc.2.2.2 hR
theorem aw_callSN (host : String) (av : List Value) (n : Nat) (hc : CT y My rmy l g av x (.inl v) x2) (hw : xCallN M My y index n host) (hst : Cond.static y ∈ wt) (hd : decode M.2.1 pc = .ok (.invokestatic index, 3)) {st : List Value} (hs : st = av.reverse ++ rest) (hn : av.length = n) (hr : (rest.map fun v => v.category).sum ≤ 8) (hR : rmy.frames + 1 ≤ rm.frames ∧ 8 + (My.2.2.1 + 11) + rmy.locals ≤ rm.locals) (hf : kc + rmy.cells ≤ rm.cells ∧ ks + rmy.slots ≤ rm.slots)
    (k : AW M rm l g x0 o1 x1 (kc + rmy.cells) (ks + rmy.slots) x2 (pc + 3) lv (v.toList ++ rest)) : AW M rm l g x0 o1 x1 kc ks x pc lv st := fun p e s m args below meth c B H locs ls hH hl =>
  xRun (va_runSN (As := av) (rest := rest) (xFix B) hc ⟨xCallNB B hw hR, B.2.2.2.2.2.2.1 _ hst, trivial⟩ ⟨xPc.blind, xPc.at B hH av⟩ rfl hn hl.1 hs (lv_room hr) hd hf) B.2.2.2.2.2.2.2.2.1 hH (fun H1 locs1 h1 => k p e s m args below meth c B H1 locs1 ls h1 hl)
theorem aw_callIN (host : String) (a : Nat) (av : List Value) (n : Nat) (hret : My.2.2.2.1 = none) (hyn : y.name = "<init>") (hc : CT y My rmy l g (va_rf (some a) :: av) x (.inl v) x2) (hw : xCallN M My y index n host) (hin : Cond.instanceMethod y ∈ wt) (hd : decode M.2.1 pc = .ok (.invokespecial index, 3)) {st : List Value} (hs : st = av.reverse ++ va_rf (some a) :: rest) (hn : av.length = n) (hr : (rest.map fun v => v.category).sum ≤ 8) (hR : rmy.frames + 1 ≤ rm.frames ∧ 8 + (My.2.2.1 + 11) + rmy.locals ≤ rm.locals) (hf : kc + rmy.cells ≤ rm.cells ∧ ks + rmy.slots ≤ rm.slots)
    (k : AW M rm l g x0 o1 x1 (kc + rmy.cells) (ks + rmy.slots) x2 (pc + 3) lv (v.toList ++ rest)) : AW M rm l g x0 o1 x1 kc ks x pc lv st := fun p e s m args below meth c B H locs ls hH hl => by
  have hcb := xCallNB B hw hR
  unfold CT at hc
  rw [hret] at hcb hc
  exact xRun (va_runIN (As := av) (rest := rest) (b := a) (xFix B) hc ⟨hcb, hyn, B.2.2.2.2.2.2.1 _ hin⟩ ⟨xPc.blind, xPc.at B hH (.ref a :: av)⟩ rfl hn hl.1 hs (lv_room hr) hd hf) B.2.2.2.2.2.2.2.2.1 hH (fun H1 locs1 h1 => k p e s m args below meth c B H1 locs1 ls h1 hl)
theorem aw_objInit {r : Option Nat} {a : Nat} (hra : r = some a) (hl0 : Cond.methodLink M.1 index Lib.objectInit ∈ wt) (hd : decode M.2.1 pc = .ok (.invokespecial index, 3)) (hr : (rest.map fun v => v.category).sum ≤ 8) (hR : 1 ≤ rm.frames ∧ 20 ≤ rm.locals) (hin : Cond.instanceMethod Lib.objectInit ∈ wt) (hcd : Cond.code Lib.objectInit ⟨#[0xb1]⟩ 1 none ∈ wt)
    (k : AW M rm l g x0 o1 x1 kc ks x (pc + 3) lv rest) : AW M rm l g x0 o1 x1 kc ks x pc lv (va_rf r :: rest) := fun p e s m args below meth c B H locs ls hH hl => by
  subst hra
  have h8 := lv_room (m := m) (pc := pc) (ls := ls) (rest := va_rf (some a) :: rest) hr
  refine W.objInit B.1 B.2.1 B.2.2.2.2.2.1 (B.2.2.2.2.2.2.1 _ hl0) (B.2.2.2.2.2.2.1 _ hin) (B.2.2.2.2.2.2.1 _ hcd) rfl (hl.1.trans B.2.2.1.symm) rfl hd hR.1 (by omega) ?_
  exact k p e s m args below meth c B H locs ls hH hl
end AWC
end
section
/-! The heap's rows over any world. -/
def xUp (x : xV) (a : Nat) (e : va_E) : xV := (x.1, fun q => if q = a then some e else x.2 q)
def xNew (x : xV) (e : va_E) : xV := (x.1 + 1, fun q => if q = x.1 then some e else x.2 q)
section AWH
variable {M : xM} {rm : Room} {l : Launch} {g : xG} {x0 : xV} {o1 : Option Value ⊕ String} {x1 : xV} {kc ks : Nat} {x : xV} {pc : Nat} {lv : List (Nat × Value)} {st : List Value}
variable {p : Program} {e : Env} {s : State} {m : MethodId} {args : Array Value} {below : List Frame} {meth : Method} {c : Code} {H : Heap} {locs : List Loc} {ls : Array Slot} {Q : State → Prop}
theorem xP1 {a : Nat} {e : va_E} (h : xP g x H) (ha : x.2 a = some e) : va_P g.1 vwCl [(a, e)] H := fun k q hq => by
  cases k with
  | zero => cases hq; exact h.2 a e ha
  | succ k => cases hq
theorem xP.up {a : Nat} {e e' : va_E} {H1 : Heap} (h : xP g x H) (hz : H1.size = H.size) (ho : ∀ q, q ≠ a → H1[q]? = H[q]?) (hn : va_at g.1 vwCl (a, e') H1) : xP g (xUp x a e') H1 := by
  refine ⟨by rw [hz]; exact h.1, fun q e2 hq => ?_⟩
  by_cases hqa : q = a
  · subst hqa
    simp only [xUp, if_true] at hq
    cases hq
    exact hn
  · simp only [xUp, if_neg hqa] at hq
    exact (h.2 q e2 hq).kept (ho q hqa)
theorem xH.up {a i : Nat} {e e' : va_E} {H1 : Heap} (h : xH g x0 x s H locs) (ha : x.2 a = some e) (hz : H1.size = H.size) (ho : ∀ q, q ≠ a → H1[q]? = H[q]?) (hn : va_at g.1 vwCl (a, e') H1) : xH g x0 (xUp x a e') s H1 (locs ++ [⟨a, i⟩]) := by
  refine ⟨h.1.up (e := e) hz ho hn, fun q hq => ?_, h.2.2.put hz ho (h.2.1 a (by rw [ha]; exact fun z => by cases z))⟩
  by_cases hqa : q = a
  · subst hqa; exact h.2.1 q (by rw [ha]; exact fun z => by cases z)
  · simp only [xUp, if_neg hqa] at hq; exact h.2.1 q hq
theorem xH.new {e' : va_E} {H1 : Heap} (h : xH g x0 x s H locs) (h0 : s.heap.size = x0.1) (hz : H1.size = H.size + 1) (ho : ∀ q, q < H.size → H1[q]? = H[q]?) (hn : va_at g.1 vwCl (H.size, e') H1) : xH g x0 (xNew x e') s H1 locs := by
  have hs := h.1.1
  refine ⟨⟨by rw [hz, hs]; rfl, fun q e2 hq => ?_⟩, fun q hq => ?_, Nat.le_trans h.2.2.1 (by omega), fun q h1 h2 => (ho q (Nat.lt_of_lt_of_le h1 h.2.2.1)).trans (h.2.2.2.1 q h1 h2), h.2.2.2.2⟩
  · by_cases hqa : q = x.1
    · simp only [xNew, if_pos hqa] at hq
      cases hq
      rw [hqa, ← hs]; exact hn
    · simp only [xNew, if_neg hqa] at hq
      exact (h.1.2 q e2 hq).kept (ho q (h.1.lt (by rw [hq]; exact fun z => by cases z)))
  · by_cases hqa : q = x.1
    · exact Or.inr (by rw [hqa]; exact h.size h0)
    · simp only [xNew, if_neg hqa] at hq; exact h.2.1 q hq
theorem aw_getf {a ci k index N : Nat} {fs : List Value} {C : String} {T : u_T} {v : Value} (ha : x.2 a = some (.inr (ci, fs))) (hc : vwCl[ci]? = some (C, T, N)) (hin : ∀ w ∈ u_ws C T N, w ∈ wt) (hk : k < N) (hl0 : Cond.fieldLink M.1 index (T k).1 (T k).2.1 (T k).2.2.1 ∈ wt) (hv : fs[k]? = some v) (hd : decode M.2.1 pc = .ok (.getfield index, 3))
    (kk : AW M rm l g x0 o1 x1 kc ks x (pc + 3) lv (v :: st)) : AW M rm l g x0 o1 x1 kc ks x pc lv (.ref a :: st) := fun p e s m args below meth c B H locs ls hH hl =>
  va_get (ws := [(a, .inr (ci, fs))]) B.1 B.2.1 B.2.2.2.2.2.2.1 hin B.2.2.2.2.2.1 B.2.2.2.2.2.2.2.1 (xP1 hH.1 ha) 0 rfl hc k hk (B.2.2.2.2.2.2.1 _ hl0) (fun _ h => h) hv hd (kk p e s m args below meth c B H locs ls hH hl)
theorem aw_getfN {a ci k index N : Nat} {fs : List Value} {C host : String} {T : u_T} {v : Value} (ha : x.2 a = some (.inr (ci, fs))) (hc : vwCl[ci]? = some (C, T, N)) (hin : ∀ w ∈ u_ws C T N, w ∈ wt) (hk : k < N) (hl0 : Cond.fieldLinkNest M.1 index (T k).1 (T k).2.1 (T k).2.2.1 host ∈ lw_tbl) (hv : fs[k]? = some v) (hd : decode M.2.1 pc = .ok (.getfield index, 3))
    (kk : AW M rm l g x0 o1 x1 kc ks x (pc + 3) lv (v :: st)) : AW M rm l g x0 o1 x1 kc ks x pc lv (.ref a :: st) := fun p e s m args below meth c B H locs ls hH hl =>
  va_getN (ws := [(a, .inr (ci, fs))]) B.1 B.2.1 B.2.2.2.2.2.2.1 hin B.2.2.2.2.2.1 B.2.2.2.2.2.2.2.1 (xP1 hH.1 ha) 0 rfl hc k hk (va_Nw.use rfl (B.2.2.2.2.2.2.2.2.2.2.1.2 _ hl0 rfl)) (fun _ h => h) hv hd (kk p e s m args below meth c B H locs ls hH hl)
/-- what a store into a field wants to know of the class -/
abbrev xPut (ci k N : Nat) (C : String) (T : u_T) (ty0 : Nat → FieldType) (fs : List Value) (ty : FieldType) (v : Value) : Prop := vwCl[ci]? = some (C, T, N) ∧ (∀ w ∈ u_ws C T N, w ∈ wt) ∧ (∀ k, k < N → parseFieldDescriptor (T k).2.2.1 = some (ty0 k)) ∧ (∀ a, a < N → ∀ b, b < N → a ≠ b → (T a).2.1 ≠ (T b).2.1) ∧ k < N ∧ parseFieldDescriptor (T k).2.2.1 = some ty ∧ narrow ty v = v ∧ fits ty v = true ∧ k < fs.length
theorem xOB {a ci k N : Nat} {fs : List Value} {C : String} {T : u_T} {ty0 : Nat → FieldType} {ty : FieldType} {v : Value} (B : xB M l g x0 o1 p s m args meth c) (hp : xPut ci k N C T ty0 fs ty v) {H1 : Heap} {cell : Cell} (q2 : cell.cls = g.1.1 ci) (q3 : cell.vm = .none) (q4 : ∀ j, j < N → cell.slots[g.1.2 ci j]? = some (vp_V fs j)) (e1 : H1[a]? = some (cell.setSlot (g.1.2 ci k) v)) : va_at g.1 vwCl (a, .inr (ci, fs.set k v)) H1 := by
  obtain ⟨hc, hin, hty, hnm, hk, hdd, hn, hfit, hl⟩ := hp
  have hap := va_apart (own := M.1) B.2.2.2.2.2.2.1 hin ty0 hty hnm B.2.2.2.2.2.2.2.1 hc
  exact ⟨_, hc, t_OB.to (V := updV (vp_V fs) k v) ⟨_, e1, q2, q3, t_set q4 hap hk v⟩ (fun j _ => vp_updV_set hl v j)⟩
theorem aw_putf {a ci k index N : Nat} {fs : List Value} {C : String} {T : u_T} {ty0 : Nat → FieldType} {ty : FieldType} {v : Value} (ha : x.2 a = some (.inr (ci, fs))) (hp : xPut ci k N C T ty0 fs ty v) (hl0 : Cond.fieldLink M.1 index (T k).1 (T k).2.1 (T k).2.2.1 ∈ wt) (hfin : (T k).2.2.2 = false) (hd : decode M.2.1 pc = .ok (.putfield index, 3))
    (kk : AW M rm l g x0 o1 x1 kc ks (xUp x a (.inr (ci, fs.set k v))) (pc + 3) lv st) : AW M rm l g x0 o1 x1 kc ks x pc lv (v :: .ref a :: st) := fun p e s m args below meth c B H locs ls hH hl => by
  have hts := B.2.2.2.2.2.2.1
  have hB := @xOB M l g x0 o1 p s m args meth c a ci k N fs C T ty0 ty v B hp
  obtain ⟨hc, hin, hty, hnm, hk, hdd, hn, hfit, hl1⟩ := hp
  obtain ⟨r, h1, cell, q1, q2, q3, q4⟩ := hH.1.2 a _ ha
  have hr : r = (C, T, N) := Option.some.inj (h1.symm.trans hc)
  subst hr
  obtain ⟨hS, hfc, kC, hkC, hkind⟩ := B.2.2.2.2.2.2.2.1.1 ci _ hc
  obtain ⟨cf, kf, fi, f, hi, hsl⟩ := hS k hk
  have hlay := hts _ (hin _ (u_in_lay hk))
  unfold u_lay at hlay
  rw [if_neg (by rw [hfin]; decide)] at hlay
  have hst := (u_facts hfc hkC (u_lays hts hin hk) hi).1
  have h6 := u_store hfc hkC hkind hlay hi hdd hn hfit
  refine W.putK B.1 B.2.1 (f := f) ⟨B.2.2.2.2.2.1, hts _ hl0, ⟨_, _, _, hi⟩, hst⟩ (by rw [q2]; exact h6) q1 q3 (by rw [hsl]; exact k2_hasslot (q4 k hk)) rfl rfl hd fun H1 e1 e2 e3 => ?_
  rw [hsl] at e1
  exact kk p e s m args below meth c B H1 _ ls (hH.up ha e2 e3 (hB q2 q3 q4 e1)) hl
theorem aw_putfN {a ci k index N : Nat} {fs : List Value} {C host : String} {T : u_T} {ty0 : Nat → FieldType} {ty : FieldType} {v : Value} (ha : x.2 a = some (.inr (ci, fs))) (hp : xPut ci k N C T ty0 fs ty v) (hl0 : Cond.fieldLinkNest M.1 index (T k).1 (T k).2.1 (T k).2.2.1 host ∈ lw_tbl) (hfin : (T k).2.2.2 = false) (hd : decode M.2.1 pc = .ok (.putfield index, 3))
    (kk : AW M rm l g x0 o1 x1 kc ks (xUp x a (.inr (ci, fs.set k v))) (pc + 3) lv st) : AW M rm l g x0 o1 x1 kc ks x pc lv (v :: .ref a :: st) := fun p e s m args below meth c B H locs ls hH hl => by
  have hts := B.2.2.2.2.2.2.1
  have hB := @xOB M l g x0 o1 p s m args meth c a ci k N fs C T ty0 ty v B hp
  obtain ⟨hc, hin, hty, hnm, hk, hdd, hn, hfit, hl1⟩ := hp
  obtain ⟨r, h1, cell, q1, q2, q3, q4⟩ := hH.1.2 a _ ha
  have hr : r = (C, T, N) := Option.some.inj (h1.symm.trans hc)
  subst hr
  obtain ⟨hS, hfc, kC, hkC, hkind⟩ := B.2.2.2.2.2.2.2.1.1 ci _ hc
  obtain ⟨cf, kf, fi, f, hi, hsl⟩ := hS k hk
  have hlay := hts _ (hin _ (u_in_lay hk))
  unfold u_lay at hlay
  rw [if_neg (by rw [hfin]; decide)] at hlay
  have hst := (u_facts hfc hkC (u_lays hts hin hk) hi).1
  have h6 := u_store hfc hkC hkind hlay hi hdd hn hfit
  refine va_WputK B.1 B.2.1 (f := f) B.2.2.2.2.2.1 (va_Nw.use rfl (B.2.2.2.2.2.2.2.2.2.2.1.2 _ hl0 rfl)) hi hst (by rw [q2]; exact h6) q1 q3 (by rw [hsl]; exact k2_hasslot (q4 k hk)) rfl rfl hd fun H1 e1 e2 e3 => ?_
  rw [hsl] at e1
  exact kk p e s m args below meth c B H1 _ ls (hH.up ha e2 e3 (hB q2 q3 q4 e1)) hl
/-- into a final field, in a constructor -/
theorem aw_putfF {a ci k index N : Nat} {fs : List Value} {C : String} {T : u_T} {ty0 : Nat → FieldType} {ty : FieldType} {v : Value} (ha : x.2 a = some (.inr (ci, fs))) (hp : xPut ci k N C T ty0 fs ty v) (hl0 : Cond.fieldLink M.1 index (T k).1 (T k).2.1 (T k).2.2.1 ∈ wt) (hfin : (T k).2.2.2 = true) (hnm0 : M.2.2.2.2 = "<init>") (hdc : (T k).1 = M.1) (hd : decode M.2.1 pc = .ok (.putfield index, 3))
    (kk : AW M rm l g x0 o1 x1 kc ks (xUp x a (.inr (ci, fs.set k v))) (pc + 3) lv st) : AW M rm l g x0 o1 x1 kc ks x pc lv (v :: .ref a :: st) := fun p e s m args below meth c B H locs ls hH hl => by
  have hts := B.2.2.2.2.2.2.1
  have hB := @xOB M l g x0 o1 p s m args meth c a ci k N fs C T ty0 ty v B hp
  obtain ⟨hc, hin, hty, hnm, hk, hdd, hn, hfit, hl1⟩ := hp
  obtain ⟨r, h1, cell, q1, q2, q3, q4⟩ := hH.1.2 a _ ha
  have hr : r = (C, T, N) := Option.some.inj (h1.symm.trans hc)
  subst hr
  obtain ⟨hS, hfc, kC, hkC, hkind⟩ := B.2.2.2.2.2.2.2.1.1 ci _ hc
  obtain ⟨cf, kf, fi, f, hi, hsl⟩ := hS k hk
  have hlay := hts _ (hin _ (u_in_lay hk))
  unfold u_lay at hlay
  rw [if_pos hfin] at hlay
  have hst := (u_facts hfc hkC (u_lays hts hin hk) hi).1
  have hcf : m.cls = cf := by
    obtain ⟨_, _, c', _, _, _, -, -, hf', -, -, -, hown2, -⟩ := Cond.laysFinal_spec hlay
    have e1 : c' = cf := by have := hi.symm.trans hf'; simp at this; exact this.1.symm
    rw [hdc] at hown2
    rw [← e1]; exact Option.some.inj (B.2.2.2.2.2.1.symm.trans hown2)
  have h6 := u_fits hfc hkC hkind (Or.inr hlay) hi hdd hn hfit
  refine W.putFinK B.1 B.2.1 B.2.2.2.2.2.1 (hts _ hl0) hi hst hcf (B.2.2.2.2.2.2.2.2.2.1.trans hnm0) (by rw [q2]; exact h6) q1 q3 (by rw [hsl]; exact k2_hasslot (q4 k hk)) rfl rfl hd fun H1 e1 e2 e3 => ?_
  rw [hsl] at e1
  exact kk p e s m args below meth c B H1 _ ls (hH.up ha e2 e3 (hB q2 q3 q4 e1)) hl
-- arrays
theorem aw_iald {a n : Nat} {f : Nat → Int32} {i : Int32} (ha : x.2 a = some (.inl (g.2.1, n, .inl f))) (hin : vp_in i n) (hd : decode M.2.1 pc = .ok (.iaload, 1))
    (kk : AW M rm l g x0 o1 x1 kc ks x (pc + 1) lv (.int (f i.toNatClampNeg) :: st)) : AW M rm l g x0 o1 x1 kc ks x pc lv (.int i :: .ref a :: st) := fun p e s m args below meth c B H locs ls hH hl =>
  va_iald (ws := [(a, .inl (g.2.1, n, .inl f))]) B.1 B.2.1 B.2.2.2.2.2.2.2.1 (xP1 hH.1 ha) 0 0 rfl rfl hin hd (kk p e s m args below meth c B H locs ls hH hl)
theorem aw_lald {a n : Nat} {f : Nat → Int64} {i : Int32} (ha : x.2 a = some (.inl (g.2.2.1, n, .inr (.inl f)))) (hin : vp_in i n) (hd : decode M.2.1 pc = .ok (.laload, 1))
    (kk : AW M rm l g x0 o1 x1 kc ks x (pc + 1) lv (.long (f i.toNatClampNeg) :: st)) : AW M rm l g x0 o1 x1 kc ks x pc lv (.int i :: .ref a :: st) := fun p e s m args below meth c B H locs ls hH hl =>
  va_lald (ws := [(a, .inl (g.2.2.1, n, .inr (.inl f)))]) B.1 B.2.1 B.2.2.2.2.2.2.2.1 (xP1 hH.1 ha) 0 1 rfl rfl hin hd (kk p e s m args below meth c B H locs ls hH hl)
theorem aw_zald {a n : Nat} {f : Nat → Int32} {i : Int32} (ha : x.2 a = some (.inl (g.2.2.2.1, n, .inl f))) (hin : vp_in i n) (hd : decode M.2.1 pc = .ok (.baload, 1))
    (kk : AW M rm l g x0 o1 x1 kc ks x (pc + 1) lv (.int (f i.toNatClampNeg) :: st)) : AW M rm l g x0 o1 x1 kc ks x pc lv (.int i :: .ref a :: st) := fun p e s m args below meth c B H locs ls hH hl =>
  va_zald (ws := [(a, .inl (g.2.2.2.1, n, .inl f))]) B.1 B.2.1 B.2.2.2.2.2.2.2.1 (xP1 hH.1 ha) 0 2 rfl rfl hin hd (kk p e s m args below meth c B H locs ls hH hl)
theorem aw_aald (t : Nat) {a n : Nat} {f : Nat → Option Nat} {i : Int32} {cA : ClassId} {C : String} (ha : x.2 a = some (.inl (cA, n, .inr (.inr (.inr (.inr f)))))) (ht : (xTys g)[t]? = some (cA, .object C)) (hin : vp_in i n) (hd : decode M.2.1 pc = .ok (.aaload, 1))
    (kk : AW M rm l g x0 o1 x1 kc ks x (pc + 1) lv (va_rf (f i.toNatClampNeg) :: st)) : AW M rm l g x0 o1 x1 kc ks x pc lv (.int i :: .ref a :: st) := fun p e s m args below meth c B H locs ls hH hl =>
  va_aldq (ws := [(a, .inl (cA, n, .inr (.inr (.inr (.inr f)))))]) B.1 B.2.1 B.2.2.2.2.2.2.2.1 (xP1 hH.1 ha) 0 t rfl ht hin hd (kk p e s m args below meth c B H locs ls hH hl)
theorem aw_alen (t : Nat) {a : Nat} {y : vp_A} {cA : ClassId} {ty : FieldType} (ha : x.2 a = some (.inl (cA, y))) (ht : (xTys g)[t]? = some (cA, ty)) (hd : decode M.2.1 pc = .ok (.arraylength, 1))
    (kk : AW M rm l g x0 o1 x1 kc ks x (pc + 1) lv (.int (nI y.1) :: st)) : AW M rm l g x0 o1 x1 kc ks x pc lv (.ref a :: st) := fun p e s m args below meth c B H locs ls hH hl =>
  va_alen (ws := [(a, .inl (cA, y))]) B.1 B.2.1 B.2.2.2.2.2.2.2.1 (xP1 hH.1 ha) 0 t rfl ht rfl hd (kk p e s m args below meth c B H locs ls hH hl)
theorem aw_iast {a n : Nat} {f : Nat → Int32} {i y : Int32} (ha : x.2 a = some (.inl (g.2.1, n, .inl f))) (hin : vp_in i n) (hd : decode M.2.1 pc = .ok (.iastore, 1))
    (kk : AW M rm l g x0 o1 x1 kc ks (xUp x a (.inl (g.2.1, n, .inl (upd f i.toNatClampNeg y)))) (pc + 1) lv st) : AW M rm l g x0 o1 x1 kc ks x pc lv (.int y :: .int i :: .ref a :: st) := fun p e s m args below meth c B H locs ls hH hl => by
  refine W.iast B.1 B.2.1 (hH.1.2 a _ ha) ((B.2.2.2.2.2.2.2.1.2 0 _ rfl).1 n (fun j => .int (f j))) (fun q => by cases q) (by show ¬ (i < 0 ∨ (arrV _ _ _).slots.size ≤ _); rw [arrV_size]; exact hin) rfl rfl hd fun H1 e1 z oq => ?_
  refine kk p e s m args below meth c B H1 _ ls (hH.up ha z oq ?_) hl
  show H1[a]? = some (vp_cell _ _)
  rw [e1, vp_cell_i, vp_cell_i, arrV_store]
  congr 2
  funext q
  by_cases hq : q = i.toNatClampNeg
  · subst hq; simp [updV, upd]
  · simp [updV, upd, hq]
theorem aw_last {a n : Nat} {f : Nat → Int64} {i : Int32} {y : Int64} (ha : x.2 a = some (.inl (g.2.2.1, n, .inr (.inl f)))) (hin : vp_in i n) (hd : decode M.2.1 pc = .ok (.lastore, 1))
    (kk : AW M rm l g x0 o1 x1 kc ks (xUp x a (.inl (g.2.2.1, n, .inr (.inl (vp_updL f i.toNatClampNeg y))))) (pc + 1) lv st) : AW M rm l g x0 o1 x1 kc ks x pc lv (.long y :: .int i :: .ref a :: st) := fun p e s m args below meth c B H locs ls hH hl => by
  refine W.last B.1 B.2.1 (hH.1.2 a _ ha) ((B.2.2.2.2.2.2.2.1.2 1 _ rfl).1 n (fun j => .long (f j))) (fun q => by cases q) (by show ¬ (i < 0 ∨ (arrV _ _ _).slots.size ≤ _); rw [arrV_size]; exact hin) rfl rfl hd fun H1 e1 z oq => ?_
  refine kk p e s m args below meth c B H1 _ ls (hH.up ha z oq ?_) hl
  show H1[a]? = some (vp_cell _ _)
  rw [e1, vp_cell_l, vp_cell_l, arrV_store]
  congr 2
  funext q
  by_cases hq : q = i.toNatClampNeg
  · subst hq; simp [updV, vp_updL]
  · simp [updV, vp_updL, hq]
theorem aw_zast {a n : Nat} {f : Nat → Int32} {i y : Int32} (hy : vp_nar .boolean y = y) (ha : x.2 a = some (.inl (g.2.2.2.1, n, .inl f))) (hin : vp_in i n) (hd : decode M.2.1 pc = .ok (.bastore, 1))
    (kk : AW M rm l g x0 o1 x1 kc ks (xUp x a (.inl (g.2.2.2.1, n, .inl (upd f i.toNatClampNeg y)))) (pc + 1) lv st) : AW M rm l g x0 o1 x1 kc ks x pc lv (.int y :: .int i :: .ref a :: st) := fun p e s m args below meth c B H locs ls hH hl => by
  refine W.zast B.1 B.2.1 (hH.1.2 a _ ha) ((B.2.2.2.2.2.2.2.1.2 2 _ rfl).1 n (fun j => .int (f j))) (fun q => by cases q) (by show ¬ (i < 0 ∨ (arrV _ _ _).slots.size ≤ _); rw [arrV_size]; exact hin) rfl rfl hd fun H1 e1 z oq => ?_
  refine kk p e s m args below meth c B H1 _ ls (hH.up ha z oq ?_) hl
  show H1[a]? = some (vp_cell _ _)
  rw [e1, vp_cell_i, vp_cell_i, arrV_store]
  congr 2
  funext q
  by_cases hq : q = i.toNatClampNeg
  · subst hq
    have hy2 : narrow .boolean (.int y) = .int y := by
      have h1 : narrow .boolean (.int y) = .int (vp_nar .boolean y) := by simp [vp_nar, narrow]
      rw [h1, hy]
    simp [updV, upd, hy2]
  · simp [updV, upd, hq]
theorem aw_aast (t ci : Nat) {a b n : Nat} {f : Nat → Option Nat} {vs : List Value} {i : Int32} {cA : ClassId} {r : vw_C} (ha : x.2 a = some (.inl (cA, n, .inr (.inr (.inr (.inr f)))))) (ht : (xTys g)[t]? = some (cA, .object r.1)) (hb : x.2 b = some (.inr (ci, vs))) (hc : vwCl[ci]? = some r) (hin : vp_in i n) (hd : decode M.2.1 pc = .ok (.aastore, 1))
    (kk : AW M rm l g x0 o1 x1 kc ks (xUp x a (.inl (cA, n, .inr (.inr (.inr (.inr (va_up f i.toNatClampNeg (some b)))))))) (pc + 1) lv st) : AW M rm l g x0 o1 x1 kc ks x pc lv (.ref b :: .int i :: .ref a :: st) := fun p e s m args below meth c B H locs ls hH hl => by
  have hlt : i.toNatClampNeg < n := Nat.not_le.mp fun q => hin (Or.inr q)
  have h0 : ¬ i < 0 := fun q => hin (Or.inl q)
  have hK := B.2.2.2.2.2.2.2.1
  obtain ⟨r', hr', cellV, g1, g2, g3, -⟩ := hH.1.2 b _ hb
  have hcls := (hK.1 ci r hc).2
  obtain ⟨kA, comp, k1, k2, k3, -⟩ := (hK.2 t _ ht).2
  have hcomp : comp = g.1.1 ci := Option.some.inj (k3.symm.trans hcls.1)
  subst hcomp
  obtain ⟨kC, hkC, -⟩ := id hcls.2
  refine W.aast B.1 B.2.1 (hH.1.2 a _ ha) (fun q h => by cases h) (fun h => by cases h) k1 k2 rfl hkC ⟨h0, by show _ < (arrV _ _ _).slots.size; rw [arrV_size]; exact hlt⟩ g1 (fun q h => by rw [g3] at h; cases h) (by rw [g2]; exact hkC) (by rw [g2]; exact va_assign hcls) rfl rfl hd fun H1 e1 z oq => ?_
  refine kk p e s m args below meth c B H1 _ ls (hH.up ha z oq ?_) hl
  show H1[a]? = some (vp_cell _ _)
  rw [e1, vp_cell_q, vp_cell_q, arrV_store]
  congr 2
  funext q
  by_cases hq : q = i.toNatClampNeg
  · subst hq; simp [updV, va_up, va_rf]
  · simp [updV, va_up, hq]
theorem aw_aastN (t : Nat) {a n : Nat} {f : Nat → Option Nat} {i : Int32} {cA : ClassId} {C : String} (ha : x.2 a = some (.inl (cA, n, .inr (.inr (.inr (.inr f)))))) (ht : (xTys g)[t]? = some (cA, .object C)) (hin : vp_in i n) (hd : decode M.2.1 pc = .ok (.aastore, 1))
    (kk : AW M rm l g x0 o1 x1 kc ks (xUp x a (.inl (cA, n, .inr (.inr (.inr (.inr (va_up f i.toNatClampNeg none))))))) (pc + 1) lv st) : AW M rm l g x0 o1 x1 kc ks x pc lv (.null :: .int i :: .ref a :: st) := fun p e s m args below meth c B H locs ls hH hl => by
  refine va_WaastN (C := C) B.1 B.2.1 (hH.1.2 a _ ha) ((B.2.2.2.2.2.2.2.1.2 t _ ht).1 n (fun j => va_rf (f j))) (fun h => by cases h) (by show ¬ (i < 0 ∨ (arrV _ _ _).slots.size ≤ _); rw [arrV_size]; exact hin) rfl rfl hd fun H1 e1 z oq => ?_
  refine kk p e s m args below meth c B H1 _ ls (hH.up ha z oq ?_) hl
  show H1[a]? = some (vp_cell _ _)
  rw [e1, vp_cell_q, vp_cell_q, arrV_store]
  congr 2
  funext q
  by_cases hq : q = i.toNatClampNeg
  · subst hq; simp [updV, va_up, va_rf]
  · simp [updV, va_up, hq]
-- what is made
theorem aw_new {ci N index : Nat} {C : String} {T : u_T} {ty0 : Nat → FieldType} (fs : List Value) (hc : vwCl[ci]? = some (C, T, N)) (hin : ∀ w ∈ u_ws C T N, w ∈ wt) (hty : ∀ k, k < N → parseFieldDescriptor (T k).2.2.1 = some (ty0 k)) (hcl : Cond.classLink M.1 index C ∈ wt) (hinst : Cond.instantiable C N ∈ wt) (hini : Cond.initialized C ∈ wt) (hfs : ∀ j, j < N → defaultValue (ty0 j) = vp_V fs j) (hf : kc + 1 ≤ rm.cells ∧ ks + N ≤ rm.slots) (hd : decode M.2.1 pc = .ok (.new index, 3))
    (kk : AW M rm l g x0 o1 x1 (kc + 1) (ks + N) (xNew x (.inr (ci, fs))) (pc + 3) lv (.ref x.1 :: st)) : AW M rm l g x0 o1 x1 kc ks x pc lv st := fun p e s m args below meth c B H locs ls hH hl => by
  have hts := B.2.2.2.2.2.2.1
  have hKn := B.2.2.2.2.2.2.2.1.1 ci _ hc
  refine W.newcK B.1 B.2.1 B.2.2.2.2.2.1 (hts _ hcl) (hts _ hinst) (hts _ hini) rfl hd hf.1 hf.2 hKn.2.1 rfl fun H1 kC hkC e1 z1 o1 => ?_
  rw [hH.1.1]
  refine kk p e s m args below meth c B H1 locs ls (hH.new B.2.2.2.2.2.2.2.2.1 z1 o1 ⟨_, hc, ?_⟩) hl
  exact (u_born ty0 hts hin hKn hkC e1 hty).to hfs
theorem xArr {ty : FieldType} {cA cB : ClassId} {t : Nat} (hK : va_K g.1 vwCl (xTys g) s) (ht : (xTys g)[t]? = some (cB, ty)) (hp : ty = .int ∨ ty = .long ∨ ty = .boolean) (h : s.vm.findClass ("[" ++ ty.toString) = some cA) : cA = cB := by
  have h2 := (hK.2 t _ ht).2
  rcases hp with rfl | rfl | rfl <;> exact Option.some.inj (h.symm.trans h2)
theorem aw_newa (t : Nat) {atype : ArrayType} {ty : FieldType} {cB : ClassId} {n : Int32} {N : Nat} {a0 : vp_A} (hty : newarray.typeOf atype = ty) (hp : ty = .int ∨ ty = .long ∨ ty = .boolean) (ht : (xTys g)[t]? = some (cB, ty)) (harr : Cond.arrayClass ty ∈ wt) (ha : vp_cell cB a0 = arrV cB N (fun _ => defaultValue ty)) (hn : ¬ n < 0) (hN : n.toNatClampNeg = N) (hbytes : N * componentBytes ty ≤ 536870912) (hf : kc + 1 ≤ rm.cells ∧ ks + N ≤ rm.slots) (hd : decode M.2.1 pc = .ok (.newarray atype, 2))
    (kk : AW M rm l g x0 o1 x1 (kc + 1) (ks + N) (xNew x (.inl (cB, a0))) (pc + 2) lv (.ref x.1 :: st)) : AW M rm l g x0 o1 x1 kc ks x pc lv (.int n :: st) := fun p e s m args below meth c B H locs ls hH hl => by
  subst hty
  have hts := B.2.2.2.2.2.2.1
  refine va_newaK B.1 B.2.1 (hts _ harr) rfl hd rfl hn hN hbytes hf.1 hf.2 rfl fun H1 cA e1 z1 o1 hAr hNm => ?_
  have hcc : cA = cB := xArr B.2.2.2.2.2.2.2.1 ht hp hNm
  subst hcc
  rw [hH.1.1]
  refine kk p e s m args below meth c B H1 locs ls (hH.new B.2.2.2.2.2.2.2.2.1 z1 o1 ?_) hl
  show H1[H.size]? = some (vp_cell _ _)
  rw [ha]; exact e1
theorem aw_newq (t : Nat) {index : Nat} {C : String} {cB : ClassId} {n : Int32} {N : Nat} (hC : C = RX3 ∨ C = RX7) (ht : (xTys g)[t]? = some (cB, .object C)) (hcl : Cond.classLink M.1 index C ∈ wt) (hn : ¬ n < 0) (hN : n.toNatClampNeg = N) (hbytes : N * 4 ≤ 536870912) (hf : kc + 1 ≤ rm.cells ∧ ks + N ≤ rm.slots) (hd : decode M.2.1 pc = .ok (.anewarray index, 3))
    (kk : AW M rm l g x0 o1 x1 (kc + 1) (ks + N) (xNew x (.inl (cB, N, .inr (.inr (.inr (.inr (fun _ => none))))))) (pc + 3) lv (.ref x.1 :: st)) : AW M rm l g x0 o1 x1 kc ks x pc lv (.int n :: st) := fun p e s m args below meth c B H locs ls hH hl => by
  subst hN
  have hts := B.2.2.2.2.2.2.1
  have hI := B.2.2.2.2.2.2.2.2.2.2.1.1
  have hover : va_AO C s := by rcases hC with rfl | rfl; exact hI.2.1; exact hI.2.2.1
  refine W.anew B.1 B.2.1 B.2.2.2.2.2.1 (hts _ hcl) (va_AO.use hover) rfl hd rfl hn hbytes hf.1 hf.2 fun cA kA comp f1 f2 f3 f4 => ?_
  have hcc : cA = cB := by
    obtain ⟨-, kB, comp2, -, -, -, h4⟩ := B.2.2.2.2.2.2.2.1.2 t _ ht
    exact Option.some.inj (f1.symm.trans h4)
  subst hcc
  rw [hH.1.1]
  refine kk p e s m args below meth c B _ locs ls (hH.new B.2.2.2.2.2.2.2.2.1 (by rw [Array.size_push]) (fun q hq => by rw [Array.getElem?_push, if_neg (Nat.ne_of_lt hq)]) ?_) hl
  show (H.push _)[H.size]? = some (vp_cell _ _)
  rw [Array.getElem?_push_size, vp_cell_q, ← arrV_new]
  rfl
end AWH
end
section
theorem inX1 : ∀ w ∈ u_ws RX1 TX1 3, w ∈ wt := fun w h => by
  have h1 : (u_ws RX1 TX1 3).all (fun w => decide (w ∈ lw_tbl) && goodWord w) = true := by decide +kernel
  have h2 := List.all_eq_true.mp h1 w h
  simp only [Bool.and_eq_true, decide_eq_true_eq] at h2
  exact w_fil h2.1 h2.2
theorem inX2 : ∀ w ∈ u_ws RX2 TX2 6, w ∈ wt := fun w h => by
  have h1 : (u_ws RX2 TX2 6).all (fun w => decide (w ∈ lw_tbl) && goodWord w) = true := by decide +kernel
  have h2 := List.all_eq_true.mp h1 w h
  simp only [Bool.and_eq_true, decide_eq_true_eq] at h2
  exact w_fil h2.1 h2.2
theorem inX3 : ∀ w ∈ u_ws RX3 TX3 10, w ∈ wt := fun w h => by
  have h1 : (u_ws RX3 TX3 10).all (fun w => decide (w ∈ lw_tbl) && goodWord w) = true := by decide +kernel
  have h2 := List.all_eq_true.mp h1 w h
  simp only [Bool.and_eq_true, decide_eq_true_eq] at h2
  exact w_fil h2.1 h2.2
theorem inX4 : ∀ w ∈ u_ws RX4 TX4 6, w ∈ wt := fun w h => by
  have h1 : (u_ws RX4 TX4 6).all (fun w => decide (w ∈ lw_tbl) && goodWord w) = true := by decide +kernel
  have h2 := List.all_eq_true.mp h1 w h
  simp only [Bool.and_eq_true, decide_eq_true_eq] at h2
  exact w_fil h2.1 h2.2
theorem inX6 : ∀ w ∈ u_ws RX6 TX6 3, w ∈ wt := fun w h => by
  have h1 : (u_ws RX6 TX6 3).all (fun w => decide (w ∈ lw_tbl) && goodWord w) = true := by decide +kernel
  have h2 := List.all_eq_true.mp h1 w h
  simp only [Bool.and_eq_true, decide_eq_true_eq] at h2
  exact w_fil h2.1 h2.2
theorem inX7 : ∀ w ∈ u_ws RX7 TX7 8, w ∈ wt := fun w h => by
  have h1 : (u_ws RX7 TX7 8).all (fun w => decide (w ∈ lw_tbl) && goodWord w) = true := by decide +kernel
  have h2 := List.all_eq_true.mp h1 w h
  simp only [Bool.and_eq_true, decide_eq_true_eq] at h2
  exact w_fil h2.1 h2.2
theorem inX8 : ∀ w ∈ u_ws RX8 TX8 2, w ∈ wt := fun w h => by
  have h1 : (u_ws RX8 TX8 2).all (fun w => decide (w ∈ lw_tbl) && goodWord w) = true := by decide +kernel
  have h2 := List.all_eq_true.mp h1 w h
  simp only [Bool.and_eq_true, decide_eq_true_eq] at h2
  exact w_fil h2.1 h2.2
theorem inX9 : ∀ w ∈ u_ws RX9 TX9 48, w ∈ wt := fun w h => by
  have h1 : (u_ws RX9 TX9 48).all (fun w => decide (w ∈ lw_tbl) && goodWord w) = true := by decide +kernel
  have h2 := List.all_eq_true.mp h1 w h
  simp only [Bool.and_eq_true, decide_eq_true_eq] at h2
  exact w_fil h2.1 h2.2
/-! TH: what the landed class's objects hold, by address and place: size, kinds (0 none, 1.. the classes of vwCl, 9 int[], 12 games' row, 13 nodes' row), lengths, whole numbers, long numbers, references -/
abbrev TH : Type := Nat × (Nat → Nat) × (Nat → Nat) × (Nat → Nat → Int32) × (Nat → Nat → Int64) × (Nat → Nat → Option Nat)
def t_sz (h : TH) : Nat := h.1
def t_kd (h : TH) : Nat → Nat := h.2.1
def t_ln (h : TH) : Nat → Nat := h.2.2.1
def t_I (h : TH) : Nat → Nat → Int32 := h.2.2.2.1
def t_J (h : TH) : Nat → Nat → Int64 := h.2.2.2.2.1
def t_R (h : TH) : Nat → Nat → Option Nat := h.2.2.2.2.2
def x_up2 {α : Type} (f : Nat → Nat → α) (a k : Nat) (v : α) : Nat → Nat → α := fun b j => if b = a ∧ j = k then v else f b j
def x_up1 {α : Type} (f : Nat → α) (a : Nat) (v : α) : Nat → α := fun b => if b = a then v else f b
def s_I (h : TH) (a k : Nat) (v : Int32) : TH := (t_sz h, t_kd h, t_ln h, x_up2 (t_I h) a k v, t_J h, t_R h)
def s_J (h : TH) (a k : Nat) (v : Int64) : TH := (t_sz h, t_kd h, t_ln h, t_I h, x_up2 (t_J h) a k v, t_R h)
def s_R (h : TH) (a k : Nat) (v : Option Nat) : TH := (t_sz h, t_kd h, t_ln h, t_I h, t_J h, x_up2 (t_R h) a k v)
def s_N (h : TH) (kd n : Nat) : TH := (t_sz h + 1, x_up1 (t_kd h) (t_sz h) kd, x_up1 (t_ln h) (t_sz h) n, x_up1 (t_I h) (t_sz h) (fun _ => 0), x_up1 (t_J h) (t_sz h) (fun _ => 0), x_up1 (t_R h) (t_sz h) (fun _ => none))
/-- the kinds of the fields: 0 a whole number, 1 a long one, 2 a reference -/
def tgs : Nat → List Nat := fun c => match c with
  | 0 => [0, 0, 0]
  | 1 => [2, 0, 2, 0, 2, 0]
  | 2 => [0, 0, 0, 0, 2, 2, 2, 2, 0, 0]
  | 3 => [1, 1, 0, 0, 0, 2]
  | 4 => [2, 2, 0]
  | 5 => [0, 0, 0, 2, 0, 2, 2, 0]
  | 6 => [2, 2]
  | _ => []
def thV (h : TH) (a i t : Nat) : Value := if t = 0 then .int (t_I h a i) else if t = 1 then .long (t_J h a i) else va_rf (t_R h a i)
def thF (h : TH) (a : Nat) (tl : List Nat) : List Value := tl.mapIdx (fun i t => thV h a i t)
def thC (g : xG) (h : TH) (a k : Nat) : Option va_E := if k = 0 then none else if k = 9 then some (.inl (g.2.1, t_ln h a, .inl (t_I h a))) else if k = 12 then some (.inl (g.2.2.2.2.1, t_ln h a, .inr (.inr (.inr (.inr (t_R h a)))))) else if k = 13 then some (.inl (g.2.2.2.2.2, t_ln h a, .inr (.inr (.inr (.inr (t_R h a)))))) else some (.inr (k - 1, thF h a (tgs (k - 1))))
def thE (g : xG) (h : TH) : xV := (t_sz h, fun a => thC g h a (t_kd h a))
theorem thF_at {h : TH} {a k t : Nat} {tl : List Nat} (hk : tl[k]? = some t) : (thF h a tl)[k]? = some (thV h a k t) := by simp [thF, List.getElem?_mapIdx, hk]
theorem thF_len {h : TH} {a k t : Nat} {tl : List Nat} (hk : tl[k]? = some t) : k < (thF h a tl).length := by
  have := (List.getElem?_eq_some_iff.mp hk).1
  simpa [thF] using this
theorem thF_set {h h2 : TH} {a k t : Nat} {tl : List Nat} (hk : tl[k]? = some t) (v : Value) (hv : thV h2 a k t = v) (ho : ∀ j u, j ≠ k → thV h2 a j u = thV h a j u) : (thF h a tl).set k v = thF h2 a tl := by
  apply List.ext_getElem?
  intro j
  rw [List.getElem?_set]
  by_cases hj : k = j
  · subst hj
    rw [if_pos rfl, if_pos (thF_len hk), thF_at hk, hv]
  · rw [if_neg hj]
    simp only [thF, List.getElem?_mapIdx]
    cases tl[j]? with
    | none => rfl
    | some u => simp only [Option.map_some]; rw [ho j u (fun q => hj q.symm)]
theorem thC_ob {g : xG} {h : TH} {a ci : Nat} (hk : t_kd h a = ci + 1) (hc : ci < 8) : (thE g h).2 a = some (.inr (ci, thF h a (tgs ci))) := by
  show thC g h a (t_kd h a) = _
  rw [hk]
  unfold thC
  rw [if_neg (by omega), if_neg (by omega), if_neg (by omega), if_neg (by omega)]
  rfl
theorem thC_i {g : xG} {h : TH} {a : Nat} (hk : t_kd h a = 9) : (thE g h).2 a = some (.inl (g.2.1, t_ln h a, .inl (t_I h a))) := by
  show thC g h a (t_kd h a) = _
  rw [hk]; rfl
theorem thC_m {g : xG} {h : TH} {a : Nat} (hk : t_kd h a = 12) : (thE g h).2 a = some (.inl (g.2.2.2.2.1, t_ln h a, .inr (.inr (.inr (.inr (t_R h a)))))) := by
  show thC g h a (t_kd h a) = _
  rw [hk]; rfl
theorem thC_t {g : xG} {h : TH} {a : Nat} (hk : t_kd h a = 13) : (thE g h).2 a = some (.inl (g.2.2.2.2.2, t_ln h a, .inr (.inr (.inr (.inr (t_R h a)))))) := by
  show thC g h a (t_kd h a) = _
  rw [hk]; rfl
theorem thC_ne {g : xG} {h h2 : TH} {q k : Nat} (hn : t_ln h2 q = t_ln h q) (hI : t_I h2 q = t_I h q) (hJ : t_J h2 q = t_J h q) (hR : t_R h2 q = t_R h q) : thC g h2 q k = thC g h q k := by
  have hV : ∀ i t, thV h2 q i t = thV h q i t := fun i t => by unfold thV; rw [hI, hJ, hR]
  have hF : ∀ tl, thF h2 q tl = thF h q tl := fun tl => by unfold thF; congr; funext i t; exact hV i t
  unfold thC
  rw [hn, hI, hR, hF]
theorem x_up2_ne {α : Type} {f : Nat → Nat → α} {a k : Nat} {v : α} {q : Nat} (h : q ≠ a) : x_up2 f a k v q = f q := by funext j; simp [x_up2, h]
theorem x_up2_at {α : Type} {f : Nat → Nat → α} {a k : Nat} {v : α} : x_up2 f a k v a k = v := by simp [x_up2]
theorem x_up2_off {α : Type} {f : Nat → Nat → α} {a k : Nat} {v : α} {q j : Nat} (h : j ≠ k) : x_up2 f a k v q j = f q j := by simp [x_up2, h]
theorem xUp_th {g : xG} {h h2 : TH} {a : Nat} {e : va_E} (hz : t_sz h2 = t_sz h) (hk : t_kd h2 = t_kd h) (he : thC g h2 a (t_kd h a) = some e) (ho : ∀ q, q ≠ a → t_ln h2 q = t_ln h q ∧ t_I h2 q = t_I h q ∧ t_J h2 q = t_J h q ∧ t_R h2 q = t_R h q) : xUp (thE g h) a e = thE g h2 := by
  refine Prod.ext hz.symm (funext fun q => ?_)
  show (if q = a then some e else thC g h q (t_kd h q)) = thC g h2 q (t_kd h2 q)
  rw [hk]
  by_cases hq : q = a
  · subst hq; rw [if_pos rfl, he]
  · obtain ⟨h1, h2', h3, h4⟩ := ho q hq
    rw [if_neg hq, thC_ne h1 h2' h3 h4]
theorem xUp_I {g : xG} {h : TH} {a ci k : Nat} {v : Int32} (hk : t_kd h a = ci + 1) (hc : ci < 8) (ht : (tgs ci)[k]? = some 0) : xUp (thE g h) a (.inr (ci, (thF h a (tgs ci)).set k (.int v))) = thE g (s_I h a k v) := by
  refine xUp_th rfl rfl ?_ (fun q hq => ⟨rfl, x_up2_ne hq, rfl, rfl⟩)
  have h2 := thC_ob (g := g) (h := s_I h a k v) (a := a) (ci := ci) hk hc
  rw [show thC g (s_I h a k v) a (t_kd h a) = _ from h2, thF_set (h2 := s_I h a k v) ht (.int v) (by simp [thV, s_I, t_I, x_up2]) (fun j u hj => by simp [thV, s_I, t_I, t_J, t_R, x_up2, hj])]
theorem xUp_J {g : xG} {h : TH} {a ci k : Nat} {v : Int64} (hk : t_kd h a = ci + 1) (hc : ci < 8) (ht : (tgs ci)[k]? = some 1) : xUp (thE g h) a (.inr (ci, (thF h a (tgs ci)).set k (.long v))) = thE g (s_J h a k v) := by
  refine xUp_th rfl rfl ?_ (fun q hq => ⟨rfl, rfl, x_up2_ne hq, rfl⟩)
  have h2 := thC_ob (g := g) (h := s_J h a k v) (a := a) (ci := ci) hk hc
  rw [show thC g (s_J h a k v) a (t_kd h a) = _ from h2, thF_set (h2 := s_J h a k v) ht (.long v) (by simp [thV, s_J, t_J, x_up2]) (fun j u hj => by simp [thV, s_J, t_I, t_J, t_R, x_up2, hj])]
theorem xUp_R {g : xG} {h : TH} {a ci k : Nat} {v : Option Nat} (hk : t_kd h a = ci + 1) (hc : ci < 8) (ht : (tgs ci)[k]? = some 2) : xUp (thE g h) a (.inr (ci, (thF h a (tgs ci)).set k (va_rf v))) = thE g (s_R h a k v) := by
  refine xUp_th rfl rfl ?_ (fun q hq => ⟨rfl, rfl, rfl, x_up2_ne hq⟩)
  have h2 := thC_ob (g := g) (h := s_R h a k v) (a := a) (ci := ci) hk hc
  rw [show thC g (s_R h a k v) a (t_kd h a) = _ from h2, thF_set (h2 := s_R h a k v) ht (va_rf v) (by simp [thV, s_R, t_R, x_up2]) (fun j u hj => by simp [thV, s_R, t_I, t_J, t_R, x_up2, hj])]
theorem xUp_i {g : xG} {h : TH} {a k : Nat} {v : Int32} (hk : t_kd h a = 9) : xUp (thE g h) a (.inl (g.2.1, t_ln h a, .inl (upd (t_I h a) k v))) = thE g (s_I h a k v) := by
  refine xUp_th rfl rfl ?_ (fun q hq => ⟨rfl, x_up2_ne hq, rfl, rfl⟩)
  have h2 := thC_i (g := g) (h := s_I h a k v) (a := a) hk
  rw [show thC g (s_I h a k v) a (t_kd h a) = _ from h2]
  have e : t_I (s_I h a k v) a = upd (t_I h a) k v := by funext j; simp [s_I, t_I, x_up2, upd]
  rw [e]; rfl
theorem xUp_m {g : xG} {h : TH} {a k : Nat} {v : Option Nat} (hk : t_kd h a = 12) : xUp (thE g h) a (.inl (g.2.2.2.2.1, t_ln h a, .inr (.inr (.inr (.inr (va_up (t_R h a) k v)))))) = thE g (s_R h a k v) := by
  refine xUp_th rfl rfl ?_ (fun q hq => ⟨rfl, rfl, rfl, x_up2_ne hq⟩)
  have h2 := thC_m (g := g) (h := s_R h a k v) (a := a) hk
  rw [show thC g (s_R h a k v) a (t_kd h a) = _ from h2]
  have e : t_R (s_R h a k v) a = va_up (t_R h a) k v := by funext j; simp [s_R, t_R, x_up2, va_up]
  rw [e]; rfl
theorem xUp_t {g : xG} {h : TH} {a k : Nat} {v : Option Nat} (hk : t_kd h a = 13) : xUp (thE g h) a (.inl (g.2.2.2.2.2, t_ln h a, .inr (.inr (.inr (.inr (va_up (t_R h a) k v)))))) = thE g (s_R h a k v) := by
  refine xUp_th rfl rfl ?_ (fun q hq => ⟨rfl, rfl, rfl, x_up2_ne hq⟩)
  have h2 := thC_t (g := g) (h := s_R h a k v) (a := a) hk
  rw [show thC g (s_R h a k v) a (t_kd h a) = _ from h2]
  have e : t_R (s_R h a k v) a = va_up (t_R h a) k v := by funext j; simp [s_R, t_R, x_up2, va_up]
  rw [e]; rfl
theorem xNew_th {g : xG} {h : TH} {kd n : Nat} {e : va_E} (he : thC g (s_N h kd n) (t_sz h) kd = some e) : xNew (thE g h) e = thE g (s_N h kd n) := by
  refine Prod.ext rfl (funext fun q => ?_)
  show (if q = t_sz h then some e else thC g h q (t_kd h q)) = thC g (s_N h kd n) q (t_kd (s_N h kd n) q)
  by_cases hq : q = t_sz h
  · subst hq
    rw [if_pos rfl, show t_kd (s_N h kd n) (t_sz h) = kd by simp [s_N, t_kd, x_up1], he]
  · rw [if_neg hq, show t_kd (s_N h kd n) q = t_kd h q by simp [s_N, t_kd, x_up1, hq]]
    exact (thC_ne (by simp [s_N, t_ln, x_up1, hq]) (by simp [s_N, t_I, x_up1, hq]) (by simp [s_N, t_J, x_up1, hq]) (by simp [s_N, t_R, x_up1, hq])).symm
theorem tN_I {h : TH} {kd n : Nat} : t_I (s_N h kd n) (t_sz h) = fun _ => 0 := by simp [s_N, t_I, x_up1]
theorem tN_J {h : TH} {kd n : Nat} : t_J (s_N h kd n) (t_sz h) = fun _ => 0 := by simp [s_N, t_J, x_up1]
theorem tN_R {h : TH} {kd n : Nat} : t_R (s_N h kd n) (t_sz h) = fun _ => none := by simp [s_N, t_R, x_up1]
theorem tN_ln {h : TH} {kd n : Nat} : t_ln (s_N h kd n) (t_sz h) = n := by simp [s_N, t_ln, x_up1]
/-- a blank object's fields -/
def thB (tl : List Nat) : List Value := tl.map (fun t => if t = 0 then .int 0 else if t = 1 then .long 0 else .null)
theorem thB_eq {h : TH} {kd n : Nat} {tl : List Nat} : thF (s_N h kd n) (t_sz h) tl = thB tl := by
  apply List.ext_getElem?
  intro j
  simp only [thF, thB, List.getElem?_mapIdx, List.getElem?_map]
  cases tl[j]? with
  | none => rfl
  | some t => simp [thV, tN_I, tN_J, tN_R, va_rf]
section THR
variable {M : xM} {rm : Room} {l : Launch} {g : xG} {x0 : xV} {o1 : Option Value ⊕ String} {x1 : xV} {kc ks : Nat} {h : TH} {pc : Nat} {lv : List (Nat × Value)} {st : List Value}
variable {ci k index N a : Nat} {C : String} {T : u_T} {r : Option Nat}
theorem th_getI (ci k : Nat) (hin : ∀ w ∈ u_ws C T N, w ∈ wt) (hr : r = some a) (hk : t_kd h a = ci + 1) (hc : vwCl[ci]? = some (C, T, N)) (hq : ci < 8 ∧ k < N ∧ (tgs ci)[k]? = some 0) (hl0 : Cond.fieldLink M.1 index (T k).1 (T k).2.1 (T k).2.2.1 ∈ wt) (hd : decode M.2.1 pc = .ok (.getfield index, 3))
    (kk : AW M rm l g x0 o1 x1 kc ks (thE g h) (pc + 3) lv (.int (t_I h a k) :: st)) : AW M rm l g x0 o1 x1 kc ks (thE g h) pc lv (va_rf r :: st) := by
  subst hr
  exact aw_getf (thC_ob hk hq.1) hc hin hq.2.1 hl0 (thF_at hq.2.2) hd kk
theorem th_getJ (ci k : Nat) (hin : ∀ w ∈ u_ws C T N, w ∈ wt) (hr : r = some a) (hk : t_kd h a = ci + 1) (hc : vwCl[ci]? = some (C, T, N)) (hq : ci < 8 ∧ k < N ∧ (tgs ci)[k]? = some 1) (hl0 : Cond.fieldLink M.1 index (T k).1 (T k).2.1 (T k).2.2.1 ∈ wt) (hd : decode M.2.1 pc = .ok (.getfield index, 3))
    (kk : AW M rm l g x0 o1 x1 kc ks (thE g h) (pc + 3) lv (.long (t_J h a k) :: st)) : AW M rm l g x0 o1 x1 kc ks (thE g h) pc lv (va_rf r :: st) := by
  subst hr
  exact aw_getf (thC_ob hk hq.1) hc hin hq.2.1 hl0 (thF_at hq.2.2) hd kk
theorem th_getR (ci k : Nat) (hin : ∀ w ∈ u_ws C T N, w ∈ wt) (hr : r = some a) (hk : t_kd h a = ci + 1) (hc : vwCl[ci]? = some (C, T, N)) (hq : ci < 8 ∧ k < N ∧ (tgs ci)[k]? = some 2) (hl0 : Cond.fieldLink M.1 index (T k).1 (T k).2.1 (T k).2.2.1 ∈ wt) (hd : decode M.2.1 pc = .ok (.getfield index, 3))
    (kk : AW M rm l g x0 o1 x1 kc ks (thE g h) (pc + 3) lv (va_rf (t_R h a k) :: st)) : AW M rm l g x0 o1 x1 kc ks (thE g h) pc lv (va_rf r :: st) := by
  subst hr
  exact aw_getf (thC_ob hk hq.1) hc hin hq.2.1 hl0 (thF_at hq.2.2) hd kk
theorem th_getIN (host : String) (ci k : Nat) (hin : ∀ w ∈ u_ws C T N, w ∈ wt) (hr : r = some a) (hk : t_kd h a = ci + 1) (hc : vwCl[ci]? = some (C, T, N)) (hq : ci < 8 ∧ k < N ∧ (tgs ci)[k]? = some 0) (hl0 : Cond.fieldLinkNest M.1 index (T k).1 (T k).2.1 (T k).2.2.1 host ∈ lw_tbl) (hd : decode M.2.1 pc = .ok (.getfield index, 3))
    (kk : AW M rm l g x0 o1 x1 kc ks (thE g h) (pc + 3) lv (.int (t_I h a k) :: st)) : AW M rm l g x0 o1 x1 kc ks (thE g h) pc lv (va_rf r :: st) := by
  subst hr
  exact aw_getfN (thC_ob hk hq.1) hc hin hq.2.1 hl0 (thF_at hq.2.2) hd kk
theorem th_getJN (host : String) (ci k : Nat) (hin : ∀ w ∈ u_ws C T N, w ∈ wt) (hr : r = some a) (hk : t_kd h a = ci + 1) (hc : vwCl[ci]? = some (C, T, N)) (hq : ci < 8 ∧ k < N ∧ (tgs ci)[k]? = some 1) (hl0 : Cond.fieldLinkNest M.1 index (T k).1 (T k).2.1 (T k).2.2.1 host ∈ lw_tbl) (hd : decode M.2.1 pc = .ok (.getfield index, 3))
    (kk : AW M rm l g x0 o1 x1 kc ks (thE g h) (pc + 3) lv (.long (t_J h a k) :: st)) : AW M rm l g x0 o1 x1 kc ks (thE g h) pc lv (va_rf r :: st) := by
  subst hr
  exact aw_getfN (thC_ob hk hq.1) hc hin hq.2.1 hl0 (thF_at hq.2.2) hd kk
theorem th_getRN (host : String) (ci k : Nat) (hin : ∀ w ∈ u_ws C T N, w ∈ wt) (hr : r = some a) (hk : t_kd h a = ci + 1) (hc : vwCl[ci]? = some (C, T, N)) (hq : ci < 8 ∧ k < N ∧ (tgs ci)[k]? = some 2) (hl0 : Cond.fieldLinkNest M.1 index (T k).1 (T k).2.1 (T k).2.2.1 host ∈ lw_tbl) (hd : decode M.2.1 pc = .ok (.getfield index, 3))
    (kk : AW M rm l g x0 o1 x1 kc ks (thE g h) (pc + 3) lv (va_rf (t_R h a k) :: st)) : AW M rm l g x0 o1 x1 kc ks (thE g h) pc lv (va_rf r :: st) := by
  subst hr
  exact aw_getfN (thC_ob hk hq.1) hc hin hq.2.1 hl0 (thF_at hq.2.2) hd kk
/-- what a class says of its fields' types -/
abbrev xTy (C : String) (T : u_T) (N : Nat) (ty0 : Nat → FieldType) : Prop := (∀ w ∈ u_ws C T N, w ∈ wt) ∧ (∀ k, k < N → parseFieldDescriptor (T k).2.2.1 = some (ty0 k)) ∧ (∀ a, a < N → ∀ b, b < N → a ≠ b → (T a).2.1 ≠ (T b).2.1)
theorem xTy.put {ty0 : Nat → FieldType} (hT : xTy C T N ty0) (hc : vwCl[ci]? = some (C, T, N)) (hk : k < N) {ty : FieldType} {v : Value} {fs : List Value} (hty : ty0 k = ty) (hn : narrow ty v = v) (hf : fits ty v = true) (hl : k < fs.length) : xPut ci k N C T ty0 fs ty v := ⟨hc, hT.1, hT.2.1, hT.2.2, hk, by rw [hT.2.1 k hk, hty], hn, hf, hl⟩

theorem th_putI (ci k : Nat) {ty0 : Nat → FieldType} {v : Int32} (hT : xTy C T N ty0) (hr : r = some a) (hk : t_kd h a = ci + 1) (hc : vwCl[ci]? = some (C, T, N)) (hq : ci < 8 ∧ k < N ∧ (tgs ci)[k]? = some 0) {ty : FieldType} (hty : ty0 k = ty) (hn : narrow ty (.int v) = .int v) (hf : fits ty (.int v) = true) (hl0 : Cond.fieldLink M.1 index (T k).1 (T k).2.1 (T k).2.2.1 ∈ wt) (hfin : (T k).2.2.2 = false) (hd : decode M.2.1 pc = .ok (.putfield index, 3))
    (kk : AW M rm l g x0 o1 x1 kc ks (thE g (s_I h a k v)) (pc + 3) lv st) : AW M rm l g x0 o1 x1 kc ks (thE g h) pc lv (.int v :: va_rf r :: st) := by
  subst hr
  refine aw_putf (thC_ob hk hq.1) (hT.put hc hq.2.1 hty hn hf (thF_len hq.2.2)) hl0 hfin hd ?_
  rw [xUp_I hk hq.1 hq.2.2]; exact kk
theorem th_putJ (ci k : Nat) {ty0 : Nat → FieldType} {v : Int64} (hT : xTy C T N ty0) (hr : r = some a) (hk : t_kd h a = ci + 1) (hc : vwCl[ci]? = some (C, T, N)) (hq : ci < 8 ∧ k < N ∧ (tgs ci)[k]? = some 1) {ty : FieldType} (hty : ty0 k = ty) (hn : narrow ty (.long v) = .long v) (hf : fits ty (.long v) = true) (hl0 : Cond.fieldLink M.1 index (T k).1 (T k).2.1 (T k).2.2.1 ∈ wt) (hfin : (T k).2.2.2 = false) (hd : decode M.2.1 pc = .ok (.putfield index, 3))
    (kk : AW M rm l g x0 o1 x1 kc ks (thE g (s_J h a k v)) (pc + 3) lv st) : AW M rm l g x0 o1 x1 kc ks (thE g h) pc lv (.long v :: va_rf r :: st) := by
  subst hr
  refine aw_putf (thC_ob hk hq.1) (hT.put hc hq.2.1 hty hn hf (thF_len hq.2.2)) hl0 hfin hd ?_
  rw [xUp_J hk hq.1 hq.2.2]; exact kk
theorem th_putR (ci k : Nat) {ty0 : Nat → FieldType} {v : Option Nat} (hT : xTy C T N ty0) (hr : r = some a) (hk : t_kd h a = ci + 1) (hc : vwCl[ci]? = some (C, T, N)) (hq : ci < 8 ∧ k < N ∧ (tgs ci)[k]? = some 2) {ty : FieldType} (hty : ty0 k = ty) (hn : narrow ty (va_rf v) = va_rf v) (hf : fits ty (va_rf v) = true) (hl0 : Cond.fieldLink M.1 index (T k).1 (T k).2.1 (T k).2.2.1 ∈ wt) (hfin : (T k).2.2.2 = false) (hd : decode M.2.1 pc = .ok (.putfield index, 3))
    (kk : AW M rm l g x0 o1 x1 kc ks (thE g (s_R h a k v)) (pc + 3) lv st) : AW M rm l g x0 o1 x1 kc ks (thE g h) pc lv (va_rf v :: va_rf r :: st) := by
  subst hr
  refine aw_putf (thC_ob hk hq.1) (hT.put hc hq.2.1 hty hn hf (thF_len hq.2.2)) hl0 hfin hd ?_
  rw [xUp_R hk hq.1 hq.2.2]; exact kk
theorem th_putIN (host : String) (ci k : Nat) {ty0 : Nat → FieldType} {v : Int32} (hT : xTy C T N ty0) (hr : r = some a) (hk : t_kd h a = ci + 1) (hc : vwCl[ci]? = some (C, T, N)) (hq : ci < 8 ∧ k < N ∧ (tgs ci)[k]? = some 0) {ty : FieldType} (hty : ty0 k = ty) (hn : narrow ty (.int v) = .int v) (hf : fits ty (.int v) = true) (hl0 : Cond.fieldLinkNest M.1 index (T k).1 (T k).2.1 (T k).2.2.1 host ∈ lw_tbl) (hfin : (T k).2.2.2 = false) (hd : decode M.2.1 pc = .ok (.putfield index, 3))
    (kk : AW M rm l g x0 o1 x1 kc ks (thE g (s_I h a k v)) (pc + 3) lv st) : AW M rm l g x0 o1 x1 kc ks (thE g h) pc lv (.int v :: va_rf r :: st) := by
  subst hr
  refine aw_putfN (thC_ob hk hq.1) (hT.put hc hq.2.1 hty hn hf (thF_len hq.2.2)) hl0 hfin hd ?_
  rw [xUp_I hk hq.1 hq.2.2]; exact kk
theorem th_putJN (host : String) (ci k : Nat) {ty0 : Nat → FieldType} {v : Int64} (hT : xTy C T N ty0) (hr : r = some a) (hk : t_kd h a = ci + 1) (hc : vwCl[ci]? = some (C, T, N)) (hq : ci < 8 ∧ k < N ∧ (tgs ci)[k]? = some 1) {ty : FieldType} (hty : ty0 k = ty) (hn : narrow ty (.long v) = .long v) (hf : fits ty (.long v) = true) (hl0 : Cond.fieldLinkNest M.1 index (T k).1 (T k).2.1 (T k).2.2.1 host ∈ lw_tbl) (hfin : (T k).2.2.2 = false) (hd : decode M.2.1 pc = .ok (.putfield index, 3))
    (kk : AW M rm l g x0 o1 x1 kc ks (thE g (s_J h a k v)) (pc + 3) lv st) : AW M rm l g x0 o1 x1 kc ks (thE g h) pc lv (.long v :: va_rf r :: st) := by
  subst hr
  refine aw_putfN (thC_ob hk hq.1) (hT.put hc hq.2.1 hty hn hf (thF_len hq.2.2)) hl0 hfin hd ?_
  rw [xUp_J hk hq.1 hq.2.2]; exact kk
theorem th_putRN (host : String) (ci k : Nat) {ty0 : Nat → FieldType} {v : Option Nat} (hT : xTy C T N ty0) (hr : r = some a) (hk : t_kd h a = ci + 1) (hc : vwCl[ci]? = some (C, T, N)) (hq : ci < 8 ∧ k < N ∧ (tgs ci)[k]? = some 2) {ty : FieldType} (hty : ty0 k = ty) (hn : narrow ty (va_rf v) = va_rf v) (hf : fits ty (va_rf v) = true) (hl0 : Cond.fieldLinkNest M.1 index (T k).1 (T k).2.1 (T k).2.2.1 host ∈ lw_tbl) (hfin : (T k).2.2.2 = false) (hd : decode M.2.1 pc = .ok (.putfield index, 3))
    (kk : AW M rm l g x0 o1 x1 kc ks (thE g (s_R h a k v)) (pc + 3) lv st) : AW M rm l g x0 o1 x1 kc ks (thE g h) pc lv (va_rf v :: va_rf r :: st) := by
  subst hr
  refine aw_putfN (thC_ob hk hq.1) (hT.put hc hq.2.1 hty hn hf (thF_len hq.2.2)) hl0 hfin hd ?_
  rw [xUp_R hk hq.1 hq.2.2]; exact kk
theorem th_putIF (ci k : Nat) {ty0 : Nat → FieldType} {v : Int32} (hT : xTy C T N ty0) (hr : r = some a) (hk : t_kd h a = ci + 1) (hc : vwCl[ci]? = some (C, T, N)) (hq : ci < 8 ∧ k < N ∧ (tgs ci)[k]? = some 0) {ty : FieldType} (hty : ty0 k = ty) (hn : narrow ty (.int v) = .int v) (hf : fits ty (.int v) = true) (hl0 : Cond.fieldLink M.1 index (T k).1 (T k).2.1 (T k).2.2.1 ∈ wt) (hfin : (T k).2.2.2 = true) (hnm0 : M.2.2.2.2 = "<init>") (hdc : (T k).1 = M.1) (hd : decode M.2.1 pc = .ok (.putfield index, 3))
    (kk : AW M rm l g x0 o1 x1 kc ks (thE g (s_I h a k v)) (pc + 3) lv st) : AW M rm l g x0 o1 x1 kc ks (thE g h) pc lv (.int v :: va_rf r :: st) := by
  subst hr
  refine aw_putfF (thC_ob hk hq.1) (hT.put hc hq.2.1 hty hn hf (thF_len hq.2.2)) hl0 hfin hnm0 hdc hd ?_
  rw [xUp_I hk hq.1 hq.2.2]; exact kk
theorem th_putJF (ci k : Nat) {ty0 : Nat → FieldType} {v : Int64} (hT : xTy C T N ty0) (hr : r = some a) (hk : t_kd h a = ci + 1) (hc : vwCl[ci]? = some (C, T, N)) (hq : ci < 8 ∧ k < N ∧ (tgs ci)[k]? = some 1) {ty : FieldType} (hty : ty0 k = ty) (hn : narrow ty (.long v) = .long v) (hf : fits ty (.long v) = true) (hl0 : Cond.fieldLink M.1 index (T k).1 (T k).2.1 (T k).2.2.1 ∈ wt) (hfin : (T k).2.2.2 = true) (hnm0 : M.2.2.2.2 = "<init>") (hdc : (T k).1 = M.1) (hd : decode M.2.1 pc = .ok (.putfield index, 3))
    (kk : AW M rm l g x0 o1 x1 kc ks (thE g (s_J h a k v)) (pc + 3) lv st) : AW M rm l g x0 o1 x1 kc ks (thE g h) pc lv (.long v :: va_rf r :: st) := by
  subst hr
  refine aw_putfF (thC_ob hk hq.1) (hT.put hc hq.2.1 hty hn hf (thF_len hq.2.2)) hl0 hfin hnm0 hdc hd ?_
  rw [xUp_J hk hq.1 hq.2.2]; exact kk
theorem th_putRF (ci k : Nat) {ty0 : Nat → FieldType} {v : Option Nat} (hT : xTy C T N ty0) (hr : r = some a) (hk : t_kd h a = ci + 1) (hc : vwCl[ci]? = some (C, T, N)) (hq : ci < 8 ∧ k < N ∧ (tgs ci)[k]? = some 2) {ty : FieldType} (hty : ty0 k = ty) (hn : narrow ty (va_rf v) = va_rf v) (hf : fits ty (va_rf v) = true) (hl0 : Cond.fieldLink M.1 index (T k).1 (T k).2.1 (T k).2.2.1 ∈ wt) (hfin : (T k).2.2.2 = true) (hnm0 : M.2.2.2.2 = "<init>") (hdc : (T k).1 = M.1) (hd : decode M.2.1 pc = .ok (.putfield index, 3))
    (kk : AW M rm l g x0 o1 x1 kc ks (thE g (s_R h a k v)) (pc + 3) lv st) : AW M rm l g x0 o1 x1 kc ks (thE g h) pc lv (va_rf v :: va_rf r :: st) := by
  subst hr
  refine aw_putfF (thC_ob hk hq.1) (hT.put hc hq.2.1 hty hn hf (thF_len hq.2.2)) hl0 hfin hnm0 hdc hd ?_
  rw [xUp_R hk hq.1 hq.2.2]; exact kk
theorem nar_q (C : String) (v : Option Nat) : narrow (.object C) (va_rf v) = va_rf v := by cases v <;> rfl
theorem fit_q (C : String) (v : Option Nat) : fits (.object C) (va_rf v) = true := by cases v <;> rfl
theorem nar_qa (t : FieldType) (v : Option Nat) : narrow (.array t) (va_rf v) = va_rf v := by cases v <;> rfl
theorem fit_qa (t : FieldType) (v : Option Nat) : fits (.array t) (va_rf v) = true := by cases v <;> rfl
theorem th_iald {i : Int32} (hr : r = some a) (hk : t_kd h a = 9) (hin : vp_in i (t_ln h a)) (hd : decode M.2.1 pc = .ok (.iaload, 1))
    (kk : AW M rm l g x0 o1 x1 kc ks (thE g h) (pc + 1) lv (.int (t_I h a i.toNatClampNeg) :: st)) : AW M rm l g x0 o1 x1 kc ks (thE g h) pc lv (.int i :: va_rf r :: st) := by
  subst hr
  exact aw_iald (thC_i hk) hin hd kk
theorem th_iast {i v : Int32} (hr : r = some a) (hk : t_kd h a = 9) (hin : vp_in i (t_ln h a)) (hd : decode M.2.1 pc = .ok (.iastore, 1))
    (kk : AW M rm l g x0 o1 x1 kc ks (thE g (s_I h a i.toNatClampNeg v)) (pc + 1) lv st) : AW M rm l g x0 o1 x1 kc ks (thE g h) pc lv (.int v :: .int i :: va_rf r :: st) := by
  subst hr
  refine aw_iast (thC_i hk) hin hd ?_
  rw [xUp_i hk]; exact kk
theorem th_alenI (hr : r = some a) (hk : t_kd h a = 9) (hd : decode M.2.1 pc = .ok (.arraylength, 1))
    (kk : AW M rm l g x0 o1 x1 kc ks (thE g h) (pc + 1) lv (.int (nI (t_ln h a)) :: st)) : AW M rm l g x0 o1 x1 kc ks (thE g h) pc lv (va_rf r :: st) := by
  subst hr
  exact aw_alen 0 (thC_i hk) rfl hd kk
theorem th_alenM (hr : r = some a) (hk : t_kd h a = 12) (hd : decode M.2.1 pc = .ok (.arraylength, 1))
    (kk : AW M rm l g x0 o1 x1 kc ks (thE g h) (pc + 1) lv (.int (nI (t_ln h a)) :: st)) : AW M rm l g x0 o1 x1 kc ks (thE g h) pc lv (va_rf r :: st) := by
  subst hr
  exact aw_alen 3 (thC_m hk) rfl hd kk
theorem th_alenT (hr : r = some a) (hk : t_kd h a = 13) (hd : decode M.2.1 pc = .ok (.arraylength, 1))
    (kk : AW M rm l g x0 o1 x1 kc ks (thE g h) (pc + 1) lv (.int (nI (t_ln h a)) :: st)) : AW M rm l g x0 o1 x1 kc ks (thE g h) pc lv (va_rf r :: st) := by
  subst hr
  exact aw_alen 4 (thC_t hk) rfl hd kk
theorem th_aaldM {i : Int32} (hr : r = some a) (hk : t_kd h a = 12) (hin : vp_in i (t_ln h a)) (hd : decode M.2.1 pc = .ok (.aaload, 1))
    (kk : AW M rm l g x0 o1 x1 kc ks (thE g h) (pc + 1) lv (va_rf (t_R h a i.toNatClampNeg) :: st)) : AW M rm l g x0 o1 x1 kc ks (thE g h) pc lv (.int i :: va_rf r :: st) := by
  subst hr
  exact aw_aald 3 (thC_m hk) rfl hin hd kk
theorem th_aaldT {i : Int32} (hr : r = some a) (hk : t_kd h a = 13) (hin : vp_in i (t_ln h a)) (hd : decode M.2.1 pc = .ok (.aaload, 1))
    (kk : AW M rm l g x0 o1 x1 kc ks (thE g h) (pc + 1) lv (va_rf (t_R h a i.toNatClampNeg) :: st)) : AW M rm l g x0 o1 x1 kc ks (thE g h) pc lv (.int i :: va_rf r :: st) := by
  subst hr
  exact aw_aald 4 (thC_t hk) rfl hin hd kk
theorem th_aastM {i : Int32} {v : Option Nat} (hr : r = some a) (hk : t_kd h a = 12) (hin : vp_in i (t_ln h a)) (hv : ∀ b, v = some b → t_kd h b = 3) (hd : decode M.2.1 pc = .ok (.aastore, 1))
    (kk : AW M rm l g x0 o1 x1 kc ks (thE g (s_R h a i.toNatClampNeg v)) (pc + 1) lv st) : AW M rm l g x0 o1 x1 kc ks (thE g h) pc lv (va_rf v :: .int i :: va_rf r :: st) := by
  subst hr
  cases v with
  | none =>
    refine aw_aastN 3 (thC_m hk) rfl hin hd ?_
    rw [xUp_m hk]; exact kk
  | some b =>
    refine aw_aast 3 2 (r := (RX3, TX3, 10)) (thC_m hk) rfl (thC_ob (ci := 2) (hv b rfl) (by decide)) rfl hin hd ?_
    rw [xUp_m hk]; exact kk
theorem th_aastT {i : Int32} {v : Option Nat} (hr : r = some a) (hk : t_kd h a = 13) (hin : vp_in i (t_ln h a)) (hv : ∀ b, v = some b → t_kd h b = 6) (hd : decode M.2.1 pc = .ok (.aastore, 1))
    (kk : AW M rm l g x0 o1 x1 kc ks (thE g (s_R h a i.toNatClampNeg v)) (pc + 1) lv st) : AW M rm l g x0 o1 x1 kc ks (thE g h) pc lv (va_rf v :: .int i :: va_rf r :: st) := by
  subst hr
  cases v with
  | none =>
    refine aw_aastN 4 (thC_t hk) rfl hin hd ?_
    rw [xUp_t hk]; exact kk
  | some b =>
    refine aw_aast 4 5 (r := (RX7, TX7, 8)) (thC_t hk) rfl (thC_ob (ci := 5) (hv b rfl) (by decide)) rfl hin hd ?_
    rw [xUp_t hk]; exact kk
theorem th_new (ci : Nat) {ty0 : Nat → FieldType} (hT : xTy C T N ty0) (hc : vwCl[ci]? = some (C, T, N)) (hc8 : ci < 8) (hcl : Cond.classLink M.1 index C ∈ wt) (hinst : Cond.instantiable C N ∈ wt) (hini : Cond.initialized C ∈ wt) (hfs : ∀ j, j < N → defaultValue (ty0 j) = vp_V (thB (tgs ci)) j) (hf : kc + 1 ≤ rm.cells ∧ ks + N ≤ rm.slots) (hd : decode M.2.1 pc = .ok (.new index, 3))
    (kk : AW M rm l g x0 o1 x1 (kc + 1) (ks + N) (thE g (s_N h (ci + 1) 0)) (pc + 3) lv (va_rf (some (t_sz h)) :: st)) : AW M rm l g x0 o1 x1 kc ks (thE g h) pc lv st := by
  refine aw_new (thB (tgs ci)) hc hT.1 hT.2.1 hcl hinst hini hfs hf hd ?_
  rw [xNew_th (kd := ci + 1) (n := 0)]
  · exact kk
  · have h2 := thC_ob (g := g) (h := s_N h (ci + 1) 0) (a := t_sz h) (ci := ci) (by simp [s_N, t_kd, x_up1]) hc8
    rw [thB_eq] at h2
    rw [← h2]
    show _ = thC g (s_N h (ci + 1) 0) (t_sz h) (t_kd (s_N h (ci + 1) 0) (t_sz h))
    rw [show t_kd (s_N h (ci + 1) 0) (t_sz h) = ci + 1 by simp [s_N, t_kd, x_up1]]
theorem th_newI {n : Int32} (n' : Nat) (harr : Cond.arrayClass .int ∈ wt) (hn : ¬ n < 0) (hN : n.toNatClampNeg = n') (hb : n' * componentBytes .int ≤ 536870912) (hf : kc + 1 ≤ rm.cells ∧ ks + n' ≤ rm.slots) {aty : ArrayType} (hty : newarray.typeOf aty = .int) (hd : decode M.2.1 pc = .ok (.newarray aty, 2))
    (kk : AW M rm l g x0 o1 x1 (kc + 1) (ks + n') (thE g (s_N h 9 n')) (pc + 2) lv (va_rf (some (t_sz h)) :: st)) : AW M rm l g x0 o1 x1 kc ks (thE g h) pc lv (.int n :: st) := by
  refine aw_newa 0 (a0 := (n', .inl (fun _ => 0))) hty (Or.inl rfl) rfl harr rfl hn hN hb hf hd ?_
  rw [xNew_th (kd := 9) (n := n')]
  · exact kk
  · show some _ = _
    rw [tN_ln, tN_I]
theorem th_newM {n : Int32} (n' : Nat) (hcl : Cond.classLink M.1 index RX3 ∈ wt) (hn : ¬ n < 0) (hN : n.toNatClampNeg = n') (hb : n' * 4 ≤ 536870912) (hf : kc + 1 ≤ rm.cells ∧ ks + n' ≤ rm.slots) (hd : decode M.2.1 pc = .ok (.anewarray index, 3))
    (kk : AW M rm l g x0 o1 x1 (kc + 1) (ks + n') (thE g (s_N h 12 n')) (pc + 3) lv (va_rf (some (t_sz h)) :: st)) : AW M rm l g x0 o1 x1 kc ks (thE g h) pc lv (.int n :: st) := by
  refine aw_newq 3 (Or.inl rfl) rfl hcl hn hN hb hf hd ?_
  rw [xNew_th (kd := 12) (n := n')]
  · exact kk
  · show some _ = _
    rw [tN_ln, tN_R]
theorem th_newT {n : Int32} (n' : Nat) (hcl : Cond.classLink M.1 index RX7 ∈ wt) (hn : ¬ n < 0) (hN : n.toNatClampNeg = n') (hb : n' * 4 ≤ 536870912) (hf : kc + 1 ≤ rm.cells ∧ ks + n' ≤ rm.slots) (hd : decode M.2.1 pc = .ok (.anewarray index, 3))
    (kk : AW M rm l g x0 o1 x1 (kc + 1) (ks + n') (thE g (s_N h 13 n')) (pc + 3) lv (va_rf (some (t_sz h)) :: st)) : AW M rm l g x0 o1 x1 kc ks (thE g h) pc lv (.int n :: st) := by
  refine aw_newq 4 (Or.inr rfl) rfl hcl hn hN hb hf hd ?_
  rw [xNew_th (kd := 13) (n := n')]
  · exact kk
  · show some _ = _
    rw [tN_ln, tN_R]
end THR
theorem xtX1 : xTy RX1 TX1 3 tyX1 := ⟨inX1, tyX1_ok, nmX1⟩
theorem xtX2 : xTy RX2 TX2 6 tyX2 := ⟨inX2, tyX2_ok, nmX2⟩
theorem xtX3 : xTy RX3 TX3 10 tyX3 := ⟨inX3, tyX3_ok, nmX3⟩
theorem xtX4 : xTy RX4 TX4 6 tyX4 := ⟨inX4, tyX4_ok, nmX4⟩
theorem xtX6 : xTy RX6 TX6 3 tyX6 := ⟨inX6, tyX6_ok, nmX6⟩
theorem xtX7 : xTy RX7 TX7 8 tyX7 := ⟨inX7, tyX7_ok, nmX7⟩
theorem xtX8 : xTy RX8 TX8 2 tyX8 := ⟨inX8, tyX8_ok, nmX8⟩
theorem xtX9 : xTy RX9 TX9 48 tyX9 := ⟨inX9, tyX9_ok, nmX9⟩
/-! MS: what the reference object holds: whole and long numbers by field, int (and boolean) and long arrays by their place in the order of making: 0 start, 1 rank, 2 string, 3 first, 4 second, 5 black, 6 white, 7 handicap, 8 state, 9 isVoid, 10 endedThen, 11 last, 12 moves, 13 passings, 14 main, 15 periods, 16 length, 17 order, 18 ofBlack, 19 ofWhite, 20 ahead, 21 wayBlack, 22 wayWhite, 23 tries, 24 midBlack, 25 midWhite, 26 answers, 27 passes, 28 parent, 29 root, 30 move, 31 game, 32 number, 33 side, 34 nodeBlack, 35 nodeWhite, 36 marks, 37 image -/
abbrev MS : Type := (Nat → Int32) × (Nat → Int64) × (Nat → Nat → Int32) × (Nat → Nat → Int64)
def m_i (S : MS) : Nat → Int32 := S.1
def m_j (S : MS) : Nat → Int64 := S.2.1
def m_I (S : MS) : Nat → Nat → Int32 := S.2.2.1
def m_J (S : MS) : Nat → Nat → Int64 := S.2.2.2
def ms_i (S : MS) (k : Nat) (v : Int32) : MS := (x_up1 (m_i S) k v, m_j S, m_I S, m_J S)
def ms_j (S : MS) (k : Nat) (v : Int64) : MS := (m_i S, x_up1 (m_j S) k v, m_I S, m_J S)
def ms_I (S : MS) (j i : Nat) (v : Int32) : MS := (m_i S, m_j S, x_up2 (m_I S) j i v, m_J S)
def ms_J (S : MS) (j i : Nat) (v : Int64) : MS := (m_i S, m_j S, m_I S, x_up2 (m_J S) j i v)
def mtg : List (Nat × Nat) := [(0, 0), (2, 0), (2, 1), (2, 2), (0, 4), (2, 3), (2, 4), (2, 5), (2, 6), (2, 7), (2, 8), (2, 9), (2, 10), (2, 11), (2, 12), (2, 13), (2, 14), (2, 15), (2, 16), (0, 19), (2, 17), (0, 21), (2, 18), (2, 19), (2, 20), (1, 25), (1, 26), (0, 27), (0, 28), (2, 21), (2, 22), (2, 23), (2, 24), (2, 25), (2, 26), (2, 27), (0, 36), (2, 28), (2, 29), (2, 30), (2, 31), (2, 32), (2, 33), (2, 34), (2, 35), (2, 36), (2, 37), (0, 47)]
def mar : List (Nat × Nat) := [(0, 8), (0, 8), (0, 8), (0, 16), (0, 16), (0, 16), (0, 16), (0, 16), (0, 16), (2, 16), (0, 16), (0, 16), (0, 16), (0, 16), (0, 32), (0, 32), (0, 16), (0, 16), (1, 4096), (1, 4096), (0, 4096), (1, 10), (1, 10), (1, 10), (1, 10), (1, 10), (1, 10), (2, 10), (0, 60), (0, 60), (0, 60), (0, 60), (0, 60), (0, 60), (1, 60), (1, 60), (0, 240), (0, 60)]
def moV (mo : Nat) (S : MS) (t : Nat × Nat) : Value := if t.1 = 0 then .int (m_i S t.2) else if t.1 = 1 then .long (m_j S t.2) else .ref (mo + 1 + t.2)
def moF (mo : Nat) (S : MS) : List Value := mtg.map (moV mo S)
def moA (g : xG) (S : MS) (j : Nat) : Option va_E := match mar[j]? with
  | none => none
  | some (t, n) => if t = 0 then some (.inl (g.2.1, n, .inl (m_I S j))) else if t = 1 then some (.inl (g.2.2.1, n, .inr (.inl (m_J S j)))) else some (.inl (g.2.2.2.1, n, .inl (m_I S j)))
def moE (g : xG) (mo sz : Nat) (S : MS) : xV := (sz, fun a => if a = mo then some (.inr (7, moF mo S)) else if mo < a then moA g S (a - mo - 1) else none)
theorem mo_ob {g : xG} {mo sz : Nat} {S : MS} : (moE g mo sz S).2 mo = some (.inr (7, moF mo S)) := by simp [moE]
theorem mo_ar {g : xG} {mo sz j : Nat} {S : MS} : (moE g mo sz S).2 (mo + 1 + j) = moA g S j := by
  show (if mo + 1 + j = mo then _ else if mo < mo + 1 + j then moA g S (mo + 1 + j - mo - 1) else none) = _
  rw [if_neg (by omega), if_pos (by omega), show mo + 1 + j - mo - 1 = j by omega]
theorem moA_i {g : xG} {S : MS} {j n : Nat} (h : mar[j]? = some (0, n)) : moA g S j = some (.inl (g.2.1, n, .inl (m_I S j))) := by simp [moA, h]
theorem moA_l {g : xG} {S : MS} {j n : Nat} (h : mar[j]? = some (1, n)) : moA g S j = some (.inl (g.2.2.1, n, .inr (.inl (m_J S j)))) := by simp [moA, h]
theorem moA_z {g : xG} {S : MS} {j n : Nat} (h : mar[j]? = some (2, n)) : moA g S j = some (.inl (g.2.2.2.1, n, .inl (m_I S j))) := by simp [moA, h]
theorem moF_at {mo : Nat} {S : MS} {k : Nat} {t : Nat × Nat} (h : mtg[k]? = some t) : (moF mo S)[k]? = some (moV mo S t) := by simp [moF, h]
theorem moF_len {mo : Nat} {S : MS} {k : Nat} {t : Nat × Nat} (h : mtg[k]? = some t) : k < (moF mo S).length := by
  have := (List.getElem?_eq_some_iff.mp h).1
  simpa [moF] using this
theorem mtg_k : ∀ k, k < 48 → ∀ t, mtg[k]? = some t → t.1 ≠ 2 → t.2 = k := by decide +kernel
theorem moF_set {mo : Nat} {S S2 : MS} {k : Nat} {v : Value} {t : Nat × Nat} (h : mtg[k]? = some t) (hv : moV mo S2 t = v) (ho : ∀ j u, j ≠ k → mtg[j]? = some u → moV mo S2 u = moV mo S u) : (moF mo S).set k v = moF mo S2 := by
  apply List.ext_getElem?
  intro j
  rw [List.getElem?_set]
  by_cases hj : k = j
  · subst hj
    rw [if_pos rfl, if_pos (moF_len h), moF_at h, hv]
  · rw [if_neg hj]
    simp only [moF, List.getElem?_map]
    cases hm : mtg[j]? with
    | none => rfl
    | some u => simp only [Option.map_some]; rw [ho j u (fun q => hj q.symm) hm]
theorem mtg_lt {j : Nat} {u : Nat × Nat} (h : mtg[j]? = some u) : j < 48 := (List.getElem?_eq_some_iff.mp h).1
theorem xUp_mo {g : xG} {mo sz : Nat} {S S2 : MS} {fs : List Value} (h : fs = moF mo S2) (hI : m_I S2 = m_I S) (hJ : m_J S2 = m_J S) : xUp (moE g mo sz S) mo (.inr (7, fs)) = moE g mo sz S2 := by
  subst h
  refine Prod.ext rfl (funext fun q => ?_)
  show (if q = mo then _ else if q = mo then _ else if mo < q then moA g S (q - mo - 1) else none) = (if q = mo then _ else if mo < q then moA g S2 (q - mo - 1) else none)
  by_cases hq : q = mo
  · simp [hq]
  · simp only [hq, if_false]
    congr 1
    unfold moA
    rw [hI, hJ]
theorem xUp_moi {g : xG} {mo sz : Nat} {S : MS} {k : Nat} {v : Int32} (h : mtg[k]? = some (0, k)) : xUp (moE g mo sz S) mo (.inr (7, (moF mo S).set k (.int v))) = moE g mo sz (ms_i S k v) := by
  refine xUp_mo (moF_set h (by simp [moV, ms_i, m_i, x_up1]) (fun j u hj hu => ?_)) rfl rfl
  have h1 : u.1 ≠ 2 → u.2 = j := mtg_k j (mtg_lt hu) u hu
  unfold moV
  by_cases h0 : u.1 = 0
  · rw [if_pos h0, if_pos h0, h1 (by omega)]; simp [ms_i, m_i, x_up1, hj]
  · rw [if_neg h0, if_neg h0]; rfl
theorem xUp_moj {g : xG} {mo sz : Nat} {S : MS} {k : Nat} {v : Int64} (h : mtg[k]? = some (1, k)) : xUp (moE g mo sz S) mo (.inr (7, (moF mo S).set k (.long v))) = moE g mo sz (ms_j S k v) := by
  refine xUp_mo (moF_set h (by simp [moV, ms_j, m_j, x_up1]) (fun j u hj hu => ?_)) rfl rfl
  have h1 : u.1 ≠ 2 → u.2 = j := mtg_k j (mtg_lt hu) u hu
  unfold moV
  by_cases h0 : u.1 = 0
  · rw [if_pos h0, if_pos h0]; rfl
  · rw [if_neg h0, if_neg h0]
    by_cases h2 : u.1 = 1
    · rw [if_pos h2, if_pos h2, h1 (by omega)]; simp [ms_j, m_j, x_up1, hj]
    · rw [if_neg h2, if_neg h2]
theorem xUp_moA {g : xG} {mo sz j : Nat} {S S2 : MS} {e : va_E} (he : moA g S2 j = some e) (hi : m_i S2 = m_i S) (hj : m_j S2 = m_j S) (ho : ∀ q, q ≠ j → m_I S2 q = m_I S q ∧ m_J S2 q = m_J S q) : xUp (moE g mo sz S) (mo + 1 + j) e = moE g mo sz S2 := by
  refine Prod.ext rfl (funext fun q => ?_)
  show (if q = mo + 1 + j then some e else if q = mo then _ else if mo < q then moA g S (q - mo - 1) else none) = (if q = mo then _ else if mo < q then moA g S2 (q - mo - 1) else none)
  by_cases hq : q = mo + 1 + j
  · rw [if_pos hq, if_neg (by omega), if_pos (by omega), show q - mo - 1 = j by omega, he]
  · rw [if_neg hq]
    by_cases h1 : q = mo
    · rw [if_pos h1, if_pos h1]
      have : moF mo S = moF mo S2 := by
        have h9 : moV mo S = moV mo S2 := funext fun t => by unfold moV; rw [hi, hj]
        unfold moF; rw [h9]
      rw [this]
    · rw [if_neg h1, if_neg h1]
      by_cases h2 : mo < q
      · rw [if_pos h2, if_pos h2]
        have h3 := ho (q - mo - 1) (by omega)
        unfold moA
        rw [h3.1, h3.2]
      · rw [if_neg h2, if_neg h2]
section MOR
variable {M : xM} {rm : Room} {l : Launch} {g : xG} {x0 : xV} {o1 : Option Value ⊕ String} {x1 : xV} {kc ks : Nat} {mo sz : Nat} {S : MS} {pc : Nat} {lv : List (Nat × Value)} {st : List Value}
variable {index : Nat}
theorem mo_getI (k : Nat) (ht : mtg[k]? = some (0, k)) (hk : k < 48) (hl0 : Cond.fieldLink M.1 index (TX9 k).1 (TX9 k).2.1 (TX9 k).2.2.1 ∈ wt) (hd : decode M.2.1 pc = .ok (.getfield index, 3))
    (kk : AW M rm l g x0 o1 x1 kc ks (moE g mo sz S) (pc + 3) lv (.int (m_i S k) :: st)) : AW M rm l g x0 o1 x1 kc ks (moE g mo sz S) pc lv (.ref mo :: st) := aw_getf mo_ob (rfl : vwCl[7]? = some (RX9, TX9, 48)) inX9 hk hl0 (moF_at ht) hd kk
theorem mo_getJ (k : Nat) (ht : mtg[k]? = some (1, k)) (hk : k < 48) (hl0 : Cond.fieldLink M.1 index (TX9 k).1 (TX9 k).2.1 (TX9 k).2.2.1 ∈ wt) (hd : decode M.2.1 pc = .ok (.getfield index, 3))
    (kk : AW M rm l g x0 o1 x1 kc ks (moE g mo sz S) (pc + 3) lv (.long (m_j S k) :: st)) : AW M rm l g x0 o1 x1 kc ks (moE g mo sz S) pc lv (.ref mo :: st) := aw_getf mo_ob (rfl : vwCl[7]? = some (RX9, TX9, 48)) inX9 hk hl0 (moF_at ht) hd kk
theorem mo_getR (k j : Nat) (ht : mtg[k]? = some (2, j)) (hk : k < 48) (hl0 : Cond.fieldLink M.1 index (TX9 k).1 (TX9 k).2.1 (TX9 k).2.2.1 ∈ wt) (hd : decode M.2.1 pc = .ok (.getfield index, 3))
    (kk : AW M rm l g x0 o1 x1 kc ks (moE g mo sz S) (pc + 3) lv (.ref (mo + 1 + j) :: st)) : AW M rm l g x0 o1 x1 kc ks (moE g mo sz S) pc lv (.ref mo :: st) := aw_getf mo_ob (rfl : vwCl[7]? = some (RX9, TX9, 48)) inX9 hk hl0 (moF_at ht) hd kk
theorem mo_putI (k : Nat) {v : Int32} {ty : FieldType} (ht : mtg[k]? = some (0, k)) (hk : k < 48) (hty : tyX9 k = ty) (hn : narrow ty (.int v) = .int v) (hf : fits ty (.int v) = true) (hfin : (TX9 k).2.2.2 = false) (hl0 : Cond.fieldLink M.1 index (TX9 k).1 (TX9 k).2.1 (TX9 k).2.2.1 ∈ wt) (hd : decode M.2.1 pc = .ok (.putfield index, 3))
    (kk : AW M rm l g x0 o1 x1 kc ks (moE g mo sz (ms_i S k v)) (pc + 3) lv st) : AW M rm l g x0 o1 x1 kc ks (moE g mo sz S) pc lv (.int v :: .ref mo :: st) := by
  refine aw_putf mo_ob (xtX9.put (rfl : vwCl[7]? = some (RX9, TX9, 48)) hk hty hn hf (moF_len ht)) hl0 hfin hd ?_
  rw [xUp_moi ht]; exact kk
theorem mo_putJ (k : Nat) {v : Int64} (ht : mtg[k]? = some (1, k)) (hk : k < 48) (hty : tyX9 k = .long) (hfin : (TX9 k).2.2.2 = false) (hl0 : Cond.fieldLink M.1 index (TX9 k).1 (TX9 k).2.1 (TX9 k).2.2.1 ∈ wt) (hd : decode M.2.1 pc = .ok (.putfield index, 3))
    (kk : AW M rm l g x0 o1 x1 kc ks (moE g mo sz (ms_j S k v)) (pc + 3) lv st) : AW M rm l g x0 o1 x1 kc ks (moE g mo sz S) pc lv (.long v :: .ref mo :: st) := by
  refine aw_putf mo_ob (xtX9.put (rfl : vwCl[7]? = some (RX9, TX9, 48)) hk hty rfl rfl (moF_len ht)) hl0 hfin hd ?_
  rw [xUp_moj ht]; exact kk
theorem mo_iald (j n : Nat) {i : Int32} (hj : mar[j]? = some (0, n)) (hin : vp_in i n) (hd : decode M.2.1 pc = .ok (.iaload, 1))
    (kk : AW M rm l g x0 o1 x1 kc ks (moE g mo sz S) (pc + 1) lv (.int (m_I S j i.toNatClampNeg) :: st)) : AW M rm l g x0 o1 x1 kc ks (moE g mo sz S) pc lv (.int i :: .ref (mo + 1 + j) :: st) := aw_iald (mo_ar.trans (moA_i hj)) hin hd kk
theorem mo_zald (j n : Nat) {i : Int32} (hj : mar[j]? = some (2, n)) (hin : vp_in i n) (hd : decode M.2.1 pc = .ok (.baload, 1))
    (kk : AW M rm l g x0 o1 x1 kc ks (moE g mo sz S) (pc + 1) lv (.int (m_I S j i.toNatClampNeg) :: st)) : AW M rm l g x0 o1 x1 kc ks (moE g mo sz S) pc lv (.int i :: .ref (mo + 1 + j) :: st) := aw_zald (mo_ar.trans (moA_z hj)) hin hd kk
theorem mo_lald (j n : Nat) {i : Int32} (hj : mar[j]? = some (1, n)) (hin : vp_in i n) (hd : decode M.2.1 pc = .ok (.laload, 1))
    (kk : AW M rm l g x0 o1 x1 kc ks (moE g mo sz S) (pc + 1) lv (.long (m_J S j i.toNatClampNeg) :: st)) : AW M rm l g x0 o1 x1 kc ks (moE g mo sz S) pc lv (.int i :: .ref (mo + 1 + j) :: st) := aw_lald (mo_ar.trans (moA_l hj)) hin hd kk
theorem m_I_up {S : MS} {j i : Nat} {v : Int32} : m_I (ms_I S j i v) j = upd (m_I S j) i v := by funext q; simp [ms_I, m_I, x_up2, upd]
theorem m_J_up {S : MS} {j i : Nat} {v : Int64} : m_J (ms_J S j i v) j = vp_updL (m_J S j) i v := by funext q; simp [ms_J, m_J, x_up2, vp_updL]
theorem mo_iast (j n : Nat) {i v : Int32} (hj : mar[j]? = some (0, n)) (hin : vp_in i n) (hd : decode M.2.1 pc = .ok (.iastore, 1))
    (kk : AW M rm l g x0 o1 x1 kc ks (moE g mo sz (ms_I S j i.toNatClampNeg v)) (pc + 1) lv st) : AW M rm l g x0 o1 x1 kc ks (moE g mo sz S) pc lv (.int v :: .int i :: .ref (mo + 1 + j) :: st) := by
  refine aw_iast (mo_ar.trans (moA_i hj)) hin hd ?_
  rw [xUp_moA (S := S) (S2 := ms_I S j i.toNatClampNeg v) (by rw [moA_i hj, m_I_up]) rfl rfl (fun q hq => ⟨x_up2_ne hq, rfl⟩)]; exact kk
theorem mo_zast (j n : Nat) {i v : Int32} (hy : vp_nar .boolean v = v) (hj : mar[j]? = some (2, n)) (hin : vp_in i n) (hd : decode M.2.1 pc = .ok (.bastore, 1))
    (kk : AW M rm l g x0 o1 x1 kc ks (moE g mo sz (ms_I S j i.toNatClampNeg v)) (pc + 1) lv st) : AW M rm l g x0 o1 x1 kc ks (moE g mo sz S) pc lv (.int v :: .int i :: .ref (mo + 1 + j) :: st) := by
  refine aw_zast hy (mo_ar.trans (moA_z hj)) hin hd ?_
  rw [xUp_moA (S := S) (S2 := ms_I S j i.toNatClampNeg v) (by rw [moA_z hj, m_I_up]) rfl rfl (fun q hq => ⟨x_up2_ne hq, rfl⟩)]; exact kk
theorem mo_last (j n : Nat) {i : Int32} {v : Int64} (hj : mar[j]? = some (1, n)) (hin : vp_in i n) (hd : decode M.2.1 pc = .ok (.lastore, 1))
    (kk : AW M rm l g x0 o1 x1 kc ks (moE g mo sz (ms_J S j i.toNatClampNeg v)) (pc + 1) lv st) : AW M rm l g x0 o1 x1 kc ks (moE g mo sz S) pc lv (.long v :: .int i :: .ref (mo + 1 + j) :: st) := by
  refine aw_last (mo_ar.trans (moA_l hj)) hin hd ?_
  rw [xUp_moA (S := S) (S2 := ms_J S j i.toNatClampNeg v) (by rw [moA_l hj, m_J_up]) rfl rfl (fun q hq => ⟨rfl, x_up2_ne hq⟩)]; exact kk
end MOR
end
