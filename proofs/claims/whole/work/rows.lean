section
/-- a private method of a class that the tables say can be made, by its rows of tables_1 -/
def lw_okq (q : MethodName × Nat) : Prop := (q.1.cls ≠ "java/lang/invoke/MethodHandle" ∧ q.1.cls ≠ "java/lang/invoke/VarHandle") ∧ Cond.instantiable q.1.cls q.2 ∈ tables_1 ∧ Cond.privateMethod q.1 ∈ tables_1 ∧ Cond.instanceMethod q.1 ∈ tables_1
theorem lw_p0 : lw_okq (⟨"AtariGarden$Club", "lowestOff", "()LAtariGarden$Match;"⟩, 6) := ⟨⟨by decide +kernel, by decide +kernel⟩, List.mem_of_getElem? (i := 28) (by decide +kernel), List.mem_of_getElem? (i := 90) (by decide +kernel), List.mem_of_getElem? (i := 91) (by decide +kernel)⟩
theorem lw_p1 : lw_okq (⟨"AtariGarden$Club", "isOff", "(LAtariGarden$Match;)Z"⟩, 6) := ⟨⟨by decide +kernel, by decide +kernel⟩, List.mem_of_getElem? (i := 28) (by decide +kernel), List.mem_of_getElem? (i := 94) (by decide +kernel), List.mem_of_getElem? (i := 95) (by decide +kernel)⟩
theorem lw_p2 : lw_okq (⟨"AtariGarden$Club", "pairing", "(III)I"⟩, 6) := ⟨⟨by decide +kernel, by decide +kernel⟩, List.mem_of_getElem? (i := 28) (by decide +kernel), List.mem_of_getElem? (i := 102) (by decide +kernel), List.mem_of_getElem? (i := 103) (by decide +kernel)⟩
theorem lw_p3 : lw_okq (⟨"java/lang/Throwable", "fillInStackTrace", "(I)Ljava/lang/Throwable;"⟩, 6) := ⟨⟨by decide +kernel, by decide +kernel⟩, List.mem_of_getElem? (i := 181) (by decide +kernel), List.mem_of_getElem? (i := 179) (by decide +kernel), List.mem_of_getElem? (i := 180) (by decide +kernel)⟩
theorem lw_p4 : lw_okq (⟨"AtariGarden", "requirePlayer", "(I)V"⟩, 2) := ⟨⟨by decide +kernel, by decide +kernel⟩, List.mem_of_getElem? (i := 20) (by decide +kernel), List.mem_of_getElem? (i := 239) (by decide +kernel), List.mem_of_getElem? (i := 240) (by decide +kernel)⟩
theorem lw_p5 : lw_okq (⟨"AtariGarden$Club", "isBusy", "(I)Z"⟩, 6) := ⟨⟨by decide +kernel, by decide +kernel⟩, List.mem_of_getElem? (i := 28) (by decide +kernel), List.mem_of_getElem? (i := 292) (by decide +kernel), List.mem_of_getElem? (i := 293) (by decide +kernel)⟩
theorem lw_p6 : lw_okq (⟨"AtariGarden$Match", "keepLiberties", "(J)V"⟩, 10) := ⟨⟨by decide +kernel, by decide +kernel⟩, List.mem_of_getElem? (i := 299) (by decide +kernel), List.mem_of_getElem? (i := 346) (by decide +kernel), List.mem_of_getElem? (i := 347) (by decide +kernel)⟩
theorem lw_p7 : lw_okq (⟨"AtariGarden$Match", "keepForAll", "(JI)V"⟩, 10) := ⟨⟨by decide +kernel, by decide +kernel⟩, List.mem_of_getElem? (i := 299) (by decide +kernel), List.mem_of_getElem? (i := 350) (by decide +kernel), List.mem_of_getElem? (i := 351) (by decide +kernel)⟩
theorem lw_p8 : lw_okq (⟨"AtariGarden", "matchOf", "(I)LAtariGarden$Match;"⟩, 2) := ⟨⟨by decide +kernel, by decide +kernel⟩, List.mem_of_getElem? (i := 20) (by decide +kernel), List.mem_of_getElem? (i := 428) (by decide +kernel), List.mem_of_getElem? (i := 429) (by decide +kernel)⟩
theorem lw_p9 : lw_okq (⟨"AtariGarden$Position", "wasThere", "(JJ)Z"⟩, 6) := ⟨⟨by decide +kernel, by decide +kernel⟩, List.mem_of_getElem? (i := 308) (by decide +kernel), List.mem_of_getElem? (i := 456) (by decide +kernel), List.mem_of_getElem? (i := 457) (by decide +kernel)⟩
theorem lw_p10 : lw_okq (⟨"AtariGarden$School", "isFull", "()Z"⟩, 3) := ⟨⟨by decide +kernel, by decide +kernel⟩, List.mem_of_getElem? (i := 57) (by decide +kernel), List.mem_of_getElem? (i := 676) (by decide +kernel), List.mem_of_getElem? (i := 677) (by decide +kernel)⟩
theorem lw_p11 : lw_okq (⟨"AtariGarden", "twigOf", "(I)LAtariGarden$Twig;"⟩, 2) := ⟨⟨by decide +kernel, by decide +kernel⟩, List.mem_of_getElem? (i := 20) (by decide +kernel), List.mem_of_getElem? (i := 725) (by decide +kernel), List.mem_of_getElem? (i := 726) (by decide +kernel)⟩
theorem lw_p12 : lw_okq (⟨"AtariGarden$School", "childOf", "(LAtariGarden$Twig;I)LAtariGarden$Twig;"⟩, 3) := ⟨⟨by decide +kernel, by decide +kernel⟩, List.mem_of_getElem? (i := 57) (by decide +kernel), List.mem_of_getElem? (i := 738) (by decide +kernel), List.mem_of_getElem? (i := 739) (by decide +kernel)⟩
theorem lw_p13 : lw_okq (⟨"AtariGarden$School", "grow", "(LAtariGarden$Twig;ILAtariGarden$Position;)LAtariGarden$Twig;"⟩, 3) := ⟨⟨by decide +kernel, by decide +kernel⟩, List.mem_of_getElem? (i := 57) (by decide +kernel), List.mem_of_getElem? (i := 744) (by decide +kernel), List.mem_of_getElem? (i := 745) (by decide +kernel)⟩
theorem lw_p14 : lw_okq (⟨"AtariGarden$Twig", "hasMark", "(I)Z"⟩, 8) := ⟨⟨by decide +kernel, by decide +kernel⟩, List.mem_of_getElem? (i := 679) (by decide +kernel), List.mem_of_getElem? (i := 772) (by decide +kernel), List.mem_of_getElem? (i := 773) (by decide +kernel)⟩
theorem lw_p15 : lw_okq (⟨"AtariGarden$School", "countMissing", "(LAtariGarden$Twig;LAtariGarden$Twig;)I"⟩, 3) := ⟨⟨by decide +kernel, by decide +kernel⟩, List.mem_of_getElem? (i := 57) (by decide +kernel), List.mem_of_getElem? (i := 792) (by decide +kernel), List.mem_of_getElem? (i := 793) (by decide +kernel)⟩
def lw_privs_1 : List (MethodName × Nat) := [(⟨"AtariGarden$Club", "lowestOff", "()LAtariGarden$Match;"⟩, 6), (⟨"AtariGarden$Club", "isOff", "(LAtariGarden$Match;)Z"⟩, 6), (⟨"AtariGarden$Club", "pairing", "(III)I"⟩, 6), (⟨"java/lang/Throwable", "fillInStackTrace", "(I)Ljava/lang/Throwable;"⟩, 6), (⟨"AtariGarden", "requirePlayer", "(I)V"⟩, 2), (⟨"AtariGarden$Club", "isBusy", "(I)Z"⟩, 6), (⟨"AtariGarden$Match", "keepLiberties", "(J)V"⟩, 10), (⟨"AtariGarden$Match", "keepForAll", "(JI)V"⟩, 10), (⟨"AtariGarden", "matchOf", "(I)LAtariGarden$Match;"⟩, 2), (⟨"AtariGarden$Position", "wasThere", "(JJ)Z"⟩, 6), (⟨"AtariGarden$School", "isFull", "()Z"⟩, 3), (⟨"AtariGarden", "twigOf", "(I)LAtariGarden$Twig;"⟩, 2), (⟨"AtariGarden$School", "childOf", "(LAtariGarden$Twig;I)LAtariGarden$Twig;"⟩, 3), (⟨"AtariGarden$School", "grow", "(LAtariGarden$Twig;ILAtariGarden$Position;)LAtariGarden$Twig;"⟩, 3), (⟨"AtariGarden$Twig", "hasMark", "(I)Z"⟩, 8), (⟨"AtariGarden$School", "countMissing", "(LAtariGarden$Twig;LAtariGarden$Twig;)I"⟩, 3)]
theorem lw_r1 : ∀ q ∈ lw_privs_1, lw_okq q := List.forall_mem_cons.mpr ⟨lw_p0, List.forall_mem_cons.mpr ⟨lw_p1, List.forall_mem_cons.mpr ⟨lw_p2, List.forall_mem_cons.mpr ⟨lw_p3, List.forall_mem_cons.mpr ⟨lw_p4, List.forall_mem_cons.mpr ⟨lw_p5, List.forall_mem_cons.mpr ⟨lw_p6, List.forall_mem_cons.mpr ⟨lw_p7, List.forall_mem_cons.mpr ⟨lw_p8, List.forall_mem_cons.mpr ⟨lw_p9, List.forall_mem_cons.mpr ⟨lw_p10, List.forall_mem_cons.mpr ⟨lw_p11, List.forall_mem_cons.mpr ⟨lw_p12, List.forall_mem_cons.mpr ⟨lw_p13, List.forall_mem_cons.mpr ⟨lw_p14, List.forall_mem_cons.mpr ⟨lw_p15, fun _ h => absurd h List.not_mem_nil⟩⟩⟩⟩⟩⟩⟩⟩⟩⟩⟩⟩⟩⟩⟩⟩
theorem lw_p16 : lw_okq (⟨"AtariGarden$School", "twinOf", "(LAtariGarden$Twig;LAtariGarden$Twig;)LAtariGarden$Twig;"⟩, 3) := ⟨⟨by decide +kernel, by decide +kernel⟩, List.mem_of_getElem? (i := 57) (by decide +kernel), List.mem_of_getElem? (i := 796) (by decide +kernel), List.mem_of_getElem? (i := 797) (by decide +kernel)⟩
theorem lw_p17 : lw_okq (⟨"AtariGarden$School", "twinOfParent", "(LAtariGarden$Twig;)LAtariGarden$Twig;"⟩, 3) := ⟨⟨by decide +kernel, by decide +kernel⟩, List.mem_of_getElem? (i := 57) (by decide +kernel), List.mem_of_getElem? (i := 800) (by decide +kernel), List.mem_of_getElem? (i := 801) (by decide +kernel)⟩
theorem lw_p18 : lw_okq (⟨"AtariGarden$School", "twinOrNew", "(LAtariGarden$Twig;LAtariGarden$Twig;)LAtariGarden$Twig;"⟩, 3) := ⟨⟨by decide +kernel, by decide +kernel⟩, List.mem_of_getElem? (i := 57) (by decide +kernel), List.mem_of_getElem? (i := 804) (by decide +kernel), List.mem_of_getElem? (i := 805) (by decide +kernel)⟩
theorem lw_p19 : lw_okq (⟨"AtariGardenModel", "fails", "(I)Z"⟩, 48) := ⟨⟨by decide +kernel, by decide +kernel⟩, List.mem_of_getElem? (i := 813) (by decide +kernel), List.mem_of_getElem? (i := 977) (by decide +kernel), List.mem_of_getElem? (i := 978) (by decide +kernel)⟩
theorem lw_p20 : lw_okq (⟨"AtariGardenModel", "isPlayer", "(I)Z"⟩, 48) := ⟨⟨by decide +kernel, by decide +kernel⟩, List.mem_of_getElem? (i := 813) (by decide +kernel), List.mem_of_getElem? (i := 985) (by decide +kernel), List.mem_of_getElem? (i := 986) (by decide +kernel)⟩
theorem lw_p21 : lw_okq (⟨"AtariGardenModel", "plays", "(I)Z"⟩, 48) := ⟨⟨by decide +kernel, by decide +kernel⟩, List.mem_of_getElem? (i := 813) (by decide +kernel), List.mem_of_getElem? (i := 993) (by decide +kernel), List.mem_of_getElem? (i := 994) (by decide +kernel)⟩
theorem lw_p22 : lw_okq (⟨"AtariGardenModel", "blackOf", "(II)I"⟩, 48) := ⟨⟨by decide +kernel, by decide +kernel⟩, List.mem_of_getElem? (i := 813) (by decide +kernel), List.mem_of_getElem? (i := 997) (by decide +kernel), List.mem_of_getElem? (i := 998) (by decide +kernel)⟩
theorem lw_p23 : lw_okq (⟨"AtariGardenModel", "handicapOf", "(II)I"⟩, 48) := ⟨⟨by decide +kernel, by decide +kernel⟩, List.mem_of_getElem? (i := 813) (by decide +kernel), List.mem_of_getElem? (i := 1001) (by decide +kernel), List.mem_of_getElem? (i := 1002) (by decide +kernel)⟩
theorem lw_p24 : lw_okq (⟨"AtariGardenModel", "apart", "(II)I"⟩, 48) := ⟨⟨by decide +kernel, by decide +kernel⟩, List.mem_of_getElem? (i := 813) (by decide +kernel), List.mem_of_getElem? (i := 1005) (by decide +kernel), List.mem_of_getElem? (i := 1006) (by decide +kernel)⟩
theorem lw_p25 : lw_okq (⟨"AtariGardenModel", "keeps", "(JJI)I"⟩, 48) := ⟨⟨by decide +kernel, by decide +kernel⟩, List.mem_of_getElem? (i := 813) (by decide +kernel), List.mem_of_getElem? (i := 1015) (by decide +kernel), List.mem_of_getElem? (i := 1016) (by decide +kernel)⟩
theorem lw_p26 : lw_okq (⟨"AtariGardenModel", "isGame", "(I)Z"⟩, 48) := ⟨⟨by decide +kernel, by decide +kernel⟩, List.mem_of_getElem? (i := 813) (by decide +kernel), List.mem_of_getElem? (i := 1023) (by decide +kernel), List.mem_of_getElem? (i := 1024) (by decide +kernel)⟩
theorem lw_p27 : lw_okq (⟨"AtariGardenModel", "canPlay", "(II)Z"⟩, 48) := ⟨⟨by decide +kernel, by decide +kernel⟩, List.mem_of_getElem? (i := 813) (by decide +kernel), List.mem_of_getElem? (i := 1030) (by decide +kernel), List.mem_of_getElem? (i := 1031) (by decide +kernel)⟩
theorem lw_p28 : lw_okq (⟨"AtariGardenModel", "isEmpty", "(JJI)Z"⟩, 48) := ⟨⟨by decide +kernel, by decide +kernel⟩, List.mem_of_getElem? (i := 813) (by decide +kernel), List.mem_of_getElem? (i := 1034) (by decide +kernel), List.mem_of_getElem? (i := 1035) (by decide +kernel)⟩
theorem lw_p29 : lw_okq (⟨"AtariGardenModel", "sideOf", "(II)I"⟩, 48) := ⟨⟨by decide +kernel, by decide +kernel⟩, List.mem_of_getElem? (i := 813) (by decide +kernel), List.mem_of_getElem? (i := 1038) (by decide +kernel), List.mem_of_getElem? (i := 1039) (by decide +kernel)⟩
theorem lw_p30 : lw_okq (⟨"AtariGardenModel", "puts", "(JJII)V"⟩, 48) := ⟨⟨by decide +kernel, by decide +kernel⟩, List.mem_of_getElem? (i := 813) (by decide +kernel), List.mem_of_getElem? (i := 1042) (by decide +kernel), List.mem_of_getElem? (i := 1043) (by decide +kernel)⟩
theorem lw_p31 : lw_okq (⟨"AtariGardenModel", "wasThere", "(IJJ)Z"⟩, 48) := ⟨⟨by decide +kernel, by decide +kernel⟩, List.mem_of_getElem? (i := 813) (by decide +kernel), List.mem_of_getElem? (i := 1065) (by decide +kernel), List.mem_of_getElem? (i := 1066) (by decide +kernel)⟩
def lw_privs_2 : List (MethodName × Nat) := [(⟨"AtariGarden$School", "twinOf", "(LAtariGarden$Twig;LAtariGarden$Twig;)LAtariGarden$Twig;"⟩, 3), (⟨"AtariGarden$School", "twinOfParent", "(LAtariGarden$Twig;)LAtariGarden$Twig;"⟩, 3), (⟨"AtariGarden$School", "twinOrNew", "(LAtariGarden$Twig;LAtariGarden$Twig;)LAtariGarden$Twig;"⟩, 3), (⟨"AtariGardenModel", "fails", "(I)Z"⟩, 48), (⟨"AtariGardenModel", "isPlayer", "(I)Z"⟩, 48), (⟨"AtariGardenModel", "plays", "(I)Z"⟩, 48), (⟨"AtariGardenModel", "blackOf", "(II)I"⟩, 48), (⟨"AtariGardenModel", "handicapOf", "(II)I"⟩, 48), (⟨"AtariGardenModel", "apart", "(II)I"⟩, 48), (⟨"AtariGardenModel", "keeps", "(JJI)I"⟩, 48), (⟨"AtariGardenModel", "isGame", "(I)Z"⟩, 48), (⟨"AtariGardenModel", "canPlay", "(II)Z"⟩, 48), (⟨"AtariGardenModel", "isEmpty", "(JJI)Z"⟩, 48), (⟨"AtariGardenModel", "sideOf", "(II)I"⟩, 48), (⟨"AtariGardenModel", "puts", "(JJII)V"⟩, 48), (⟨"AtariGardenModel", "wasThere", "(IJJ)Z"⟩, 48)]
theorem lw_r2 : ∀ q ∈ lw_privs_2, lw_okq q := List.forall_mem_cons.mpr ⟨lw_p16, List.forall_mem_cons.mpr ⟨lw_p17, List.forall_mem_cons.mpr ⟨lw_p18, List.forall_mem_cons.mpr ⟨lw_p19, List.forall_mem_cons.mpr ⟨lw_p20, List.forall_mem_cons.mpr ⟨lw_p21, List.forall_mem_cons.mpr ⟨lw_p22, List.forall_mem_cons.mpr ⟨lw_p23, List.forall_mem_cons.mpr ⟨lw_p24, List.forall_mem_cons.mpr ⟨lw_p25, List.forall_mem_cons.mpr ⟨lw_p26, List.forall_mem_cons.mpr ⟨lw_p27, List.forall_mem_cons.mpr ⟨lw_p28, List.forall_mem_cons.mpr ⟨lw_p29, List.forall_mem_cons.mpr ⟨lw_p30, List.forall_mem_cons.mpr ⟨lw_p31, fun _ h => absurd h List.not_mem_nil⟩⟩⟩⟩⟩⟩⟩⟩⟩⟩⟩⟩⟩⟩⟩⟩
theorem lw_p32 : lw_okq (⟨"AtariGardenModel", "runsOut", "(II)Z"⟩, 48) := ⟨⟨by decide +kernel, by decide +kernel⟩, List.mem_of_getElem? (i := 813) (by decide +kernel), List.mem_of_getElem? (i := 1069) (by decide +kernel), List.mem_of_getElem? (i := 1070) (by decide +kernel)⟩
theorem lw_p33 : lw_okq (⟨"AtariGardenModel", "ends", "(II)V"⟩, 48) := ⟨⟨by decide +kernel, by decide +kernel⟩, List.mem_of_getElem? (i := 813) (by decide +kernel), List.mem_of_getElem? (i := 1073) (by decide +kernel), List.mem_of_getElem? (i := 1074) (by decide +kernel)⟩
theorem lw_p34 : lw_okq (⟨"AtariGardenModel", "counts", "(I)V"⟩, 48) := ⟨⟨by decide +kernel, by decide +kernel⟩, List.mem_of_getElem? (i := 813) (by decide +kernel), List.mem_of_getElem? (i := 1077) (by decide +kernel), List.mem_of_getElem? (i := 1078) (by decide +kernel)⟩
theorem lw_p35 : lw_okq (⟨"AtariGardenModel", "grows", "(IZ)V"⟩, 48) := ⟨⟨by decide +kernel, by decide +kernel⟩, List.mem_of_getElem? (i := 813) (by decide +kernel), List.mem_of_getElem? (i := 1081) (by decide +kernel), List.mem_of_getElem? (i := 1082) (by decide +kernel)⟩
theorem lw_p36 : lw_okq (⟨"AtariGardenModel", "scoreOf", "(I)I"⟩, 48) := ⟨⟨by decide +kernel, by decide +kernel⟩, List.mem_of_getElem? (i := 813) (by decide +kernel), List.mem_of_getElem? (i := 1089) (by decide +kernel), List.mem_of_getElem? (i := 1090) (by decide +kernel)⟩
theorem lw_p37 : lw_okq (⟨"AtariGardenModel", "stateOf", "(I)I"⟩, 48) := ⟨⟨by decide +kernel, by decide +kernel⟩, List.mem_of_getElem? (i := 813) (by decide +kernel), List.mem_of_getElem? (i := 1101) (by decide +kernel), List.mem_of_getElem? (i := 1102) (by decide +kernel)⟩
theorem lw_p38 : lw_okq (⟨"AtariGardenModel", "libertiesOf", "(II)I"⟩, 48) := ⟨⟨by decide +kernel, by decide +kernel⟩, List.mem_of_getElem? (i := 813) (by decide +kernel), List.mem_of_getElem? (i := 1125) (by decide +kernel), List.mem_of_getElem? (i := 1126) (by decide +kernel)⟩
theorem lw_p39 : lw_okq (⟨"AtariGardenModel", "finds", "(I)V"⟩, 48) := ⟨⟨by decide +kernel, by decide +kernel⟩, List.mem_of_getElem? (i := 813) (by decide +kernel), List.mem_of_getElem? (i := 1140) (by decide +kernel), List.mem_of_getElem? (i := 1141) (by decide +kernel)⟩
theorem lw_p40 : lw_okq (⟨"AtariGardenModel", "off", "()I"⟩, 48) := ⟨⟨by decide +kernel, by decide +kernel⟩, List.mem_of_getElem? (i := 813) (by decide +kernel), List.mem_of_getElem? (i := 1144) (by decide +kernel), List.mem_of_getElem? (i := 1145) (by decide +kernel)⟩
theorem lw_p41 : lw_okq (⟨"AtariGardenModel", "isOff", "(I)Z"⟩, 48) := ⟨⟨by decide +kernel, by decide +kernel⟩, List.mem_of_getElem? (i := 813) (by decide +kernel), List.mem_of_getElem? (i := 1148) (by decide +kernel), List.mem_of_getElem? (i := 1149) (by decide +kernel)⟩
theorem lw_p42 : lw_okq (⟨"AtariGardenModel", "dueOf", "(I)I"⟩, 48) := ⟨⟨by decide +kernel, by decide +kernel⟩, List.mem_of_getElem? (i := 813) (by decide +kernel), List.mem_of_getElem? (i := 1152) (by decide +kernel), List.mem_of_getElem? (i := 1153) (by decide +kernel)⟩
theorem lw_p43 : lw_okq (⟨"AtariGardenModel", "reads", "(IIII)Z"⟩, 48) := ⟨⟨by decide +kernel, by decide +kernel⟩, List.mem_of_getElem? (i := 813) (by decide +kernel), List.mem_of_getElem? (i := 1168) (by decide +kernel), List.mem_of_getElem? (i := 1169) (by decide +kernel)⟩
theorem lw_p44 : lw_okq (⟨"AtariGardenModel", "catches", "(JJIII)Z"⟩, 48) := ⟨⟨by decide +kernel, by decide +kernel⟩, List.mem_of_getElem? (i := 813) (by decide +kernel), List.mem_of_getElem? (i := 1172) (by decide +kernel), List.mem_of_getElem? (i := 1173) (by decide +kernel)⟩
theorem lw_p45 : lw_okq (⟨"AtariGardenModel", "libertiesAt", "(JJI)I"⟩, 48) := ⟨⟨by decide +kernel, by decide +kernel⟩, List.mem_of_getElem? (i := 813) (by decide +kernel), List.mem_of_getElem? (i := 1176) (by decide +kernel), List.mem_of_getElem? (i := 1177) (by decide +kernel)⟩
theorem lw_p46 : lw_okq (⟨"AtariGardenModel", "attacks", "(JJII)J"⟩, 48) := ⟨⟨by decide +kernel, by decide +kernel⟩, List.mem_of_getElem? (i := 813) (by decide +kernel), List.mem_of_getElem? (i := 1180) (by decide +kernel), List.mem_of_getElem? (i := 1181) (by decide +kernel)⟩
theorem lw_p47 : lw_okq (⟨"AtariGardenModel", "replies", "(JJII)J"⟩, 48) := ⟨⟨by decide +kernel, by decide +kernel⟩, List.mem_of_getElem? (i := 813) (by decide +kernel), List.mem_of_getElem? (i := 1187) (by decide +kernel), List.mem_of_getElem? (i := 1188) (by decide +kernel)⟩
def lw_privs_3 : List (MethodName × Nat) := [(⟨"AtariGardenModel", "runsOut", "(II)Z"⟩, 48), (⟨"AtariGardenModel", "ends", "(II)V"⟩, 48), (⟨"AtariGardenModel", "counts", "(I)V"⟩, 48), (⟨"AtariGardenModel", "grows", "(IZ)V"⟩, 48), (⟨"AtariGardenModel", "scoreOf", "(I)I"⟩, 48), (⟨"AtariGardenModel", "stateOf", "(I)I"⟩, 48), (⟨"AtariGardenModel", "libertiesOf", "(II)I"⟩, 48), (⟨"AtariGardenModel", "finds", "(I)V"⟩, 48), (⟨"AtariGardenModel", "off", "()I"⟩, 48), (⟨"AtariGardenModel", "isOff", "(I)Z"⟩, 48), (⟨"AtariGardenModel", "dueOf", "(I)I"⟩, 48), (⟨"AtariGardenModel", "reads", "(IIII)Z"⟩, 48), (⟨"AtariGardenModel", "catches", "(JJIII)Z"⟩, 48), (⟨"AtariGardenModel", "libertiesAt", "(JJI)I"⟩, 48), (⟨"AtariGardenModel", "attacks", "(JJII)J"⟩, 48), (⟨"AtariGardenModel", "replies", "(JJII)J"⟩, 48)]
theorem lw_r3 : ∀ q ∈ lw_privs_3, lw_okq q := List.forall_mem_cons.mpr ⟨lw_p32, List.forall_mem_cons.mpr ⟨lw_p33, List.forall_mem_cons.mpr ⟨lw_p34, List.forall_mem_cons.mpr ⟨lw_p35, List.forall_mem_cons.mpr ⟨lw_p36, List.forall_mem_cons.mpr ⟨lw_p37, List.forall_mem_cons.mpr ⟨lw_p38, List.forall_mem_cons.mpr ⟨lw_p39, List.forall_mem_cons.mpr ⟨lw_p40, List.forall_mem_cons.mpr ⟨lw_p41, List.forall_mem_cons.mpr ⟨lw_p42, List.forall_mem_cons.mpr ⟨lw_p43, List.forall_mem_cons.mpr ⟨lw_p44, List.forall_mem_cons.mpr ⟨lw_p45, List.forall_mem_cons.mpr ⟨lw_p46, List.forall_mem_cons.mpr ⟨lw_p47, fun _ h => absurd h List.not_mem_nil⟩⟩⟩⟩⟩⟩⟩⟩⟩⟩⟩⟩⟩⟩⟩⟩
theorem lw_p48 : lw_okq (⟨"AtariGardenModel", "allowed", "(JJIJ)J"⟩, 48) := ⟨⟨by decide +kernel, by decide +kernel⟩, List.mem_of_getElem? (i := 813) (by decide +kernel), List.mem_of_getElem? (i := 1191) (by decide +kernel), List.mem_of_getElem? (i := 1192) (by decide +kernel)⟩
theorem lw_p49 : lw_okq (⟨"AtariGardenModel", "position", "(II)I"⟩, 48) := ⟨⟨by decide +kernel, by decide +kernel⟩, List.mem_of_getElem? (i := 813) (by decide +kernel), List.mem_of_getElem? (i := 1203) (by decide +kernel), List.mem_of_getElem? (i := 1204) (by decide +kernel)⟩
theorem lw_p50 : lw_okq (⟨"AtariGardenModel", "makes", "(IIJJI)I"⟩, 48) := ⟨⟨by decide +kernel, by decide +kernel⟩, List.mem_of_getElem? (i := 813) (by decide +kernel), List.mem_of_getElem? (i := 1207) (by decide +kernel), List.mem_of_getElem? (i := 1208) (by decide +kernel)⟩
theorem lw_p51 : lw_okq (⟨"AtariGardenModel", "isNode", "(I)Z"⟩, 48) := ⟨⟨by decide +kernel, by decide +kernel⟩, List.mem_of_getElem? (i := 813) (by decide +kernel), List.mem_of_getElem? (i := 1215) (by decide +kernel), List.mem_of_getElem? (i := 1216) (by decide +kernel)⟩
theorem lw_p52 : lw_okq (⟨"AtariGardenModel", "child", "(II)I"⟩, 48) := ⟨⟨by decide +kernel, by decide +kernel⟩, List.mem_of_getElem? (i := 813) (by decide +kernel), List.mem_of_getElem? (i := 1219) (by decide +kernel), List.mem_of_getElem? (i := 1220) (by decide +kernel)⟩
theorem lw_p53 : lw_okq (⟨"AtariGardenModel", "canBranch", "(II)Z"⟩, 48) := ⟨⟨by decide +kernel, by decide +kernel⟩, List.mem_of_getElem? (i := 813) (by decide +kernel), List.mem_of_getElem? (i := 1223) (by decide +kernel), List.mem_of_getElem? (i := 1224) (by decide +kernel)⟩
theorem lw_p54 : lw_okq (⟨"AtariGardenModel", "isRoot", "(I)Z"⟩, 48) := ⟨⟨by decide +kernel, by decide +kernel⟩, List.mem_of_getElem? (i := 813) (by decide +kernel), List.mem_of_getElem? (i := 1239) (by decide +kernel), List.mem_of_getElem? (i := 1240) (by decide +kernel)⟩
theorem lw_p55 : lw_okq (⟨"AtariGardenModel", "lacks", "(II)I"⟩, 48) := ⟨⟨by decide +kernel, by decide +kernel⟩, List.mem_of_getElem? (i := 813) (by decide +kernel), List.mem_of_getElem? (i := 1243) (by decide +kernel), List.mem_of_getElem? (i := 1244) (by decide +kernel)⟩
def lw_privs_4 : List (MethodName × Nat) := [(⟨"AtariGardenModel", "allowed", "(JJIJ)J"⟩, 48), (⟨"AtariGardenModel", "position", "(II)I"⟩, 48), (⟨"AtariGardenModel", "makes", "(IIJJI)I"⟩, 48), (⟨"AtariGardenModel", "isNode", "(I)Z"⟩, 48), (⟨"AtariGardenModel", "child", "(II)I"⟩, 48), (⟨"AtariGardenModel", "canBranch", "(II)Z"⟩, 48), (⟨"AtariGardenModel", "isRoot", "(I)Z"⟩, 48), (⟨"AtariGardenModel", "lacks", "(II)I"⟩, 48)]
theorem lw_r4 : ∀ q ∈ lw_privs_4, lw_okq q := List.forall_mem_cons.mpr ⟨lw_p48, List.forall_mem_cons.mpr ⟨lw_p49, List.forall_mem_cons.mpr ⟨lw_p50, List.forall_mem_cons.mpr ⟨lw_p51, List.forall_mem_cons.mpr ⟨lw_p52, List.forall_mem_cons.mpr ⟨lw_p53, List.forall_mem_cons.mpr ⟨lw_p54, List.forall_mem_cons.mpr ⟨lw_p55, fun _ h => absurd h List.not_mem_nil⟩⟩⟩⟩⟩⟩⟩⟩
def lw_privs : List (MethodName × Nat) := lw_privs_1 ++ (lw_privs_2 ++ (lw_privs_3 ++ (lw_privs_4)))
def lw_tbl : List Cond := k2_sels lw_privs ++ tables_1
theorem lw_privs_ok : ∀ q ∈ lw_privs, lw_okq q := by
  show ∀ q ∈ lw_privs_1 ++ (lw_privs_2 ++ (lw_privs_3 ++ (lw_privs_4))), lw_okq q
  exact List.forall_mem_append.mpr ⟨lw_r1, List.forall_mem_append.mpr ⟨lw_r2, List.forall_mem_append.mpr ⟨lw_r3, lw_r4⟩⟩⟩
/-- the words that every method of ours takes: all of the tables' that stay true -/
def wt : List Cond := lw_tbl.filter goodWord
theorem w_fil {w : Cond} (h : w ∈ lw_tbl) (g : goodWord w = true) : w ∈ wt := List.mem_filter.mpr ⟨h, g⟩
theorem wl0 {i : Nat} {w : Cond} (h : (k2_sels lw_privs)[i]? = some w) (g : goodWord w = true) : w ∈ wt := w_fil (List.mem_append_left _ (List.mem_of_getElem? h)) g
theorem wl1 {i : Nat} {w : Cond} (h : (tables_1_1)[i]? = some w) (g : goodWord w = true) : w ∈ wt := w_fil (List.mem_append_right _ (List.mem_append_left _ (List.mem_of_getElem? h))) g
theorem wl2 {i : Nat} {w : Cond} (h : (tables_1_2)[i]? = some w) (g : goodWord w = true) : w ∈ wt := w_fil (List.mem_append_right _ (List.mem_append_right _ (List.mem_append_left _ (List.mem_of_getElem? h)))) g
theorem wl3 {i : Nat} {w : Cond} (h : (tables_1_3)[i]? = some w) (g : goodWord w = true) : w ∈ wt := w_fil (List.mem_append_right _ (List.mem_append_right _ (List.mem_append_right _ (List.mem_append_left _ (List.mem_of_getElem? h))))) g
theorem wl4 {i : Nat} {w : Cond} (h : (tables_1_4)[i]? = some w) (g : goodWord w = true) : w ∈ wt := w_fil (List.mem_append_right _ (List.mem_append_right _ (List.mem_append_right _ (List.mem_append_right _ (List.mem_append_left _ (List.mem_of_getElem? h)))))) g
theorem wl5 {i : Nat} {w : Cond} (h : (tables_1_5)[i]? = some w) (g : goodWord w = true) : w ∈ wt := w_fil (List.mem_append_right _ (List.mem_append_right _ (List.mem_append_right _ (List.mem_append_right _ (List.mem_append_right _ (List.mem_append_left _ (List.mem_of_getElem? h))))))) g
theorem wl6 {i : Nat} {w : Cond} (h : (tables_1_6)[i]? = some w) (g : goodWord w = true) : w ∈ wt := w_fil (List.mem_append_right _ (List.mem_append_right _ (List.mem_append_right _ (List.mem_append_right _ (List.mem_append_right _ (List.mem_append_right _ (List.mem_of_getElem? h))))))) g
theorem wt_good : ∀ w ∈ wt, (w.onTables && w.keeps) = true ∨ ∃ ty, w = .arrayClass ty := fun w h => good_of_word (List.mem_filter.mp h).2
theorem wt_sub : ∀ w ∈ wt, w ∈ lw_tbl := fun w h => (List.mem_filter.mp h).1
end
section
def RX0 : String := "AtariGarden$Board"
def TX0 : u_T := fun k => match k with
  | _ => ("", "", "", false)
def tyX0 : Nat → FieldType := fun k => match k with
  | _ => .int
abbrev wsX00 : List Cond := u_ws RX0 TX0 0
theorem nmX0 : ∀ a, a < 0 → ∀ b, b < 0 → a ≠ b → (TX0 a).2.1 ≠ (TX0 b).2.1 := by decide +kernel
theorem tyX0_ok : ∀ k, k < 0 → parseFieldDescriptor (TX0 k).2.2.1 = some (tyX0 k) := by decide +kernel
abbrev cX0_around : ByteArray := prog_2_method_2_code
def yX0_around : MethodName := ⟨RX0, "around", "(J)J"⟩
abbrev cX0_flood : ByteArray := prog_2_method_3_code
def yX0_flood : MethodName := ⟨RX0, "flood", "(JJ)J"⟩
abbrev cX0_libertiesOf : ByteArray := prog_2_method_4_code
def yX0_libertiesOf : MethodName := ⟨RX0, "libertiesOf", "(JJ)J"⟩
abbrev cX0_leftBehind : ByteArray := prog_2_method_5_code
def yX0_leftBehind : MethodName := ⟨RX0, "leftBehind", "(JJJ)J"⟩
abbrev cX0_lead : ByteArray := prog_2_method_6_code
def yX0_lead : MethodName := ⟨RX0, "lead", "(JJ)I"⟩
def RX1 : String := "AtariGarden$Clock"
def TX1 : u_T := fun k => match k with
  | 0 => ("AtariGarden$Clock", "main", "I", false)
  | 1 => ("AtariGarden$Clock", "periods", "I", false)
  | _ => ("AtariGarden$Clock", "length", "I", true)
def tyX1 : Nat → FieldType := fun k => match k with
  | 0 => .int
  | 1 => .int
  | _ => .int
abbrev wsX10 : List Cond := u_ws RX1 TX1 3
theorem nmX1 : ∀ a, a < 3 → ∀ b, b < 3 → a ≠ b → (TX1 a).2.1 ≠ (TX1 b).2.1 := by decide +kernel
theorem tyX1_ok : ∀ k, k < 3 → parseFieldDescriptor (TX1 k).2.2.1 = some (tyX1 k) := by decide +kernel
abbrev cX1_init : ByteArray := prog_3_method_1_code
def yX1_init : MethodName := ⟨RX1, "<init>", "(III)V"⟩
abbrev cX1_take : ByteArray := prog_3_method_2_code
def yX1_take : MethodName := ⟨RX1, "take", "(I)Z"⟩
abbrev cX1_reading : ByteArray := prog_3_method_3_code
def yX1_reading : MethodName := ⟨RX1, "reading", "()I"⟩
def RX2 : String := "AtariGarden$Club"
def TX2 : u_T := fun k => match k with
  | 0 => ("AtariGarden$Club", "firstRanks", "[I", true)
  | 1 => ("AtariGarden$Club", "players", "I", false)
  | 2 => ("AtariGarden$Club", "matches", "[LAtariGarden$Match;", true)
  | 3 => ("AtariGarden$Club", "begun", "I", false)
  | 4 => ("AtariGarden$Club", "ended", "[LAtariGarden$Match;", true)
  | _ => ("AtariGarden$Club", "endedCount", "I", false)
def tyX2 : Nat → FieldType := fun k => match k with
  | 0 => .array .int
  | 1 => .int
  | 2 => .array (.object "AtariGarden$Match")
  | 3 => .int
  | 4 => .array (.object "AtariGarden$Match")
  | _ => .int
abbrev wsX20 : List Cond := u_ws RX2 TX2 6
theorem nmX2 : ∀ a, a < 6 → ∀ b, b < 6 → a ≠ b → (TX2 a).2.1 ≠ (TX2 b).2.1 := by decide +kernel
theorem tyX2_ok : ∀ k, k < 6 → parseFieldDescriptor (TX2 k).2.2.1 = some (tyX2 k) := by decide +kernel
abbrev cX2_init : ByteArray := prog_4_method_1_code
def yX2_init : MethodName := ⟨RX2, "<init>", "()V"⟩
abbrev cX2_hasPlayer : ByteArray := prog_4_method_2_code
def yX2_hasPlayer : MethodName := ⟨RX2, "hasPlayer", "(I)Z"⟩
abbrev cX2_enrol : ByteArray := prog_4_method_3_code
def yX2_enrol : MethodName := ⟨RX2, "enrol", "(I)I"⟩
abbrev cX2_matchAt : ByteArray := prog_4_method_4_code
def yX2_matchAt : MethodName := ⟨RX2, "matchAt", "(I)LAtariGarden$Match;"⟩
abbrev cX2_begin : ByteArray := prog_4_method_5_code
def yX2_begin : MethodName := ⟨RX2, "begin", "(IILAtariGarden$Clock;LAtariGarden$Clock;)I"⟩
abbrev cX2_isBusy : ByteArray := prog_4_method_6_code
def yX2_isBusy : MethodName := ⟨RX2, "isBusy", "(I)Z"⟩
abbrev cX2_spend : ByteArray := prog_4_method_7_code
def yX2_spend : MethodName := ⟨RX2, "spend", "(LAtariGarden$Match;I)Z"⟩
abbrev cX2_passIn : ByteArray := prog_4_method_8_code
def yX2_passIn : MethodName := ⟨RX2, "passIn", "(LAtariGarden$Match;)V"⟩
abbrev cX2_end : ByteArray := prog_4_method_9_code
def yX2_end : MethodName := ⟨RX2, "end", "(LAtariGarden$Match;I)V"⟩
abbrev cX2_standing : ByteArray := prog_4_method_10_code
def yX2_standing : MethodName := ⟨RX2, "standing", "(II)I"⟩
abbrev cX2_pairing : ByteArray := prog_4_method_11_code
def yX2_pairing : MethodName := ⟨RX2, "pairing", "(III)I"⟩
abbrev cX2_duePairing : ByteArray := prog_4_method_12_code
def yX2_duePairing : MethodName := ⟨RX2, "duePairing", "(LAtariGarden$Match;)I"⟩
abbrev cX2_isOff : ByteArray := prog_4_method_13_code
def yX2_isOff : MethodName := ⟨RX2, "isOff", "(LAtariGarden$Match;)Z"⟩
abbrev cX2_offSet : ByteArray := prog_4_method_14_code
def yX2_offSet : MethodName := ⟨RX2, "offSet", "()I"⟩
abbrev cX2_lowestOff : ByteArray := prog_4_method_15_code
def yX2_lowestOff : MethodName := ⟨RX2, "lowestOff", "()LAtariGarden$Match;"⟩
abbrev cX2_annulWhileOff : ByteArray := prog_4_method_16_code
def yX2_annulWhileOff : MethodName := ⟨RX2, "annulWhileOff", "()I"⟩
def RX3 : String := "AtariGarden$Match"
def TX3 : u_T := fun k => match k with
  | 0 => ("AtariGarden$Match", "first", "I", true)
  | 1 => ("AtariGarden$Match", "second", "I", true)
  | 2 => ("AtariGarden$Match", "pairing", "I", true)
  | 3 => ("AtariGarden$Match", "endedBefore", "I", true)
  | 4 => ("AtariGarden$Match", "blackClock", "LAtariGarden$Clock;", true)
  | 5 => ("AtariGarden$Match", "whiteClock", "LAtariGarden$Clock;", true)
  | 6 => ("AtariGarden$Match", "position", "LAtariGarden$Position;", false)
  | 7 => ("AtariGarden$Match", "kept", "[I", true)
  | 8 => ("AtariGarden$Match", "result", "I", false)
  | _ => ("AtariGarden$Match", "annulled", "Z", false)
def tyX3 : Nat → FieldType := fun k => match k with
  | 0 => .int
  | 1 => .int
  | 2 => .int
  | 3 => .int
  | 4 => .object "AtariGarden$Clock"
  | 5 => .object "AtariGarden$Clock"
  | 6 => .object "AtariGarden$Position"
  | 7 => .array .int
  | 8 => .int
  | _ => .boolean
abbrev wsX30 : List Cond := u_ws RX3 TX3 10
theorem nmX3 : ∀ a, a < 10 → ∀ b, b < 10 → a ≠ b → (TX3 a).2.1 ≠ (TX3 b).2.1 := by decide +kernel
theorem tyX3_ok : ∀ k, k < 10 → parseFieldDescriptor (TX3 k).2.2.1 = some (tyX3 k) := by decide +kernel
abbrev cX3_init : ByteArray := prog_5_method_1_code
def yX3_init : MethodName := ⟨RX3, "<init>", "(IIIILAtariGarden$Clock;LAtariGarden$Clock;)V"⟩
abbrev cX3_goesOn : ByteArray := prog_5_method_2_code
def yX3_goesOn : MethodName := ⟨RX3, "goesOn", "()Z"⟩
abbrev cX3_isPlayedBy : ByteArray := prog_5_method_3_code
def yX3_isPlayedBy : MethodName := ⟨RX3, "isPlayedBy", "(I)Z"⟩
abbrev cX3_winner : ByteArray := prog_5_method_4_code
def yX3_winner : MethodName := ⟨RX3, "winner", "()I"⟩
abbrev cX3_told : ByteArray := prog_5_method_5_code
def yX3_told : MethodName := ⟨RX3, "told", "()I"⟩
abbrev cX3_wonAgainstMover : ByteArray := prog_5_method_6_code
def yX3_wonAgainstMover : MethodName := ⟨RX3, "wonAgainstMover", "()I"⟩
abbrev cX3_wonByCounting : ByteArray := prog_5_method_7_code
def yX3_wonByCounting : MethodName := ⟨RX3, "wonByCounting", "()I"⟩
abbrev cX3_lead : ByteArray := prog_5_method_8_code
def yX3_lead : MethodName := ⟨RX3, "lead", "()I"⟩
abbrev cX3_clockOf : ByteArray := prog_5_method_9_code
def yX3_clockOf : MethodName := ⟨RX3, "clockOf", "(I)LAtariGarden$Clock;"⟩
abbrev cX3_advance : ByteArray := prog_5_method_10_code
def yX3_advance : MethodName := ⟨RX3, "advance", "(LAtariGarden$Position;)I"⟩
abbrev cX3_annul : ByteArray := prog_5_method_11_code
def yX3_annul : MethodName := ⟨RX3, "annul", "()V"⟩
abbrev cX3_keptLiberties : ByteArray := prog_5_method_12_code
def yX3_keptLiberties : MethodName := ⟨RX3, "keptLiberties", "(I)I"⟩
abbrev cX3_keepLiberties : ByteArray := prog_5_method_13_code
def yX3_keepLiberties : MethodName := ⟨RX3, "keepLiberties", "(J)V"⟩
abbrev cX3_keepForAll : ByteArray := prog_5_method_14_code
def yX3_keepForAll : MethodName := ⟨RX3, "keepForAll", "(JI)V"⟩
def RX4 : String := "AtariGarden$Position"
def TX4 : u_T := fun k => match k with
  | 0 => ("AtariGarden$Position", "black", "J", true)
  | 1 => ("AtariGarden$Position", "white", "J", true)
  | 2 => ("AtariGarden$Position", "colour", "I", true)
  | 3 => ("AtariGarden$Position", "moves", "I", true)
  | 4 => ("AtariGarden$Position", "passings", "I", true)
  | _ => ("AtariGarden$Position", "before", "LAtariGarden$Position;", true)
def tyX4 : Nat → FieldType := fun k => match k with
  | 0 => .long
  | 1 => .long
  | 2 => .int
  | 3 => .int
  | 4 => .int
  | _ => .object "AtariGarden$Position"
abbrev wsX40 : List Cond := u_ws RX4 TX4 6
theorem nmX4 : ∀ a, a < 6 → ∀ b, b < 6 → a ≠ b → (TX4 a).2.1 ≠ (TX4 b).2.1 := by decide +kernel
theorem tyX4_ok : ∀ k, k < 6 → parseFieldDescriptor (TX4 k).2.2.1 = some (tyX4 k) := by decide +kernel
abbrev cX4_init : ByteArray := prog_6_method_1_code
def yX4_init : MethodName := ⟨RX4, "<init>", "(JJIILAtariGarden$Position;)V"⟩
abbrev cX4_beginning : ByteArray := prog_6_method_2_code
def yX4_beginning : MethodName := ⟨RX4, "beginning", "(I)LAtariGarden$Position;"⟩
abbrev cX4_withStone : ByteArray := prog_6_method_3_code
def yX4_withStone : MethodName := ⟨RX4, "withStone", "(I)LAtariGarden$Position;"⟩
abbrev cX4_withPassing : ByteArray := prog_6_method_4_code
def yX4_withPassing : MethodName := ⟨RX4, "withPassing", "()LAtariGarden$Position;"⟩
abbrev cX4_wasThere : ByteArray := prog_6_method_5_code
def yX4_wasThere : MethodName := ⟨RX4, "wasThere", "(JJ)Z"⟩
abbrev cX4_behind : ByteArray := prog_6_method_6_code
def yX4_behind : MethodName := ⟨RX4, "behind", "(I)LAtariGarden$Position;"⟩
abbrev cX4_stonesOf : ByteArray := prog_6_method_7_code
def yX4_stonesOf : MethodName := ⟨RX4, "stonesOf", "(I)J"⟩
abbrev cX4_stones : ByteArray := prog_6_method_8_code
def yX4_stones : MethodName := ⟨RX4, "stones", "()J"⟩
abbrev cX4_chainAt : ByteArray := prog_6_method_9_code
def yX4_chainAt : MethodName := ⟨RX4, "chainAt", "(I)J"⟩
abbrev cX4_countLiberties : ByteArray := prog_6_method_10_code
def yX4_countLiberties : MethodName := ⟨RX4, "countLiberties", "(I)I"⟩
abbrev cX4_signAt : ByteArray := prog_6_method_11_code
def yX4_signAt : MethodName := ⟨RX4, "signAt", "(I)C"⟩
abbrev cX4_canBeCaught : ByteArray := prog_6_method_12_code
def yX4_canBeCaught : MethodName := ⟨RX4, "canBeCaught", "(III)Z"⟩
def RX5 : String := "AtariGarden$Reading"
def TX5 : u_T := fun k => match k with
  | _ => ("", "", "", false)
def tyX5 : Nat → FieldType := fun k => match k with
  | _ => .int
abbrev wsX50 : List Cond := u_ws RX5 TX5 0
theorem nmX5 : ∀ a, a < 0 → ∀ b, b < 0 → a ≠ b → (TX5 a).2.1 ≠ (TX5 b).2.1 := by decide +kernel
theorem tyX5_ok : ∀ k, k < 0 → parseFieldDescriptor (TX5 k).2.2.1 = some (tyX5 k) := by decide +kernel
abbrev cX5_caught : ByteArray := prog_7_method_2_code
def yX5_caught : MethodName := ⟨RX5, "caught", "(JJJII)Z"⟩
abbrev cX5_catches : ByteArray := prog_7_method_3_code
def yX5_catches : MethodName := ⟨RX5, "catches", "(JJJJII)Z"⟩
abbrev cX5_caughtForEachAnswer : ByteArray := prog_7_method_4_code
def yX5_caughtForEachAnswer : MethodName := ⟨RX5, "caughtForEachAnswer", "(JJJII)Z"⟩
abbrev cX5_answers : ByteArray := prog_7_method_5_code
def yX5_answers : MethodName := ⟨RX5, "answers", "(JJJ)J"⟩
def RX6 : String := "AtariGarden$School"
def TX6 : u_T := fun k => match k with
  | 0 => ("AtariGarden$School", "twigs", "[LAtariGarden$Twig;", true)
  | 1 => ("AtariGarden$School", "twins", "[LAtariGarden$Twig;", true)
  | _ => ("AtariGarden$School", "count", "I", false)
def tyX6 : Nat → FieldType := fun k => match k with
  | 0 => .array (.object "AtariGarden$Twig")
  | 1 => .array (.object "AtariGarden$Twig")
  | _ => .int
abbrev wsX60 : List Cond := u_ws RX6 TX6 3
theorem nmX6 : ∀ a, a < 3 → ∀ b, b < 3 → a ≠ b → (TX6 a).2.1 ≠ (TX6 b).2.1 := by decide +kernel
theorem tyX6_ok : ∀ k, k < 3 → parseFieldDescriptor (TX6 k).2.2.1 = some (tyX6 k) := by decide +kernel
abbrev cX6_init : ByteArray := prog_8_method_1_code
def yX6_init : MethodName := ⟨RX6, "<init>", "()V"⟩
abbrev cX6_twigAt : ByteArray := prog_8_method_2_code
def yX6_twigAt : MethodName := ⟨RX6, "twigAt", "(I)LAtariGarden$Twig;"⟩
abbrev cX6_isFull : ByteArray := prog_8_method_3_code
def yX6_isFull : MethodName := ⟨RX6, "isFull", "()Z"⟩
abbrev cX6_begin : ByteArray := prog_8_method_4_code
def yX6_begin : MethodName := ⟨RX6, "begin", "(ILAtariGarden$Position;)I"⟩
abbrev cX6_childOf : ByteArray := prog_8_method_5_code
def yX6_childOf : MethodName := ⟨RX6, "childOf", "(LAtariGarden$Twig;I)LAtariGarden$Twig;"⟩
abbrev cX6_childOrNew : ByteArray := prog_8_method_6_code
def yX6_childOrNew : MethodName := ⟨RX6, "childOrNew", "(LAtariGarden$Twig;I)I"⟩
abbrev cX6_grow : ByteArray := prog_8_method_7_code
def yX6_grow : MethodName := ⟨RX6, "grow", "(LAtariGarden$Twig;ILAtariGarden$Position;)LAtariGarden$Twig;"⟩
abbrev cX6_graft : ByteArray := prog_8_method_8_code
def yX6_graft : MethodName := ⟨RX6, "graft", "(LAtariGarden$Twig;LAtariGarden$Twig;)I"⟩
abbrev cX6_countMissing : ByteArray := prog_8_method_9_code
def yX6_countMissing : MethodName := ⟨RX6, "countMissing", "(LAtariGarden$Twig;LAtariGarden$Twig;)I"⟩
abbrev cX6_twinOfParent : ByteArray := prog_8_method_10_code
def yX6_twinOfParent : MethodName := ⟨RX6, "twinOfParent", "(LAtariGarden$Twig;)LAtariGarden$Twig;"⟩
abbrev cX6_twinOf : ByteArray := prog_8_method_11_code
def yX6_twinOf : MethodName := ⟨RX6, "twinOf", "(LAtariGarden$Twig;LAtariGarden$Twig;)LAtariGarden$Twig;"⟩
abbrev cX6_twinOrNew : ByteArray := prog_8_method_12_code
def yX6_twinOrNew : MethodName := ⟨RX6, "twinOrNew", "(LAtariGarden$Twig;LAtariGarden$Twig;)LAtariGarden$Twig;"⟩
def RX7 : String := "AtariGarden$Twig"
def TX7 : u_T := fun k => match k with
  | 0 => ("AtariGarden$Twig", "number", "I", true)
  | 1 => ("AtariGarden$Twig", "lesson", "I", true)
  | 2 => ("AtariGarden$Twig", "game", "I", true)
  | 3 => ("AtariGarden$Twig", "parent", "LAtariGarden$Twig;", true)
  | 4 => ("AtariGarden$Twig", "point", "I", true)
  | 5 => ("AtariGarden$Twig", "position", "LAtariGarden$Position;", true)
  | 6 => ("AtariGarden$Twig", "marks", "[I", true)
  | _ => ("AtariGarden$Twig", "children", "I", false)
def tyX7 : Nat → FieldType := fun k => match k with
  | 0 => .int
  | 1 => .int
  | 2 => .int
  | 3 => .object "AtariGarden$Twig"
  | 4 => .int
  | 5 => .object "AtariGarden$Position"
  | 6 => .array .int
  | _ => .int
abbrev wsX70 : List Cond := u_ws RX7 TX7 8
theorem nmX7 : ∀ a, a < 8 → ∀ b, b < 8 → a ≠ b → (TX7 a).2.1 ≠ (TX7 b).2.1 := by decide +kernel
theorem tyX7_ok : ∀ k, k < 8 → parseFieldDescriptor (TX7 k).2.2.1 = some (tyX7 k) := by decide +kernel
abbrev cX7_init : ByteArray := prog_9_method_1_code
def yX7_init : MethodName := ⟨RX7, "<init>", "(IIILAtariGarden$Twig;ILAtariGarden$Position;)V"⟩
abbrev cX7_beginsAs : ByteArray := prog_9_method_2_code
def yX7_beginsAs : MethodName := ⟨RX7, "beginsAs", "(LAtariGarden$Twig;)Z"⟩
abbrev cX7_changeMark : ByteArray := prog_9_method_3_code
def yX7_changeMark : MethodName := ⟨RX7, "changeMark", "(II)I"⟩
abbrev cX7_takeMarks : ByteArray := prog_9_method_4_code
def yX7_takeMarks : MethodName := ⟨RX7, "takeMarks", "(LAtariGarden$Twig;)V"⟩
abbrev cX7_hasMark : ByteArray := prog_9_method_5_code
def yX7_hasMark : MethodName := ⟨RX7, "hasMark", "(I)Z"⟩
abbrev cX7_told : ByteArray := prog_9_method_6_code
def yX7_told : MethodName := ⟨RX7, "told", "()I"⟩
def RX8 : String := "AtariGarden"
def TX8 : u_T := fun k => match k with
  | 0 => ("AtariGarden", "club", "LAtariGarden$Club;", true)
  | _ => ("AtariGarden", "school", "LAtariGarden$School;", true)
def tyX8 : Nat → FieldType := fun k => match k with
  | 0 => .object "AtariGarden$Club"
  | _ => .object "AtariGarden$School"
abbrev wsX80 : List Cond := u_ws RX8 TX8 2
theorem nmX8 : ∀ a, a < 2 → ∀ b, b < 2 → a ≠ b → (TX8 a).2.1 ≠ (TX8 b).2.1 := by decide +kernel
theorem tyX8_ok : ∀ k, k < 2 → parseFieldDescriptor (TX8 k).2.2.1 = some (tyX8 k) := by decide +kernel
abbrev cX8_init : ByteArray := prog_1_method_1_code
def yX8_init : MethodName := ⟨RX8, "<init>", "()V"⟩
abbrev cX8_player : ByteArray := prog_1_method_2_code
def yX8_player : MethodName := ⟨RX8, "player", "(I)I"⟩
abbrev cX8_rank : ByteArray := prog_1_method_3_code
def yX8_rank : MethodName := ⟨RX8, "rank", "(I)I"⟩
abbrev cX8_game : ByteArray := prog_1_method_4_code
def yX8_game : MethodName := ⟨RX8, "game", "(IIIII)I"⟩
abbrev cX8_play : ByteArray := prog_1_method_5_code
def yX8_play : MethodName := ⟨RX8, "play", "(III)I"⟩
abbrev cX8_pass : ByteArray := prog_1_method_6_code
def yX8_pass : MethodName := ⟨RX8, "pass", "(II)I"⟩
abbrev cX8_resign : ByteArray := prog_1_method_7_code
def yX8_resign : MethodName := ⟨RX8, "resign", "(I)I"⟩
abbrev cX8_state : ByteArray := prog_1_method_8_code
def yX8_state : MethodName := ⟨RX8, "state", "(I)I"⟩
abbrev cX8_handicap : ByteArray := prog_1_method_9_code
def yX8_handicap : MethodName := ⟨RX8, "handicap", "(I)I"⟩
abbrev cX8_sign : ByteArray := prog_1_method_10_code
def yX8_sign : MethodName := ⟨RX8, "sign", "(II)C"⟩
abbrev cX8_clock : ByteArray := prog_1_method_11_code
def yX8_clock : MethodName := ⟨RX8, "clock", "(II)I"⟩
abbrev cX8_score : ByteArray := prog_1_method_12_code
def yX8_score : MethodName := ⟨RX8, "score", "(I)I"⟩
abbrev cX8_liberties : ByteArray := prog_1_method_13_code
def yX8_liberties : MethodName := ⟨RX8, "liberties", "(II)I"⟩
abbrev cX8_flooded : ByteArray := prog_1_method_14_code
def yX8_flooded : MethodName := ⟨RX8, "flooded", "(II)I"⟩
abbrev cX8_judge : ByteArray := prog_1_method_15_code
def yX8_judge : MethodName := ⟨RX8, "judge", "(I)I"⟩
abbrev cX8_due : ByteArray := prog_1_method_16_code
def yX8_due : MethodName := ⟨RX8, "due", "(I)I"⟩
abbrev cX8_settle : ByteArray := prog_1_method_17_code
def yX8_settle : MethodName := ⟨RX8, "settle", "()I"⟩
abbrev cX8_ladder : ByteArray := prog_1_method_18_code
def yX8_ladder : MethodName := ⟨RX8, "ladder", "(III)Z"⟩
abbrev cX8_net : ByteArray := prog_1_method_19_code
def yX8_net : MethodName := ⟨RX8, "net", "(III)Z"⟩
abbrev cX8_lesson : ByteArray := prog_1_method_20_code
def yX8_lesson : MethodName := ⟨RX8, "lesson", "(II)I"⟩
abbrev cX8_branch : ByteArray := prog_1_method_21_code
def yX8_branch : MethodName := ⟨RX8, "branch", "(II)I"⟩
abbrev cX8_mark : ByteArray := prog_1_method_22_code
def yX8_mark : MethodName := ⟨RX8, "mark", "(III)I"⟩
abbrev cX8_node : ByteArray := prog_1_method_23_code
def yX8_node : MethodName := ⟨RX8, "node", "(I)I"⟩
abbrev cX8_merge : ByteArray := prog_1_method_24_code
def yX8_merge : MethodName := ⟨RX8, "merge", "(II)I"⟩
abbrev cX8_requireRange : ByteArray := prog_1_method_25_code
def yX8_requireRange : MethodName := ⟨RX8, "requireRange", "(III)V"⟩
abbrev cX8_requirePoint : ByteArray := prog_1_method_26_code
def yX8_requirePoint : MethodName := ⟨RX8, "requirePoint", "(I)V"⟩
abbrev cX8_requirePlayer : ByteArray := prog_1_method_27_code
def yX8_requirePlayer : MethodName := ⟨RX8, "requirePlayer", "(I)V"⟩
abbrev cX8_requireGoesOn : ByteArray := prog_1_method_28_code
def yX8_requireGoesOn : MethodName := ⟨RX8, "requireGoesOn", "(LAtariGarden$Match;)V"⟩
abbrev cX8_matchOf : ByteArray := prog_1_method_29_code
def yX8_matchOf : MethodName := ⟨RX8, "matchOf", "(I)LAtariGarden$Match;"⟩
abbrev cX8_twigOf : ByteArray := prog_1_method_30_code
def yX8_twigOf : MethodName := ⟨RX8, "twigOf", "(I)LAtariGarden$Twig;"⟩
def RX9 : String := "AtariGardenModel"
def TX9 : u_T := fun k => match k with
  | 0 => ("AtariGardenModel", "players", "I", false)
  | 1 => ("AtariGardenModel", "start", "[I", true)
  | 2 => ("AtariGardenModel", "rank", "[I", true)
  | 3 => ("AtariGardenModel", "string", "[I", true)
  | 4 => ("AtariGardenModel", "games", "I", false)
  | 5 => ("AtariGardenModel", "first", "[I", true)
  | 6 => ("AtariGardenModel", "second", "[I", true)
  | 7 => ("AtariGardenModel", "black", "[I", true)
  | 8 => ("AtariGardenModel", "white", "[I", true)
  | 9 => ("AtariGardenModel", "handicap", "[I", true)
  | 10 => ("AtariGardenModel", "state", "[I", true)
  | 11 => ("AtariGardenModel", "isVoid", "[Z", true)
  | 12 => ("AtariGardenModel", "endedThen", "[I", true)
  | 13 => ("AtariGardenModel", "last", "[I", true)
  | 14 => ("AtariGardenModel", "moves", "[I", true)
  | 15 => ("AtariGardenModel", "passings", "[I", true)
  | 16 => ("AtariGardenModel", "main", "[I", true)
  | 17 => ("AtariGardenModel", "periods", "[I", true)
  | 18 => ("AtariGardenModel", "length", "[I", true)
  | 19 => ("AtariGardenModel", "ended", "I", false)
  | 20 => ("AtariGardenModel", "order", "[I", true)
  | 21 => ("AtariGardenModel", "positions", "I", false)
  | 22 => ("AtariGardenModel", "ofBlack", "[J", true)
  | 23 => ("AtariGardenModel", "ofWhite", "[J", true)
  | 24 => ("AtariGardenModel", "ahead", "[I", true)
  | 25 => ("AtariGardenModel", "newBlack", "J", false)
  | 26 => ("AtariGardenModel", "newWhite", "J", false)
  | 27 => ("AtariGardenModel", "taken", "I", false)
  | 28 => ("AtariGardenModel", "isSuicide", "Z", false)
  | 29 => ("AtariGardenModel", "wayBlack", "[J", true)
  | 30 => ("AtariGardenModel", "wayWhite", "[J", true)
  | 31 => ("AtariGardenModel", "tries", "[J", true)
  | 32 => ("AtariGardenModel", "midBlack", "[J", true)
  | 33 => ("AtariGardenModel", "midWhite", "[J", true)
  | 34 => ("AtariGardenModel", "answers", "[J", true)
  | 35 => ("AtariGardenModel", "passes", "[Z", true)
  | 36 => ("AtariGardenModel", "nodes", "I", false)
  | 37 => ("AtariGardenModel", "parent", "[I", true)
  | 38 => ("AtariGardenModel", "root", "[I", true)
  | 39 => ("AtariGardenModel", "move", "[I", true)
  | 40 => ("AtariGardenModel", "game", "[I", true)
  | 41 => ("AtariGardenModel", "number", "[I", true)
  | 42 => ("AtariGardenModel", "side", "[I", true)
  | 43 => ("AtariGardenModel", "nodeBlack", "[J", true)
  | 44 => ("AtariGardenModel", "nodeWhite", "[J", true)
  | 45 => ("AtariGardenModel", "marks", "[I", true)
  | 46 => ("AtariGardenModel", "image", "[I", true)
  | _ => ("AtariGardenModel", "thrown", "I", false)
def tyX9 : Nat → FieldType := fun k => match k with
  | 0 => .int
  | 1 => .array .int
  | 2 => .array .int
  | 3 => .array .int
  | 4 => .int
  | 5 => .array .int
  | 6 => .array .int
  | 7 => .array .int
  | 8 => .array .int
  | 9 => .array .int
  | 10 => .array .int
  | 11 => .array .boolean
  | 12 => .array .int
  | 13 => .array .int
  | 14 => .array .int
  | 15 => .array .int
  | 16 => .array .int
  | 17 => .array .int
  | 18 => .array .int
  | 19 => .int
  | 20 => .array .int
  | 21 => .int
  | 22 => .array .long
  | 23 => .array .long
  | 24 => .array .int
  | 25 => .long
  | 26 => .long
  | 27 => .int
  | 28 => .boolean
  | 29 => .array .long
  | 30 => .array .long
  | 31 => .array .long
  | 32 => .array .long
  | 33 => .array .long
  | 34 => .array .long
  | 35 => .array .boolean
  | 36 => .int
  | 37 => .array .int
  | 38 => .array .int
  | 39 => .array .int
  | 40 => .array .int
  | 41 => .array .int
  | 42 => .array .int
  | 43 => .array .long
  | 44 => .array .long
  | 45 => .array .int
  | 46 => .array .int
  | _ => .int
abbrev wsX90 : List Cond := u_ws RX9 TX9 48
theorem nmX9 : ∀ a, a < 48 → ∀ b, b < 48 → a ≠ b → (TX9 a).2.1 ≠ (TX9 b).2.1 := by decide +kernel
theorem tyX9_ok : ∀ k, k < 48 → parseFieldDescriptor (TX9 k).2.2.1 = some (tyX9 k) := by decide +kernel
abbrev cX9_init : ByteArray := prog_11_method_1_code
def yX9_init : MethodName := ⟨RX9, "<init>", "()V"⟩
abbrev cX9_thrown : ByteArray := prog_11_method_2_code
def yX9_thrown : MethodName := ⟨RX9, "thrown", "()I"⟩
abbrev cX9_fails : ByteArray := prog_11_method_3_code
def yX9_fails : MethodName := ⟨RX9, "fails", "(I)Z"⟩
abbrev cX9_isIn : ByteArray := prog_11_method_4_code
def yX9_isIn : MethodName := ⟨RX9, "isIn", "(III)Z"⟩
abbrev cX9_isPlayer : ByteArray := prog_11_method_5_code
def yX9_isPlayer : MethodName := ⟨RX9, "isPlayer", "(I)Z"⟩
abbrev cX9_isGame : ByteArray := prog_11_method_6_code
def yX9_isGame : MethodName := ⟨RX9, "isGame", "(I)Z"⟩
abbrev cX9_isPoint : ByteArray := prog_11_method_7_code
def yX9_isPoint : MethodName := ⟨RX9, "isPoint", "(I)Z"⟩
abbrev cX9_around : ByteArray := prog_11_method_8_code
def yX9_around : MethodName := ⟨RX9, "around", "(J)J"⟩
abbrev cX9_flood : ByteArray := prog_11_method_9_code
def yX9_flood : MethodName := ⟨RX9, "flood", "(JJ)J"⟩
abbrev cX9_bit : ByteArray := prog_11_method_10_code
def yX9_bit : MethodName := ⟨RX9, "bit", "(I)J"⟩
abbrev cX9_bits : ByteArray := prog_11_method_11_code
def yX9_bits : MethodName := ⟨RX9, "bits", "(J)I"⟩
abbrev cX9_free : ByteArray := prog_11_method_12_code
def yX9_free : MethodName := ⟨RX9, "free", "(JJJ)J"⟩
abbrev cX9_dead : ByteArray := prog_11_method_13_code
def yX9_dead : MethodName := ⟨RX9, "dead", "(JJJ)J"⟩
abbrev cX9_puts : ByteArray := prog_11_method_14_code
def yX9_puts : MethodName := ⟨RX9, "puts", "(JJII)V"⟩
abbrev cX9_player : ByteArray := prog_11_method_15_code
def yX9_player : MethodName := ⟨RX9, "player", "(I)I"⟩
abbrev cX9_rank : ByteArray := prog_11_method_16_code
def yX9_rank : MethodName := ⟨RX9, "rank", "(I)I"⟩
abbrev cX9_plays : ByteArray := prog_11_method_17_code
def yX9_plays : MethodName := ⟨RX9, "plays", "(I)Z"⟩
abbrev cX9_apart : ByteArray := prog_11_method_18_code
def yX9_apart : MethodName := ⟨RX9, "apart", "(II)I"⟩
abbrev cX9_handicapOf : ByteArray := prog_11_method_19_code
def yX9_handicapOf : MethodName := ⟨RX9, "handicapOf", "(II)I"⟩
abbrev cX9_blackOf : ByteArray := prog_11_method_20_code
def yX9_blackOf : MethodName := ⟨RX9, "blackOf", "(II)I"⟩
abbrev cX9_stones : ByteArray := prog_11_method_21_code
def yX9_stones : MethodName := ⟨RX9, "stones", "(I)J"⟩
abbrev cX9_keeps : ByteArray := prog_11_method_22_code
def yX9_keeps : MethodName := ⟨RX9, "keeps", "(JJI)I"⟩
abbrev cX9_game : ByteArray := prog_11_method_23_code
def yX9_game : MethodName := ⟨RX9, "game", "(IIIII)I"⟩
abbrev cX9_sideOf : ByteArray := prog_11_method_24_code
def yX9_sideOf : MethodName := ⟨RX9, "sideOf", "(II)I"⟩
abbrev cX9_grows : ByteArray := prog_11_method_25_code
def yX9_grows : MethodName := ⟨RX9, "grows", "(IZ)V"⟩
abbrev cX9_counts : ByteArray := prog_11_method_26_code
def yX9_counts : MethodName := ⟨RX9, "counts", "(I)V"⟩
abbrev cX9_ends : ByteArray := prog_11_method_27_code
def yX9_ends : MethodName := ⟨RX9, "ends", "(II)V"⟩
abbrev cX9_runsOut : ByteArray := prog_11_method_28_code
def yX9_runsOut : MethodName := ⟨RX9, "runsOut", "(II)Z"⟩
abbrev cX9_wasThere : ByteArray := prog_11_method_29_code
def yX9_wasThere : MethodName := ⟨RX9, "wasThere", "(IJJ)Z"⟩
abbrev cX9_isEmpty : ByteArray := prog_11_method_30_code
def yX9_isEmpty : MethodName := ⟨RX9, "isEmpty", "(JJI)Z"⟩
abbrev cX9_canPlay : ByteArray := prog_11_method_31_code
def yX9_canPlay : MethodName := ⟨RX9, "canPlay", "(II)Z"⟩
abbrev cX9_play : ByteArray := prog_11_method_32_code
def yX9_play : MethodName := ⟨RX9, "play", "(III)I"⟩
abbrev cX9_pass : ByteArray := prog_11_method_33_code
def yX9_pass : MethodName := ⟨RX9, "pass", "(II)I"⟩
abbrev cX9_resign : ByteArray := prog_11_method_34_code
def yX9_resign : MethodName := ⟨RX9, "resign", "(I)I"⟩
abbrev cX9_stateOf : ByteArray := prog_11_method_35_code
def yX9_stateOf : MethodName := ⟨RX9, "stateOf", "(I)I"⟩
abbrev cX9_state : ByteArray := prog_11_method_36_code
def yX9_state : MethodName := ⟨RX9, "state", "(I)I"⟩
abbrev cX9_handicap : ByteArray := prog_11_method_37_code
def yX9_handicap : MethodName := ⟨RX9, "handicap", "(I)I"⟩
abbrev cX9_sign : ByteArray := prog_11_method_38_code
def yX9_sign : MethodName := ⟨RX9, "sign", "(II)C"⟩
abbrev cX9_clock : ByteArray := prog_11_method_39_code
def yX9_clock : MethodName := ⟨RX9, "clock", "(II)I"⟩
abbrev cX9_scoreOf : ByteArray := prog_11_method_40_code
def yX9_scoreOf : MethodName := ⟨RX9, "scoreOf", "(I)I"⟩
abbrev cX9_score : ByteArray := prog_11_method_41_code
def yX9_score : MethodName := ⟨RX9, "score", "(I)I"⟩
abbrev cX9_libertiesOf : ByteArray := prog_11_method_42_code
def yX9_libertiesOf : MethodName := ⟨RX9, "libertiesOf", "(II)I"⟩
abbrev cX9_chainAt : ByteArray := prog_11_method_43_code
def yX9_chainAt : MethodName := ⟨RX9, "chainAt", "(JJI)J"⟩
abbrev cX9_liberties : ByteArray := prog_11_method_44_code
def yX9_liberties : MethodName := ⟨RX9, "liberties", "(II)I"⟩
abbrev cX9_flooded : ByteArray := prog_11_method_45_code
def yX9_flooded : MethodName := ⟨RX9, "flooded", "(II)I"⟩
abbrev cX9_finds : ByteArray := prog_11_method_46_code
def yX9_finds : MethodName := ⟨RX9, "finds", "(I)V"⟩
abbrev cX9_dueOf : ByteArray := prog_11_method_47_code
def yX9_dueOf : MethodName := ⟨RX9, "dueOf", "(I)I"⟩
abbrev cX9_isOff : ByteArray := prog_11_method_48_code
def yX9_isOff : MethodName := ⟨RX9, "isOff", "(I)Z"⟩
abbrev cX9_off : ByteArray := prog_11_method_49_code
def yX9_off : MethodName := ⟨RX9, "off", "()I"⟩
abbrev cX9_judge : ByteArray := prog_11_method_50_code
def yX9_judge : MethodName := ⟨RX9, "judge", "(I)I"⟩
abbrev cX9_due : ByteArray := prog_11_method_51_code
def yX9_due : MethodName := ⟨RX9, "due", "(I)I"⟩
abbrev cX9_settle : ByteArray := prog_11_method_52_code
def yX9_settle : MethodName := ⟨RX9, "settle", "()I"⟩
abbrev cX9_attacks : ByteArray := prog_11_method_53_code
def yX9_attacks : MethodName := ⟨RX9, "attacks", "(JJII)J"⟩
abbrev cX9_replies : ByteArray := prog_11_method_54_code
def yX9_replies : MethodName := ⟨RX9, "replies", "(JJII)J"⟩
abbrev cX9_lowest : ByteArray := prog_11_method_55_code
def yX9_lowest : MethodName := ⟨RX9, "lowest", "(J)I"⟩
abbrev cX9_libertiesAt : ByteArray := prog_11_method_56_code
def yX9_libertiesAt : MethodName := ⟨RX9, "libertiesAt", "(JJI)I"⟩
abbrev cX9_allowed : ByteArray := prog_11_method_57_code
def yX9_allowed : MethodName := ⟨RX9, "allowed", "(JJIJ)J"⟩
abbrev cX9_catches : ByteArray := prog_11_method_58_code
def yX9_catches : MethodName := ⟨RX9, "catches", "(JJIII)Z"⟩
abbrev cX9_reads : ByteArray := prog_11_method_59_code
def yX9_reads : MethodName := ⟨RX9, "reads", "(IIII)Z"⟩
abbrev cX9_ladder : ByteArray := prog_11_method_60_code
def yX9_ladder : MethodName := ⟨RX9, "ladder", "(III)Z"⟩
abbrev cX9_net : ByteArray := prog_11_method_61_code
def yX9_net : MethodName := ⟨RX9, "net", "(III)Z"⟩
abbrev cX9_isNode : ByteArray := prog_11_method_62_code
def yX9_isNode : MethodName := ⟨RX9, "isNode", "(I)Z"⟩
abbrev cX9_position : ByteArray := prog_11_method_63_code
def yX9_position : MethodName := ⟨RX9, "position", "(II)I"⟩
abbrev cX9_makes : ByteArray := prog_11_method_64_code
def yX9_makes : MethodName := ⟨RX9, "makes", "(IIJJI)I"⟩
abbrev cX9_lesson : ByteArray := prog_11_method_65_code
def yX9_lesson : MethodName := ⟨RX9, "lesson", "(II)I"⟩
abbrev cX9_child : ByteArray := prog_11_method_66_code
def yX9_child : MethodName := ⟨RX9, "child", "(II)I"⟩
abbrev cX9_canBranch : ByteArray := prog_11_method_67_code
def yX9_canBranch : MethodName := ⟨RX9, "canBranch", "(II)Z"⟩
abbrev cX9_branch : ByteArray := prog_11_method_68_code
def yX9_branch : MethodName := ⟨RX9, "branch", "(II)I"⟩
abbrev cX9_mark : ByteArray := prog_11_method_69_code
def yX9_mark : MethodName := ⟨RX9, "mark", "(III)I"⟩
abbrev cX9_node : ByteArray := prog_11_method_70_code
def yX9_node : MethodName := ⟨RX9, "node", "(I)I"⟩
abbrev cX9_isRoot : ByteArray := prog_11_method_71_code
def yX9_isRoot : MethodName := ⟨RX9, "isRoot", "(I)Z"⟩
abbrev cX9_lacks : ByteArray := prog_11_method_72_code
def yX9_lacks : MethodName := ⟨RX9, "lacks", "(II)I"⟩
abbrev cX9_merge : ByteArray := prog_11_method_73_code
def yX9_merge : MethodName := ⟨RX9, "merge", "(II)I"⟩
def RL : String := "AtariGardenLaw"
abbrev cL_player : ByteArray := method_3_code
def yL_player : MethodName := ⟨RL, "player", "(LAtariGarden;I[J)I"⟩
abbrev cL_rank : ByteArray := method_4_code
def yL_rank : MethodName := ⟨RL, "rank", "(LAtariGarden;I[J)I"⟩
abbrev cL_game : ByteArray := method_5_code
def yL_game : MethodName := ⟨RL, "game", "(LAtariGarden;IIIII[J)I"⟩
abbrev cL_play : ByteArray := method_6_code
def yL_play : MethodName := ⟨RL, "play", "(LAtariGarden;III[J)I"⟩
abbrev cL_pass : ByteArray := method_7_code
def yL_pass : MethodName := ⟨RL, "pass", "(LAtariGarden;II[J)I"⟩
abbrev cL_resign : ByteArray := method_8_code
def yL_resign : MethodName := ⟨RL, "resign", "(LAtariGarden;I[J)I"⟩
abbrev cL_state : ByteArray := method_9_code
def yL_state : MethodName := ⟨RL, "state", "(LAtariGarden;I[J)I"⟩
abbrev cL_handicap : ByteArray := method_10_code
def yL_handicap : MethodName := ⟨RL, "handicap", "(LAtariGarden;I[J)I"⟩
abbrev cL_sign : ByteArray := method_11_code
def yL_sign : MethodName := ⟨RL, "sign", "(LAtariGarden;II[J)I"⟩
abbrev cL_clock : ByteArray := method_12_code
def yL_clock : MethodName := ⟨RL, "clock", "(LAtariGarden;II[J)I"⟩
abbrev cL_score : ByteArray := method_13_code
def yL_score : MethodName := ⟨RL, "score", "(LAtariGarden;I[J)I"⟩
abbrev cL_liberties : ByteArray := method_14_code
def yL_liberties : MethodName := ⟨RL, "liberties", "(LAtariGarden;II[J)I"⟩
abbrev cL_flooded : ByteArray := method_15_code
def yL_flooded : MethodName := ⟨RL, "flooded", "(LAtariGarden;II[J)I"⟩
abbrev cL_judge : ByteArray := method_16_code
def yL_judge : MethodName := ⟨RL, "judge", "(LAtariGarden;I[J)I"⟩
abbrev cL_due : ByteArray := method_17_code
def yL_due : MethodName := ⟨RL, "due", "(LAtariGarden;I[J)I"⟩
abbrev cL_ladder : ByteArray := method_18_code
def yL_ladder : MethodName := ⟨RL, "ladder", "(LAtariGarden;III[J)I"⟩
abbrev cL_net : ByteArray := method_19_code
def yL_net : MethodName := ⟨RL, "net", "(LAtariGarden;III[J)I"⟩
abbrev cL_lesson : ByteArray := method_20_code
def yL_lesson : MethodName := ⟨RL, "lesson", "(LAtariGarden;II[J)I"⟩
abbrev cL_branch : ByteArray := method_21_code
def yL_branch : MethodName := ⟨RL, "branch", "(LAtariGarden;II[J)I"⟩
abbrev cL_mark : ByteArray := method_22_code
def yL_mark : MethodName := ⟨RL, "mark", "(LAtariGarden;III[J)I"⟩
abbrev cL_node : ByteArray := method_23_code
def yL_node : MethodName := ⟨RL, "node", "(LAtariGarden;I[J)I"⟩
abbrev cL_merge : ByteArray := method_24_code
def yL_merge : MethodName := ⟨RL, "merge", "(LAtariGarden;II[J)I"⟩
abbrev cL_law : ByteArray := code
def yL_law : MethodName := ⟨RL, "law", "([I)Z"⟩
abbrev vwCl : List vw_C := [(RX1, TX1, 3), (RX2, TX2, 6), (RX3, TX3, 10), (RX4, TX4, 6), (RX6, TX6, 3), (RX7, TX7, 8), (RX8, TX8, 2), (RX9, TX9, 48)]
end
section
/-! ===== BEGIN words of one list among another's, by their places ===== -/
theorem goodIn_r {big : List Cond} (ws : List Cond) (ps : List Nat) (hp : ws = ps.filterMap (fun i => big[i]?)) (h : ws.all goodWord = true) : GoodIn big ws := by
  intro w hw
  have h1 := List.all_eq_true.mp h w hw
  rw [hp] at hw
  obtain ⟨i, -, hi⟩ := List.mem_filterMap.mp hw
  have hm : w ∈ big := by first | exact List.mem_of_getElem? hi | exact List.getElem?_mem hi
  exact ⟨hm, good_of_word h1⟩
theorem goodIn_app {big a b : List Cond} (ha : GoodIn big a) (hb : GoodIn big b) : GoodIn big (a ++ b) := fun w h => (List.mem_append.mp h).elim (ha w) (hb w)
theorem goodIn_ca {big a b : List Cond} {c : Cond} (ha : GoodIn big (c :: a)) (hb : GoodIn big b) : GoodIn big (c :: (a ++ b)) := fun w h => (List.mem_cons.mp h).elim (fun e => ha w (List.mem_cons.mpr (Or.inl e))) (fun h => (List.mem_append.mp h).elim (fun h => ha w (List.mem_cons.mpr (Or.inr h))) (hb w))
theorem goodIn_sub {big ws : List Cond} (hm : ∀ w ∈ ws, w ∈ big) (h : ws.all goodWord = true) : GoodIn big ws := fun w hw => ⟨hm w hw, good_of_word (List.all_eq_true.mp h w hw)⟩
/-! ===== END ===== -/

/-! ===== BEGIN exceptions that leave a method, and their catching by the caller (launches without stack traces) ===== -/
section VXA
/-! The laws vx_back, vx_callV, vx_callS, vx_callSW, vx_throw0, vx_throwS follow proofs of the library, with one case more: JvmDerived/Free/Laws.lean (Back.of_free), Shelf42/LK1.lean (callV, callS), Shelf/KitTraced.lean (throwNew0V, throwNewS). -/
/-- where a method has thrown q: the class by its name, the cell, what was written, the world -/
def vx_T (XC : String → State → State → Prop) (st : State) (q : Addr) (t : State) (mc ms : Nat) (free : Addr → Prop) : Prop :=
  ∃ (E : String) (ce : Cell) (L : List Loc), XC E st t ∧ t.heap[q]? = some ce ∧ ce.vm = .none ∧ st.vm.findClass E = some ce.cls ∧ st.WarmedH t.vm ∧ st.sameButNew ({ t with vm := st.vm } : State) L mc ms ∧ ∀ z ∈ L, free z.base
def vx_Q (Qc : Array Value → State → Outcome → State → Prop) (XC : String → State → State → Prop) (mc ms : Nat) (free : Addr → Prop) : Array Value → State → Outcome → State → Prop := fun a st o t =>
  (Qc a st o t ∧ ∃ L, FrameEnd st o t L mc ms ∧ ∀ q ∈ L, free q.base) ∨ ∃ q, o = .threw q ∧ vx_T XC st q t mc ms free
/-- a callee that returns or throws -/
def vx_Met (l : Launch) (y : MethodName) (ws : List Cond) (rm : Room) (Pc : Array Value → State → Prop) (Qc : Array Value → State → Outcome → State → Prop) (XC : String → State → State → Prop) (mc ms : Nat) (free : Addr → Prop) : Prop :=
  MetFree l y (headSpec ws rm) Pc (fun _ _ _ _ _ => True) (vx_Q Qc XC mc ms free)
def vx_Post (XC : String → State → State → Prop) (mc ms : Nat) (free : Addr → Prop) : Pt → Array Value → Addr → Pt → Prop := fun A a q B =>
  ∃ (g : JFrame) (mk : MethodId) (t : State) (L : List Loc) (E : String) (ce : Cell), B.U.heap = t.heap ∧ B.U.vm = t.vm ∧ XC E (A.U.calling g mk a) t ∧ t.heap[q]? = some ce ∧ ce.vm = .none ∧ A.U.vm.findClass E = some ce.cls ∧ B.locs = A.locs ++ L ∧ (∀ z ∈ L, free z.base) ∧ B.cells = A.cells + mc ∧ B.slots = A.slots + ms
def vx_Back (l : Launch) (R : Room) (p : Program) (e : Env) (below : List Frame) (s : State) (sargs : Array Value) (y : MethodName) (len W9 : Nat)
    (Pre : Pt → Array Value → Prop) (Post : Pt → Array Value → Option Value → Pt → Prop) (PostX : Pt → Array Value → Addr → Pt → Prop) : Prop :=
  ∀ (m : MethodId) (meth : Method) (c : Code) (A : Pt) (g : JFrame) (ig : Instr) (mk : MethodId) (a : Array Value),
    Stand p l e R s m sargs below meth c A.U A.locs A.cells A.slots → g.method = m → g.locals.size = c.maxLocals → decode c.code g.pc = .ok (ig, len) →
    2 * g.monitorRoom + (g.stack.map fun v => v.category).sum ≤ W9 → A.U.methodNamed? y = some mk → Pre A a →
    (∃ (v : Option Value) (B : Pt), Stand p l e R s m sargs below meth c B.U B.locs B.cells B.slots ∧ Post A a v B ∧
      Steps p.tables e below (doInvoke e (A.U.setTop g) [] mk a).1 (B.U.setTop { g with pc := g.pc + len, stack := v.toList ++ g.stack })) ∨
    (∃ (q : Addr) (B : Pt), Stand p l e R s m sargs below meth c B.U B.locs B.cells B.slots ∧ PostX A a q B ∧
      Steps p.tables e below (doInvoke e (A.U.setTop g) [] mk a).1 ((B.U.setTop g).pushFrame (.throwing q)))
section Payer
variable {l : Launch} {R : Room} {p : Program} {e : Env} {below : List Frame} {s : State} {sargs : Array Value} {y : MethodName} {len W9 : Nat}
theorem vx_back {ws : List Cond} {rm : Room} {Pc : Array Value → State → Prop} {Qc : Array Value → State → Outcome → State → Prop} {XC : String → State → State → Prop} {mc ms : Nat} {free : Addr → Prop} {bytes : ByteArray} {maxL : Nat} {ret : Option FieldType}
    (hM : vx_Met l y ws rm Pc Qc XC mc ms free) (hblind : FrameBlind Pc) (hrc : rm.cells = mc) (hrs : rm.slots = ms)
    (hframes : rm.frames + 1 ≤ R.frames) (hlocals : W9 + (maxL + 11) + rm.locals ≤ R.locals)
    (hws : ∀ w ∈ ws, ∀ a' U, s.WarmedH U.vm → w.before a' U = true) (hcode : Cond.code y bytes maxL ret ∈ ws) (hinit : ∀ a' U, s.WarmedH U.vm → (Cond.initialized y.cls).before a' U = true) :
    vx_Back l R p e below s sargs y len W9 (PreOf R mc ms Pc) (PostOf Qc mc ms free) (vx_Post XC mc ms free) := by
  intro m meth c A g ig mk a X hg hsize hdg hW hn hp
  have h1 : (headSpec ws rm).pre.before a A.U = true := atoms_intro fun w hw => hws w hw _ _ X.warmed
  have h2 : (Cond.code y bytes maxL ret).before a A.U = true := hws _ hcode _ _ X.warmed
  have h3 : (Cond.initialized y.cls).before a A.U = true := hinit _ _ X.warmed
  have h4 : A.cells + (headSpec ws rm).room.cells ≤ R.cells := by rw [show (headSpec ws rm).room.cells = mc from hrc]; exact hp.1
  have h5 : A.slots + (headSpec ws rm).room.slots ≤ R.slots := by rw [show (headSpec ws rm).room.slots = ms from hrs]; exact hp.2.1
  have hPc : Pc a (A.U.calling g mk a) := hblind _ _ _ _ hp.2.2
  obtain ⟨U, Ls, c0, s0⟩ := A
  dsimp only [Pt.U, Pt.locs, Pt.cells, Pt.slots] at h1 h2 h3 h4 h5 X hn hPc ⊢
  obtain ⟨methY, cY, hmY, hcY, -, hlY, -, -, -, -⟩ := Cond.code_spec hn h2
  obtain ⟨kY, hkY, -⟩ := className_of_methodNamed hn
  have hinitY : kY.init = .initialized := Cond.initialized_spec (findClass_of_methodNamed hn) hkY h3
  have h : At U g.method c below := by rw [hg]; exact X.here
  have hlocals9 : W9 + (maxL + 11) + (headSpec ws rm).room.locals ≤ R.locals := hlocals
  have happ : (headSpec ws rm).appliesLoose y e.platform (U.calling g mk a) = true :=
    Spec.appliesLoose_calling (g := g) h hdg hn hkY hinitY
      (X.room_calling (g := g) (R' := (headSpec ws rm).room) hsize hmY hcY hframes (by rw [hlY]; omega) h4 h5) h1
  obtain ⟨mid, hmid⟩ := h.above
  have hfr : (U.setTop g).frames = (.java g :: mid) ++ below := by rw [State.frames_setTop' g h.top, hmid]; rfl
  obtain ⟨o, s₂, hsteps, -, hend, hq⟩ := Steps.callFree hM p X.admits X.cas X.clock (acts := []) hfr happ hPc trivial
  have hq' : vx_Q Qc XC mc ms free a (U.calling g mk a) o s₂ := hq
  rw [State.frames_setTop' g h.top] at hend
  obtain ⟨g₀, hg0⟩ := Option.isSome_iff_exists.mp h.top
  obtain ⟨r, hr⟩ := State.topJava?_eq_some.mp hg0
  have hr' : (({ U with heap := s₂.heap, slotsUsed := s₂.slotsUsed } : State).setVm s₂.vm).frames = .java g₀ :: r := hr
  rcases hq' with ⟨hqc, L, hfe, hL⟩ | ⟨q, rfl, E, ce, L, hx, hce, hcv, hcl, hW₂, hsm, hL⟩
  · obtain ⟨⟨v, rfl⟩, hW₂, e2, q2, q3, q4, q5, q6⟩ := id hfe
    have e3 : s₂ = ({ (U.calling g mk a).setFrames s₂.frames with heap := s₂.heap, slotsUsed := s₂.slotsUsed } : State).setVm s₂.vm := by
      have : s₂ = ({ s₂ with vm := (U.calling g mk a).vm } : State).setVm s₂.vm := rfl
      rw [e2] at this
      exact this
    obtain ⟨c₂, i₂, len₂, hc₂, hd₂, hf₂⟩ := hend
    have hW' : U.WarmedH s₂.vm := hW₂
    have hcc : c₂ = c := by
      have h1 : s₂.code? g.method = U.code? g.method := by
        rw [State.code?_eq, State.code?_eq, hW'.alike.method?]
      exact Option.some.inj (hc₂.symm.trans (h1.trans h.code))
    subst hcc
    have hlen : len₂ = len := by rw [hdg] at hd₂; cases hd₂; rfl
    subst hlen
    have hs₂ : s₂ = (({ U with heap := s₂.heap, slotsUsed := s₂.slotsUsed } : State).setVm s₂.vm).setTop { g with pc := g.pc + len₂, stack := v.toList ++ g.stack } := by
      refine e3.trans ?_
      rw [hf₂, State.calling_eq h.top, State.setFrames_setFrames, State.setTop_of_frames _ hr', hr]
      rfl
    have hsame : U.sameButNew ({ U with heap := s₂.heap, slotsUsed := s₂.slotsUsed } : State) L mc ms := by
      refine ⟨?_, q2, q3, q4, q5, q6⟩
      obtain ⟨t, ht, -⟩ := State.frames_cons hr
      show ({ U with heap := s₂.heap, slotsUsed := s₂.slotsUsed } : State) = { U.setFrames U.frames with heap := s₂.heap, slotsUsed := s₂.slotsUsed }
      rw [State.setFrames_self ht]
    subst hg
    refine Or.inl ⟨v, ⟨(({ U with heap := s₂.heap, slotsUsed := s₂.slotsUsed } : State).setVm s₂.vm), Ls ++ L, c0 + mc, s0 + ms⟩,
      ⟨X.admits, X.cas, X.clock, X.frames, X.room, X.hears, X.method, X.code, (X.here.setHeapUsed s₂.heap s₂.slotsUsed).setVm hW'.alike, X.tail, State.WarmedH.trans X.warmed hW', X.limits, X.bytes, X.same.trans (hsame.setVm s.vm)⟩,
      ⟨g, mk, s₂, L, rfl, rfl, hqc, rfl, hL, rfl, rfl⟩, ?_⟩
    show Steps p.tables e below _ ((({ U with heap := s₂.heap, slotsUsed := s₂.slotsUsed } : State).setVm s₂.vm).setTop { g with pc := g.pc + len₂, stack := v.toList ++ g.stack })
    rw [← hs₂]
    exact hsteps
  · obtain ⟨e2, q2, q3, q4, q5, q6⟩ := id hsm
    have e3 : s₂ = ({ (U.calling g mk a).setFrames s₂.frames with heap := s₂.heap, slotsUsed := s₂.slotsUsed } : State).setVm s₂.vm := by
      have : s₂ = ({ s₂ with vm := (U.calling g mk a).vm } : State).setVm s₂.vm := rfl
      rw [e2] at this
      exact this
    have hf₂ : s₂.frames = .throwing q :: .java g :: U.frames.tail := hend
    have hW' : U.WarmedH s₂.vm := hW₂
    have hs₂ : s₂ = ((({ U with heap := s₂.heap, slotsUsed := s₂.slotsUsed } : State).setVm s₂.vm).setTop g).pushFrame (.throwing q) := by
      refine e3.trans ?_
      rw [hf₂, State.calling_eq h.top, State.setFrames_setFrames, State.pushFrame, State.frames_setTop _ hr', State.setTop_of_frames _ hr', State.setFrames_setFrames, hr]
      rfl
    have hsame : U.sameButNew ({ U with heap := s₂.heap, slotsUsed := s₂.slotsUsed } : State) L mc ms := by
      refine ⟨?_, q2, q3, q4, q5, q6⟩
      obtain ⟨t, ht, -⟩ := State.frames_cons hr
      show ({ U with heap := s₂.heap, slotsUsed := s₂.slotsUsed } : State) = { U.setFrames U.frames with heap := s₂.heap, slotsUsed := s₂.slotsUsed }
      rw [State.setFrames_self ht]
    subst hg
    refine Or.inr ⟨q, ⟨(({ U with heap := s₂.heap, slotsUsed := s₂.slotsUsed } : State).setVm s₂.vm), Ls ++ L, c0 + mc, s0 + ms⟩,
      ⟨X.admits, X.cas, X.clock, X.frames, X.room, X.hears, X.method, X.code, (X.here.setHeapUsed s₂.heap s₂.slotsUsed).setVm hW'.alike, X.tail, State.WarmedH.trans X.warmed hW', X.limits, X.bytes, X.same.trans (hsame.setVm s.vm)⟩,
      ⟨g, mk, s₂, L, E, ce, rfl, rfl, hx, hce, hcv, hcl, rfl, hL, rfl, rfl⟩, ?_⟩
    show Steps p.tables e below _ (((({ U with heap := s₂.heap, slotsUsed := s₂.slotsUsed } : State).setVm s₂.vm).setTop g).pushFrame (.throwing q))
    rw [← hs₂]
    exact hsteps
end Payer
section Calls
variable {p : Program} {l : Launch} {e : Env} {R : Room} {s : State} {m : MethodId} {args : Array Value} {below : List Frame} {meth : Method} {c : Code} {T : State} {locs : List Loc} {cells slots : Nat}
theorem vx_callV (X : Stand p l e R s m args below meth c T locs cells slots) (hexec : p.tables.exec = Jvm.exec) {own C : String} {index : Nat} {y : MethodName} {bytes : ByteArray} {maxL : Nat} {ret : Option FieldType}
    (hown : s.vm.findClass own = some m.cls) (hlink : (Cond.methodLink own index y).before args s = true) (hinst : (Cond.instanceMethod y).before args s = true) (hsel : (Cond.selects C y y).before args s = true)
    (hcode : (Cond.code y bytes maxL ret).before args s = true) (hy : y.cls ≠ "java/lang/invoke/MethodHandle" ∧ y.cls ≠ "java/lang/invoke/VarHandle")
    {W9 : Nat} {Pre : Pt → Array Value → Prop} {Post : Pt → Array Value → Option Value → Pt → Prop} {PostX : Pt → Array Value → Addr → Pt → Prop} (hK : vx_Back l R p e below s args y 3 W9 Pre Post PostX)
    {b : Addr} {cellB : Cell} (hcell : T.heap[b]? = some cellB) (hobj : cellB.vm.isStatics = false) (hcls : s.vm.findClass C = some cellB.cls)
    {g : JFrame} (hg : g.method = m) (hsize : g.locals.size = c.maxLocals) {argsL rest : List Value} (hlen : ∀ sig, parseMethodDescriptor y.desc = some sig → argsL.length = sig.parameters.length)
    (hstack : g.stack = argsL.reverse ++ .ref b :: rest) (hW : 2 * g.monitorRoom + (rest.map fun v => v.category).sum ≤ W9) (hdg : decode c.code g.pc = .ok (.invokevirtual index, 3))
    (hpre : ∀ vm₁, s.WarmedH vm₁ → Pre ⟨T.setVm vm₁, locs, cells, slots⟩ (Value.ref b :: argsL).toArray) :
    (∃ (v : Option Value) (vm₁ : Vm) (B : Pt), s.WarmedH vm₁ ∧ Stand p l e R s m args below meth c B.U B.locs B.cells B.slots ∧ Post ⟨T.setVm vm₁, locs, cells, slots⟩ (Value.ref b :: argsL).toArray v B ∧
      ∀ target, Steps p.tables e below (B.U.setTop { g with pc := g.pc + 3, stack := v.toList ++ rest }) target → Steps p.tables e below (T.setTop g) target) ∨
    (∃ (q : Addr) (vm₁ : Vm) (B : Pt), s.WarmedH vm₁ ∧ Stand p l e R s m args below meth c B.U B.locs B.cells B.slots ∧ PostX ⟨T.setVm vm₁, locs, cells, slots⟩ (Value.ref b :: argsL).toArray q B ∧
      Steps p.tables e below (T.setTop g) ((B.U.setTop { g with stack := rest }).pushFrame (.throwing q))) := by
  obtain ⟨mk, methM, hnamed, hmethM, hstM, habM⟩ := Cond.instanceMethod_spec hinst
  obtain ⟨methM', cM, hmethM', -, -, -, -, -, -, hsigM⟩ := Cond.code_spec hnamed hcode
  cases hmethM.symm.trans hmethM'
  obtain ⟨c2, r2, m2, q1, q2, q3, q4, kP, hkP, hkPi⟩ := Cond.selects_spec hsel
  cases hcls.symm.trans q1
  cases (State.methodFound?_of_named hnamed hy).symm.trans q2
  cases hnamed.symm.trans q3
  have hselP : selectMethod e.platform s.vm cellB.cls mk = .method mk := by rw [Launch.admits_selectMethod X.admits]; exact q4
  obtain ⟨vm₁, X₁, hstep₁⟩ := X.invokevirtual hexec hown hlink hnamed hmethM hstM hkP hkPi hy (a := b) (cell := cellB) hcell
    (fun z h => by rw [h] at hobj; cases hobj) hselP hmethM habM hkP hkPi (g := g) hg (argsL := argsL) (rest := rest) (hlen _ hsigM) hstack hdg
  rcases hK m meth c ⟨T.setVm vm₁, locs, cells, slots⟩ { g with stack := rest } (.invokevirtual index) mk (Value.ref b :: argsL).toArray X₁ hg hsize hdg hW (X₁.named hnamed) (hpre vm₁ X₁.warmed) with ⟨v, B, X', hpost, hsteps⟩ | ⟨q, B, X', hpost, hsteps⟩
  · exact Or.inl ⟨v, vm₁, B, X₁.warmed, X', hpost, fun target h => hstep₁ _ fun acts => by rw [doInvoke_state]; exact hsteps.trans h⟩
  · exact Or.inr ⟨q, vm₁, B, X₁.warmed, X', hpost, hstep₁ _ fun acts => by rw [doInvoke_state]; exact hsteps⟩
theorem vx_callS (X : Stand p l e R s m args below meth c T locs cells slots) (hexec : p.tables.exec = Jvm.exec) {own : String} {index : Nat} {y : MethodName} {bytes : ByteArray} {maxL : Nat} {ret : Option FieldType}
    (hown : s.vm.findClass own = some m.cls) (hlink : (Cond.methodLink own index y).before args s = true) (hstat : (Cond.static y).before args s = true) (hinit : (Cond.initialized y.cls).before args s = true)
    (hcode : (Cond.code y bytes maxL ret).before args s = true) (hy : y.cls ≠ "java/lang/invoke/MethodHandle" ∧ y.cls ≠ "java/lang/invoke/VarHandle")
    {W9 : Nat} {Pre : Pt → Array Value → Prop} {Post : Pt → Array Value → Option Value → Pt → Prop} {PostX : Pt → Array Value → Addr → Pt → Prop} (hK : vx_Back l R p e below s args y 3 W9 Pre Post PostX)
    {g : JFrame} (hg : g.method = m) (hsize : g.locals.size = c.maxLocals) {argsL rest : List Value} (hlen : ∀ sig, parseMethodDescriptor y.desc = some sig → argsL.length = sig.parameters.length)
    (hstack : g.stack = argsL.reverse ++ rest) (hW : 2 * g.monitorRoom + (rest.map fun v => v.category).sum ≤ W9) (hdg : decode c.code g.pc = .ok (.invokestatic index, 3))
    (hpre : ∀ vm₁, s.WarmedH vm₁ → Pre ⟨T.setVm vm₁, locs, cells, slots⟩ argsL.toArray) :
    (∃ (v : Option Value) (vm₁ : Vm) (B : Pt), s.WarmedH vm₁ ∧ Stand p l e R s m args below meth c B.U B.locs B.cells B.slots ∧ Post ⟨T.setVm vm₁, locs, cells, slots⟩ argsL.toArray v B ∧
      ∀ target, Steps p.tables e below (B.U.setTop { g with pc := g.pc + 3, stack := v.toList ++ rest }) target → Steps p.tables e below (T.setTop g) target) ∨
    (∃ (q : Addr) (vm₁ : Vm) (B : Pt), s.WarmedH vm₁ ∧ Stand p l e R s m args below meth c B.U B.locs B.cells B.slots ∧ PostX ⟨T.setVm vm₁, locs, cells, slots⟩ argsL.toArray q B ∧
      Steps p.tables e below (T.setTop g) ((B.U.setTop { g with stack := rest }).pushFrame (.throwing q))) := by
  obtain ⟨mk, hnamed⟩ := Cond.code_named hcode
  obtain ⟨methM, cM, hmethM, -, -, -, -, -, -, hsigM⟩ := Cond.code_spec hnamed hcode
  have hstatic : methM.isStatic = true := Cond.static_spec hnamed hmethM hstat
  obtain ⟨kP, hkP, -⟩ := className_of_methodNamed hnamed
  have hinitP : kP.init = .initialized := Cond.initialized_spec (findClass_of_methodNamed hnamed) hkP hinit
  obtain ⟨vm₁, X₁, hstep₁⟩ := X.invokestatic hexec hown hlink hnamed hmethM hstatic hkP hinitP hy (g := g) hg (argsL := argsL) (rest := rest) (hlen _ hsigM) hstack hdg
  rcases hK m meth c ⟨T.setVm vm₁, locs, cells, slots⟩ { g with stack := rest } (.invokestatic index) mk argsL.toArray X₁ hg hsize hdg hW (X₁.named hnamed) (hpre vm₁ X₁.warmed) with ⟨v, B, X', hpost, hsteps⟩ | ⟨q, B, X', hpost, hsteps⟩
  · exact Or.inl ⟨v, vm₁, B, X₁.warmed, X', hpost, fun target h => hstep₁ _ fun acts => by rw [doInvoke_state]; exact hsteps.trans h⟩
  · exact Or.inr ⟨q, vm₁, B, X₁.warmed, X', hpost, hstep₁ _ fun acts => by rw [doInvoke_state]; exact hsteps⟩
end Calls
theorem vx_cls {s : State} {T : State} {vm₁ : Vm} {E : String} {k : ClassId} (hW : s.WarmedH vm₁) (h : (T.setVm vm₁).vm.findClass E = some k) : s.vm.findClass E = some k := by
  have h1 : vm₁.findClass E = some k := h
  rw [hW.alike.findClass] at h1
  exact h1
/-- the method's frame g, with q thrown over it -/
def vx_W (p : Program) (l : Launch) (e : Env) (R : Room) (s : State) (m : MethodId) (args : Array Value) (below : List Frame) (meth : Method) (c : Code) (H : Heap) (locs : List Loc) (cells slots : Nat) (Q : State → Prop) (g : JFrame) (q : Addr) : Prop :=
  ∀ T : State, T.heap = H → Stand p l e R s m args below meth c T locs cells slots → ∃ t, Steps p.tables e below ((T.setTop g).pushFrame (.throwing q)) t ∧ Q t
def vx_Run (p : Program) (l : Launch) (e : Env) (R : Room) (s : State) (m : MethodId) (args : Array Value) (below : List Frame) (meth : Method) (c : Code) (H : Heap) (locs : List Loc) (cells slots mc ms : Nat) (g : JFrame) (rest : List Value) (Qa : State → Outcome → State → Prop) (XC : String → State → State → Prop) (free : Addr → Prop) : Prop :=
  ∀ T : State, T.heap = H → Stand p l e R s m args below meth c T locs cells slots →
    (∃ (v : Option Value) (st₀ t T' : State) (L : List Loc), st₀.heap = H ∧ Stand p l e R s m args below meth c T' (locs ++ L) (cells + mc) (slots + ms) ∧ (∀ q ∈ L, free q.base) ∧ T'.heap = t.heap ∧ T'.vm = t.vm ∧ Qa st₀ (.returned v) t ∧
      Goes p e below T g T' { g with pc := g.pc + 3, stack := v.toList ++ rest }) ∨
    (∃ (q : Addr) (st₀ t T' : State) (L : List Loc) (E : String) (ce : Cell), st₀.heap = H ∧ Stand p l e R s m args below meth c T' (locs ++ L) (cells + mc) (slots + ms) ∧ (∀ z ∈ L, free z.base) ∧ T'.heap = t.heap ∧ T'.vm = t.vm ∧ XC E st₀ t ∧ t.heap[q]? = some ce ∧ ce.vm = .none ∧ s.vm.findClass E = some ce.cls ∧
      Steps p.tables e below (T.setTop g) ((T'.setTop { g with stack := rest }).pushFrame (.throwing q)))
def vx_X {S : Type} (px : S → Prop) (B : String → S → State → Prop) (A : Nat → Prop) : String → State → State → Prop := fun E st t => ∃ u : S, px u ∧ B E u t ∧ va_F A st t
section Runs
variable {p : Program} {l : Launch} {e : Env} {R : Room} {s : State} {m : MethodId} {args : Array Value} {below : List Frame} {meth : Method} {c : Code} {H : Heap} {locs : List Loc} {cells slots : Nat}
variable {y : MethodName} {bytes cc : ByteArray} {maxL nL mc ms n index : Nat} {ret : Option FieldType} {ws : List Cond} {rm : Room} {Pc : Array Value → State → Prop} {Qc : Array Value → State → Outcome → State → Prop} {XC : String → State → State → Prop} {free : Addr → Prop} {Ts : List Cond} {own C : String} {b : Addr} {As rest : List Value} {g : JFrame}
theorem vx_callBack (cb : CallB R s args own index y bytes maxL ret ws rm mc ms n) (hM : vx_Met l y ws rm Pc Qc XC mc ms free) (hbl : FrameBlind Pc) : vx_Back l R p e below s args y 3 8 (PreOf R mc ms Pc) (PostOf Qc mc ms free) (vx_Post XC mc ms free) := by
  obtain ⟨hrc, hrs, hfr, hlo, hws, hcw, -, hini, -⟩ := cb
  exact vx_back (bytes := bytes) (maxL := maxL) (ret := ret) hM hbl hrc hrs hfr hlo hws hcw (fun a' U hW => word_at hW (Or.inl (by first | rfl | simp [Cond.onTables, Cond.keeps, Cond.steady])) hini)
theorem vx_runV (S : CallFix p m c cc nL s args Ts own) (hM : vx_Met l y ws rm Pc Qc XC mc ms free) (cw : CallW R s args own C index y bytes maxL ret ws rm mc ms n) (hp : PreV s H C b Pc As)
    (hg : g.method = m) (hn : As.length = n) (hsize : g.locals.size = nL) (hstack : g.stack = As.reverse ++ .ref b :: rest) (hW : 2 * g.monitorRoom + (rest.map fun v => v.category).sum ≤ 8) (hdg : decode cc g.pc = .ok (.invokevirtual index, 3)) (hf : cells + mc ≤ R.cells ∧ slots + ms ≤ R.slots) :
    vx_Run p l e R s m args below meth c H locs cells slots mc ms g rest (Qc (Value.ref b :: As).toArray) XC free := by
  have hK : vx_Back l R p e below s args y 3 8 (PreOf R mc ms Pc) (PostOf Qc mc ms free) (vx_Post XC mc ms free) := vx_callBack cw.1 hM hp.1
  obtain ⟨⟨-, -, -, -, -, -, hcode, -, hy, hlen, hl⟩, hin, hse⟩ := cw
  obtain ⟨hx, hb, hml, ho, -⟩ := S
  obtain ⟨-, ⟨cellB, hcB, hoB, hclB⟩, hPc⟩ := hp
  intro T hT X
  rcases vx_callV X hx (C := C) (bytes := bytes) (maxL := maxL) (ret := ret) ho hl hin hse hcode hy hK (by rw [hT]; exact hcB) hoB hclB hg (hsize.trans hml.symm) (argsL := As) (rest := rest) (fun sig h => hn.trans (hlen sig h)) hstack hW (by rw [hb]; exact hdg)
    (fun vm₁ hW₁ => ⟨hf.1, hf.2, hPc (T.setVm vm₁) hT hW₁⟩) with ⟨v, vm₁, ⟨U', l2, c2, s2⟩, hW₁, X', ⟨g', mk, t, L, e1, e2, hq, h1, hL, h2, h3⟩, st⟩ | ⟨q, vm₁, ⟨U', l2, c2, s2⟩, hW₁, X', ⟨g', mk, t, L, E, ce, e1, e2, hq, hce, hcv, hcl, h1, hL, h2, h3⟩, st⟩
  · dsimp only [Pt.U, Pt.locs, Pt.cells, Pt.slots] at X' e1 e2 h1 h2 h3 st
    subst h1; subst h2; subst h3
    exact Or.inl ⟨v, (T.setVm vm₁).calling g' mk (Value.ref b :: As).toArray, t, U', L, hT, X', hL, e1, e2, hq, st⟩
  · dsimp only [Pt.U, Pt.locs, Pt.cells, Pt.slots] at X' e1 e2 h1 h2 h3 st hcl
    subst h1; subst h2; subst h3
    exact Or.inr ⟨q, (T.setVm vm₁).calling g' mk (Value.ref b :: As).toArray, t, U', L, E, ce, hT, X', hL, e1, e2, hq, hce, hcv, vx_cls hW₁ hcl, st⟩
theorem vx_runS (S : CallFix p m c cc nL s args Ts own) (hM : vx_Met l y ws rm Pc Qc XC mc ms free) (cw : CallB R s args own index y bytes maxL ret ws rm mc ms n ∧ (Cond.static y).before args s = true) (hp : PreS s H Pc As)
    (hg : g.method = m) (hn : As.length = n) (hsize : g.locals.size = nL) (hstack : g.stack = As.reverse ++ rest) (hW : 2 * g.monitorRoom + (rest.map fun v => v.category).sum ≤ 8) (hdg : decode cc g.pc = .ok (.invokestatic index, 3)) (hf : cells + mc ≤ R.cells ∧ slots + ms ≤ R.slots) :
    vx_Run p l e R s m args below meth c H locs cells slots mc ms g rest (Qc As.toArray) XC free := by
  have hK : vx_Back l R p e below s args y 3 8 (PreOf R mc ms Pc) (PostOf Qc mc ms free) (vx_Post XC mc ms free) := vx_callBack cw.1 hM hp.1
  obtain ⟨⟨-, -, -, -, -, -, hcode, hini, hy, hlen, hl⟩, hstt⟩ := cw
  obtain ⟨hx, hb, hml, ho, -⟩ := S
  intro T hT X
  rcases vx_callS X hx (bytes := bytes) (maxL := maxL) (ret := ret) ho hl hstt hini hcode hy hK hg (hsize.trans hml.symm) (argsL := As) (rest := rest) (fun sig h => hn.trans (hlen sig h)) hstack hW (by rw [hb]; exact hdg)
    (fun vm₁ hW₁ => ⟨hf.1, hf.2, hp.2 (T.setVm vm₁) hT hW₁⟩) with ⟨v, vm₁, ⟨U', l2, c2, s2⟩, hW₁, X', ⟨g', mk, t, L, e1, e2, hq, h1, hL, h2, h3⟩, st⟩ | ⟨q, vm₁, ⟨U', l2, c2, s2⟩, hW₁, X', ⟨g', mk, t, L, E, ce, e1, e2, hq, hce, hcv, hcl, h1, hL, h2, h3⟩, st⟩
  · dsimp only [Pt.U, Pt.locs, Pt.cells, Pt.slots] at X' e1 e2 h1 h2 h3 st
    subst h1; subst h2; subst h3
    exact Or.inl ⟨v, (T.setVm vm₁).calling g' mk As.toArray, t, U', L, hT, X', hL, e1, e2, hq, st⟩
  · dsimp only [Pt.U, Pt.locs, Pt.cells, Pt.slots] at X' e1 e2 h1 h2 h3 st hcl
    subst h1; subst h2; subst h3
    exact Or.inr ⟨q, (T.setVm vm₁).calling g' mk As.toArray, t, U', L, E, ce, hT, X', hL, e1, e2, hq, hce, hcv, vx_cls hW₁ hcl, st⟩
end Runs
section Rows
variable {p : Program} {l : Launch} {e : Env} {R : Room} {s : State} {m : MethodId} {args : Array Value} {below : List Frame} {meth : Method} {c : Code} {H : Heap} {locs : List Loc} {cells slots : Nat} {Q : State → Prop}
variable {mc ms : Nat} {free : Addr → Prop} {A0 A1 : Nat → Prop} {H0 : Heap} {a : Array Value} {pc : Nat} {ls : Array Slot} {st0 rest : List Value}
theorem vx_keep {st₀ t T' : State} {L : List Loc} (h0 : st₀.heap = H) (e1 : T'.heap = t.heap) (hS : va_S A0 H0 H locs) (hA : ∀ q, q < H.size → A1 q → A0 q) (hf : ∀ q, free q → A0 q) (hL : ∀ q ∈ L, free q.base) (hF : va_F A1 st₀ t) :
    H.size ≤ T'.heap.size ∧ (∀ q : Nat, q < H.size → ¬ A1 q → T'.heap[q]? = H[q]?) ∧ va_S A0 H0 T'.heap (locs ++ L) := by
  obtain ⟨hz, hk⟩ := hF
  rw [h0] at hz hk
  exact ⟨by rw [e1]; exact hz, fun q h1 h2 => by rw [e1]; exact hk q h1 h2,
    ⟨Nat.le_trans hS.1 (by rw [e1]; exact hz), fun q h1 h2 => by rw [e1, hk q (Nat.lt_of_lt_of_le h1 hS.1) (fun z => h2 (hA q (Nat.lt_of_lt_of_le h1 hS.1) z))]; exact hS.2.1 q h1 h2, fun q hq => by
      rcases List.mem_append.mp hq with h | h
      · exact hS.2.2 q h
      · exact hf _ (hL q h)⟩⟩
theorem vx_calli {S SX : Type} {post : Int32 → S → Prop} {px : SX → Prop} {B : S → State → Prop} {BX : String → SX → State → Prop} {AX : Nat → Prop} (hr : vx_Run p l e R s m args below meth c H locs cells slots mc ms (F0 m pc ls st0) rest (va_Qi post B A1 a) (vx_X px BX AX) free) (hS : va_S A0 H0 H locs) (hA : ∀ q, q < H.size → A1 q → A0 q) (hf : ∀ q, free q → A0 q) (hAX : ∀ q, q < H.size → AX q → A0 q)
    (kx : ∀ (E : String) (ce : Cell) (q9 : Addr) (u : SX) (t : State) (H1 : Heap) (locs1 : List Loc), t.heap = H1 → s.vm.Alike t.vm → px u → BX E u t → H.size ≤ H1.size → (∀ q : Nat, q < H.size → ¬ AX q → H1[q]? = H[q]?) → va_S A0 H0 H1 locs1 → H1[q9]? = some ce → ce.vm = .none → s.vm.findClass E = some ce.cls → vx_W p l e R s m args below meth c H1 locs1 (cells + mc) (slots + ms) Q (F0 m pc ls rest) q9)
    (kk : ∀ (r : Int32) (u : S) (t : State) (H1 : Heap) (locs1 : List Loc), t.heap = H1 → s.vm.Alike t.vm → post r u → B u t → H.size ≤ H1.size → (∀ q : Nat, q < H.size → ¬ A1 q → H1[q]? = H[q]?) → va_S A0 H0 H1 locs1 → W p l e R s m args below meth c H1 locs1 (cells + mc) (slots + ms) Q (F0 m (pc + 3) ls (.int r :: rest))) : W p l e R s m args below meth c H locs cells slots Q (F0 m pc ls st0) := by
  intro T hT X
  rcases hr T hT X with ⟨v, st₀, t, T', L, h0, X', hL, e1, e2, ⟨⟨r, u, hv, hp, hb⟩, hF⟩, st⟩ | ⟨q, st₀, t, T', L, E, ce, h0, X', hL, e1, e2, ⟨u, hp, hb, hF⟩, hce, hcv, hcl, st⟩
  · cases hv
    obtain ⟨k1, k2, k3⟩ := vx_keep h0 e1 hS hA hf hL hF
    obtain ⟨t2, a1, b1⟩ := kk r u t T'.heap (locs ++ L) e1.symm (by rw [← e2]; exact X'.warmed.alike) hp hb k1 k2 k3 T' rfl X'
    exact ⟨t2, st t2 a1, b1⟩
  · obtain ⟨k1, k2, k3⟩ := vx_keep h0 e1 hS hAX hf hL hF
    obtain ⟨t2, a1, b1⟩ := kx E ce q u t T'.heap (locs ++ L) e1.symm (by rw [← e2]; exact X'.warmed.alike) hp hb k1 k2 k3 (by rw [e1]; exact hce) hcv hcl T' rfl X'
    exact ⟨t2, st.trans a1, b1⟩
theorem vx_calll {S SX : Type} {post : Int64 → S → Prop} {px : SX → Prop} {B : S → State → Prop} {BX : String → SX → State → Prop} {AX : Nat → Prop} (hr : vx_Run p l e R s m args below meth c H locs cells slots mc ms (F0 m pc ls st0) rest (va_Ql post B A1 a) (vx_X px BX AX) free) (hS : va_S A0 H0 H locs) (hA : ∀ q, q < H.size → A1 q → A0 q) (hf : ∀ q, free q → A0 q) (hAX : ∀ q, q < H.size → AX q → A0 q)
    (kx : ∀ (E : String) (ce : Cell) (q9 : Addr) (u : SX) (t : State) (H1 : Heap) (locs1 : List Loc), t.heap = H1 → s.vm.Alike t.vm → px u → BX E u t → H.size ≤ H1.size → (∀ q : Nat, q < H.size → ¬ AX q → H1[q]? = H[q]?) → va_S A0 H0 H1 locs1 → H1[q9]? = some ce → ce.vm = .none → s.vm.findClass E = some ce.cls → vx_W p l e R s m args below meth c H1 locs1 (cells + mc) (slots + ms) Q (F0 m pc ls rest) q9)
    (kk : ∀ (r : Int64) (u : S) (t : State) (H1 : Heap) (locs1 : List Loc), t.heap = H1 → s.vm.Alike t.vm → post r u → B u t → H.size ≤ H1.size → (∀ q : Nat, q < H.size → ¬ A1 q → H1[q]? = H[q]?) → va_S A0 H0 H1 locs1 → W p l e R s m args below meth c H1 locs1 (cells + mc) (slots + ms) Q (F0 m (pc + 3) ls (.long r :: rest))) : W p l e R s m args below meth c H locs cells slots Q (F0 m pc ls st0) := by
  intro T hT X
  rcases hr T hT X with ⟨v, st₀, t, T', L, h0, X', hL, e1, e2, ⟨⟨r, u, hv, hp, hb⟩, hF⟩, st⟩ | ⟨q, st₀, t, T', L, E, ce, h0, X', hL, e1, e2, ⟨u, hp, hb, hF⟩, hce, hcv, hcl, st⟩
  · cases hv
    obtain ⟨k1, k2, k3⟩ := vx_keep h0 e1 hS hA hf hL hF
    obtain ⟨t2, a1, b1⟩ := kk r u t T'.heap (locs ++ L) e1.symm (by rw [← e2]; exact X'.warmed.alike) hp hb k1 k2 k3 T' rfl X'
    exact ⟨t2, st t2 a1, b1⟩
  · obtain ⟨k1, k2, k3⟩ := vx_keep h0 e1 hS hAX hf hL hF
    obtain ⟨t2, a1, b1⟩ := kx E ce q u t T'.heap (locs ++ L) e1.symm (by rw [← e2]; exact X'.warmed.alike) hp hb k1 k2 k3 (by rw [e1]; exact hce) hcv hcl T' rfl X'
    exact ⟨t2, st.trans a1, b1⟩
theorem vx_callf {S SX : Type} {post : UInt32 → S → Prop} {px : SX → Prop} {B : S → State → Prop} {BX : String → SX → State → Prop} {AX : Nat → Prop} (hr : vx_Run p l e R s m args below meth c H locs cells slots mc ms (F0 m pc ls st0) rest (va_Qf post B A1 a) (vx_X px BX AX) free) (hS : va_S A0 H0 H locs) (hA : ∀ q, q < H.size → A1 q → A0 q) (hf : ∀ q, free q → A0 q) (hAX : ∀ q, q < H.size → AX q → A0 q)
    (kx : ∀ (E : String) (ce : Cell) (q9 : Addr) (u : SX) (t : State) (H1 : Heap) (locs1 : List Loc), t.heap = H1 → s.vm.Alike t.vm → px u → BX E u t → H.size ≤ H1.size → (∀ q : Nat, q < H.size → ¬ AX q → H1[q]? = H[q]?) → va_S A0 H0 H1 locs1 → H1[q9]? = some ce → ce.vm = .none → s.vm.findClass E = some ce.cls → vx_W p l e R s m args below meth c H1 locs1 (cells + mc) (slots + ms) Q (F0 m pc ls rest) q9)
    (kk : ∀ (r : UInt32) (u : S) (t : State) (H1 : Heap) (locs1 : List Loc), t.heap = H1 → s.vm.Alike t.vm → post r u → B u t → H.size ≤ H1.size → (∀ q : Nat, q < H.size → ¬ A1 q → H1[q]? = H[q]?) → va_S A0 H0 H1 locs1 → W p l e R s m args below meth c H1 locs1 (cells + mc) (slots + ms) Q (F0 m (pc + 3) ls (.float r :: rest))) : W p l e R s m args below meth c H locs cells slots Q (F0 m pc ls st0) := by
  intro T hT X
  rcases hr T hT X with ⟨v, st₀, t, T', L, h0, X', hL, e1, e2, ⟨⟨r, u, hv, hp, hb⟩, hF⟩, st⟩ | ⟨q, st₀, t, T', L, E, ce, h0, X', hL, e1, e2, ⟨u, hp, hb, hF⟩, hce, hcv, hcl, st⟩
  · cases hv
    obtain ⟨k1, k2, k3⟩ := vx_keep h0 e1 hS hA hf hL hF
    obtain ⟨t2, a1, b1⟩ := kk r u t T'.heap (locs ++ L) e1.symm (by rw [← e2]; exact X'.warmed.alike) hp hb k1 k2 k3 T' rfl X'
    exact ⟨t2, st t2 a1, b1⟩
  · obtain ⟨k1, k2, k3⟩ := vx_keep h0 e1 hS hAX hf hL hF
    obtain ⟨t2, a1, b1⟩ := kx E ce q u t T'.heap (locs ++ L) e1.symm (by rw [← e2]; exact X'.warmed.alike) hp hb k1 k2 k3 (by rw [e1]; exact hce) hcv hcl T' rfl X'
    exact ⟨t2, st.trans a1, b1⟩
theorem vx_calld {S SX : Type} {post : UInt64 → S → Prop} {px : SX → Prop} {B : S → State → Prop} {BX : String → SX → State → Prop} {AX : Nat → Prop} (hr : vx_Run p l e R s m args below meth c H locs cells slots mc ms (F0 m pc ls st0) rest (va_Qd post B A1 a) (vx_X px BX AX) free) (hS : va_S A0 H0 H locs) (hA : ∀ q, q < H.size → A1 q → A0 q) (hf : ∀ q, free q → A0 q) (hAX : ∀ q, q < H.size → AX q → A0 q)
    (kx : ∀ (E : String) (ce : Cell) (q9 : Addr) (u : SX) (t : State) (H1 : Heap) (locs1 : List Loc), t.heap = H1 → s.vm.Alike t.vm → px u → BX E u t → H.size ≤ H1.size → (∀ q : Nat, q < H.size → ¬ AX q → H1[q]? = H[q]?) → va_S A0 H0 H1 locs1 → H1[q9]? = some ce → ce.vm = .none → s.vm.findClass E = some ce.cls → vx_W p l e R s m args below meth c H1 locs1 (cells + mc) (slots + ms) Q (F0 m pc ls rest) q9)
    (kk : ∀ (r : UInt64) (u : S) (t : State) (H1 : Heap) (locs1 : List Loc), t.heap = H1 → s.vm.Alike t.vm → post r u → B u t → H.size ≤ H1.size → (∀ q : Nat, q < H.size → ¬ A1 q → H1[q]? = H[q]?) → va_S A0 H0 H1 locs1 → W p l e R s m args below meth c H1 locs1 (cells + mc) (slots + ms) Q (F0 m (pc + 3) ls (.double r :: rest))) : W p l e R s m args below meth c H locs cells slots Q (F0 m pc ls st0) := by
  intro T hT X
  rcases hr T hT X with ⟨v, st₀, t, T', L, h0, X', hL, e1, e2, ⟨⟨r, u, hv, hp, hb⟩, hF⟩, st⟩ | ⟨q, st₀, t, T', L, E, ce, h0, X', hL, e1, e2, ⟨u, hp, hb, hF⟩, hce, hcv, hcl, st⟩
  · cases hv
    obtain ⟨k1, k2, k3⟩ := vx_keep h0 e1 hS hA hf hL hF
    obtain ⟨t2, a1, b1⟩ := kk r u t T'.heap (locs ++ L) e1.symm (by rw [← e2]; exact X'.warmed.alike) hp hb k1 k2 k3 T' rfl X'
    exact ⟨t2, st t2 a1, b1⟩
  · obtain ⟨k1, k2, k3⟩ := vx_keep h0 e1 hS hAX hf hL hF
    obtain ⟨t2, a1, b1⟩ := kx E ce q u t T'.heap (locs ++ L) e1.symm (by rw [← e2]; exact X'.warmed.alike) hp hb k1 k2 k3 (by rw [e1]; exact hce) hcv hcl T' rfl X'
    exact ⟨t2, st.trans a1, b1⟩
theorem vx_callv {S SX : Type} {post : S → Prop} {px : SX → Prop} {B : S → State → Prop} {BX : String → SX → State → Prop} {AX : Nat → Prop} (hr : vx_Run p l e R s m args below meth c H locs cells slots mc ms (F0 m pc ls st0) rest (va_Qv post B A1 a) (vx_X px BX AX) free) (hS : va_S A0 H0 H locs) (hA : ∀ q, q < H.size → A1 q → A0 q) (hf : ∀ q, free q → A0 q) (hAX : ∀ q, q < H.size → AX q → A0 q)
    (kx : ∀ (E : String) (ce : Cell) (q9 : Addr) (u : SX) (t : State) (H1 : Heap) (locs1 : List Loc), t.heap = H1 → s.vm.Alike t.vm → px u → BX E u t → H.size ≤ H1.size → (∀ q : Nat, q < H.size → ¬ AX q → H1[q]? = H[q]?) → va_S A0 H0 H1 locs1 → H1[q9]? = some ce → ce.vm = .none → s.vm.findClass E = some ce.cls → vx_W p l e R s m args below meth c H1 locs1 (cells + mc) (slots + ms) Q (F0 m pc ls rest) q9)
    (kk : ∀ (u : S) (t : State) (H1 : Heap) (locs1 : List Loc), t.heap = H1 → s.vm.Alike t.vm → post u → B u t → H.size ≤ H1.size → (∀ q : Nat, q < H.size → ¬ A1 q → H1[q]? = H[q]?) → va_S A0 H0 H1 locs1 → W p l e R s m args below meth c H1 locs1 (cells + mc) (slots + ms) Q (F0 m (pc + 3) ls (rest))) : W p l e R s m args below meth c H locs cells slots Q (F0 m pc ls st0) := by
  intro T hT X
  rcases hr T hT X with ⟨v, st₀, t, T', L, h0, X', hL, e1, e2, ⟨⟨u, hv, hp, hb⟩, hF⟩, st⟩ | ⟨q, st₀, t, T', L, E, ce, h0, X', hL, e1, e2, ⟨u, hp, hb, hF⟩, hce, hcv, hcl, st⟩
  · cases hv
    obtain ⟨k1, k2, k3⟩ := vx_keep h0 e1 hS hA hf hL hF
    obtain ⟨t2, a1, b1⟩ := kk u t T'.heap (locs ++ L) e1.symm (by rw [← e2]; exact X'.warmed.alike) hp hb k1 k2 k3 T' rfl X'
    exact ⟨t2, st t2 a1, b1⟩
  · obtain ⟨k1, k2, k3⟩ := vx_keep h0 e1 hS hAX hf hL hF
    obtain ⟨t2, a1, b1⟩ := kx E ce q u t T'.heap (locs ++ L) e1.symm (by rw [← e2]; exact X'.warmed.alike) hp hb k1 k2 k3 (by rw [e1]; exact hce) hcv hcl T' rfl X'
    exact ⟨t2, st.trans a1, b1⟩
/-- caught by the row x of this method's table; the rows ahead don't take it -/
theorem vx_catch {own name : String} {E : String} {ce : Cell} {q : Addr} (hown : s.vm.findClass own = some m.cls) (pre : List ExceptionTableEntry) (x : ExceptionTableEntry) (suf : List ExceptionTableEntry) (hsplit : c.exceptionTable.toList = pre ++ x :: suf)
    (hpass : ∀ z ∈ pre, covers z pc = false ∨ (z.catchType ≠ 0 ∧ ∃ nm : String, (Cond.classLink own z.catchType nm).before args s = true ∧ va_Nc E nm s)) (hx : covers x pc = true) (h0 : x.catchType ≠ 0)
    (hlink : (Cond.classLink own x.catchType name).before args s = true) (hcast : (Cond.castable E name).before args s = true) (hcell : H[q]? = some ce) (hv : ce.vm = .none) (hcl : s.vm.findClass E = some ce.cls)
    (kk : W p l e R s m args below meth c H locs cells slots Q (F0 m x.handlerPc ls [.ref q])) : vx_W p l e R s m args below meth c H locs cells slots Q (F0 m pc ls rest) q := by
  intro T hT X
  have hpl : e.platform.magicAccessors = ({} : Platform).magicAccessors := by rw [X.admits.platform]
  obtain ⟨c3, c4, hc3, hc4, hasg⟩ := Cond.castable_spec hcast
  cases Option.some.inj (hc3.symm.trans hcl)
  obtain ⟨c5, hc5, hcl5⟩ := Cond.classLink_spec hown hlink e.platform hpl
  cases Option.some.inj (hc4.symm.trans hc5)
  obtain ⟨vm', X', st⟩ := X.thenCaughtThrough q (g := F0 m pc ls rest) rfl (Steps.refl _) (by rw [hT]; exact hcell) (by rw [hv]; rfl) (by obtain ⟨k9, h9, -⟩ := Vm.findClass_spec hcl; exact ⟨k9, h9⟩) pre x suf hsplit
    (fun z hz => by
      rcases hpass z hz with h | ⟨hz0, nm, hl1, hn1⟩
      · exact Or.inl h
      · obtain ⟨c6, hc6, hcl6⟩ := Cond.classLink_spec hown hl1 e.platform hpl
        obtain ⟨a8, b8, h1, h2, h3⟩ := hn1
        cases Option.some.inj (h1.symm.trans hcl)
        cases Option.some.inj (h2.symm.trans hc6)
        exact Or.inr ⟨hz0, _, hcl6, h3⟩) hx (Or.inr ⟨h0, c4, hcl5, hasg⟩)
  obtain ⟨t, a1, b1⟩ := kk (T.setVm vm') hT X'
  exact ⟨t, st.trans a1, b1⟩
end Rows
section Ends
variable {p : Program} {l : Launch} {e : Env} {R : Room} {s : State} {m : MethodId} {args : Array Value} {below : List Frame} {meth : Method} {c : Code} {H : Heap} {locs : List Loc} {cells slots : Nat} {Q : State → Prop}
variable {mc ms : Nat} {free : Addr → Prop} {A0 A1 : Nat → Prop} {H0 : Heap} {a : Array Value} {ls : Array Slot} {st0 rest : List Value}
variable {Qc : Array Value → State → Outcome → State → Prop} {XC : String → State → State → Prop}
/-- what a body that may throw owes at its end -/
def vx_MQ (below : List Frame) (Qc : Array Value → State → Outcome → State → Prop) (XC : String → State → State → Prop) (a : Array Value) (s : State) (mc ms : Nat) (free : Addr → Prop) : State → Prop := fun t =>
  ∃ o, t.status = .running ∧ Ended t below o ∧ vx_Q Qc XC mc ms free a s o t
theorem vx_ret {g : JFrame} {mc ms : Nat} (k : W p l e R s m args below meth c H locs cells slots (MQ below Qc args s mc ms free) g) : W p l e R s m args below meth c H locs cells slots (vx_MQ below Qc XC args s mc ms free) g := by
  intro T hT X
  obtain ⟨t, a1, o, b1, b2, b3, b4⟩ := k T hT X
  exact ⟨t, a1, o, b1, b2, Or.inl ⟨b3, b4⟩⟩
/-- not caught here: it goes on to the caller -/
theorem vx_widen {g : JFrame} {q : Addr} {k n : Nat} (h1 : cells ≤ k) (h2 : slots ≤ n) (kk : vx_W p l e R s m args below meth c H locs k n Q g q) : vx_W p l e R s m args below meth c H locs cells slots Q g q := fun T hT X => kk T hT (stand_widen X h1 h2)
theorem vx_out {pc : Nat} {E : String} {ce : Cell} {q : Addr} {mc ms : Nat} (hout : ∀ x ∈ c.exceptionTable.toList, covers x pc = false) (hlocks : meth.locks = false) (hcell : H[q]? = some ce) (hv : ce.vm = .none) (hcl : s.vm.findClass E = some ce.cls)
    (hx : ∀ t : State, t.heap = H → s.vm.Alike t.vm → XC E s t) (hf : ∀ z ∈ locs, free z.base) (hc : cells ≤ mc) (hs : slots ≤ ms) :
    vx_W p l e R s m args below meth c H locs cells slots (vx_MQ below Qc XC args s mc ms free) (F0 m pc ls rest) q := by
  intro T hT X
  obtain ⟨st1, hrun, hend, hW, hsm⟩ := X.leaveThrown q (g := F0 m pc ls rest) rfl rfl rfl hout hlocks
  have hcell9 : (T.setFrames (.throwing q :: below)).heap[q]? = some ce := by
    show T.heap[q]? = some ce
    rw [hT]; exact hcell
  exact ⟨_, st1, .threw q, hrun, hend, Or.inr ⟨q, rfl, E, ce, locs, hx _ hT hW.alike, hcell9, hv, hcl, hW, hsm.mono hc hs, hf⟩⟩
theorem vx_frame {U : State} {k n : Nat} (h : s.sameButNew ({ U with vm := s.vm } : State) locs k n) : s.heap.size ≤ U.heap.size ∧ ∀ q : Nat, q < s.heap.size → (∀ z ∈ locs, z.base ≠ q) → U.heap[q]? = s.heap[q]? := by
  obtain ⟨-, h2, -, -, -, h6⟩ := h
  refine ⟨h2, fun q hq hz => ?_⟩
  obtain ⟨c9, e1, e2, e3, e4⟩ := h6 q _ (Array.getElem?_eq_getElem hq)
  have hs : c9.slots = (s.heap[q]).slots := Array.ext_getElem? fun i => e4 i fun hm => hz _ hm rfl
  have h9 : c9 = s.heap[q] := by
    rw [hs] at e2
    exact e2
  have e5 : U.heap[q]? = some c9 := e1
  rw [e5, h9, Array.getElem?_eq_getElem hq]
/-- the words of a throw but the four that speak of the heap -/
def vx_no (w : Cond) : Bool := decide (w ≠ .isRef (.static Bundle.tN "UNASSIGNED_STACK" Bundle.steD)) && decide (w ≠ .isRef (.static Bundle.tN "SUPPRESSED_SENTINEL" Bundle.listD)) && decide (w ≠ .laysStatic Bundle.tN "UNASSIGNED_STACK" Bundle.steD) && decide (w ≠ .laysStatic Bundle.tN "SUPPRESSED_SENTINEL" Bundle.listD)
def vx_at0 (own : String) (ic : Nat) (X : String) (names : List String) : List Cond := (Bundle.ownAtoms0 own ic X names).filter vx_no
def vx_atS (own : String) (ic : Nat) (X : String) (names : List String) : List Cond := (Bundle.ownAtoms own ic X names).filter vx_no
/-- a word that the tables alone decide, or a good one -/
def vx_ot (w : Cond) : Bool := w.onTables || goodWord w
theorem vx_ot_at {args a' : Array Value} {s U : State} {w : Cond} (hW : s.WarmedH U.vm) (hvm : s.vm = U.vm) (hg : vx_ot w = true) (h : w.before args s = true) : w.before a' U = true := by
  simp only [vx_ot, Bool.or_eq_true] at hg
  rcases hg with hg | hg
  · exact va_tabs hg hvm h
  · exact word_at hW (good_of_word hg) h
/-- a list's words: the good ones out of the method's own list, the others by premises of their own -/
theorem vx_hat {args : Array Value} {s : State} {L B : List Cond} (h1 : ∀ w ∈ L.filter goodWord, w.before args s = true) (h2 : ∀ w ∈ L.filter (fun w => !goodWord w), w ∈ B) (h3 : ∀ w ∈ B, w.before args s = true) : ∀ w ∈ L, w.before args s = true := by
  intro w hw
  by_cases g : goodWord w = true
  · exact h1 w (List.mem_filter.mpr ⟨hw, g⟩)
  · refine h3 w (h2 w (List.mem_filter.mpr ⟨hw, ?_⟩))
    show (!goodWord w) = true
    cases hgw : goodWord w
    · rfl
    · exact absurd hgw g
theorem vx_c {args : Array Value} {s : State} {w : Cond} {B : List Cond} (h : w.before args s = true) (t : ∀ w ∈ B, w.before args s = true) : ∀ w' ∈ w :: B, w'.before args s = true := fun w' h' => (List.mem_cons.mp h').elim (fun e => by rw [e]; exact h) (t w')
theorem vx_n {args : Array Value} {s : State} : ∀ w ∈ ([] : List Cond), w.before args s = true := fun _ h => nomatch h
theorem vx_own {args : Array Value} {s : State} {L : List Cond} (h1 : ∀ w ∈ L.filter vx_no, w.before args s = true)
    (hU : (Cond.isRef (.static Bundle.tN "UNASSIGNED_STACK" Bundle.steD)).before args s = true) (hN : (Cond.isRef (.static Bundle.tN "SUPPRESSED_SENTINEL" Bundle.listD)).before args s = true)
    (lU : (Cond.laysStatic Bundle.tN "UNASSIGNED_STACK" Bundle.steD).before args s = true) (lN : (Cond.laysStatic Bundle.tN "SUPPRESSED_SENTINEL" Bundle.listD).before args s = true) : ∀ w ∈ L, w.before args s = true := by
  intro w hw
  by_cases e1 : w = .isRef (.static Bundle.tN "UNASSIGNED_STACK" Bundle.steD)
  · rw [e1]; exact hU
  · by_cases e2 : w = .isRef (.static Bundle.tN "SUPPRESSED_SENTINEL" Bundle.listD)
    · rw [e2]; exact hN
    · by_cases e3 : w = .laysStatic Bundle.tN "UNASSIGNED_STACK" Bundle.steD
      · rw [e3]; exact lU
      · by_cases e4 : w = .laysStatic Bundle.tN "SUPPRESSED_SENTINEL" Bundle.listD
        · rw [e4]; exact lN
        · exact h1 w (List.mem_filter.mpr ⟨hw, by unfold vx_no; rw [decide_eq_true e1, decide_eq_true e2, decide_eq_true e3, decide_eq_true e4]; rfl⟩)
/-- where a static field lies, its class's statics cell in H -/
def vx_L (C n d : String) (A : Nat → Prop) (U : State) (H : Heap) : Prop := ∃ (c : ClassId) (k : Class) (i : Nat) (f : Field) (a : Nat) (cell : Cell), U.vm.findClass C = some c ∧ U.fieldFound? C n d = some (c, k, i, f) ∧ f.isStatic = true ∧ k.statics = some a ∧ H[a]? = some cell ∧ cell.vm.isStatics = true ∧ cell.cls = c ∧ f.slot < cell.slots.size ∧ k.staticTypes[f.slot]? = some f.type ∧ ¬ A a
theorem vx_L.moved {C n d : String} {A : Nat → Prop} {u U : State} {H : Heap} (hvm : u.vm.Alike U.vm) (h : vx_L C n d A u H) : vx_L C n d A U H := by
  obtain ⟨c, k, i, f, a, cell, h1, h2, h3, h4, h5, h6, h7, h8, h9, h10⟩ := h
  obtain ⟨k', hi', he⟩ := State.fieldFound?_setVm hvm h2
  exact ⟨c, k', i, f, a, cell, by rw [hvm.findClass]; exact h1, hi', h3, by rw [he]; exact h4, h5, h6, h7, h8, by rw [he]; exact h9, h10⟩
theorem vx_L.kept {C n d : String} {A : Nat → Prop} {U : State} {H H1 : Heap} (h : vx_L C n d A U H) (hq : ∀ a : Nat, a < H.size → ¬ A a → H1[a]? = H[a]?) : vx_L C n d A U H1 := by
  obtain ⟨c, k, i, f, a, cell, h1, h2, h3, h4, h5, h6, h7, h8, h9, h10⟩ := h
  exact ⟨c, k, i, f, a, cell, h1, h2, h3, h4, by rw [hq a (Array.getElem?_eq_some_iff.mp h5).1 h10]; exact h5, h6, h7, h8, h9, h10⟩
theorem vx_L.narrow {C n d : String} {A B : Nat → Prop} {U : State} {H : Heap} (h : vx_L C n d A U H) (hAB : ∀ q, B q → A q) : vx_L C n d B U H := by
  obtain ⟨c, k, i, f, a, cell, h1, h2, h3, h4, h5, h6, h7, h8, h9, h10⟩ := h
  exact ⟨c, k, i, f, a, cell, h1, h2, h3, h4, h5, h6, h7, h8, h9, fun z => h10 (hAB _ z)⟩
theorem vx_L.word {C n d : String} {A : Nat → Prop} {s : State} {args : Array Value} (h : vx_L C n d A s s.heap) : (Cond.laysStatic C n d).before args s = true := by
  obtain ⟨c, k, i, f, a, cell, h1, h2, h3, h4, h5, h6, h7, h8, h9, -⟩ := h
  show (Cond.laysStatic C n d).holds args s none s [] = true
  exact Cond.laysStatic_of h1 h2 h3 h4 h5 h6 h7 h8 h9
/-- .. and what it holds: null or some reference -/
def vx_Zq (C n d : String) (A : Nat → Prop) (U : State) (H : Heap) : Prop := va_Zq C n d A U H ∧ vx_L C n d A U H
theorem vx_Zq.moved {C n d : String} {A : Nat → Prop} {u U : State} {H : Heap} (hvm : u.vm.Alike U.vm) (h : vx_Zq C n d A u H) : vx_Zq C n d A U H := ⟨va_Zq.moved hvm h.1, vx_L.moved hvm h.2⟩
theorem vx_Zq.kept {C n d : String} {A : Nat → Prop} {U : State} {H H1 : Heap} (h : vx_Zq C n d A U H) (hq : ∀ a : Nat, a < H.size → ¬ A a → H1[a]? = H[a]?) : vx_Zq C n d A U H1 := ⟨va_Zq.kept h.1 hq, vx_L.kept h.2 hq⟩
theorem vx_Zq.narrow {C n d : String} {A B : Nat → Prop} {U : State} {H : Heap} (h : vx_Zq C n d A U H) (hAB : ∀ q, B q → A q) : vx_Zq C n d B U H := ⟨va_Zq.narrow h.1 hAB, vx_L.narrow h.2 hAB⟩
theorem vx_Zqof {args : Array Value} {s : State} {C n d : String} {A : Nat → Prop} (hl : (Cond.laysStatic C n d).before args s = true) (hini : (Cond.initialized C).before args s = true) (h : (Cond.isRef (.static C n d)).before args s = true) (hA : ∀ a : Nat, a < s.heap.size → ¬ A a) : vx_Zq C n d A s s.heap := by
  refine ⟨va_Zqof hl hini h hA, ?_⟩
  obtain ⟨c, k, i, f, a, cell, h1, h2, h3, h4, h5, h6, h7, h8, h9⟩ := Cond.laysStatic_spec hl
  exact ⟨c, k, i, f, a, cell, h1, h2, h3, h4, h5, h6, h7, h8, h9, hA a (Array.getElem?_eq_some_iff.mp h5).1⟩
theorem vx_isRef {C n d : String} {v : Value} {A : Nat → Prop} {s : State} {args : Array Value} (h : va_Z C n d v A s s.heap) (hv : v.isRef = true) : (Cond.isRef (.static C n d)).before args s = true := by
  obtain ⟨cf, kf, fi, f, a, cell, h1, h2, h3, h4, h5, h6, h7, -⟩ := h
  have he : (Term.static C n d).eval args s none [] s = some v := by
    simp [Term.eval, State.fieldNamed?, h1, h2, h4, h5, h6, h7]
  simp only [Cond.before, Cond.holds, Cond.value, he]
  cases v <;> simp_all [Value.isRef]
theorem vx_isRefq {C n d : String} {A : Nat → Prop} {s : State} {args : Array Value} (h : va_Zq C n d A s s.heap) : (Cond.isRef (.static C n d)).before args s = true := by
  rcases h with h | ⟨t, h⟩
  · exact vx_isRef h rfl
  · exact vx_isRef h rfl
/-- the same frame, seen from here: as if the method were called anew in this heap -/
theorem vx_rebase {T : State} (X : Stand p l e R s m args below meth c T locs cells slots) {R' : Room} (hf : R'.frames ≤ R.frames) (hl : R'.locals ≤ R.locals) (hc : cells + R'.cells ≤ R.cells) (hs : slots + R'.slots ≤ R.slots) :
    Stand p l e R' ((T.setVm s.vm).setFrames (.invoking m args :: below)) m args below meth c T [] 0 0 := by
  have htop : (T.setVm s.vm).topJava?.isSome := X.here.top
  have hF : ((T.setVm s.vm).setFrames (.invoking m args :: below)).frames = .invoking m args :: below := State.frames_setFrames _ (State.cur_lt_of_top htop)
  obtain ⟨g₀, hg0⟩ := Option.isSome_iff_exists.mp htop
  obtain ⟨r, hr⟩ := State.topJava?_eq_some.mp hg0
  have hl9 : e.platform.stackLimits (T.setVm s.vm).me = e.platform.stackLimits s.me := X.limits
  have hb9 : (T.setVm s.vm).me.stackBytes = s.me.stackBytes := X.bytes
  refine ⟨X.admits, X.cas, X.clock, hF, ?_, X.hears, X.method, X.code, X.here, X.tail, X.warmed, ?_, ?_, ?_⟩
  · have h := X.room
    have hU : ((T.setVm s.vm).setFrames (.invoking m args :: below)).localsInUse = s.localsInUse := by
      rw [State.localsInUse_invoking hF (meth := meth) (c := c) X.method X.code, State.localsInUse_invoking X.frames X.method X.code]
    simp only [State.hasRoom, Bool.and_eq_true, decide_eq_true_eq] at h ⊢
    obtain ⟨⟨⟨⟨h1, h2, h3, h4, h5, h6⟩, h7⟩, h8⟩, h9⟩ := h
    rw [X.frames, List.length_cons] at h2 h3
    have q1 := X.heapSize
    have q2 := X.used
    simp only [hF, hU, List.length_cons, State.stackLimits_setFrames, State.stackBytes_setFrames, hl9, hb9]
    refine ⟨⟨⟨⟨by omega, by omega, by omega, by omega, by omega, h6⟩, ?_⟩, ?_⟩, X.book⟩
    · show T.heap.size + R'.cells ≤ e.platform.maxCells
      omega
    · show T.slotsUsed + R'.slots ≤ e.platform.maxSlots
      omega
  · rw [State.stackLimits_setFrames]; rfl
  · rw [State.stackBytes_setFrames]; rfl
  · refine ⟨?_, Nat.le_refl _, Nat.le_refl _, ?_, ?_, fun a c9 h9 => ⟨c9, h9, rfl, rfl, fun _ _ => rfl⟩⟩
    · obtain ⟨t, ht, -⟩ := State.frames_cons hr
      show T.setVm s.vm = { ((T.setVm s.vm).setFrames (.invoking m args :: below)).setFrames (T.setVm s.vm).frames with heap := T.heap, slotsUsed := T.slotsUsed }
      rw [State.setFrames_setFrames, State.setFrames_self ht]
      rfl
    · show T.slotsUsed = T.slotsUsed + ((T.heap.toList.drop T.heap.size).map (·.slots.size)).sum
      rw [List.drop_eq_nil_of_le (Nat.le_of_eq Array.length_toList)]
      rfl
    · show ((T.heap.toList.drop T.heap.size).map (·.slots.size)).sum ≤ 0
      rw [List.drop_eq_nil_of_le (Nat.le_of_eq Array.length_toList)]
      exact Nat.le_refl _
/-- 'throw new E()': new; dup; invokespecial; athrow -/
theorem vx_throw0 {cc : ByteArray} {pc : Nat} (hexec : p.tables.exec = Jvm.exec) (hb : c.code = cc) (hl : l.stackTraces = false) {own cls : String} {names : List String} {ik ic mc ms : Nat} {A : Nat → Prop}
    (hown : s.vm.findClass own = some m.cls) (hcls : Bundle.fit cls = true) (hnames : ∀ n ∈ names, Bundle.fit n = true)
    (hk : (Cond.classLink own ik cls).before args s = true) (hini : (Cond.initialized cls).before args s = true) (hat : ∀ w ∈ vx_at0 own ic cls names, w.before args s = true)
    (hgood : ∀ w ∈ Cond.classLink own ik cls :: Cond.initialized cls :: vx_at0 own ic cls names, vx_ot w = true)
    (hU : vx_Zq Bundle.tN "UNASSIGNED_STACK" Bundle.steD A s s.heap) (hN : vx_Zq Bundle.tN "SUPPRESSED_SENTINEL" Bundle.listD A s s.heap) (hS : va_S A s.heap H locs) (hsize : ls.size = c.maxLocals)
    (d0 : decode cc pc = .ok (.new ik, 3)) (d3 : decode cc (pc + 3) = .ok (.dup, 1)) (d4 : decode cc (pc + 4) = .ok (.invokespecial ic, 3)) (d7 : decode cc (pc + 7) = .ok (.athrow, 1))
    (hout : ∀ x ∈ c.exceptionTable.toList, covers x (pc + 7) = false)
    (hRframes : names.length + 3 < R.frames) (hRlocals : (rest.map fun v => v.category).sum + (13 * (names.length + 1) + 42) ≤ R.locals) (hRcells : cells + 1 ≤ R.cells) (hRslots : slots + 6 ≤ R.slots) (hlocks : meth.locks = false)
    (hx : ∀ t : State, s.vm.Alike t.vm → H.size ≤ t.heap.size → (∀ q : Nat, q < H.size → t.heap[q]? = H[q]?) → XC cls s t)
    (hf : ∀ z ∈ locs, free z.base) (hc : cells + 1 ≤ mc) (hs : slots + 6 ≤ ms) :
    W p l e R s m args below meth c H locs cells slots (vx_MQ below Qc XC args s mc ms free) (F0 m pc ls rest) := by
  intro T hT X
  have htr : e.platform.stackTraces = false := (show e.platform.stackTraces = l.stackTraces by rw [X.admits.platform]).trans hl
  have Y := vx_rebase X (R' := { frames := R.frames, locals := R.locals, cells := 1, slots := 6 }) (Nat.le_refl _) (Nat.le_refl _) hRcells hRslots
  obtain ⟨s', hA⟩ : ∃ z, z = (T.setVm s.vm).setFrames (.invoking m args :: below) := ⟨_, rfl⟩
  rw [← hA] at Y
  have hvm : s'.vm = s.vm := by rw [hA]; rfl
  have hhp : s'.heap = H := by rw [hA]; exact hT
  have hW0 : s.WarmedH s'.vm := by rw [hvm]; exact State.WarmedH.refl s
  have hat' : ∀ w ∈ vx_at0 own ic cls names, w.before args s' = true := fun w hw => vx_ot_at hW0 hvm.symm (hgood w (List.mem_cons_of_mem _ (List.mem_cons_of_mem _ hw))) (hat w hw)
  have hk' : (Cond.classLink own ik cls).before args s' = true := vx_ot_at hW0 hvm.symm (hgood _ List.mem_cons_self) hk
  have hini' : (Cond.initialized cls).before args s' = true := vx_ot_at hW0 hvm.symm (hgood _ (List.mem_cons_of_mem _ List.mem_cons_self)) hini
  have hU' : vx_Zq Bundle.tN "UNASSIGNED_STACK" Bundle.steD A s' s'.heap := by rw [hhp]; exact vx_Zq.moved hW0.alike (hU.kept hS.2.1)
  have hN' : vx_Zq Bundle.tN "SUPPRESSED_SENTINEL" Bundle.listD A s' s'.heap := by rw [hhp]; exact vx_Zq.moved hW0.alike (hN.kept hS.2.1)
  have h : ∀ w ∈ Bundle.ownAtoms0 own ic cls names, w.before args s' = true := vx_own hat' (vx_isRefq hU'.1) (vx_isRefq hN'.1) hU'.2.word hN'.2.word
  have hown' : s'.vm.findClass own = some m.cls := by rw [hvm]; exact hown
  have hins : (Cond.instantiable cls 6).before args s' = true := h _ (by simp [Bundle.ownAtoms0])
  obtain ⟨vm₁, cX, kX, hfX, hkX, -, -, X₁, st1⟩ := Y.newCold hexec (own := own) (C := cls) (index := ik) (n := 6) hown' hk' hins hini'
    (g := F0 m pc ls rest) rfl (by rw [hb]; exact d0) (Nat.le_refl _) (Nat.le_refl _)
  generalize hT1 : (T.setVm vm₁).pushCell { cls := cX, slots := kX.instanceTypes.map defaultValue, vm := .none } = T1 at X₁ st1
  have hcat : (Value.ref T.heap.size).category = 1 := rfl
  have hcellA : T1.heap[T.heap.size]? = some (freshCell cX kX) := by rw [← hT1]; exact State.heap_pushCell_size _ _
  have d3' : decode c.code (pc + 3) = .ok (.dup, 1) := by rw [hb]; exact d3
  obtain ⟨U, hsteps, hrun, hend, hW, hsame, ce, hce, hO⟩ := X₁.ctorThrow0 hexec htr (own := own) (cls := cls) (names := names) (ic := ic) hown' hcls hnames h (fun x hx => nomatch hx) hfX hkX hcellA (by rw [hhp, hT]; exact Nat.le_refl _)
    (g := { method := m, pc := pc + 4, locals := ls, stack := .ref T.heap.size :: .ref T.heap.size :: rest, locked := none }) rfl hsize rfl rfl (rest := rest) rfl
    (by rw [hb]; exact d4) (by rw [hb]; exact d7) hout hRframes (by simp only [List.map_cons, List.sum_cons, hcat]; omega) hlocks
  obtain ⟨f1, f2⟩ := vx_frame hsame
  rw [hhp] at f1 f2
  have hWs : s.WarmedH U.vm := State.WarmedH.trans hW0 hW
  have hcl : s.vm.findClass cls = some ce.cls := by
    have h9 := hO.cls
    rw [hvm] at h9
    exact h9
  have hall : s.sameButNew ({ U with vm := s.vm } : State) locs mc ms := by
    subst hA
    obtain ⟨e1, e2⟩ := hsame
    rw [State.setFrames_setFrames] at e1
    have h2 : (T.setVm s.vm).sameButNew ({ U with vm := s.vm } : State) [] (0 + 1) (0 + 6) := ⟨e1, e2⟩
    have h3 := X.same.trans h2
    rw [List.append_nil] at h3
    exact h3.mono hc hs
  refine ⟨U, ?_, .threw T.heap.size, hrun, hend, Or.inr ⟨T.heap.size, rfl, cls, ce, locs, hx U hWs.alike f1 (fun q hq => f2 q hq (fun z hz => nomatch hz)), hce, hO.vm, hcl, hWs, hall, hf⟩⟩
  refine st1 _ ?_
  show Steps p.tables e below (T1.setTop { method := m, pc := pc + 3, locals := ls, stack := .ref T.heap.size :: rest, locked := none }) _
  jvm_step X₁.here [X₁.here.top, hexec, d3', Value.category]
  exact hsteps
/-- 'throw new E("text")': new; dup; ldc; invokespecial; athrow -/
theorem vx_throwS {cc : ByteArray} {pc : Nat} (hexec : p.tables.exec = Jvm.exec) (hb : c.code = cc) (hl : l.stackTraces = false) {own cls text : String} {names : List String} {ik is ic mc ms sa : Nat} {A : Nat → Prop}
    (hown : s.vm.findClass own = some m.cls) (hcls : Bundle.fit cls = true) (hnames : ∀ n ∈ names, Bundle.fit n = true)
    (hk : (Cond.classLink own ik cls).before args s = true) (hini : (Cond.initialized cls).before args s = true) (hstr : vk_R own is text sa s) (hat : ∀ w ∈ vx_atS own ic cls names, w.before args s = true)
    (hgood : ∀ w ∈ Cond.classLink own ik cls :: Cond.initialized cls :: vx_atS own ic cls names, vx_ot w = true)
    (hU : vx_Zq Bundle.tN "UNASSIGNED_STACK" Bundle.steD A s s.heap) (hN : vx_Zq Bundle.tN "SUPPRESSED_SENTINEL" Bundle.listD A s s.heap) (hS : va_S A s.heap H locs) (hsize : ls.size = c.maxLocals)
    (d0 : decode cc pc = .ok (.new ik, 3)) (d3 : decode cc (pc + 3) = .ok (.dup, 1)) (d4 : decode cc (pc + 4) = .ok (.ldc is, 2)) (d6 : decode cc (pc + 6) = .ok (.invokespecial ic, 3)) (d9 : decode cc (pc + 9) = .ok (.athrow, 1))
    (hout : ∀ x ∈ c.exceptionTable.toList, covers x (pc + 9) = false)
    (hRframes : names.length + 3 < R.frames) (hRlocals : (rest.map fun v => v.category).sum + (13 * (names.length + 1) + 43) ≤ R.locals) (hRcells : cells + 1 ≤ R.cells) (hRslots : slots + 6 ≤ R.slots) (hlocks : meth.locks = false)
    (hx : ∀ t : State, s.vm.Alike t.vm → H.size ≤ t.heap.size → (∀ q : Nat, q < H.size → t.heap[q]? = H[q]?) → XC cls s t)
    (hf : ∀ z ∈ locs, free z.base) (hc : cells + 1 ≤ mc) (hs : slots + 6 ≤ ms) :
    W p l e R s m args below meth c H locs cells slots (vx_MQ below Qc XC args s mc ms free) (F0 m pc ls rest) := by
  intro T hT X
  have htr : e.platform.stackTraces = false := (show e.platform.stackTraces = l.stackTraces by rw [X.admits.platform]).trans hl
  have Y := vx_rebase X (R' := { frames := R.frames, locals := R.locals, cells := 1, slots := 6 }) (Nat.le_refl _) (Nat.le_refl _) hRcells hRslots
  obtain ⟨s', hA⟩ : ∃ z, z = (T.setVm s.vm).setFrames (.invoking m args :: below) := ⟨_, rfl⟩
  rw [← hA] at Y
  have hvm : s'.vm = s.vm := by rw [hA]; rfl
  have hhp : s'.heap = H := by rw [hA]; exact hT
  have hW0 : s.WarmedH s'.vm := by rw [hvm]; exact State.WarmedH.refl s
  have hat' : ∀ w ∈ vx_atS own ic cls names, w.before args s' = true := fun w hw => vx_ot_at hW0 hvm.symm (hgood w (List.mem_cons_of_mem _ (List.mem_cons_of_mem _ hw))) (hat w hw)
  have hk' : (Cond.classLink own ik cls).before args s' = true := vx_ot_at hW0 hvm.symm (hgood _ List.mem_cons_self) hk
  have hini' : (Cond.initialized cls).before args s' = true := vx_ot_at hW0 hvm.symm (hgood _ (List.mem_cons_of_mem _ List.mem_cons_self)) hini
  have hU' : vx_Zq Bundle.tN "UNASSIGNED_STACK" Bundle.steD A s' s'.heap := by rw [hhp]; exact vx_Zq.moved hW0.alike (hU.kept hS.2.1)
  have hN' : vx_Zq Bundle.tN "SUPPRESSED_SENTINEL" Bundle.listD A s' s'.heap := by rw [hhp]; exact vx_Zq.moved hW0.alike (hN.kept hS.2.1)
  have h : ∀ w ∈ Bundle.ownAtoms own ic cls names, w.before args s' = true := vx_own hat' (vx_isRefq hU'.1) (vx_isRefq hN'.1) hU'.2.word hN'.2.word
  have hown' : s'.vm.findClass own = some m.cls := by rw [hvm]; exact hown
  have hins : (Cond.instantiable cls 6).before args s' = true := h _ (by simp [Bundle.ownAtoms])
  obtain ⟨vm₁, cX, kX, hfX, hkX, -, -, X₁, st1⟩ := Y.newCold hexec (own := own) (C := cls) (index := ik) (n := 6) hown' hk' hins hini'
    (g := F0 m pc ls rest) rfl (by rw [hb]; exact d0) (Nat.le_refl _) (Nat.le_refl _)
  generalize hT1 : (T.setVm vm₁).pushCell { cls := cX, slots := kX.instanceTypes.map defaultValue, vm := .none } = T1 at X₁ st1
  have hcat : (Value.ref T.heap.size).category = 1 := rfl
  have hcellA : T1.heap[T.heap.size]? = some (freshCell cX kX) := by rw [← hT1]; exact State.heap_pushCell_size _ _
  have d3' : decode c.code (pc + 3) = .ok (.dup, 1) := by rw [hb]; exact d3
  have d4' : decode c.code (pc + 4) = .ok (.ldc is, 2) := by rw [hb]; exact d4
  have hstr' : vk_R own is text sa s' := vk_R.warm hW0 hstr
  obtain ⟨U, hsteps, hrun, hend, hW, hsame, ce, hce, hO⟩ := X₁.ctorThrowS hexec htr (own := own) (cls := cls) (names := names) (ic := ic) hown' hcls hnames h (fun x hx => nomatch hx) hfX hkX hcellA (by rw [hhp, hT]; exact Nat.le_refl _) (msg := .ref sa) rfl
    (g := { method := m, pc := pc + 6, locals := ls, stack := .ref sa :: .ref T.heap.size :: .ref T.heap.size :: rest, locked := none }) rfl hsize rfl rfl (rest := rest) rfl
    (by rw [hb]; exact d6) (by rw [hb]; exact d9) hout hRframes (by simp only [List.map_cons, List.sum_cons, hcat]; omega) hlocks
  obtain ⟨f1, f2⟩ := vx_frame hsame
  rw [hhp] at f1 f2
  have hWs : s.WarmedH U.vm := State.WarmedH.trans hW0 hW
  have hcl : s.vm.findClass cls = some ce.cls := by
    have h9 := hO.cls
    rw [hvm] at h9
    exact h9
  have hall : s.sameButNew ({ U with vm := s.vm } : State) locs mc ms := by
    subst hA
    obtain ⟨e1, e2⟩ := hsame
    rw [State.setFrames_setFrames] at e1
    have h2 : (T.setVm s.vm).sameButNew ({ U with vm := s.vm } : State) [] (0 + 1) (0 + 6) := ⟨e1, e2⟩
    have h3 := X.same.trans h2
    rw [List.append_nil] at h3
    exact h3.mono hc hs
  refine ⟨U, ?_, .threw T.heap.size, hrun, hend, Or.inr ⟨T.heap.size, rfl, cls, ce, locs, hx U hWs.alike f1 (fun q hq => f2 q hq (fun z hz => nomatch hz)), hce, hO.vm, hcl, hWs, hall, hf⟩⟩
  refine st1 _ ?_
  show Steps p.tables e below (T1.setTop { method := m, pc := pc + 3, locals := ls, stack := .ref T.heap.size :: rest, locked := none }) _
  jvm_step X₁.here [X₁.here.top, hexec, d3', Value.category]
  exact X₁.ldcString hexec (own := own) (text := text) (index := is) (a := sa) hown' hstr'.1 hstr'.2
    (g := { method := m, pc := pc + 4, locals := ls, stack := .ref T.heap.size :: .ref T.heap.size :: rest, locked := none }) rfl d4' _ hsteps
/-- 'throw new E("text")', the text by a wide index -/
theorem vx_throwSW {cc : ByteArray} {pc : Nat} (hexec : p.tables.exec = Jvm.exec) (hb : c.code = cc) (hl : l.stackTraces = false) {own cls text : String} {names : List String} {ik is ic mc ms sa : Nat} {A : Nat → Prop}
    (hown : s.vm.findClass own = some m.cls) (hcls : Bundle.fit cls = true) (hnames : ∀ n ∈ names, Bundle.fit n = true)
    (hk : (Cond.classLink own ik cls).before args s = true) (hini : (Cond.initialized cls).before args s = true) (hstr : vk_R own is text sa s) (hat : ∀ w ∈ vx_atS own ic cls names, w.before args s = true)
    (hgood : ∀ w ∈ Cond.classLink own ik cls :: Cond.initialized cls :: vx_atS own ic cls names, vx_ot w = true)
    (hU : vx_Zq Bundle.tN "UNASSIGNED_STACK" Bundle.steD A s s.heap) (hN : vx_Zq Bundle.tN "SUPPRESSED_SENTINEL" Bundle.listD A s s.heap) (hS : va_S A s.heap H locs) (hsize : ls.size = c.maxLocals)
    (d0 : decode cc pc = .ok (.new ik, 3)) (d3 : decode cc (pc + 3) = .ok (.dup, 1)) (d4 : decode cc (pc + 4) = .ok (.ldc_w is, 3)) (d7 : decode cc (pc + 7) = .ok (.invokespecial ic, 3)) (d10 : decode cc (pc + 10) = .ok (.athrow, 1))
    (hout : ∀ x ∈ c.exceptionTable.toList, covers x (pc + 10) = false)
    (hRframes : names.length + 3 < R.frames) (hRlocals : (rest.map fun v => v.category).sum + (13 * (names.length + 1) + 43) ≤ R.locals) (hRcells : cells + 1 ≤ R.cells) (hRslots : slots + 6 ≤ R.slots) (hlocks : meth.locks = false)
    (hx : ∀ t : State, s.vm.Alike t.vm → H.size ≤ t.heap.size → (∀ q : Nat, q < H.size → t.heap[q]? = H[q]?) → XC cls s t)
    (hf : ∀ z ∈ locs, free z.base) (hc : cells + 1 ≤ mc) (hs : slots + 6 ≤ ms) :
    W p l e R s m args below meth c H locs cells slots (vx_MQ below Qc XC args s mc ms free) (F0 m pc ls rest) := by
  intro T hT X
  have htr : e.platform.stackTraces = false := (show e.platform.stackTraces = l.stackTraces by rw [X.admits.platform]).trans hl
  have Y := vx_rebase X (R' := { frames := R.frames, locals := R.locals, cells := 1, slots := 6 }) (Nat.le_refl _) (Nat.le_refl _) hRcells hRslots
  obtain ⟨s', hA⟩ : ∃ z, z = (T.setVm s.vm).setFrames (.invoking m args :: below) := ⟨_, rfl⟩
  rw [← hA] at Y
  have hvm : s'.vm = s.vm := by rw [hA]; rfl
  have hhp : s'.heap = H := by rw [hA]; exact hT
  have hW0 : s.WarmedH s'.vm := by rw [hvm]; exact State.WarmedH.refl s
  have hat' : ∀ w ∈ vx_atS own ic cls names, w.before args s' = true := fun w hw => vx_ot_at hW0 hvm.symm (hgood w (List.mem_cons_of_mem _ (List.mem_cons_of_mem _ hw))) (hat w hw)
  have hk' : (Cond.classLink own ik cls).before args s' = true := vx_ot_at hW0 hvm.symm (hgood _ List.mem_cons_self) hk
  have hini' : (Cond.initialized cls).before args s' = true := vx_ot_at hW0 hvm.symm (hgood _ (List.mem_cons_of_mem _ List.mem_cons_self)) hini
  have hU' : vx_Zq Bundle.tN "UNASSIGNED_STACK" Bundle.steD A s' s'.heap := by rw [hhp]; exact vx_Zq.moved hW0.alike (hU.kept hS.2.1)
  have hN' : vx_Zq Bundle.tN "SUPPRESSED_SENTINEL" Bundle.listD A s' s'.heap := by rw [hhp]; exact vx_Zq.moved hW0.alike (hN.kept hS.2.1)
  have h : ∀ w ∈ Bundle.ownAtoms own ic cls names, w.before args s' = true := vx_own hat' (vx_isRefq hU'.1) (vx_isRefq hN'.1) hU'.2.word hN'.2.word
  have hown' : s'.vm.findClass own = some m.cls := by rw [hvm]; exact hown
  have hins : (Cond.instantiable cls 6).before args s' = true := h _ (by simp [Bundle.ownAtoms])
  obtain ⟨vm₁, cX, kX, hfX, hkX, -, -, X₁, st1⟩ := Y.newCold hexec (own := own) (C := cls) (index := ik) (n := 6) hown' hk' hins hini'
    (g := F0 m pc ls rest) rfl (by rw [hb]; exact d0) (Nat.le_refl _) (Nat.le_refl _)
  generalize hT1 : (T.setVm vm₁).pushCell { cls := cX, slots := kX.instanceTypes.map defaultValue, vm := .none } = T1 at X₁ st1
  have hcat : (Value.ref T.heap.size).category = 1 := rfl
  have hcellA : T1.heap[T.heap.size]? = some (freshCell cX kX) := by rw [← hT1]; exact State.heap_pushCell_size _ _
  have d3' : decode c.code (pc + 3) = .ok (.dup, 1) := by rw [hb]; exact d3
  have d4' : decode c.code (pc + 4) = .ok (.ldc_w is, 3) := by rw [hb]; exact d4
  have hstr' : vk_R own is text sa s' := vk_R.warm hW0 hstr
  obtain ⟨U, hsteps, hrun, hend, hW, hsame, ce, hce, hO⟩ := X₁.ctorThrowS hexec htr (own := own) (cls := cls) (names := names) (ic := ic) hown' hcls hnames h (fun x hx => nomatch hx) hfX hkX hcellA (by rw [hhp, hT]; exact Nat.le_refl _) (msg := .ref sa) rfl
    (g := { method := m, pc := pc + 7, locals := ls, stack := .ref sa :: .ref T.heap.size :: .ref T.heap.size :: rest, locked := none }) rfl hsize rfl rfl (rest := rest) rfl
    (by rw [hb]; exact d7) (by rw [hb]; exact d10) hout hRframes (by simp only [List.map_cons, List.sum_cons, hcat]; omega) hlocks
  obtain ⟨f1, f2⟩ := vx_frame hsame
  rw [hhp] at f1 f2
  have hWs : s.WarmedH U.vm := State.WarmedH.trans hW0 hW
  have hcl : s.vm.findClass cls = some ce.cls := by
    have h9 := hO.cls
    rw [hvm] at h9
    exact h9
  have hall : s.sameButNew ({ U with vm := s.vm } : State) locs mc ms := by
    subst hA
    obtain ⟨e1, e2⟩ := hsame
    rw [State.setFrames_setFrames] at e1
    have h2 : (T.setVm s.vm).sameButNew ({ U with vm := s.vm } : State) [] (0 + 1) (0 + 6) := ⟨e1, e2⟩
    have h3 := X.same.trans h2
    rw [List.append_nil] at h3
    exact h3.mono hc hs
  refine ⟨U, ?_, .threw T.heap.size, hrun, hend, Or.inr ⟨T.heap.size, rfl, cls, ce, locs, hx U hWs.alike f1 (fun q hq => f2 q hq (fun z hz => nomatch hz)), hce, hO.vm, hcl, hWs, hall, hf⟩⟩
  refine st1 _ ?_
  show Steps p.tables e below (T1.setTop { method := m, pc := pc + 3, locals := ls, stack := .ref T.heap.size :: rest, locked := none }) _
  jvm_step X₁.here [X₁.here.top, hexec, d3', Value.category]
  exact X₁.ldcStringW hexec (own := own) (text := text) (index := is) (a := sa) hown' hstr'.1 hstr'.2
    (g := { method := m, pc := pc + 4, locals := ls, stack := .ref T.heap.size :: .ref T.heap.size :: rest, locked := none }) rfl d4' _ hsteps
end Ends
section Bodies
variable {l : Launch}
theorem vx_ofW {y : MethodName} {ws ws' : List Cond} {rm : Room} {Pc : Array Value → State → Prop} {Qc : Array Value → State → Outcome → State → Prop} {XC : String → State → State → Prop} {mc ms : Nat} {free : Addr → Prop} {cc : ByteArray} {maxL : Nat} {ret : Option FieldType}
    (hy : plainName y.cls = true) (hw : ws = Cond.code y cc maxL ret :: ws')
    (body : ∀ p e s m args below meth c s₁, BodyLoose p l y (headSpec ws rm) cc maxL ret e s m args below meth c s₁ → c.maxLocals = maxL → (∀ x ∈ c.exceptionTable.toList, False) → Pc args s →
      W p l e (headSpec ws rm).room s m args below meth c s.heap [] 0 0 (vx_MQ below Qc XC args s mc ms free) (entryFrame m args maxL)) : vx_Met l y ws rm Pc Qc XC mc ms free := by
  refine MetFree.of_bodyS (code := cc) (maxLocals := maxL) (ret := ret) hy ?_ ?_
  · intro args s m h hn
    obtain ⟨meth, c, h1, h2, h3, h4, h5, h6, -, -⟩ := Cond.code_spec hn (atoms_spec (ws := ws) h _ (by rw [hw]; exact List.mem_cons_self))
    exact ⟨meth, c, h1, h2, h3, h4, h5, h6⟩
  · intro p e s m args below meth c s₁ B hml hP _
    have hh0 : s₁.heap = s.heap := by rw [B.state]; rfl
    have ht : ∀ x ∈ c.exceptionTable.toList, False := by
      obtain ⟨meth9, c9, h1, h2, -, -, -, -, h7, -⟩ := Cond.code_spec B.named (atoms_spec (ws := ws) B.pre _ (by rw [hw]; exact List.mem_cons_self))
      cases Option.some.inj (h1.symm.trans B.method)
      cases Option.some.inj (h2.symm.trans (Stand.of_body B).code)
      intro x hx
      rw [Array.isEmpty_iff.mp h7] at hx
      cases hx
    obtain ⟨t, a1, o, b1, b2, b3⟩ := body p e s m args below meth c s₁ B hml ht hP s₁ hh0 (Stand.of_body B)
    exact ⟨t, o, a1, b1, b2, b3⟩
/-- the table of a body with handlers -/
theorem vx_table {p : Program} {x y : MethodName} {S : Spec} {cc bytes : ByteArray} {maxL maxL' : Nat} {ret ret' : Option FieldType} {e : Env} {s s₁ : State} {m : MethodId} {args : Array Value} {below : List Frame} {meth : Method} {c : Code} {hh : List (Nat × Nat × Nat × Nat)}
    (B : BodyLoose p l y S cc maxL ret e s m args below meth c s₁) (h : (Cond.codeWith y bytes maxL' ret' hh).before args s = true) : c.exceptionTable.toList = tableOf hh := by
  obtain ⟨m9, meth9, c9, hn9, h1, h2, -, -, h6, -⟩ := Cond.codeWith_spec h
  cases Option.some.inj (hn9.symm.trans B.named)
  cases Option.some.inj (h1.symm.trans B.method)
  cases Option.some.inj (h2.symm.trans (Stand.of_body B).code)
  rw [← h6, table_eq]
end Bodies
end VXA
/-! ===== END ===== -/
/-! ===== BEGIN a static call of a method with an exception table ===== -/
section VXS
variable {p : Program} {l : Launch} {e : Env} {R : Room} {s : State} {m : MethodId} {args : Array Value} {below : List Frame} {meth : Method} {c : Code} {T : State} {H : Heap} {locs : List Loc} {cells slots : Nat}
abbrev vx_CSW (R : Room) (s : State) (args : Array Value) (own : String) (index : Nat) (y : MethodName) (bytes : ByteArray) (maxL : Nat) (ret : Option FieldType) (hh : List (Nat × Nat × Nat × Nat)) (ws : List Cond) (rm : Room) (mc ms n : Nat) : Prop :=
  (rm.cells = mc ∧ rm.slots = ms ∧ rm.frames + 1 ≤ R.frames ∧ 8 + (maxL + 11) + rm.locals ≤ R.locals ∧ (∀ w ∈ ws, ∀ (a' : Array Value) (U : State), s.WarmedH U.vm → w.before a' U = true) ∧ Cond.codeWith y bytes maxL ret hh ∈ ws) ∧
  (Cond.codeWith y bytes maxL ret hh).before args s = true ∧ (Cond.initialized y.cls).before args s = true ∧ (y.cls ≠ "java/lang/invoke/MethodHandle" ∧ y.cls ≠ "java/lang/invoke/VarHandle") ∧
  (∀ sig, parseMethodDescriptor y.desc = some sig → n = sig.parameters.length) ∧ (Cond.methodLink own index y).before args s = true ∧ (Cond.static y).before args s = true
theorem vx_cwSW {own : String} {index maxL mc ms : Nat} {y : MethodName} {bytes : ByteArray} {ret : Option FieldType} {hh : List (Nat × Nat × Nat × Nat)} {Ts ws ws' : List Cond} {rm : Room} (n : Nat) (ht : ∀ w ∈ Ts, w.before args s = true) (hT : GoodIn Ts (va_wsS own index y ws)) (hw : ws = Cond.codeWith y bytes maxL ret hh :: ws') (hrc : rm.cells = mc) (hrs : rm.slots = ms)
    (hd : y.cls ≠ "java/lang/invoke/MethodHandle" ∧ y.cls ≠ "java/lang/invoke/VarHandle" ∧ (parseMethodDescriptor y.desc).map (fun d => d.parameters.length) = some n) (hR : rm.frames + 1 ≤ R.frames ∧ 8 + (maxL + 11) + rm.locals ≤ R.locals) :
    vx_CSW R s args own index y bytes maxL ret hh ws rm mc ms n := by
  have ok : ∀ w ∈ va_wsS own index y ws, w.before args s = true := fun w h => ht w (hT w h).1
  have hG : GoodIn Ts ws := fun w h => hT w (by unfold va_wsS; exact List.mem_append_right _ h)
  have hc : Cond.codeWith y bytes maxL ret hh ∈ ws := by rw [hw]; exact List.mem_cons_self
  refine ⟨⟨hrc, hrs, hR.1, hR.2, pay_in ht hG, hc⟩, ht _ (hG _ hc).1, ok _ (by simp [va_wsS]), ⟨hd.1, hd.2.1⟩, fun sig h => ?_, ok _ (by simp [va_wsS]), ok _ (by simp [va_wsS])⟩
  have h2 := hd.2.2
  rw [h] at h2
  exact (Option.some.inj h2).symm
theorem vx_callSW (X : Stand p l e R s m args below meth c T locs cells slots) (hexec : p.tables.exec = Jvm.exec) {own : String} {index : Nat} {y : MethodName} {bytes : ByteArray} {maxL : Nat} {ret : Option FieldType} {hh : List (Nat × Nat × Nat × Nat)}
    (hown : s.vm.findClass own = some m.cls) (hlink : (Cond.methodLink own index y).before args s = true) (hstat : (Cond.static y).before args s = true) (hinit : (Cond.initialized y.cls).before args s = true)
    (hcode : (Cond.codeWith y bytes maxL ret hh).before args s = true) (hy : y.cls ≠ "java/lang/invoke/MethodHandle" ∧ y.cls ≠ "java/lang/invoke/VarHandle")
    {W9 : Nat} {Pre : Pt → Array Value → Prop} {Post : Pt → Array Value → Option Value → Pt → Prop} (hK : Back l R p e below s args y 3 W9 Pre Post)
    {g : JFrame} (hg : g.method = m) (hsize : g.locals.size = c.maxLocals) {argsL rest : List Value} (hlen : ∀ sig, parseMethodDescriptor y.desc = some sig → argsL.length = sig.parameters.length)
    (hstack : g.stack = argsL.reverse ++ rest) (hW : 2 * g.monitorRoom + (rest.map fun v => v.category).sum ≤ W9) (hdg : decode c.code g.pc = .ok (.invokestatic index, 3))
    (hpre : ∀ vm₁, s.WarmedH vm₁ → Pre ⟨T.setVm vm₁, locs, cells, slots⟩ argsL.toArray) :
    ∃ (v : Option Value) (vm₁ : Vm) (B : Pt), s.WarmedH vm₁ ∧ Stand p l e R s m args below meth c B.U B.locs B.cells B.slots ∧ Post ⟨T.setVm vm₁, locs, cells, slots⟩ argsL.toArray v B ∧
      ∀ target, Steps p.tables e below (B.U.setTop { g with pc := g.pc + 3, stack := v.toList ++ rest }) target → Steps p.tables e below (T.setTop g) target := by
  obtain ⟨mk, methM, cM, hnamed, hmethM, -, -, -, -, -, -, hsigM⟩ := Cond.codeWith_spec hcode
  have hstatic : methM.isStatic = true := Cond.static_spec hnamed hmethM hstat
  obtain ⟨kP, hkP, -⟩ := className_of_methodNamed hnamed
  have hinitP : kP.init = .initialized := Cond.initialized_spec (findClass_of_methodNamed hnamed) hkP hinit
  obtain ⟨vm₁, X₁, hstep₁⟩ := X.invokestatic hexec hown hlink hnamed hmethM hstatic hkP hinitP hy (g := g) hg (argsL := argsL) (rest := rest) (hlen _ hsigM) hstack hdg
  obtain ⟨v, B, X', hpost, hsteps⟩ := hK m meth c ⟨T.setVm vm₁, locs, cells, slots⟩ { g with stack := rest } (.invokestatic index) mk argsL.toArray X₁ hg hsize hdg hW (X₁.named hnamed) (hpre vm₁ X₁.warmed)
  exact ⟨v, vm₁, B, X₁.warmed, X', hpost, fun target h => hstep₁ _ fun acts => by rw [doInvoke_state]; exact hsteps.trans h⟩
theorem vx_runSW {y : MethodName} {bytes cc : ByteArray} {maxL nL mc ms n index : Nat} {ret : Option FieldType} {hh : List (Nat × Nat × Nat × Nat)} {ws : List Cond} {rm : Room} {Pc : Array Value → State → Prop} {Qc : Array Value → State → Outcome → State → Prop} {free : Addr → Prop} {Ts : List Cond} {own : String} {As rest : List Value} {g : JFrame}
    (S : CallFix p m c cc nL s args Ts own) (hM : Met l y ws rm Pc Qc mc ms free) (cw : vx_CSW R s args own index y bytes maxL ret hh ws rm mc ms n) (hp : PreS s H Pc As)
    (hg : g.method = m) (hn : As.length = n) (hsize : g.locals.size = nL) (hstack : g.stack = As.reverse ++ rest) (hW : 2 * g.monitorRoom + (rest.map fun v => v.category).sum ≤ 8) (hdg : decode cc g.pc = .ok (.invokestatic index, 3)) (hf : cells + mc ≤ R.cells ∧ slots + ms ≤ R.slots) :
    va_Run p l e R s m args below meth c H locs cells slots mc ms g rest (Qc As.toArray) (free) := by
  obtain ⟨⟨hrc, hrs, hfr, hlo, hws, hcw⟩, hcode, hini, hy, hlen, hl, hstt⟩ := cw
  have hK : Back l R p e below s args y 3 8 (PreOf R mc ms Pc) (PostOf Qc mc ms free) := va_backW (hh := hh) (bytes := bytes) (maxL := maxL) (ret := ret) hM hp.1 hrc hrs hfr hlo hws hcw (fun a' U hW => word_at hW (Or.inl (by first | rfl | simp [Cond.onTables, Cond.keeps, Cond.steady])) hini)
  obtain ⟨hx, hb, hml, ho, -⟩ := S
  intro T hT X
  obtain ⟨v, vm₁, ⟨U', l2, c2, s2⟩, hW₁, X', ⟨g', mk, t, L, e1, e2, hq, h1, hL, h2, h3⟩, st⟩ := vx_callSW X hx (hh := hh) (bytes := bytes) (maxL := maxL) (ret := ret) ho hl hstt hini hcode hy hK hg (hsize.trans hml.symm) (argsL := As) (rest := rest) (fun sig h => hn.trans (hlen sig h)) hstack hW (by rw [hb]; exact hdg)
    (fun vm₁ hW₁ => ⟨hf.1, hf.2, hp.2 (T.setVm vm₁) hT hW₁⟩)
  dsimp only [Pt.U, Pt.locs, Pt.cells, Pt.slots] at X' e1 e2 h1 h2 h3 st
  subst h1; subst h2; subst h3
  exact ⟨v, (T.setVm vm₁).calling g' mk As.toArray, t, U', L, hT, X', hL, e1, e2, hq, st⟩
/-- not caught here, past rows that name other classes: it goes on to the caller -/
theorem vx_outP {p : Program} {l : Launch} {e : Env} {R : Room} {s : State} {m : MethodId} {args : Array Value} {below : List Frame} {meth : Method} {c : Code} {H : Heap} {locs : List Loc} {cells slots : Nat} {free : Addr → Prop} {ls : Array Slot} {rest : List Value} {Qc : Array Value → State → Outcome → State → Prop} {XC : String → State → State → Prop}
    {pc : Nat} {own E : String} {ce : Cell} {q : Addr} {mc ms : Nat} (hown : s.vm.findClass own = some m.cls) (hlocks : meth.locks = false)
    (hpass : ∀ z ∈ c.exceptionTable.toList, covers z pc = false ∨ (z.catchType ≠ 0 ∧ ∃ nm : String, (Cond.classLink own z.catchType nm).before args s = true ∧ va_Nc E nm s)) (hcell : H[q]? = some ce) (hv : ce.vm = .none) (hcl : s.vm.findClass E = some ce.cls)
    (hx : ∀ t : State, t.heap = H → s.vm.Alike t.vm → XC E s t) (hf : ∀ z ∈ locs, free z.base) (hc : cells ≤ mc) (hs : slots ≤ ms) :
    vx_W p l e R s m args below meth c H locs cells slots (vx_MQ below Qc XC args s mc ms free) (F0 m pc ls rest) q := by
  intro T hT X
  have hpl : e.platform.magicAccessors = ({} : Platform).magicAccessors := by rw [X.admits.platform]
  obtain ⟨vm', hW', X', st⟩ := X.outThrough hlocks q (g := F0 m pc ls rest) rfl rfl rfl (cell := ce) (by rw [hT]; exact hcell) (by rw [hv]; rfl)
    (by obtain ⟨k9, h9, -⟩ := Vm.findClass_spec hcl; exact ⟨k9, h9⟩) (fun z hz => by
      rcases hpass z hz with h | ⟨hz0, nm, hl1, hn1⟩
      · exact Or.inl h
      · obtain ⟨c6, hc6, hcl6⟩ := Cond.classLink_spec hown hl1 e.platform hpl
        obtain ⟨a8, b8, h1, h2, h3⟩ := hn1
        cases Option.some.inj (h1.symm.trans hcl)
        cases Option.some.inj (h2.symm.trans hc6)
        exact Or.inr ⟨hz0, _, hcl6, h3⟩)
  obtain ⟨g₀, hfr⟩ := X'.frames_eq
  have hcell9 : ((T.setVm vm').setFrames (.throwing q :: below)).heap[q]? = some ce := by
    show T.heap[q]? = some ce
    rw [hT]; exact hcell
  have hend : Ended ((T.setVm vm').setFrames (.throwing q :: below)) below (.threw q) := State.frames_setFrames _ (State.cur_lt_of_frames hfr)
  refine ⟨(T.setVm vm').setFrames (.throwing q :: below), ?_, .threw q, X'.here.running, hend, Or.inr ⟨q, rfl, E, ce, locs, hx _ hT (X'.ends _).1.alike, hcell9, hv, hcl, (X'.ends _).1, (X'.ends _).2.mono hc hs, hf⟩⟩
  rw [X.pushThrowing_eq]
  exact st
/-- a thing of a world lies in the heap -/
theorem vx_lt {D : va_G} {cl : List vw_C} {ws : va_W} {H1 : Heap} (h : va_P D cl ws H1) {k : Nat} {q : Nat × va_E} (hk : ws[k]? = some q) : q.1 < H1.size := (h k q hk).lt
end VXS
/-! ===== END ===== -/
/-! ===== BEGIN methods with a table of their own: called by a name, returning or throwing ===== -/
section VXH
/-! vx_backW, vx_callVX, vx_callSX, vx_callVW, vx_runVW, vx_runVX, vx_runSX, vx_ofWH follow the same proofs as their sisters above (Free/Laws.lean, Shelf42/LK1.lean); vx_outP calls Shelf42/NT130.lean (outThrough). -/
section
variable {l : Launch} {R : Room} {p : Program} {e : Env} {below : List Frame} {s : State} {sargs : Array Value} {y : MethodName} {len W9 : Nat}
theorem vx_backW {ws : List Cond} {rm : Room} {Pc : Array Value → State → Prop} {Qc : Array Value → State → Outcome → State → Prop} {XC : String → State → State → Prop} {mc ms : Nat} {free : Addr → Prop} {bytes : ByteArray} {maxL : Nat} {ret : Option FieldType} {hh : List (Nat × Nat × Nat × Nat)}
    (hM : vx_Met l y ws rm Pc Qc XC mc ms free) (hblind : FrameBlind Pc) (hrc : rm.cells = mc) (hrs : rm.slots = ms)
    (hframes : rm.frames + 1 ≤ R.frames) (hlocals : W9 + (maxL + 11) + rm.locals ≤ R.locals)
    (hws : ∀ w ∈ ws, ∀ a' U, s.WarmedH U.vm → w.before a' U = true) (hcode : Cond.codeWith y bytes maxL ret hh ∈ ws) (hinit : ∀ a' U, s.WarmedH U.vm → (Cond.initialized y.cls).before a' U = true) :
    vx_Back l R p e below s sargs y len W9 (PreOf R mc ms Pc) (PostOf Qc mc ms free) (vx_Post XC mc ms free) := by
  intro m meth c A g ig mk a X hg hsize hdg hW hn hp
  have h1 : (headSpec ws rm).pre.before a A.U = true := atoms_intro fun w hw => hws w hw _ _ X.warmed
  have h2 : (Cond.codeWith y bytes maxL ret hh).before a A.U = true := hws _ hcode _ _ X.warmed
  have h3 : (Cond.initialized y.cls).before a A.U = true := hinit _ _ X.warmed
  have h4 : A.cells + (headSpec ws rm).room.cells ≤ R.cells := by rw [show (headSpec ws rm).room.cells = mc from hrc]; exact hp.1
  have h5 : A.slots + (headSpec ws rm).room.slots ≤ R.slots := by rw [show (headSpec ws rm).room.slots = ms from hrs]; exact hp.2.1
  have hPc : Pc a (A.U.calling g mk a) := hblind _ _ _ _ hp.2.2
  obtain ⟨U, Ls, c0, s0⟩ := A
  dsimp only [Pt.U, Pt.locs, Pt.cells, Pt.slots] at h1 h2 h3 h4 h5 X hn hPc ⊢
  obtain ⟨m9, methY, cY, hn9, hmY, hcY, -, hlY, -⟩ := Cond.codeWith_spec h2
  cases Option.some.inj (hn9.symm.trans hn)
  obtain ⟨kY, hkY, -⟩ := className_of_methodNamed hn
  have hinitY : kY.init = .initialized := Cond.initialized_spec (findClass_of_methodNamed hn) hkY h3
  have h : At U g.method c below := by rw [hg]; exact X.here
  have hlocals9 : W9 + (maxL + 11) + (headSpec ws rm).room.locals ≤ R.locals := hlocals
  have happ : (headSpec ws rm).appliesLoose y e.platform (U.calling g mk a) = true :=
    Spec.appliesLoose_calling (g := g) h hdg hn hkY hinitY
      (X.room_calling (g := g) (R' := (headSpec ws rm).room) hsize hmY hcY hframes (by rw [hlY]; omega) h4 h5) h1
  obtain ⟨mid, hmid⟩ := h.above
  have hfr : (U.setTop g).frames = (.java g :: mid) ++ below := by rw [State.frames_setTop' g h.top, hmid]; rfl
  obtain ⟨o, s₂, hsteps, -, hend, hq⟩ := Steps.callFree hM p X.admits X.cas X.clock (acts := []) hfr happ hPc trivial
  have hq' : vx_Q Qc XC mc ms free a (U.calling g mk a) o s₂ := hq
  rw [State.frames_setTop' g h.top] at hend
  obtain ⟨g₀, hg0⟩ := Option.isSome_iff_exists.mp h.top
  obtain ⟨r, hr⟩ := State.topJava?_eq_some.mp hg0
  have hr' : (({ U with heap := s₂.heap, slotsUsed := s₂.slotsUsed } : State).setVm s₂.vm).frames = .java g₀ :: r := hr
  rcases hq' with ⟨hqc, L, hfe, hL⟩ | ⟨q, rfl, E, ce, L, hx, hce, hcv, hcl, hW₂, hsm, hL⟩
  · obtain ⟨⟨v, rfl⟩, hW₂, e2, q2, q3, q4, q5, q6⟩ := id hfe
    have e3 : s₂ = ({ (U.calling g mk a).setFrames s₂.frames with heap := s₂.heap, slotsUsed := s₂.slotsUsed } : State).setVm s₂.vm := by
      have : s₂ = ({ s₂ with vm := (U.calling g mk a).vm } : State).setVm s₂.vm := rfl
      rw [e2] at this
      exact this
    obtain ⟨c₂, i₂, len₂, hc₂, hd₂, hf₂⟩ := hend
    have hW' : U.WarmedH s₂.vm := hW₂
    have hcc : c₂ = c := by
      have h1 : s₂.code? g.method = U.code? g.method := by
        rw [State.code?_eq, State.code?_eq, hW'.alike.method?]
      exact Option.some.inj (hc₂.symm.trans (h1.trans h.code))
    subst hcc
    have hlen : len₂ = len := by rw [hdg] at hd₂; cases hd₂; rfl
    subst hlen
    have hs₂ : s₂ = (({ U with heap := s₂.heap, slotsUsed := s₂.slotsUsed } : State).setVm s₂.vm).setTop { g with pc := g.pc + len₂, stack := v.toList ++ g.stack } := by
      refine e3.trans ?_
      rw [hf₂, State.calling_eq h.top, State.setFrames_setFrames, State.setTop_of_frames _ hr', hr]
      rfl
    have hsame : U.sameButNew ({ U with heap := s₂.heap, slotsUsed := s₂.slotsUsed } : State) L mc ms := by
      refine ⟨?_, q2, q3, q4, q5, q6⟩
      obtain ⟨t, ht, -⟩ := State.frames_cons hr
      show ({ U with heap := s₂.heap, slotsUsed := s₂.slotsUsed } : State) = { U.setFrames U.frames with heap := s₂.heap, slotsUsed := s₂.slotsUsed }
      rw [State.setFrames_self ht]
    subst hg
    refine Or.inl ⟨v, ⟨(({ U with heap := s₂.heap, slotsUsed := s₂.slotsUsed } : State).setVm s₂.vm), Ls ++ L, c0 + mc, s0 + ms⟩,
      ⟨X.admits, X.cas, X.clock, X.frames, X.room, X.hears, X.method, X.code, (X.here.setHeapUsed s₂.heap s₂.slotsUsed).setVm hW'.alike, X.tail, State.WarmedH.trans X.warmed hW', X.limits, X.bytes, X.same.trans (hsame.setVm s.vm)⟩,
      ⟨g, mk, s₂, L, rfl, rfl, hqc, rfl, hL, rfl, rfl⟩, ?_⟩
    show Steps p.tables e below _ ((({ U with heap := s₂.heap, slotsUsed := s₂.slotsUsed } : State).setVm s₂.vm).setTop { g with pc := g.pc + len₂, stack := v.toList ++ g.stack })
    rw [← hs₂]
    exact hsteps
  · obtain ⟨e2, q2, q3, q4, q5, q6⟩ := id hsm
    have e3 : s₂ = ({ (U.calling g mk a).setFrames s₂.frames with heap := s₂.heap, slotsUsed := s₂.slotsUsed } : State).setVm s₂.vm := by
      have : s₂ = ({ s₂ with vm := (U.calling g mk a).vm } : State).setVm s₂.vm := rfl
      rw [e2] at this
      exact this
    have hf₂ : s₂.frames = .throwing q :: .java g :: U.frames.tail := hend
    have hW' : U.WarmedH s₂.vm := hW₂
    have hs₂ : s₂ = ((({ U with heap := s₂.heap, slotsUsed := s₂.slotsUsed } : State).setVm s₂.vm).setTop g).pushFrame (.throwing q) := by
      refine e3.trans ?_
      rw [hf₂, State.calling_eq h.top, State.setFrames_setFrames, State.pushFrame, State.frames_setTop _ hr', State.setTop_of_frames _ hr', State.setFrames_setFrames, hr]
      rfl
    have hsame : U.sameButNew ({ U with heap := s₂.heap, slotsUsed := s₂.slotsUsed } : State) L mc ms := by
      refine ⟨?_, q2, q3, q4, q5, q6⟩
      obtain ⟨t, ht, -⟩ := State.frames_cons hr
      show ({ U with heap := s₂.heap, slotsUsed := s₂.slotsUsed } : State) = { U.setFrames U.frames with heap := s₂.heap, slotsUsed := s₂.slotsUsed }
      rw [State.setFrames_self ht]
    subst hg
    refine Or.inr ⟨q, ⟨(({ U with heap := s₂.heap, slotsUsed := s₂.slotsUsed } : State).setVm s₂.vm), Ls ++ L, c0 + mc, s0 + ms⟩,
      ⟨X.admits, X.cas, X.clock, X.frames, X.room, X.hears, X.method, X.code, (X.here.setHeapUsed s₂.heap s₂.slotsUsed).setVm hW'.alike, X.tail, State.WarmedH.trans X.warmed hW', X.limits, X.bytes, X.same.trans (hsame.setVm s.vm)⟩,
      ⟨g, mk, s₂, L, E, ce, rfl, rfl, hx, hce, hcv, hcl, rfl, hL, rfl, rfl⟩, ?_⟩
    show Steps p.tables e below _ (((({ U with heap := s₂.heap, slotsUsed := s₂.slotsUsed } : State).setVm s₂.vm).setTop g).pushFrame (.throwing q))
    rw [← hs₂]
    exact hsteps
end
variable {p : Program} {l : Launch} {e : Env} {R : Room} {s : State} {m : MethodId} {args : Array Value} {below : List Frame} {meth : Method} {c : Code} {T : State} {H : Heap} {locs : List Loc} {cells slots : Nat}
theorem vx_callVX (X : Stand p l e R s m args below meth c T locs cells slots) (hexec : p.tables.exec = Jvm.exec) {own C : String} {index : Nat} {y : MethodName} {bytes : ByteArray} {maxL : Nat} {ret : Option FieldType} {hh : List (Nat × Nat × Nat × Nat)}
    (hown : s.vm.findClass own = some m.cls) (hlink : (Cond.methodLink own index y).before args s = true) (hinst : (Cond.instanceMethod y).before args s = true) (hsel : (Cond.selects C y y).before args s = true)
    (hcode : (Cond.codeWith y bytes maxL ret hh).before args s = true) (hy : y.cls ≠ "java/lang/invoke/MethodHandle" ∧ y.cls ≠ "java/lang/invoke/VarHandle")
    {W9 : Nat} {Pre : Pt → Array Value → Prop} {Post : Pt → Array Value → Option Value → Pt → Prop} {PostX : Pt → Array Value → Addr → Pt → Prop} (hK : vx_Back l R p e below s args y 3 W9 Pre Post PostX)
    {b : Addr} {cellB : Cell} (hcell : T.heap[b]? = some cellB) (hobj : cellB.vm.isStatics = false) (hcls : s.vm.findClass C = some cellB.cls)
    {g : JFrame} (hg : g.method = m) (hsize : g.locals.size = c.maxLocals) {argsL rest : List Value} (hlen : ∀ sig, parseMethodDescriptor y.desc = some sig → argsL.length = sig.parameters.length)
    (hstack : g.stack = argsL.reverse ++ .ref b :: rest) (hW : 2 * g.monitorRoom + (rest.map fun v => v.category).sum ≤ W9) (hdg : decode c.code g.pc = .ok (.invokevirtual index, 3))
    (hpre : ∀ vm₁, s.WarmedH vm₁ → Pre ⟨T.setVm vm₁, locs, cells, slots⟩ (Value.ref b :: argsL).toArray) :
    (∃ (v : Option Value) (vm₁ : Vm) (B : Pt), s.WarmedH vm₁ ∧ Stand p l e R s m args below meth c B.U B.locs B.cells B.slots ∧ Post ⟨T.setVm vm₁, locs, cells, slots⟩ (Value.ref b :: argsL).toArray v B ∧
      ∀ target, Steps p.tables e below (B.U.setTop { g with pc := g.pc + 3, stack := v.toList ++ rest }) target → Steps p.tables e below (T.setTop g) target) ∨
    (∃ (q : Addr) (vm₁ : Vm) (B : Pt), s.WarmedH vm₁ ∧ Stand p l e R s m args below meth c B.U B.locs B.cells B.slots ∧ PostX ⟨T.setVm vm₁, locs, cells, slots⟩ (Value.ref b :: argsL).toArray q B ∧
      Steps p.tables e below (T.setTop g) ((B.U.setTop { g with stack := rest }).pushFrame (.throwing q))) := by
  obtain ⟨mk, methM, hnamed, hmethM, hstM, habM⟩ := Cond.instanceMethod_spec hinst
  obtain ⟨m8, methM', cM, hn8, hmethM', -, -, -, -, -, -, hsigM⟩ := Cond.codeWith_spec hcode
  cases Option.some.inj (hn8.symm.trans hnamed)
  cases hmethM.symm.trans hmethM'
  obtain ⟨c2, r2, m2, q1, q2, q3, q4, kP, hkP, hkPi⟩ := Cond.selects_spec hsel
  cases hcls.symm.trans q1
  cases (State.methodFound?_of_named hnamed hy).symm.trans q2
  cases hnamed.symm.trans q3
  have hselP : selectMethod e.platform s.vm cellB.cls mk = .method mk := by rw [Launch.admits_selectMethod X.admits]; exact q4
  obtain ⟨vm₁, X₁, hstep₁⟩ := X.invokevirtual hexec hown hlink hnamed hmethM hstM hkP hkPi hy (a := b) (cell := cellB) hcell
    (fun z h => by rw [h] at hobj; cases hobj) hselP hmethM habM hkP hkPi (g := g) hg (argsL := argsL) (rest := rest) (hlen _ hsigM) hstack hdg
  rcases hK m meth c ⟨T.setVm vm₁, locs, cells, slots⟩ { g with stack := rest } (.invokevirtual index) mk (Value.ref b :: argsL).toArray X₁ hg hsize hdg hW (X₁.named hnamed) (hpre vm₁ X₁.warmed) with ⟨v, B, X', hpost, hsteps⟩ | ⟨q, B, X', hpost, hsteps⟩
  · exact Or.inl ⟨v, vm₁, B, X₁.warmed, X', hpost, fun target h => hstep₁ _ fun acts => by rw [doInvoke_state]; exact hsteps.trans h⟩
  · exact Or.inr ⟨q, vm₁, B, X₁.warmed, X', hpost, hstep₁ _ fun acts => by rw [doInvoke_state]; exact hsteps⟩
theorem vx_callSX (X : Stand p l e R s m args below meth c T locs cells slots) (hexec : p.tables.exec = Jvm.exec) {own : String} {index : Nat} {y : MethodName} {bytes : ByteArray} {maxL : Nat} {ret : Option FieldType} {hh : List (Nat × Nat × Nat × Nat)}
    (hown : s.vm.findClass own = some m.cls) (hlink : (Cond.methodLink own index y).before args s = true) (hstat : (Cond.static y).before args s = true) (hinit : (Cond.initialized y.cls).before args s = true)
    (hcode : (Cond.codeWith y bytes maxL ret hh).before args s = true) (hy : y.cls ≠ "java/lang/invoke/MethodHandle" ∧ y.cls ≠ "java/lang/invoke/VarHandle")
    {W9 : Nat} {Pre : Pt → Array Value → Prop} {Post : Pt → Array Value → Option Value → Pt → Prop} {PostX : Pt → Array Value → Addr → Pt → Prop} (hK : vx_Back l R p e below s args y 3 W9 Pre Post PostX)
    {g : JFrame} (hg : g.method = m) (hsize : g.locals.size = c.maxLocals) {argsL rest : List Value} (hlen : ∀ sig, parseMethodDescriptor y.desc = some sig → argsL.length = sig.parameters.length)
    (hstack : g.stack = argsL.reverse ++ rest) (hW : 2 * g.monitorRoom + (rest.map fun v => v.category).sum ≤ W9) (hdg : decode c.code g.pc = .ok (.invokestatic index, 3))
    (hpre : ∀ vm₁, s.WarmedH vm₁ → Pre ⟨T.setVm vm₁, locs, cells, slots⟩ argsL.toArray) :
    (∃ (v : Option Value) (vm₁ : Vm) (B : Pt), s.WarmedH vm₁ ∧ Stand p l e R s m args below meth c B.U B.locs B.cells B.slots ∧ Post ⟨T.setVm vm₁, locs, cells, slots⟩ argsL.toArray v B ∧
      ∀ target, Steps p.tables e below (B.U.setTop { g with pc := g.pc + 3, stack := v.toList ++ rest }) target → Steps p.tables e below (T.setTop g) target) ∨
    (∃ (q : Addr) (vm₁ : Vm) (B : Pt), s.WarmedH vm₁ ∧ Stand p l e R s m args below meth c B.U B.locs B.cells B.slots ∧ PostX ⟨T.setVm vm₁, locs, cells, slots⟩ argsL.toArray q B ∧
      Steps p.tables e below (T.setTop g) ((B.U.setTop { g with stack := rest }).pushFrame (.throwing q))) := by
  obtain ⟨mk, methM, cM, hnamed, hmethM, -, -, -, -, -, -, hsigM⟩ := Cond.codeWith_spec hcode
  have hstatic : methM.isStatic = true := Cond.static_spec hnamed hmethM hstat
  obtain ⟨kP, hkP, -⟩ := className_of_methodNamed hnamed
  have hinitP : kP.init = .initialized := Cond.initialized_spec (findClass_of_methodNamed hnamed) hkP hinit
  obtain ⟨vm₁, X₁, hstep₁⟩ := X.invokestatic hexec hown hlink hnamed hmethM hstatic hkP hinitP hy (g := g) hg (argsL := argsL) (rest := rest) (hlen _ hsigM) hstack hdg
  rcases hK m meth c ⟨T.setVm vm₁, locs, cells, slots⟩ { g with stack := rest } (.invokestatic index) mk argsL.toArray X₁ hg hsize hdg hW (X₁.named hnamed) (hpre vm₁ X₁.warmed) with ⟨v, B, X', hpost, hsteps⟩ | ⟨q, B, X', hpost, hsteps⟩
  · exact Or.inl ⟨v, vm₁, B, X₁.warmed, X', hpost, fun target h => hstep₁ _ fun acts => by rw [doInvoke_state]; exact hsteps.trans h⟩
  · exact Or.inr ⟨q, vm₁, B, X₁.warmed, X', hpost, hstep₁ _ fun acts => by rw [doInvoke_state]; exact hsteps⟩
theorem vx_callVW (X : Stand p l e R s m args below meth c T locs cells slots) (hexec : p.tables.exec = Jvm.exec) {own C : String} {index : Nat} {y : MethodName} {bytes : ByteArray} {maxL : Nat} {ret : Option FieldType} {hh : List (Nat × Nat × Nat × Nat)}
    (hown : s.vm.findClass own = some m.cls) (hlink : (Cond.methodLink own index y).before args s = true) (hinst : (Cond.instanceMethod y).before args s = true) (hsel : (Cond.selects C y y).before args s = true)
    (hcode : (Cond.codeWith y bytes maxL ret hh).before args s = true) (hy : y.cls ≠ "java/lang/invoke/MethodHandle" ∧ y.cls ≠ "java/lang/invoke/VarHandle")
    {W9 : Nat} {Pre : Pt → Array Value → Prop} {Post : Pt → Array Value → Option Value → Pt → Prop} (hK : Back l R p e below s args y 3 W9 Pre Post)
    {b : Addr} {cellB : Cell} (hcell : T.heap[b]? = some cellB) (hobj : cellB.vm.isStatics = false) (hcls : s.vm.findClass C = some cellB.cls)
    {g : JFrame} (hg : g.method = m) (hsize : g.locals.size = c.maxLocals) {argsL rest : List Value} (hlen : ∀ sig, parseMethodDescriptor y.desc = some sig → argsL.length = sig.parameters.length)
    (hstack : g.stack = argsL.reverse ++ .ref b :: rest) (hW : 2 * g.monitorRoom + (rest.map fun v => v.category).sum ≤ W9) (hdg : decode c.code g.pc = .ok (.invokevirtual index, 3))
    (hpre : ∀ vm₁, s.WarmedH vm₁ → Pre ⟨T.setVm vm₁, locs, cells, slots⟩ (Value.ref b :: argsL).toArray) :
    ∃ (v : Option Value) (vm₁ : Vm) (B : Pt), s.WarmedH vm₁ ∧ Stand p l e R s m args below meth c B.U B.locs B.cells B.slots ∧ Post ⟨T.setVm vm₁, locs, cells, slots⟩ (Value.ref b :: argsL).toArray v B ∧
      ∀ target, Steps p.tables e below (B.U.setTop { g with pc := g.pc + 3, stack := v.toList ++ rest }) target → Steps p.tables e below (T.setTop g) target := by
  obtain ⟨mk, methM, hnamed, hmethM, hstM, habM⟩ := Cond.instanceMethod_spec hinst
  obtain ⟨m8, methM', cM, hn8, hmethM', -, -, -, -, -, -, hsigM⟩ := Cond.codeWith_spec hcode
  cases Option.some.inj (hn8.symm.trans hnamed)
  cases hmethM.symm.trans hmethM'
  obtain ⟨c2, r2, m2, q1, q2, q3, q4, kP, hkP, hkPi⟩ := Cond.selects_spec hsel
  cases hcls.symm.trans q1
  cases (State.methodFound?_of_named hnamed hy).symm.trans q2
  cases hnamed.symm.trans q3
  have hselP : selectMethod e.platform s.vm cellB.cls mk = .method mk := by rw [Launch.admits_selectMethod X.admits]; exact q4
  obtain ⟨vm₁, X₁, hstep₁⟩ := X.invokevirtual hexec hown hlink hnamed hmethM hstM hkP hkPi hy (a := b) (cell := cellB) hcell
    (fun z h => by rw [h] at hobj; cases hobj) hselP hmethM habM hkP hkPi (g := g) hg (argsL := argsL) (rest := rest) (hlen _ hsigM) hstack hdg
  obtain ⟨v, B, X', hpost, hsteps⟩ := hK m meth c ⟨T.setVm vm₁, locs, cells, slots⟩ { g with stack := rest } (.invokevirtual index) mk (Value.ref b :: argsL).toArray X₁ hg hsize hdg hW (X₁.named hnamed) (hpre vm₁ X₁.warmed)
  exact ⟨v, vm₁, B, X₁.warmed, X', hpost, fun target h => hstep₁ _ fun acts => by rw [doInvoke_state]; exact hsteps.trans h⟩
abbrev vx_CVW (R : Room) (s : State) (args : Array Value) (own C : String) (index : Nat) (y : MethodName) (bytes : ByteArray) (maxL : Nat) (ret : Option FieldType) (hh : List (Nat × Nat × Nat × Nat)) (ws : List Cond) (rm : Room) (mc ms n : Nat) : Prop :=
  (rm.cells = mc ∧ rm.slots = ms ∧ rm.frames + 1 ≤ R.frames ∧ 8 + (maxL + 11) + rm.locals ≤ R.locals ∧ (∀ w ∈ ws, ∀ (a' : Array Value) (U : State), s.WarmedH U.vm → w.before a' U = true) ∧ Cond.codeWith y bytes maxL ret hh ∈ ws) ∧
  (Cond.codeWith y bytes maxL ret hh).before args s = true ∧ (Cond.initialized y.cls).before args s = true ∧ (y.cls ≠ "java/lang/invoke/MethodHandle" ∧ y.cls ≠ "java/lang/invoke/VarHandle") ∧
  (∀ sig, parseMethodDescriptor y.desc = some sig → n = sig.parameters.length) ∧ (Cond.methodLink own index y).before args s = true ∧ (Cond.instanceMethod y).before args s = true ∧ (Cond.selects C y y).before args s = true
theorem vx_cwVW {own C : String} {index maxL mc ms : Nat} {y : MethodName} {bytes : ByteArray} {ret : Option FieldType} {hh : List (Nat × Nat × Nat × Nat)} {Ts ws ws' : List Cond} {rm : Room} (n : Nat) (ht : ∀ w ∈ Ts, w.before args s = true) (hT : GoodIn Ts (wsV own index C y ws)) (hw : ws = Cond.codeWith y bytes maxL ret hh :: ws') (hrc : rm.cells = mc) (hrs : rm.slots = ms)
    (hd : y.cls = C ∧ y.cls ≠ "java/lang/invoke/MethodHandle" ∧ y.cls ≠ "java/lang/invoke/VarHandle" ∧ (parseMethodDescriptor y.desc).map (fun d => d.parameters.length) = some n) (hR : rm.frames + 1 ≤ R.frames ∧ 8 + (maxL + 11) + rm.locals ≤ R.locals) :
    vx_CVW R s args own C index y bytes maxL ret hh ws rm mc ms n := by
  obtain ⟨hC, hd⟩ := hd
  subst hC
  have ok : ∀ w ∈ wsV own index y.cls y ws, w.before args s = true := fun w h => ht w (hT w h).1
  have hG : GoodIn Ts ws := fun w h => hT w (by unfold wsV; exact List.mem_append_right _ h)
  have hc : Cond.codeWith y bytes maxL ret hh ∈ ws := by rw [hw]; exact List.mem_cons_self
  refine ⟨⟨hrc, hrs, hR.1, hR.2, pay_in ht hG, hc⟩, ht _ (hG _ hc).1, ok _ (by simp [wsV]), ⟨hd.1, hd.2.1⟩, fun sig h => ?_, ok _ (by simp [wsV]), ok _ (by simp [wsV]), ok _ (by simp [wsV])⟩
  have h2 := hd.2.2
  rw [h] at h2
  exact (Option.some.inj h2).symm
theorem vx_runVW {y : MethodName} {bytes cc : ByteArray} {maxL nL mc ms n index : Nat} {ret : Option FieldType} {hh : List (Nat × Nat × Nat × Nat)} {ws : List Cond} {rm : Room} {Pc : Array Value → State → Prop} {Qc : Array Value → State → Outcome → State → Prop} {free : Addr → Prop} {Ts : List Cond} {own C : String} {b : Addr} {As rest : List Value} {g : JFrame}
    (S : CallFix p m c cc nL s args Ts own) (hM : Met l y ws rm Pc Qc mc ms free) (cw : vx_CVW R s args own C index y bytes maxL ret hh ws rm mc ms n) (hp : PreV s H C b Pc As)
    (hg : g.method = m) (hn : As.length = n) (hsize : g.locals.size = nL) (hstack : g.stack = As.reverse ++ .ref b :: rest) (hW : 2 * g.monitorRoom + (rest.map fun v => v.category).sum ≤ 8) (hdg : decode cc g.pc = .ok (.invokevirtual index, 3)) (hf : cells + mc ≤ R.cells ∧ slots + ms ≤ R.slots) :
    va_Run p l e R s m args below meth c H locs cells slots mc ms g rest (Qc (Value.ref b :: As).toArray) free := by
  obtain ⟨⟨hrc, hrs, hfr, hlo, hws, hcw⟩, hcode, hini, hy, hlen, hl, hin, hse⟩ := cw
  have hK : Back l R p e below s args y 3 8 (PreOf R mc ms Pc) (PostOf Qc mc ms free) := va_backW (hh := hh) (bytes := bytes) (maxL := maxL) (ret := ret) hM hp.1 hrc hrs hfr hlo hws hcw (fun a' U hW => word_at hW (Or.inl (by first | rfl | simp [Cond.onTables, Cond.keeps, Cond.steady])) hini)
  obtain ⟨hx, hb, hml, ho, -⟩ := S
  obtain ⟨-, ⟨cellB, hcB, hoB, hclB⟩, hPc⟩ := hp
  intro T hT X
  obtain ⟨v, vm₁, ⟨U', l2, c2, s2⟩, hW₁, X', ⟨g', mk, t, L, e1, e2, hq, h1, hL, h2, h3⟩, st⟩ := vx_callVW X hx (C := C) (hh := hh) (bytes := bytes) (maxL := maxL) (ret := ret) ho hl hin hse hcode hy hK (by rw [hT]; exact hcB) hoB hclB hg (hsize.trans hml.symm) (argsL := As) (rest := rest) (fun sig h => hn.trans (hlen sig h)) hstack hW (by rw [hb]; exact hdg)
    (fun vm₁ hW₁ => ⟨hf.1, hf.2, hPc (T.setVm vm₁) hT hW₁⟩)
  dsimp only [Pt.U, Pt.locs, Pt.cells, Pt.slots] at X' e1 e2 h1 h2 h3 st
  subst h1; subst h2; subst h3
  exact ⟨v, (T.setVm vm₁).calling g' mk (Value.ref b :: As).toArray, t, U', L, hT, X', hL, e1, e2, hq, st⟩
section
variable {y : MethodName} {bytes cc : ByteArray} {maxL nL mc ms n index : Nat} {ret : Option FieldType} {ws : List Cond} {rm : Room} {Pc : Array Value → State → Prop} {Qc : Array Value → State → Outcome → State → Prop} {XC : String → State → State → Prop} {free : Addr → Prop} {Ts : List Cond} {own C : String} {b : Addr} {As rest : List Value} {g : JFrame}
theorem vx_runVX {hh : List (Nat × Nat × Nat × Nat)} (S : CallFix p m c cc nL s args Ts own) (hM : vx_Met l y ws rm Pc Qc XC mc ms free) (cw : vx_CVW R s args own C index y bytes maxL ret hh ws rm mc ms n) (hp : PreV s H C b Pc As)
    (hg : g.method = m) (hn : As.length = n) (hsize : g.locals.size = nL) (hstack : g.stack = As.reverse ++ .ref b :: rest) (hW : 2 * g.monitorRoom + (rest.map fun v => v.category).sum ≤ 8) (hdg : decode cc g.pc = .ok (.invokevirtual index, 3)) (hf : cells + mc ≤ R.cells ∧ slots + ms ≤ R.slots) :
    vx_Run p l e R s m args below meth c H locs cells slots mc ms g rest (Qc (Value.ref b :: As).toArray) XC free := by
  obtain ⟨⟨hrc, hrs, hfr, hlo, hws, hcw⟩, hcode, hini, hy, hlen, hl, hin, hse⟩ := cw
  have hK : vx_Back l R p e below s args y 3 8 (PreOf R mc ms Pc) (PostOf Qc mc ms free) (vx_Post XC mc ms free) := vx_backW (hh := hh) (bytes := bytes) (maxL := maxL) (ret := ret) hM hp.1 hrc hrs hfr hlo hws hcw (fun a' U hW => word_at hW (Or.inl (by first | rfl | simp [Cond.onTables, Cond.keeps, Cond.steady])) hini)
  obtain ⟨hx, hb, hml, ho, -⟩ := S
  obtain ⟨-, ⟨cellB, hcB, hoB, hclB⟩, hPc⟩ := hp
  intro T hT X
  rcases vx_callVX X hx (C := C) (hh := hh) (bytes := bytes) (maxL := maxL) (ret := ret) ho hl hin hse hcode hy hK (by rw [hT]; exact hcB) hoB hclB hg (hsize.trans hml.symm) (argsL := As) (rest := rest) (fun sig h => hn.trans (hlen sig h)) hstack hW (by rw [hb]; exact hdg)
    (fun vm₁ hW₁ => ⟨hf.1, hf.2, hPc (T.setVm vm₁) hT hW₁⟩) with ⟨v, vm₁, ⟨U', l2, c2, s2⟩, hW₁, X', ⟨g', mk, t, L, e1, e2, hq, h1, hL, h2, h3⟩, st⟩ | ⟨q, vm₁, ⟨U', l2, c2, s2⟩, hW₁, X', ⟨g', mk, t, L, E, ce, e1, e2, hq, hce, hcv, hcl, h1, hL, h2, h3⟩, st⟩
  · dsimp only [Pt.U, Pt.locs, Pt.cells, Pt.slots] at X' e1 e2 h1 h2 h3 st
    subst h1; subst h2; subst h3
    exact Or.inl ⟨v, (T.setVm vm₁).calling g' mk (Value.ref b :: As).toArray, t, U', L, hT, X', hL, e1, e2, hq, st⟩
  · dsimp only [Pt.U, Pt.locs, Pt.cells, Pt.slots] at X' e1 e2 h1 h2 h3 st hcl
    subst h1; subst h2; subst h3
    exact Or.inr ⟨q, (T.setVm vm₁).calling g' mk (Value.ref b :: As).toArray, t, U', L, E, ce, hT, X', hL, e1, e2, hq, hce, hcv, vx_cls hW₁ hcl, st⟩
theorem vx_runSX {hh : List (Nat × Nat × Nat × Nat)} (S : CallFix p m c cc nL s args Ts own) (hM : vx_Met l y ws rm Pc Qc XC mc ms free) (cw : vx_CSW R s args own index y bytes maxL ret hh ws rm mc ms n) (hp : PreS s H Pc As)
    (hg : g.method = m) (hn : As.length = n) (hsize : g.locals.size = nL) (hstack : g.stack = As.reverse ++ rest) (hW : 2 * g.monitorRoom + (rest.map fun v => v.category).sum ≤ 8) (hdg : decode cc g.pc = .ok (.invokestatic index, 3)) (hf : cells + mc ≤ R.cells ∧ slots + ms ≤ R.slots) :
    vx_Run p l e R s m args below meth c H locs cells slots mc ms g rest (Qc As.toArray) XC free := by
  obtain ⟨⟨hrc, hrs, hfr, hlo, hws, hcw⟩, hcode, hini, hy, hlen, hl, hstt⟩ := cw
  have hK : vx_Back l R p e below s args y 3 8 (PreOf R mc ms Pc) (PostOf Qc mc ms free) (vx_Post XC mc ms free) := vx_backW (hh := hh) (bytes := bytes) (maxL := maxL) (ret := ret) hM hp.1 hrc hrs hfr hlo hws hcw (fun a' U hW => word_at hW (Or.inl (by first | rfl | simp [Cond.onTables, Cond.keeps, Cond.steady])) hini)
  obtain ⟨hx, hb, hml, ho, -⟩ := S
  intro T hT X
  rcases vx_callSX X hx (hh := hh) (bytes := bytes) (maxL := maxL) (ret := ret) ho hl hstt hini hcode hy hK hg (hsize.trans hml.symm) (argsL := As) (rest := rest) (fun sig h => hn.trans (hlen sig h)) hstack hW (by rw [hb]; exact hdg)
    (fun vm₁ hW₁ => ⟨hf.1, hf.2, hp.2 (T.setVm vm₁) hT hW₁⟩) with ⟨v, vm₁, ⟨U', l2, c2, s2⟩, hW₁, X', ⟨g', mk, t, L, e1, e2, hq, h1, hL, h2, h3⟩, st⟩ | ⟨q, vm₁, ⟨U', l2, c2, s2⟩, hW₁, X', ⟨g', mk, t, L, E, ce, e1, e2, hq, hce, hcv, hcl, h1, hL, h2, h3⟩, st⟩
  · dsimp only [Pt.U, Pt.locs, Pt.cells, Pt.slots] at X' e1 e2 h1 h2 h3 st
    subst h1; subst h2; subst h3
    exact Or.inl ⟨v, (T.setVm vm₁).calling g' mk As.toArray, t, U', L, hT, X', hL, e1, e2, hq, st⟩
  · dsimp only [Pt.U, Pt.locs, Pt.cells, Pt.slots] at X' e1 e2 h1 h2 h3 st hcl
    subst h1; subst h2; subst h3
    exact Or.inr ⟨q, (T.setVm vm₁).calling g' mk As.toArray, t, U', L, E, ce, hT, X', hL, e1, e2, hq, hce, hcv, vx_cls hW₁ hcl, st⟩
end
end VXH
theorem vx_ofWH {l : Launch} {y : MethodName} {ws ws' : List Cond} {rm : Room} {Pc : Array Value → State → Prop} {Qc : Array Value → State → Outcome → State → Prop} {XC : String → State → State → Prop} {mc ms : Nat} {free : Addr → Prop} {cc : ByteArray} {maxL : Nat} {ret : Option FieldType} {hh : List (Nat × Nat × Nat × Nat)}
    (hy : plainName y.cls = true) (hw : ws = Cond.codeWith y cc maxL ret hh :: ws')
    (body : ∀ p e s m args below meth c s₁, BodyLoose p l y (headSpec ws rm) cc maxL ret e s m args below meth c s₁ → c.maxLocals = maxL → Pc args s →
      W p l e (headSpec ws rm).room s m args below meth c s.heap [] 0 0 (vx_MQ below Qc XC args s mc ms free) (entryFrame m args maxL)) : vx_Met l y ws rm Pc Qc XC mc ms free := by
  refine MetFree.of_bodyS (code := cc) (maxLocals := maxL) (ret := ret) hy ?_ ?_
  · intro args s m h hn
    obtain ⟨m9, meth, c, hn9, h1, h2, h3, h4, -, h5, h6, -⟩ := Cond.codeWith_spec (atoms_spec (ws := ws) h _ (by rw [hw]; exact List.mem_cons_self))
    cases hn.symm.trans hn9
    exact ⟨meth, c, h1, h2, h3, h4, h5, h6⟩
  · intro p e s m args below meth c s₁ B hml hP _
    have hh0 : s₁.heap = s.heap := by rw [B.state]; rfl
    obtain ⟨t, a1, o, b1, b2, b3⟩ := body p e s m args below meth c s₁ B hml hP s₁ hh0 (Stand.of_body B)
    exact ⟨t, o, a1, b1, b2, b3⟩
/-! ===== END ===== -/
end
section
/-! AW: a walk of one method over an abstract world. A world is its size and what lies at which of its own addresses. -/
abbrev xG : Type := va_G × ClassId × ClassId × ClassId × ClassId × ClassId
def xTys (g : xG) : List (ClassId × FieldType) := [(g.2.1, .int), (g.2.2.1, .long), (g.2.2.2.1, .boolean), (g.2.2.2.2.1, .object RX3), (g.2.2.2.2.2, .object RX7)]
abbrev xV : Type := Nat × (Nat → Option va_E)
def xF (x : xV) : Nat → Prop := fun q => x.2 q ≠ none ∨ x.1 ≤ q
def xP (g : xG) (x : xV) (H : Heap) : Prop := H.size = x.1 ∧ ∀ (a : Nat) (e : va_E), x.2 a = some e → va_at g.1 vwCl (a, e) H
def xD (x0 x : xV) : Prop := ∀ a, x.2 a ≠ none → xF x0 a
/-- a method: its class, its bytes, its locals, what it returns, its name -/
abbrev xM : Type := String × ByteArray × Nat × Option FieldType × String
/-- what stays besides: the board's handicap points, arrays of games and nodes can be made, what a throw reads -/
def hpV (j : Nat) : Value := .int (match j with | 0 => 16 | 1 => 32 | 2 => 18 | _ => 30)
def xI (x : xV) (U : State) (H : Heap) : Prop :=
  (∃ t : Nat, va_Z RX4 "HANDICAP_POINTS" "[I" (.ref t) (xF x) U H ∧ va_T .int t 4 hpV (xF x) U H) ∧ va_AO RX3 U ∧ va_AO RX7 U ∧ vx_Zq Bundle.tN "UNASSIGNED_STACK" Bundle.steD (xF x) U H ∧ vx_Zq Bundle.tN "SUPPRESSED_SENTINEL" Bundle.listD (xF x) U H ∧ ∀ (own : String) (k : Nat) (tx : String), Cond.stringRef own k tx ∈ lw_tbl → ∃ a : Nat, vk_R own k tx a U
def xB (M : xM) (l : Launch) (g : xG) (x0 : xV) (o1 : Option Value ⊕ String) (p : Program) (s : State) (m : MethodId) (args : Array Value) (meth : Method) (c : Code) : Prop :=
  p.tables.exec = Jvm.exec ∧ c.code = M.2.1 ∧ c.maxLocals = M.2.2.1 ∧ meth.sig.returnType = M.2.2.2.1 ∧ meth.locks = false ∧ s.vm.findClass M.1 = some m.cls ∧ (∀ w ∈ wt, w.before args s = true) ∧ va_K g.1 vwCl (xTys g) s ∧ s.heap.size = x0.1 ∧ meth.name = M.2.2.2.2 ∧ xI x0 s s.heap ∧ (∀ E : String, o1 = .inr E → ∀ y ∈ c.exceptionTable.toList, False) ∧ l.stackTraces = false
def xH (g : xG) (x0 x : xV) (s : State) (H : Heap) (locs : List Loc) : Prop := xP g x H ∧ xD x0 x ∧ va_S (xF x0) s.heap H locs
def xQ (g : xG) (x0 : xV) (v1 : Option Value) (x1 : xV) : Array Value → State → Outcome → State → Prop := fun _ st o t => o = .returned v1 ∧ xP g x1 t.heap ∧ xD x0 x1 ∧ va_F (xF x0) st t
def xX (g : xG) (x0 : xV) (E : String) (x1 : xV) : String → State → State → Prop := fun E2 st t => E2 = E ∧ (∃ z : Nat, x1.1 ≤ z ∧ xP g (z, x1.2) t.heap) ∧ xD x0 x1 ∧ va_F (xF x0) st t
def xZ (rm : Room) (g : xG) (x0 : xV) (o1 : Option Value ⊕ String) (x1 : xV) (below : List Frame) (args : Array Value) (s : State) : State → Prop := match o1 with
  | .inl v => MQ below (xQ g x0 v x1) args s rm.cells rm.slots (xF x0)
  | .inr E => vx_MQ below (fun _ _ _ _ => False) (xX g x0 E x1) args s rm.cells rm.slots (xF x0)
/-- the walk: from pc with these locals and this stack over the world x, with kc cells and ks slots made so far, the method comes to its end: it returns (.inl) or throws (.inr) so, and leaves the world x1 -/
def AW (M : xM) (rm : Room) (l : Launch) (g : xG) (x0 : xV) (o1 : Option Value ⊕ String) (x1 : xV) (kc ks : Nat) (x : xV) (pc : Nat) (lv : List (Nat × Value)) (st : List Value) : Prop :=
  ∀ (p : Program) (e : Env) (s : State) (m : MethodId) (args : Array Value) (below : List Frame) (meth : Method) (c : Code), xB M l g x0 o1 p s m args meth c →
    ∀ (H : Heap) (locs : List Loc) (ls : Array Slot), xH g x0 x s H locs → lv_has ls M.2.2.1 lv →
      W p l e rm s m args below meth c H locs kc ks (xZ rm g x0 o1 x1 below args s) (F0 m pc ls st)
def xPc (g : xG) (x0 : xV) : State → Prop := fun U => xP g x0 U.heap ∧ va_K g.1 vwCl (xTys g) U ∧ xI x0 U U.heap
/-- a method's contract: from the world x0 it returns or throws so, and leaves the world x1 -/
def CT (y : MethodName) (M : xM) (rm : Room) (l : Launch) (g : xG) (av : List Value) (x0 : xV) (o1 : Option Value ⊕ String) (x1 : xV) : Prop := match o1 with
  | .inl v => Met l y (.code y M.2.1 M.2.2.1 M.2.2.2.1 :: wt) rm (va_Pc av (xPc g x0)) (xQ g x0 v x1) rm.cells rm.slots (xF x0)
  | .inr E => vx_Met l y (.code y M.2.1 M.2.2.1 M.2.2.2.1 :: wt) rm (va_Pc av (xPc g x0)) (fun _ _ _ _ => False) (xX g x0 E x1) rm.cells rm.slots (xF x0)
theorem xD.self {x : xV} : xD x x := fun _ h => Or.inl h
theorem CT.of {y : MethodName} {M : xM} {rm : Room} {l : Launch} {g : xG} {av : List Value} {x0 : xV} {o1 : Option Value ⊕ String} {x1 : xV} (hy : plainName y.cls = true) (hc : y.cls = M.1) (hn : y.name = M.2.2.2.2) (hL : (lg_sl av).length ≤ M.2.2.1) (hl : l.stackTraces = false)
    (hw : AW M rm l g x0 o1 x1 0 0 x0 0 (lv_args 0 av) []) : CT y M rm l g av x0 o1 x1 := by
  cases o1 with
  | inl v =>
    refine Met.ofW (cc := M.2.1) (maxL := M.2.2.1) (ret := M.2.2.2.1) hy rfl ?_
    intro p e s m args below meth c s₁ B hml hv
    obtain ⟨rfl, hP, hK, hI⟩ := hv
    have hts := atoms_spec (ws := .code y M.2.1 M.2.2.1 M.2.2.2.1 :: wt) B.pre
    rw [lg_entry_eq]
    refine hw p e s m _ below meth c ⟨B.exec, B.bytes, hml, B.returns, B.notSynchronized, ?_, fun w h => hts w (List.mem_cons_of_mem _ h), hK, hP.1, ?_, hI, (fun E h => by cases h), hl⟩ s.heap [] _ ⟨hP, xD.self, va_S.rf⟩ (lv_entry av hL)
    · rw [← hc]; exact findClass_of_methodNamed B.named
    · rw [← hn]; exact (name_of_methodNamed B.named B.method).1
  | inr E =>
    refine vx_ofW (cc := M.2.1) (maxL := M.2.2.1) (ret := M.2.2.2.1) hy rfl ?_
    intro p e s m args below meth c s₁ B hml ht hv
    obtain ⟨rfl, hP, hK, hI⟩ := hv
    have hts := atoms_spec (ws := .code y M.2.1 M.2.2.1 M.2.2.2.1 :: wt) B.pre
    rw [lg_entry_eq]
    refine hw p e s m _ below meth c ⟨B.exec, B.bytes, hml, B.returns, B.notSynchronized, ?_, fun w h => hts w (List.mem_cons_of_mem _ h), hK, hP.1, ?_, hI, (fun E h => ht), hl⟩ s.heap [] _ ⟨hP, xD.self, va_S.rf⟩ (lv_entry av hL)
    · rw [← hc]; exact findClass_of_methodNamed B.named
    · rw [← hn]; exact (name_of_methodNamed B.named B.method).1
section AWR
variable {M : xM} {rm : Room} {l : Launch} {g : xG} {x0 : xV} {o1 : Option Value ⊕ String} {x1 : xV} {kc ks : Nat} {x : xV} {pc : Nat} {lv : List (Nat × Value)} {st : List Value}
theorem aw_iconst (v : Int32) {n : Int} (hd : decode M.2.1 pc = .ok (.iconst n, 1)) (hv : Int32.ofInt n = v) (k : AW M rm l g x0 o1 x1 kc ks x (pc + 1) lv (.int v :: st)) : AW M rm l g x0 o1 x1 kc ks x (pc) lv (st) := fun p e s m args below meth c B H locs ls hH hl => lv_iconst B.1 B.2.1 hd hv (k p e s m args below meth c B H locs ls hH hl)
theorem aw_bipush (v : Int32) {n : Int} (hd : decode M.2.1 pc = .ok (.bipush n, 2)) (hv : (Int8.ofInt n).toInt32 = v) (k : AW M rm l g x0 o1 x1 kc ks x (pc + 2) lv (.int v :: st)) : AW M rm l g x0 o1 x1 kc ks x (pc) lv (st) := fun p e s m args below meth c B H locs ls hH hl => lv_bipush B.1 B.2.1 hd hv (k p e s m args below meth c B H locs ls hH hl)
theorem aw_sipush (v : Int32) {n : Int} (hd : decode M.2.1 pc = .ok (.sipush n, 3)) (hv : (Int16.ofInt n).toInt32 = v) (k : AW M rm l g x0 o1 x1 kc ks x (pc + 3) lv (.int v :: st)) : AW M rm l g x0 o1 x1 kc ks x (pc) lv (st) := fun p e s m args below meth c B H locs ls hH hl => lv_sipush B.1 B.2.1 hd hv (k p e s m args below meth c B H locs ls hH hl)
theorem aw_lconst (v : Int64) {n : Fin 2} (hd : decode M.2.1 pc = .ok (.lconst n, 1)) (hv : Int64.ofNat (n : Nat) = v) (k : AW M rm l g x0 o1 x1 kc ks x (pc + 1) lv (.long v :: st)) : AW M rm l g x0 o1 x1 kc ks x (pc) lv (st) := fun p e s m args below meth c B H locs ls hH hl => lv_lconst B.1 B.2.1 hd hv (k p e s m args below meth c B H locs ls hH hl)
theorem aw_ldc (v : Int32) {own : String} {index : Nat} (ho : own = M.1) (hc : Jvm.Cond.constant own index v ∈ wt) (hd : decode M.2.1 pc = .ok (.ldc index, 2)) (k : AW M rm l g x0 o1 x1 kc ks x (pc + 2) lv (.int v :: st)) : AW M rm l g x0 o1 x1 kc ks x (pc) lv (st) := fun p e s m args below meth c B H locs ls hH hl => lv_ldc B.1 B.2.1 (by rw [ho]; exact B.2.2.2.2.2.1) (B.2.2.2.2.2.2.1 _ hc) hd (k p e s m args below meth c B H locs ls hH hl)
theorem aw_ldc2 (v : Int64) {own : String} {index : Nat} (ho : own = M.1) (hc : Jvm.Cond.constantLong own index v ∈ wt) (hd : decode M.2.1 pc = .ok (.ldc2_w index, 3)) (k : AW M rm l g x0 o1 x1 kc ks x (pc + 3) lv (.long v :: st)) : AW M rm l g x0 o1 x1 kc ks x (pc) lv (st) := fun p e s m args below meth c B H locs ls hH hl => lv_ldc2 B.1 B.2.1 (by rw [ho]; exact B.2.2.2.2.2.1) (B.2.2.2.2.2.2.1 _ hc) hd (k p e s m args below meth c B H locs ls hH hl)
theorem aw_iload_n (j : Nat) {q : Fin 4} {x_ : Int32} (hd : decode M.2.1 pc = .ok (.iload_n q, 1)) (hj : lv[j]? = some ((q : Nat), Value.int x_)) (k : AW M rm l g x0 o1 x1 kc ks x (pc + 1) lv (Value.int x_ :: st)) : AW M rm l g x0 o1 x1 kc ks x (pc) lv (st) := fun p e s m args below meth c B H locs ls hH hl => lv_iload_n B.1 B.2.1 hd rfl (lv_at hl j hj) (k p e s m args below meth c B H locs ls hH hl)
theorem aw_iload (j : Nat) {q : Nat} {x_ : Int32} (hd : decode M.2.1 pc = .ok (.iload q, 2)) (hj : lv[j]? = some (q, Value.int x_)) (k : AW M rm l g x0 o1 x1 kc ks x (pc + 2) lv (Value.int x_ :: st)) : AW M rm l g x0 o1 x1 kc ks x (pc) lv (st) := fun p e s m args below meth c B H locs ls hH hl => lv_iload B.1 B.2.1 hd (lv_at hl j hj) (k p e s m args below meth c B H locs ls hH hl)
theorem aw_lload_n (j : Nat) {q : Fin 4} {x_ : Int64} (hd : decode M.2.1 pc = .ok (.lload_n q, 1)) (hj : lv[j]? = some ((q : Nat), Value.long x_)) (k : AW M rm l g x0 o1 x1 kc ks x (pc + 1) lv (Value.long x_ :: st)) : AW M rm l g x0 o1 x1 kc ks x (pc) lv (st) := fun p e s m args below meth c B H locs ls hH hl => lv_lload_n B.1 B.2.1 hd rfl (lv_at hl j hj) (k p e s m args below meth c B H locs ls hH hl)
theorem aw_lload (j : Nat) {q : Nat} {x_ : Int64} (hd : decode M.2.1 pc = .ok (.lload q, 2)) (hj : lv[j]? = some (q, Value.long x_)) (k : AW M rm l g x0 o1 x1 kc ks x (pc + 2) lv (Value.long x_ :: st)) : AW M rm l g x0 o1 x1 kc ks x (pc) lv (st) := fun p e s m args below meth c B H locs ls hH hl => lv_lload B.1 B.2.1 hd (lv_at hl j hj) (k p e s m args below meth c B H locs ls hH hl)
theorem aw_aload_n (j : Nat) {q : Fin 4} {x_ : Nat} (hd : decode M.2.1 pc = .ok (.aload_n q, 1)) (hj : lv[j]? = some ((q : Nat), Value.ref x_)) (k : AW M rm l g x0 o1 x1 kc ks x (pc + 1) lv (Value.ref x_ :: st)) : AW M rm l g x0 o1 x1 kc ks x (pc) lv (st) := fun p e s m args below meth c B H locs ls hH hl => lv_aload_n B.1 B.2.1 hd rfl (lv_at hl j hj) (k p e s m args below meth c B H locs ls hH hl)
theorem aw_aload (j : Nat) {q : Nat} {x_ : Nat} (hd : decode M.2.1 pc = .ok (.aload q, 2)) (hj : lv[j]? = some (q, Value.ref x_)) (k : AW M rm l g x0 o1 x1 kc ks x (pc + 2) lv (Value.ref x_ :: st)) : AW M rm l g x0 o1 x1 kc ks x (pc) lv (st) := fun p e s m args below meth c B H locs ls hH hl => lv_aload B.1 B.2.1 hd (lv_at hl j hj) (k p e s m args below meth c B H locs ls hH hl)
theorem aw_qload_n (j : Nat) {q : Fin 4} {r : Option Nat} (hd : decode M.2.1 pc = .ok (.aload_n q, 1)) (hj : lv[j]? = some ((q : Nat), va_rf r)) (k : AW M rm l g x0 o1 x1 kc ks x (pc + 1) lv (va_rf r :: st)) : AW M rm l g x0 o1 x1 kc ks x (pc) lv (st) := fun p e s m args below meth c B H locs ls hH hl => by
  cases r with
  | none => exact lv_aload_nN B.1 B.2.1 hd rfl (lv_at hl j hj) (k p e s m args below meth c B H locs ls hH hl)
  | some a => exact lv_aload_n B.1 B.2.1 hd rfl (lv_at hl j hj) (k p e s m args below meth c B H locs ls hH hl)
theorem aw_qload (j : Nat) {q : Nat} {r : Option Nat} (hd : decode M.2.1 pc = .ok (.aload q, 2)) (hj : lv[j]? = some (q, va_rf r)) (k : AW M rm l g x0 o1 x1 kc ks x (pc + 2) lv (va_rf r :: st)) : AW M rm l g x0 o1 x1 kc ks x (pc) lv (st) := fun p e s m args below meth c B H locs ls hH hl => by
  cases r with
  | none => exact lv_aloadN B.1 B.2.1 hd (lv_at hl j hj) (k p e s m args below meth c B H locs ls hH hl)
  | some a => exact lv_aload B.1 B.2.1 hd (lv_at hl j hj) (k p e s m args below meth c B H locs ls hH hl)
theorem aw_istore_n (lv2 : List (Nat × Value)) {q : Fin 4} {i : Nat} {x_ : Int32} (hd : decode M.2.1 pc = .ok (.istore_n q, 1)) (hi : (q : Nat) = i) (hn : i < M.2.2.1) (hl2 : (i, Value.int x_) :: lv.filter (fun q => !(q.1 == i) && !(q.1 + 1 == i && q.2.category == 2)) = lv2) (k : AW M rm l g x0 o1 x1 kc ks x (pc + 1) lv2 (st)) : AW M rm l g x0 o1 x1 kc ks x (pc) lv (Value.int x_ :: st) := fun p e s m args below meth c B H locs ls hH hl => lv_istore_n B.1 B.2.1 hd hi hl hn hl2 (fun ls2 hl3 => k p e s m args below meth c B H locs ls2 hH hl3)
theorem aw_istore (lv2 : List (Nat × Value)) {i : Nat} {x_ : Int32} (hd : decode M.2.1 pc = .ok (.istore i, 2)) (hn : i < M.2.2.1) (hl2 : (i, Value.int x_) :: lv.filter (fun q => !(q.1 == i) && !(q.1 + 1 == i && q.2.category == 2)) = lv2) (k : AW M rm l g x0 o1 x1 kc ks x (pc + 2) lv2 (st)) : AW M rm l g x0 o1 x1 kc ks x (pc) lv (Value.int x_ :: st) := fun p e s m args below meth c B H locs ls hH hl => lv_istore B.1 B.2.1 hd hl hn hl2 (fun ls2 hl3 => k p e s m args below meth c B H locs ls2 hH hl3)
theorem aw_lstore_n (lv2 : List (Nat × Value)) {q : Fin 4} {i : Nat} {x_ : Int64} (hd : decode M.2.1 pc = .ok (.lstore_n q, 1)) (hi : (q : Nat) = i) (hn : i + 1 < M.2.2.1) (hl2 : (i, Value.long x_) :: lv.filter (fun q => !(q.1 == i) && (!(q.1 == i + 1) && !(q.1 + 1 == i && q.2.category == 2))) = lv2) (k : AW M rm l g x0 o1 x1 kc ks x (pc + 1) lv2 (st)) : AW M rm l g x0 o1 x1 kc ks x (pc) lv (Value.long x_ :: st) := fun p e s m args below meth c B H locs ls hH hl => lv_lstore_n B.1 B.2.1 hd hi hl hn hl2 (fun ls2 hl3 => k p e s m args below meth c B H locs ls2 hH hl3)
theorem aw_lstore (lv2 : List (Nat × Value)) {i : Nat} {x_ : Int64} (hd : decode M.2.1 pc = .ok (.lstore i, 2)) (hn : i + 1 < M.2.2.1) (hl2 : (i, Value.long x_) :: lv.filter (fun q => !(q.1 == i) && (!(q.1 == i + 1) && !(q.1 + 1 == i && q.2.category == 2))) = lv2) (k : AW M rm l g x0 o1 x1 kc ks x (pc + 2) lv2 (st)) : AW M rm l g x0 o1 x1 kc ks x (pc) lv (Value.long x_ :: st) := fun p e s m args below meth c B H locs ls hH hl => lv_lstore B.1 B.2.1 hd hl hn hl2 (fun ls2 hl3 => k p e s m args below meth c B H locs ls2 hH hl3)
theorem aw_qstore_n (lv2 : List (Nat × Value)) {q : Fin 4} {i : Nat} {r : Option Nat} (hd : decode M.2.1 pc = .ok (.astore_n q, 1)) (hi : (q : Nat) = i) (hn : i < M.2.2.1) (hl2 : (i, va_rf r) :: lv.filter (fun q => !(q.1 == i) && !(q.1 + 1 == i && q.2.category == 2)) = lv2) (k : AW M rm l g x0 o1 x1 kc ks x (pc + 1) lv2 (st)) : AW M rm l g x0 o1 x1 kc ks x (pc) lv (va_rf r :: st) := fun p e s m args below meth c B H locs ls hH hl => by
  cases r with
  | none => exact lv_astore_nN B.1 B.2.1 hd hi hl hn hl2 (fun ls2 hl3 => k p e s m args below meth c B H locs ls2 hH hl3)
  | some a => exact lv_astore_n B.1 B.2.1 hd hi hl hn hl2 (fun ls2 hl3 => k p e s m args below meth c B H locs ls2 hH hl3)
theorem aw_qstore (lv2 : List (Nat × Value)) {i : Nat} {r : Option Nat} (hd : decode M.2.1 pc = .ok (.astore i, 2)) (hn : i < M.2.2.1) (hl2 : (i, va_rf r) :: lv.filter (fun q => !(q.1 == i) && !(q.1 + 1 == i && q.2.category == 2)) = lv2) (k : AW M rm l g x0 o1 x1 kc ks x (pc + 2) lv2 (st)) : AW M rm l g x0 o1 x1 kc ks x (pc) lv (va_rf r :: st) := fun p e s m args below meth c B H locs ls hH hl => by
  cases r with
  | none => exact lv_astoreN B.1 B.2.1 hd hl hn hl2 (fun ls2 hl3 => k p e s m args below meth c B H locs ls2 hH hl3)
  | some a => exact lv_astore B.1 B.2.1 hd hl hn hl2 (fun ls2 hl3 => k p e s m args below meth c B H locs ls2 hH hl3)
theorem aw_iinc (lv2 : List (Nat × Value)) (j : Nat) {i : Nat} {n : Int} {x_ v : Int32} (hd : decode M.2.1 pc = .ok (.iinc i n, 3)) (hj : lv[j]? = some (i, .int x_)) (hv : x_ + Int32.ofInt n = v) (hn : i < M.2.2.1) (hl2 : (i, Value.int v) :: lv.filter (fun q => !(q.1 == i) && !(q.1 + 1 == i && q.2.category == 2)) = lv2) (k : AW M rm l g x0 o1 x1 kc ks x (pc + 3) lv2 (st)) : AW M rm l g x0 o1 x1 kc ks x (pc) lv (st) := fun p e s m args below meth c B H locs ls hH hl => lv_iinc B.1 B.2.1 hd hl hj hv hn hl2 (fun ls2 hl3 => k p e s m args below meth c B H locs ls2 hH hl3)
theorem aw_iadd {a b : Int32} (hd : decode M.2.1 pc = .ok (.iadd, 1)) (k : AW M rm l g x0 o1 x1 kc ks x (pc + 1) lv (.int (a + b) :: st)) : AW M rm l g x0 o1 x1 kc ks x (pc) lv (.int b :: .int a :: st) := fun p e s m args below meth c B H locs ls hH hl => lv_iadd B.1 B.2.1 hd (k p e s m args below meth c B H locs ls hH hl)
theorem aw_isub {a b : Int32} (hd : decode M.2.1 pc = .ok (.isub, 1)) (k : AW M rm l g x0 o1 x1 kc ks x (pc + 1) lv (.int (a - b) :: st)) : AW M rm l g x0 o1 x1 kc ks x (pc) lv (.int b :: .int a :: st) := fun p e s m args below meth c B H locs ls hH hl => lv_isub B.1 B.2.1 hd (k p e s m args below meth c B H locs ls hH hl)
theorem aw_imul {a b : Int32} (hd : decode M.2.1 pc = .ok (.imul, 1)) (k : AW M rm l g x0 o1 x1 kc ks x (pc + 1) lv (.int (a * b) :: st)) : AW M rm l g x0 o1 x1 kc ks x (pc) lv (.int b :: .int a :: st) := fun p e s m args below meth c B H locs ls hH hl => lv_imul B.1 B.2.1 hd (k p e s m args below meth c B H locs ls hH hl)
theorem aw_iand {a b : Int32} (hd : decode M.2.1 pc = .ok (.iand, 1)) (k : AW M rm l g x0 o1 x1 kc ks x (pc + 1) lv (.int (a &&& b) :: st)) : AW M rm l g x0 o1 x1 kc ks x (pc) lv (.int b :: .int a :: st) := fun p e s m args below meth c B H locs ls hH hl => lv_iand B.1 B.2.1 hd (k p e s m args below meth c B H locs ls hH hl)
theorem aw_ior {a b : Int32} (hd : decode M.2.1 pc = .ok (.ior, 1)) (k : AW M rm l g x0 o1 x1 kc ks x (pc + 1) lv (.int (a ||| b) :: st)) : AW M rm l g x0 o1 x1 kc ks x (pc) lv (.int b :: .int a :: st) := fun p e s m args below meth c B H locs ls hH hl => lv_ior B.1 B.2.1 hd (k p e s m args below meth c B H locs ls hH hl)
theorem aw_lsub {a b : Int64} (hd : decode M.2.1 pc = .ok (.lsub, 1)) (k : AW M rm l g x0 o1 x1 kc ks x (pc + 1) lv (.long (a - b) :: st)) : AW M rm l g x0 o1 x1 kc ks x (pc) lv (.long b :: .long a :: st) := fun p e s m args below meth c B H locs ls hH hl => lv_lsub B.1 B.2.1 hd (k p e s m args below meth c B H locs ls hH hl)
theorem aw_land {a b : Int64} (hd : decode M.2.1 pc = .ok (.land, 1)) (k : AW M rm l g x0 o1 x1 kc ks x (pc + 1) lv (.long (a &&& b) :: st)) : AW M rm l g x0 o1 x1 kc ks x (pc) lv (.long b :: .long a :: st) := fun p e s m args below meth c B H locs ls hH hl => lv_land B.1 B.2.1 hd (k p e s m args below meth c B H locs ls hH hl)
theorem aw_lor {a b : Int64} (hd : decode M.2.1 pc = .ok (.lor, 1)) (k : AW M rm l g x0 o1 x1 kc ks x (pc + 1) lv (.long (a ||| b) :: st)) : AW M rm l g x0 o1 x1 kc ks x (pc) lv (.long b :: .long a :: st) := fun p e s m args below meth c B H locs ls hH hl => lv_lor B.1 B.2.1 hd (k p e s m args below meth c B H locs ls hH hl)
theorem aw_lxor {a b : Int64} (hd : decode M.2.1 pc = .ok (.lxor, 1)) (k : AW M rm l g x0 o1 x1 kc ks x (pc + 1) lv (.long (a ^^^ b) :: st)) : AW M rm l g x0 o1 x1 kc ks x (pc) lv (.long b :: .long a :: st) := fun p e s m args below meth c B H locs ls hH hl => lv_lxor B.1 B.2.1 hd (k p e s m args below meth c B H locs ls hH hl)
theorem aw_ladd {a b : Int64} (hd : decode M.2.1 pc = .ok (.ladd, 1)) (k : AW M rm l g x0 o1 x1 kc ks x (pc + 1) lv (.long (a + b) :: st)) : AW M rm l g x0 o1 x1 kc ks x (pc) lv (.long b :: .long a :: st) := fun p e s m args below meth c B H locs ls hH hl => lv_ladd B.1 B.2.1 hd (k p e s m args below meth c B H locs ls hH hl)
theorem aw_idiv {a b : Int32} (hd : decode M.2.1 pc = .ok (.idiv, 1)) (hne : ¬ b = 0) (k : AW M rm l g x0 o1 x1 kc ks x (pc + 1) lv (.int (a / b) :: st)) : AW M rm l g x0 o1 x1 kc ks x (pc) lv (.int b :: .int a :: st) := fun p e s m args below meth c B H locs ls hH hl => lv_idiv B.1 B.2.1 hd hne (k p e s m args below meth c B H locs ls hH hl)
theorem aw_irem {a b : Int32} (hd : decode M.2.1 pc = .ok (.irem, 1)) (hne : ¬ b = 0) (k : AW M rm l g x0 o1 x1 kc ks x (pc + 1) lv (.int (a - a / b * b) :: st)) : AW M rm l g x0 o1 x1 kc ks x (pc) lv (.int b :: .int a :: st) := fun p e s m args below meth c B H locs ls hH hl => lv_irem B.1 B.2.1 hd hne (k p e s m args below meth c B H locs ls hH hl)
theorem aw_ineg {a : Int32} (hd : decode M.2.1 pc = .ok (.ineg, 1)) (k : AW M rm l g x0 o1 x1 kc ks x (pc + 1) lv (.int (-a) :: st)) : AW M rm l g x0 o1 x1 kc ks x (pc) lv (.int a :: st) := fun p e s m args below meth c B H locs ls hH hl => lv_ineg B.1 B.2.1 hd (k p e s m args below meth c B H locs ls hH hl)
theorem aw_lneg {a : Int64} (hd : decode M.2.1 pc = .ok (.lneg, 1)) (k : AW M rm l g x0 o1 x1 kc ks x (pc + 1) lv (.long (-a) :: st)) : AW M rm l g x0 o1 x1 kc ks x (pc) lv (.long a :: st) := fun p e s m args below meth c B H locs ls hH hl => lv_lneg B.1 B.2.1 hd (k p e s m args below meth c B H locs ls hH hl)
theorem aw_i2l {a : Int32} (hd : decode M.2.1 pc = .ok (.i2l, 1)) (k : AW M rm l g x0 o1 x1 kc ks x (pc + 1) lv (.long a.toInt64 :: st)) : AW M rm l g x0 o1 x1 kc ks x (pc) lv (.int a :: st) := fun p e s m args below meth c B H locs ls hH hl => lv_i2l B.1 B.2.1 hd rfl (k p e s m args below meth c B H locs ls hH hl)
def x_ushr (a : Int64) (b : Int32) : Int64 := (a.toUInt64 >>> (b.toInt64.toUInt64 &&& Int64.toUInt64 63)).toInt64
theorem aw_lushr {a : Int64} {b : Int32} (hd : decode M.2.1 pc = .ok (.lushr, 1)) (k : AW M rm l g x0 o1 x1 kc ks x (pc + 1) lv (.long (x_ushr a b) :: st)) : AW M rm l g x0 o1 x1 kc ks x (pc) lv (.int b :: .long a :: st) := fun p e s m args below meth c B H locs ls hH hl => lv_lushr B.1 B.2.1 hd rfl (k p e s m args below meth c B H locs ls hH hl)
def x_shl (a : Int64) (b : Int32) : Int64 := a <<< (b.toInt64 &&& 63)
theorem aw_lshl {a : Int64} {b : Int32} (hd : decode M.2.1 pc = .ok (.lshl, 1)) (k : AW M rm l g x0 o1 x1 kc ks x (pc + 1) lv (.long (x_shl a b) :: st)) : AW M rm l g x0 o1 x1 kc ks x (pc) lv (.int b :: .long a :: st) := fun p e s m args below meth c B H locs ls hH hl => lv_lshl B.1 B.2.1 hd rfl (k p e s m args below meth c B H locs ls hH hl)
def x_ishl (a b : Int32) : Int32 := a <<< (b &&& 31)
def x_ishr (a b : Int32) : Int32 := a >>> (b &&& 31)
theorem aw_ishl {a b : Int32} (hd : decode M.2.1 pc = .ok (.ishl, 1)) (k : AW M rm l g x0 o1 x1 kc ks x (pc + 1) lv (.int (x_ishl a b) :: st)) : AW M rm l g x0 o1 x1 kc ks x (pc) lv (.int b :: .int a :: st) := fun p e s m args below meth c B H locs ls hH hl => lv_ishl B.1 B.2.1 hd (k p e s m args below meth c B H locs ls hH hl)
theorem aw_ishr {a b : Int32} (hd : decode M.2.1 pc = .ok (.ishr, 1)) (k : AW M rm l g x0 o1 x1 kc ks x (pc + 1) lv (.int (x_ishr a b) :: st)) : AW M rm l g x0 o1 x1 kc ks x (pc) lv (.int b :: .int a :: st) := fun p e s m args below meth c B H locs ls hH hl => lv_ishr B.1 B.2.1 hd (k p e s m args below meth c B H locs ls hH hl)
theorem aw_icmp_eq (tgt : Nat) {a b : Int32} {off : Int} (hd : decode M.2.1 pc = .ok (.if_icmp .eq off, 3)) (ht : (pc : Int) + off = (tgt : Int)) (kt : a = b → AW M rm l g x0 o1 x1 kc ks x (tgt) lv (st)) (kf : ¬ (a = b) → AW M rm l g x0 o1 x1 kc ks x (pc + 3) lv (st)) : AW M rm l g x0 o1 x1 kc ks x (pc) lv (.int b :: .int a :: st) := fun p e s m args below meth c B H locs ls hH hl => lv_icmp_eq B.1 B.2.1 hd ht (fun q => kt q p e s m args below meth c B H locs ls hH hl) (fun q => kf q p e s m args below meth c B H locs ls hH hl)
theorem aw_icmp_ne (tgt : Nat) {a b : Int32} {off : Int} (hd : decode M.2.1 pc = .ok (.if_icmp .ne off, 3)) (ht : (pc : Int) + off = (tgt : Int)) (kt : a ≠ b → AW M rm l g x0 o1 x1 kc ks x (tgt) lv (st)) (kf : (a = b) → AW M rm l g x0 o1 x1 kc ks x (pc + 3) lv (st)) : AW M rm l g x0 o1 x1 kc ks x (pc) lv (.int b :: .int a :: st) := fun p e s m args below meth c B H locs ls hH hl => lv_icmp_ne B.1 B.2.1 hd ht (fun q => kt q p e s m args below meth c B H locs ls hH hl) (fun q => kf q p e s m args below meth c B H locs ls hH hl)
theorem aw_icmp_lt (tgt : Nat) {a b : Int32} {off : Int} (hd : decode M.2.1 pc = .ok (.if_icmp .lt off, 3)) (ht : (pc : Int) + off = (tgt : Int)) (kt : a < b → AW M rm l g x0 o1 x1 kc ks x (tgt) lv (st)) (kf : ¬ (a < b) → AW M rm l g x0 o1 x1 kc ks x (pc + 3) lv (st)) : AW M rm l g x0 o1 x1 kc ks x (pc) lv (.int b :: .int a :: st) := fun p e s m args below meth c B H locs ls hH hl => lv_icmp_lt B.1 B.2.1 hd ht (fun q => kt q p e s m args below meth c B H locs ls hH hl) (fun q => kf q p e s m args below meth c B H locs ls hH hl)
theorem aw_icmp_ge (tgt : Nat) {a b : Int32} {off : Int} (hd : decode M.2.1 pc = .ok (.if_icmp .ge off, 3)) (ht : (pc : Int) + off = (tgt : Int)) (kt : b ≤ a → AW M rm l g x0 o1 x1 kc ks x (tgt) lv (st)) (kf : ¬ (b ≤ a) → AW M rm l g x0 o1 x1 kc ks x (pc + 3) lv (st)) : AW M rm l g x0 o1 x1 kc ks x (pc) lv (.int b :: .int a :: st) := fun p e s m args below meth c B H locs ls hH hl => lv_icmp_ge B.1 B.2.1 hd ht (fun q => kt q p e s m args below meth c B H locs ls hH hl) (fun q => kf q p e s m args below meth c B H locs ls hH hl)
theorem aw_icmp_gt (tgt : Nat) {a b : Int32} {off : Int} (hd : decode M.2.1 pc = .ok (.if_icmp .gt off, 3)) (ht : (pc : Int) + off = (tgt : Int)) (kt : b < a → AW M rm l g x0 o1 x1 kc ks x (tgt) lv (st)) (kf : ¬ (b < a) → AW M rm l g x0 o1 x1 kc ks x (pc + 3) lv (st)) : AW M rm l g x0 o1 x1 kc ks x (pc) lv (.int b :: .int a :: st) := fun p e s m args below meth c B H locs ls hH hl => lv_icmp_gt B.1 B.2.1 hd ht (fun q => kt q p e s m args below meth c B H locs ls hH hl) (fun q => kf q p e s m args below meth c B H locs ls hH hl)
theorem aw_icmp_le (tgt : Nat) {a b : Int32} {off : Int} (hd : decode M.2.1 pc = .ok (.if_icmp .le off, 3)) (ht : (pc : Int) + off = (tgt : Int)) (kt : a ≤ b → AW M rm l g x0 o1 x1 kc ks x (tgt) lv (st)) (kf : ¬ (a ≤ b) → AW M rm l g x0 o1 x1 kc ks x (pc + 3) lv (st)) : AW M rm l g x0 o1 x1 kc ks x (pc) lv (.int b :: .int a :: st) := fun p e s m args below meth c B H locs ls hH hl => lv_icmp_le B.1 B.2.1 hd ht (fun q => kt q p e s m args below meth c B H locs ls hH hl) (fun q => kf q p e s m args below meth c B H locs ls hH hl)
theorem aw_if_eq (tgt : Nat) {a : Int32} {off : Int} (hd : decode M.2.1 pc = .ok (.ifCond .eq off, 3)) (ht : (pc : Int) + off = (tgt : Int)) (kt : a = 0 → AW M rm l g x0 o1 x1 kc ks x (tgt) lv (st)) (kf : ¬ (a = 0) → AW M rm l g x0 o1 x1 kc ks x (pc + 3) lv (st)) : AW M rm l g x0 o1 x1 kc ks x (pc) lv (.int a :: st) := fun p e s m args below meth c B H locs ls hH hl => lv_if_eq B.1 B.2.1 hd ht (fun q => kt q p e s m args below meth c B H locs ls hH hl) (fun q => kf q p e s m args below meth c B H locs ls hH hl)
theorem aw_if_ne (tgt : Nat) {a : Int32} {off : Int} (hd : decode M.2.1 pc = .ok (.ifCond .ne off, 3)) (ht : (pc : Int) + off = (tgt : Int)) (kt : a ≠ 0 → AW M rm l g x0 o1 x1 kc ks x (tgt) lv (st)) (kf : (a = 0) → AW M rm l g x0 o1 x1 kc ks x (pc + 3) lv (st)) : AW M rm l g x0 o1 x1 kc ks x (pc) lv (.int a :: st) := fun p e s m args below meth c B H locs ls hH hl => lv_if_ne B.1 B.2.1 hd ht (fun q => kt q p e s m args below meth c B H locs ls hH hl) (fun q => kf q p e s m args below meth c B H locs ls hH hl)
theorem aw_if_lt (tgt : Nat) {a : Int32} {off : Int} (hd : decode M.2.1 pc = .ok (.ifCond .lt off, 3)) (ht : (pc : Int) + off = (tgt : Int)) (kt : a < 0 → AW M rm l g x0 o1 x1 kc ks x (tgt) lv (st)) (kf : ¬ (a < 0) → AW M rm l g x0 o1 x1 kc ks x (pc + 3) lv (st)) : AW M rm l g x0 o1 x1 kc ks x (pc) lv (.int a :: st) := fun p e s m args below meth c B H locs ls hH hl => lv_if_lt B.1 B.2.1 hd ht (fun q => kt q p e s m args below meth c B H locs ls hH hl) (fun q => kf q p e s m args below meth c B H locs ls hH hl)
theorem aw_if_ge (tgt : Nat) {a : Int32} {off : Int} (hd : decode M.2.1 pc = .ok (.ifCond .ge off, 3)) (ht : (pc : Int) + off = (tgt : Int)) (kt : 0 ≤ a → AW M rm l g x0 o1 x1 kc ks x (tgt) lv (st)) (kf : ¬ (0 ≤ a) → AW M rm l g x0 o1 x1 kc ks x (pc + 3) lv (st)) : AW M rm l g x0 o1 x1 kc ks x (pc) lv (.int a :: st) := fun p e s m args below meth c B H locs ls hH hl => lv_if_ge B.1 B.2.1 hd ht (fun q => kt q p e s m args below meth c B H locs ls hH hl) (fun q => kf q p e s m args below meth c B H locs ls hH hl)
theorem aw_if_gt (tgt : Nat) {a : Int32} {off : Int} (hd : decode M.2.1 pc = .ok (.ifCond .gt off, 3)) (ht : (pc : Int) + off = (tgt : Int)) (kt : 0 < a → AW M rm l g x0 o1 x1 kc ks x (tgt) lv (st)) (kf : ¬ (0 < a) → AW M rm l g x0 o1 x1 kc ks x (pc + 3) lv (st)) : AW M rm l g x0 o1 x1 kc ks x (pc) lv (.int a :: st) := fun p e s m args below meth c B H locs ls hH hl => lv_if_gt B.1 B.2.1 hd ht (fun q => kt q p e s m args below meth c B H locs ls hH hl) (fun q => kf q p e s m args below meth c B H locs ls hH hl)
theorem aw_if_le (tgt : Nat) {a : Int32} {off : Int} (hd : decode M.2.1 pc = .ok (.ifCond .le off, 3)) (ht : (pc : Int) + off = (tgt : Int)) (kt : a ≤ 0 → AW M rm l g x0 o1 x1 kc ks x (tgt) lv (st)) (kf : ¬ (a ≤ 0) → AW M rm l g x0 o1 x1 kc ks x (pc + 3) lv (st)) : AW M rm l g x0 o1 x1 kc ks x (pc) lv (.int a :: st) := fun p e s m args below meth c B H locs ls hH hl => lv_if_le B.1 B.2.1 hd ht (fun q => kt q p e s m args below meth c B H locs ls hH hl) (fun q => kf q p e s m args below meth c B H locs ls hH hl)
theorem aw_lcmp {a b : Int64} (hd : decode M.2.1 pc = .ok (.lcmp, 1)) (k : AW M rm l g x0 o1 x1 kc ks x (pc + 1) lv (.int (lg_cmp a b) :: st)) : AW M rm l g x0 o1 x1 kc ks x (pc) lv (.long b :: .long a :: st) := fun p e s m args below meth c B H locs ls hH hl => W.lcmp B.1 B.2.1 hd (k p e s m args below meth c B H locs ls hH hl)
theorem aw_goto (tgt : Nat) {off : Int} (hd : decode M.2.1 pc = .ok (.goto off, 3)) (ht : (pc : Int) + off = (tgt : Int)) (k : AW M rm l g x0 o1 x1 kc ks x (tgt) lv (st)) : AW M rm l g x0 o1 x1 kc ks x (pc) lv (st) := fun p e s m args below meth c B H locs ls hH hl => lv_goto B.1 B.2.1 hd ht (k p e s m args below meth c B H locs ls hH hl)
theorem aw_null (hd : decode M.2.1 pc = .ok (.aconst_null, 1)) (k : AW M rm l g x0 o1 x1 kc ks x (pc + 1) lv (va_rf none :: st)) : AW M rm l g x0 o1 x1 kc ks x (pc) lv (st) := fun p e s m args below meth c B H locs ls hH hl => lv_null B.1 B.2.1 hd (k p e s m args below meth c B H locs ls hH hl)
theorem aw_ifnull (tgt : Nat) {r : Option Nat} {off : Int} (hd : decode M.2.1 pc = .ok (.ifnull off, 3)) (ht : (pc : Int) + off = (tgt : Int)) (kt : r = none → AW M rm l g x0 o1 x1 kc ks x (tgt) lv (st)) (kf : ¬ (r = none) → AW M rm l g x0 o1 x1 kc ks x (pc + 3) lv (st)) : AW M rm l g x0 o1 x1 kc ks x (pc) lv (va_rf r :: st) := fun p e s m args below meth c B H locs ls hH hl => by
  cases r with
  | none => exact lv_ifnullN B.1 B.2.1 hd ht (kt rfl p e s m args below meth c B H locs ls hH hl)
  | some a => exact lv_ifnull B.1 B.2.1 hd (kf (fun h => by cases h) p e s m args below meth c B H locs ls hH hl)
theorem aw_ifnonnull (tgt : Nat) {r : Option Nat} {off : Int} (hd : decode M.2.1 pc = .ok (.ifnonnull off, 3)) (ht : (pc : Int) + off = (tgt : Int)) (kt : r ≠ none → AW M rm l g x0 o1 x1 kc ks x (tgt) lv (st)) (kf : r = none → AW M rm l g x0 o1 x1 kc ks x (pc + 3) lv (st)) : AW M rm l g x0 o1 x1 kc ks x (pc) lv (va_rf r :: st) := fun p e s m args below meth c B H locs ls hH hl => by
  cases r with
  | none => exact lv_ifnonnullN B.1 B.2.1 hd (kf rfl p e s m args below meth c B H locs ls hH hl)
  | some a => exact lv_ifnonnull B.1 B.2.1 hd ht (kt (fun h => by cases h) p e s m args below meth c B H locs ls hH hl)
theorem aw_acmp_ne (tgt : Nat) {a b : Option Nat} {off : Int} (hd : decode M.2.1 pc = .ok (.if_acmp .ne off, 3)) (ht : (pc : Int) + off = (tgt : Int)) (kt : a ≠ b → AW M rm l g x0 o1 x1 kc ks x (tgt) lv (st)) (kf : a = b → AW M rm l g x0 o1 x1 kc ks x (pc + 3) lv (st)) : AW M rm l g x0 o1 x1 kc ks x (pc) lv (va_rf b :: va_rf a :: st) := fun p e s m args below meth c B H locs ls hH hl => lv_acmp_ne B.1 B.2.1 hd ht (fun q => kt q p e s m args below meth c B H locs ls hH hl) (fun q => kf q p e s m args below meth c B H locs ls hH hl)
theorem aw_dup {a : Value} (hd : decode M.2.1 pc = .ok (.dup, 1)) (ha : a.category = 1) (k : AW M rm l g x0 o1 x1 kc ks x (pc + 1) lv (a :: a :: st)) : AW M rm l g x0 o1 x1 kc ks x (pc) lv (a :: st) := fun p e s m args below meth c B H locs ls hH hl => lv_dup B.1 B.2.1 hd ha (k p e s m args below meth c B H locs ls hH hl)
theorem aw_dup2 {a b : Value} (hd : decode M.2.1 pc = .ok (.dup2, 1)) (ha : a.category = 1) (hb : b.category = 1) (k : AW M rm l g x0 o1 x1 kc ks x (pc + 1) lv (a :: b :: a :: b :: st)) : AW M rm l g x0 o1 x1 kc ks x (pc) lv (a :: b :: st) := fun p e s m args below meth c B H locs ls hH hl => lv_dup2_11 B.1 B.2.1 hd ha hb (k p e s m args below meth c B H locs ls hH hl)
theorem aw_dup_x1 {a b : Value} (hd : decode M.2.1 pc = .ok (.dup_x1, 1)) (ha : a.category = 1) (hb : b.category = 1) (k : AW M rm l g x0 o1 x1 kc ks x (pc + 1) lv (a :: b :: a :: st)) : AW M rm l g x0 o1 x1 kc ks x (pc) lv (a :: b :: st) := fun p e s m args below meth c B H locs ls hH hl => lv_dup_x1 B.1 B.2.1 hd ha hb (k p e s m args below meth c B H locs ls hH hl)
theorem aw_pop {a : Value} (hd : decode M.2.1 pc = .ok (.pop, 1)) (ha : a.category = 1) (k : AW M rm l g x0 o1 x1 kc ks x (pc + 1) lv (st)) : AW M rm l g x0 o1 x1 kc ks x (pc) lv (a :: st) := fun p e s m args below meth c B H locs ls hH hl => lv_pop B.1 B.2.1 hd ha (k p e s m args below meth c B H locs ls hH hl)
theorem aw_lv (js : List Nat) {lv2 : List (Nat × Value)} (h : lv_pick lv js = lv2) (k : AW M rm l g x0 o1 x1 kc ks x (pc) lv2 (st)) : AW M rm l g x0 o1 x1 kc ks x (pc) lv (st) := fun p e s m args below meth c B H locs ls hH hl => k p e s m args below meth c B H locs ls hH (lv_sub hl js h)
theorem aw_widen (kc2 ks2 : Nat) (h1 : kc ≤ kc2) (h2 : ks ≤ ks2) (k : AW M rm l g x0 o1 x1 kc2 ks2 x pc lv st) : AW M rm l g x0 o1 x1 kc ks x (pc) lv (st) := fun p e s m args below meth c B H locs ls hH hl => W.widen h1 h2 (k p e s m args below meth c B H locs ls hH hl)
theorem x_end {v1 : Option Value} {s t : State} {H : Heap} {locs : List Loc} {args : Array Value} (hH : xH g x0 x s H locs) (hx : x = x1) (ht : t.heap = H) : xQ g x0 v1 x1 args s (.returned v1) t := by
  subst hx
  exact ⟨rfl, by rw [ht]; exact hH.1, hH.2.1, hH.2.2.F ht⟩
theorem aw_iret {a : Int32} (hd : decode M.2.1 pc = .ok (.ireturn, 1)) (hr : M.2.2.2.1 = some .int) (hv : o1 = .inl (some (.int a))) (hx : x = x1) (hk : kc ≤ rm.cells ∧ ks ≤ rm.slots) : AW M rm l g x0 o1 x1 kc ks x pc lv [.int a] := fun p e s m args below meth c B H locs ls hH hl => by subst hv; exact W.widen hk.1 hk.2 (W.iret (hlocks := B.2.2.2.2.1) B.1 B.2.1 (by rw [B.2.2.2.1, hr]) (fun t ht hW => by exact x_end hH hx ht) hH.2.2.2.2 hd)
theorem aw_zret {a : Int32} {ty : FieldType} (hd : decode M.2.1 pc = .ok (.ireturn, 1)) (hr : M.2.2.2.1 = some ty) (hn : narrow ty (.int a) = .int a) (hv : o1 = .inl (some (.int a))) (hx : x = x1) (hk : kc ≤ rm.cells ∧ ks ≤ rm.slots) : AW M rm l g x0 o1 x1 kc ks x pc lv [.int a] := fun p e s m args below meth c B H locs ls hH hl => by subst hv; exact W.widen hk.1 hk.2 (W.zret (hlocks := B.2.2.2.2.1) B.1 B.2.1 (by rw [B.2.2.2.1, hr]) hn (fun t ht hW => by exact x_end hH hx ht) hH.2.2.2.2 hd)
theorem aw_lret {a : Int64} (hd : decode M.2.1 pc = .ok (.lreturn, 1)) (hr : M.2.2.2.1 = some .long) (hv : o1 = .inl (some (.long a))) (hx : x = x1) (hk : kc ≤ rm.cells ∧ ks ≤ rm.slots) : AW M rm l g x0 o1 x1 kc ks x pc lv [.long a] := fun p e s m args below meth c B H locs ls hH hl => by subst hv; exact W.widen hk.1 hk.2 (W.lret (hlocks := B.2.2.2.2.1) B.1 B.2.1 (by rw [B.2.2.2.1, hr]) (fun t ht hW => by exact x_end hH hx ht) hH.2.2.2.2 hd)
theorem aw_vret (hd : decode M.2.1 pc = .ok (.return_, 1)) (hr : M.2.2.2.1 = none) (hv : o1 = .inl none) (hx : x = x1) (hk : kc ≤ rm.cells ∧ ks ≤ rm.slots) : AW M rm l g x0 o1 x1 kc ks x pc lv [] := fun p e s m args below meth c B H locs ls hH hl => by subst hv; exact W.widen hk.1 hk.2 (W.vret (hlocks := B.2.2.2.2.1) B.1 B.2.1 (by rw [B.2.2.2.1, hr]) (fun t ht hW => by exact x_end hH hx ht) hH.2.2.2.2 hd)
theorem aw_aret {r : Option Nat} (C : String) (hd : decode M.2.1 pc = .ok (.areturn, 1)) (hr : M.2.2.2.1 = some (.object C)) (hv : o1 = .inl (some (va_rf r))) (hx : x = x1) (hk : kc ≤ rm.cells ∧ ks ≤ rm.slots) : AW M rm l g x0 o1 x1 kc ks x pc lv [va_rf r] := fun p e s m args below meth c B H locs ls hH hl => by subst hv; exact W.widen hk.1 hk.2 (W.aret (hlocks := B.2.2.2.2.1) B.1 B.2.1 (by rw [B.2.2.2.1, hr]) (Or.inl ⟨C, rfl⟩) (by cases r <;> first | exact Or.inl rfl | exact Or.inr ⟨_, rfl⟩) (fun t ht hW => by exact x_end hH hx ht) hH.2.2.2.2 hd)
end AWR
end
section
/-! What a world brings along to a callee, and the rows of calls. -/
theorem xF.up {x0 x : xV} (hD : xD x0 x) (hz : x0.1 ≤ x.1) : ∀ q, xF x q → xF x0 q := fun q h => h.elim (hD q) (fun h => Or.inr (Nat.le_trans hz h))
theorem xP.lt {g : xG} {x : xV} {H : Heap} (h : xP g x H) {a : Nat} (ha : x.2 a ≠ none) : a < H.size := by
  cases he : x.2 a with
  | none => exact absurd he ha
  | some e => exact (h.2 a e he).lt
theorem xH.size {g : xG} {x0 x : xV} {s : State} {H : Heap} {locs : List Loc} (h : xH g x0 x s H locs) (h0 : s.heap.size = x0.1) : x0.1 ≤ x.1 := by rw [← h0, ← h.1.1]; exact h.2.2.1
theorem va_T.kept0 {ty : FieldType} {t N : Nat} {f : Nat → Value} {A : Nat → Prop} {U : State} {H H1 : Heap} (h : va_T ty t N f A U H) (hq : ∀ a : Nat, a < H.size → ¬ A a → H1[a]? = H[a]?) : va_T ty t N f A U H1 := va_T.kept h hq
theorem xI.go {x0 x : xV} {s U : State} {H H1 : Heap} (h : xI x0 s H) (hW : s.WarmedH U.vm) (hq : ∀ a : Nat, a < H.size → ¬ xF x0 a → H1[a]? = H[a]?) (hF : ∀ q, xF x q → xF x0 q) : xI x U H1 := by
  obtain ⟨⟨t, h1, h2⟩, h3, h4, h5, h6, h7⟩ := h
  have ha := hW.alike
  exact ⟨⟨t, ((h1.moved ha).kept hq).narrow hF, ((h2.moved ha).kept hq).narrow hF⟩, h3.moved ha, h4.moved ha, ((h5.moved ha).kept hq).narrow hF, ((h6.moved ha).kept hq).narrow hF, fun own k tx hk => by
    obtain ⟨a, h8⟩ := h7 own k tx hk
    exact ⟨a, h8.warm hW⟩⟩
theorem xI.same {x : xV} {U V : State} (h : xI x U U.heap) (hv : V.vm = U.vm) (hh : V.heap = U.heap) : xI x V V.heap := by
  obtain ⟨⟨t, h1, h2⟩, h3, h4, h5, h6, h7⟩ := h
  have ha : U.vm.Alike V.vm := by rw [hv]; exact Vm.Alike.refl _
  rw [hh]
  exact ⟨⟨t, h1.moved ha, h2.moved ha⟩, h3.moved ha, h4.moved ha, h5.moved ha, h6.moved ha, fun own k tx hk => by
    obtain ⟨a, h8⟩ := h7 own k tx hk
    exact ⟨a, h8.same hv⟩⟩
theorem xPc.blind {g : xG} {x : xV} {av : List Value} : FrameBlind (va_Pc av (xPc g x)) := by
  intro a U f mk h
  obtain ⟨h1, h2, h3, h4⟩ := h
  exact ⟨h1, h2, va_K.moved (u := U) (U := U.calling f mk a) (Vm.Alike.refl U.vm) h3, h4.same rfl rfl⟩
theorem xPc.at {M : xM} {l : Launch} {g : xG} {x0 x : xV} {o1 : Option Value ⊕ String} {p : Program} {s : State} {m : MethodId} {args : Array Value} {meth : Method} {c : Code} {H : Heap} {locs : List Loc} (B : xB M l g x0 o1 p s m args meth c) (hH : xH g x0 x s H locs) (av : List Value) : ∀ U : State, U.heap = H → s.WarmedH U.vm → va_Pc av (xPc g x) av.toArray U := by
  intro U hU hW
  refine ⟨rfl, by rw [hU]; exact hH.1, va_K.moved hW.alike B.2.2.2.2.2.2.2.1, ?_⟩
  rw [hU]
  exact xI.go B.2.2.2.2.2.2.2.2.2.2.1 hW (fun a h1 h2 => hH.2.2.2.1 a h1 h2) (xF.up hH.2.1 (hH.size B.2.2.2.2.2.2.2.2.1))
theorem wt_in {y : MethodName} {b : ByteArray} {n : Nat} {r : Option FieldType} (h : Cond.code y b n r ∈ wt) : GoodIn wt (.code y b n r :: wt) := fun w hw => (List.mem_cons.mp hw).elim (fun e => by subst e; exact ⟨h, wt_good _ h⟩) (fun h => ⟨h, wt_good _ h⟩)
theorem cat_q (r : Option Nat) : (va_rf r).category = 1 := by cases r <;> rfl
theorem xD.trans {x0 x x2 : xV} (h1 : xD x0 x) (h2 : xD x x2) (hz : x0.1 ≤ x.1) : xD x0 x2 := fun a h => xF.up h1 hz a (h2 a h)
section AWC
variable {M My : xM} {rm rmy : Room} {l : Launch} {g : xG} {x0 : xV} {o1 : Option Value ⊕ String} {x1 x2 : xV} {kc ks : Nat} {x : xV} {pc : Nat} {lv : List (Nat × Value)} {rest : List Value} {y : MethodName} {index : Nat} {v : Option Value}
variable {p : Program} {e : Env} {s : State} {m : MethodId} {args : Array Value} {below : List Frame} {meth : Method} {c : Code} {H : Heap} {locs : List Loc} {ls : Array Slot} {Q : State → Prop}
/-- behind a call that returned -/
theorem xRun {g0 : JFrame} (hr : va_Run p l e rm s m args below meth c H locs kc ks rmy.cells rmy.slots g0 rest ((xQ g x v x2) args) (xF x)) (h0 : s.heap.size = x0.1) (hH : xH g x0 x s H locs)
    (k : ∀ (H1 : Heap) (locs1 : List Loc), xH g x0 x2 s H1 locs1 → W p l e rm s m args below meth c H1 locs1 (kc + rmy.cells) (ks + rmy.slots) Q { g0 with pc := g0.pc + 3, stack := v.toList ++ rest }) : W p l e rm s m args below meth c H locs kc ks Q g0 := by
  intro T hT X
  obtain ⟨v', st₀, t, T', L, e0, X', hL, e1, e2, ⟨hv, hP, hD, hF⟩, st⟩ := hr T hT X
  cases hv
  have hz := hH.size h0
  have hup := xF.up hH.2.1 hz
  rw [va_F, e0] at hF
  have hH1 : xH g x0 x2 s T'.heap (locs ++ L) := by
    refine ⟨by rw [e1]; exact hP, hH.2.1.trans hD hz, ?_, ?_, ?_⟩
    · rw [e1]; exact Nat.le_trans hH.2.2.1 hF.1
    · intro q h1 h2
      rw [e1, hF.2 q (Nat.lt_of_lt_of_le h1 hH.2.2.1) (fun z => h2 (hup q z))]
      exact hH.2.2.2.1 q h1 h2
    · intro q hq
      rcases List.mem_append.mp hq with h | h
      · exact hH.2.2.2.2 q h
      · exact hup _ (hL q h)
  obtain ⟨t2, a1, b1⟩ := k T'.heap (locs ++ L) hH1 T' rfl X'
  exact ⟨t2, st t2 a1, b1⟩
/-- what a call needs of the tables and the room, in one -/
abbrev xCall (M My : xM) (rm rmy : Room) (y : MethodName) (index n : Nat) : Prop := Cond.methodLink M.1 index y ∈ wt ∧ Cond.code y My.2.1 My.2.2.1 My.2.2.2.1 ∈ wt ∧ Cond.initialized y.cls ∈ wt ∧ (y.cls ≠ "java/lang/invoke/MethodHandle" ∧ y.cls ≠ "java/lang/invoke/VarHandle" ∧ (parseMethodDescriptor y.desc).map (fun d => d.parameters.length) = some n)
theorem xCallB (B : xB M l g x0 o1 p s m args meth c) {n : Nat} (hc : xCall M My rm rmy y index n) (hR : rmy.frames + 1 ≤ rm.frames ∧ 8 + (My.2.2.1 + 11) + rmy.locals ≤ rm.locals) : CallB rm s args M.1 index y My.2.1 My.2.2.1 My.2.2.2.1 (.code y My.2.1 My.2.2.1 My.2.2.2.1 :: wt) rmy rmy.cells rmy.slots n :=
  callB_of n (Ts := wt) (ws' := wt) B.2.2.2.2.2.2.1 (wt_in hc.2.1) rfl rfl rfl (B.2.2.2.2.2.2.1 _ hc.2.2.1) (B.2.2.2.2.2.2.1 _ hc.1) hc.2.2.2 hR
theorem xFix (B : xB M l g x0 o1 p s m args meth c) : CallFix p m c M.2.1 M.2.2.1 s args wt M.1 := ⟨B.1, B.2.1, B.2.2.1, B.2.2.2.2.2.1, B.2.2.2.2.2.2.1⟩
theorem aw_callS (av : List Value) (n : Nat) (hc : CT y My rmy l g av x (.inl v) x2) (hw : xCall M My rm rmy y index n) (hst : Cond.static y ∈ wt) (hd : decode M.2.1 pc = .ok (.invokestatic index, 3)) {st : List Value} (hs : st = av.reverse ++ rest) (hn : av.length = n) (hr : (rest.map fun v => v.category).sum ≤ 8) (hR : rmy.frames + 1 ≤ rm.frames ∧ 8 + (My.2.2.1 + 11) + rmy.locals ≤ rm.locals) (hf : kc + rmy.cells ≤ rm.cells ∧ ks + rmy.slots ≤ rm.slots)
    (k : AW M rm l g x0 o1 x1 (kc + rmy.cells) (ks + rmy.slots) x2 (pc + 3) lv (v.toList ++ rest)) : AW M rm l g x0 o1 x1 kc ks x pc lv st := fun p e s m args below meth c B H locs ls hH hl =>
  xRun (va_runS (As := av) (rest := rest) (xFix B) hc ⟨xCallB B hw hR, B.2.2.2.2.2.2.1 _ hst⟩ ⟨xPc.blind, xPc.at B hH av⟩ rfl hn hl.1 hs (lv_room hr) hd hf) B.2.2.2.2.2.2.2.2.1 hH (fun H1 locs1 h1 => k p e s m args below meth c B H1 locs1 ls h1 hl)
theorem xRecv (B : xB M l g x0 o1 p s m args meth c) (hH : xH g x0 x s H locs) {a ci : Nat} {fs : List Value} {q : vw_C} (ha : x.2 a = some (.inr (ci, fs))) (hq : vwCl[ci]? = some q) : ∃ cellB : Cell, H[a]? = some cellB ∧ cellB.vm.isStatics = false ∧ s.vm.findClass q.1 = some cellB.cls :=
  va_recv (ws := [(a, .inr (ci, fs))]) (q0 := 0) B.2.2.2.2.2.2.2.1 (fun k z hz => by
    cases k with
    | zero => cases hz; exact hH.1.2 a _ ha
    | succ k => cases hz) hq rfl
theorem aw_callV (ci : Nat) (r : Option Nat) (av : List Value) (n : Nat) {a : Nat} {fs : List Value} (hra : r = some a) (ha : x.2 a = some (.inr (ci, fs))) {q : vw_C} (hq : vwCl[ci]? = some q) (hqc : q.1 = y.cls) (hc : CT y My rmy l g (va_rf (some a) :: av) x (.inl v) x2) (hw : xCall M My rm rmy y index n) (hin : Cond.instanceMethod y ∈ wt) (hse : Cond.selects y.cls y y ∈ wt) (hd : decode M.2.1 pc = .ok (.invokevirtual index, 3)) {st : List Value} (hs : st = av.reverse ++ va_rf r :: rest) (hn : av.length = n) (hr : (rest.map fun v => v.category).sum ≤ 8) (hR : rmy.frames + 1 ≤ rm.frames ∧ 8 + (My.2.2.1 + 11) + rmy.locals ≤ rm.locals) (hf : kc + rmy.cells ≤ rm.cells ∧ ks + rmy.slots ≤ rm.slots)
    (k : AW M rm l g x0 o1 x1 (kc + rmy.cells) (ks + rmy.slots) x2 (pc + 3) lv (v.toList ++ rest)) : AW M rm l g x0 o1 x1 kc ks x pc lv st := fun p e s m args below meth c B H locs ls hH hl => by
  subst hra
  exact xRun (va_runV (As := av) (rest := rest) (C := y.cls) (b := a) (xFix B) hc ⟨xCallB B hw hR, B.2.2.2.2.2.2.1 _ hin, B.2.2.2.2.2.2.1 _ hse⟩ ⟨xPc.blind, by rw [← hqc]; exact xRecv B hH ha hq, xPc.at B hH (.ref a :: av)⟩ rfl hn hl.1 hs (lv_room hr) hd hf) B.2.2.2.2.2.2.2.2.1 hH (fun H1 locs1 h1 => k p e s m args below meth c B H1 locs1 ls h1 hl)
theorem aw_callI (a : Nat) (av : List Value) (n : Nat) (hret : My.2.2.2.1 = none) (hyn : y.name = "<init>") (hc : CT y My rmy l g (va_rf (some a) :: av) x (.inl v) x2) (hw : xCall M My rm rmy y index n) (hin : Cond.instanceMethod y ∈ wt) (hd : decode M.2.1 pc = .ok (.invokespecial index, 3)) {st : List Value} (hs : st = av.reverse ++ va_rf (some a) :: rest) (hn : av.length = n) (hr : (rest.map fun v => v.category).sum ≤ 8) (hR : rmy.frames + 1 ≤ rm.frames ∧ 8 + (My.2.2.1 + 11) + rmy.locals ≤ rm.locals) (hf : kc + rmy.cells ≤ rm.cells ∧ ks + rmy.slots ≤ rm.slots)
    (k : AW M rm l g x0 o1 x1 (kc + rmy.cells) (ks + rmy.slots) x2 (pc + 3) lv (v.toList ++ rest)) : AW M rm l g x0 o1 x1 kc ks x pc lv st := fun p e s m args below meth c B H locs ls hH hl => by
  have hcb := xCallB B hw hR
  unfold CT at hc
  rw [hret] at hcb hc
  exact xRun (va_runI (As := av) (rest := rest) (b := a) (xFix B) hc ⟨hcb, hyn, B.2.2.2.2.2.2.1 _ hin⟩ ⟨xPc.blind, xPc.at B hH (.ref a :: av)⟩ rfl hn hl.1 hs (lv_room hr) hd hf) B.2.2.2.2.2.2.2.2.1 hH (fun H1 locs1 h1 => k p e s m args below meth c B H1 locs1 ls h1 hl)
/-- .. of a nest mate's private method -/
abbrev xCallN (M My : xM) (y : MethodName) (index n : Nat) (host : String) : Prop := Cond.methodLinkNest M.1 index y host ∈ wt ∧ Cond.code y My.2.1 My.2.2.1 My.2.2.2.1 ∈ wt ∧ Cond.initialized y.cls ∈ wt ∧ (y.cls ≠ "java/lang/invoke/MethodHandle" ∧ y.cls ≠ "java/lang/invoke/VarHandle" ∧ (parseMethodDescriptor y.desc).map (fun d => d.parameters.length) = some n)
theorem xCallNB (B : xB M l g x0 o1 p s m args meth c) {n : Nat} {host : String} (hc : xCallN M My y index n host) (hR : rmy.frames + 1 ≤ rm.frames ∧ 8 + (My.2.2.1 + 11) + rmy.locals ≤ rm.locals) : va_CN rm s args M.1 index y host My.2.1 My.2.2.1 My.2.2.2.1 (.code y My.2.1 My.2.2.1 My.2.2.2.1 :: wt) rmy rmy.cells rmy.slots n :=
  va_cnB n (Ts := wt) (ws' := wt) B.2.2.2.2.2.2.1 (wt_in hc.2.1) rfl rfl rfl (va_Nw.of rfl (B.2.2.2.2.2.2.1 _ hc.1)) (B.2.2.2.2.2.2.1 _ hc.2.2.1) hc.2.2.2 hR
theorem aw_callSN (host : String) (av : List Value) (n : Nat) (hc : CT y My rmy l g av x (.inl v) x2) (hw : xCallN M My y index n host) (hst : Cond.static y ∈ wt) (hd : decode M.2.1 pc = .ok (.invokestatic index, 3)) {st : List Value} (hs : st = av.reverse ++ rest) (hn : av.length = n) (hr : (rest.map fun v => v.category).sum ≤ 8) (hR : rmy.frames + 1 ≤ rm.frames ∧ 8 + (My.2.2.1 + 11) + rmy.locals ≤ rm.locals) (hf : kc + rmy.cells ≤ rm.cells ∧ ks + rmy.slots ≤ rm.slots)
    (k : AW M rm l g x0 o1 x1 (kc + rmy.cells) (ks + rmy.slots) x2 (pc + 3) lv (v.toList ++ rest)) : AW M rm l g x0 o1 x1 kc ks x pc lv st := fun p e s m args below meth c B H locs ls hH hl =>
  xRun (va_runSN (As := av) (rest := rest) (xFix B) hc ⟨xCallNB B hw hR, B.2.2.2.2.2.2.1 _ hst, trivial⟩ ⟨xPc.blind, xPc.at B hH av⟩ rfl hn hl.1 hs (lv_room hr) hd hf) B.2.2.2.2.2.2.2.2.1 hH (fun H1 locs1 h1 => k p e s m args below meth c B H1 locs1 ls h1 hl)
theorem aw_callIN (host : String) (a : Nat) (av : List Value) (n : Nat) (hret : My.2.2.2.1 = none) (hyn : y.name = "<init>") (hc : CT y My rmy l g (va_rf (some a) :: av) x (.inl v) x2) (hw : xCallN M My y index n host) (hin : Cond.instanceMethod y ∈ wt) (hd : decode M.2.1 pc = .ok (.invokespecial index, 3)) {st : List Value} (hs : st = av.reverse ++ va_rf (some a) :: rest) (hn : av.length = n) (hr : (rest.map fun v => v.category).sum ≤ 8) (hR : rmy.frames + 1 ≤ rm.frames ∧ 8 + (My.2.2.1 + 11) + rmy.locals ≤ rm.locals) (hf : kc + rmy.cells ≤ rm.cells ∧ ks + rmy.slots ≤ rm.slots)
    (k : AW M rm l g x0 o1 x1 (kc + rmy.cells) (ks + rmy.slots) x2 (pc + 3) lv (v.toList ++ rest)) : AW M rm l g x0 o1 x1 kc ks x pc lv st := fun p e s m args below meth c B H locs ls hH hl => by
  have hcb := xCallNB B hw hR
  unfold CT at hc
  rw [hret] at hcb hc
  exact xRun (va_runIN (As := av) (rest := rest) (b := a) (xFix B) hc ⟨hcb, hyn, B.2.2.2.2.2.2.1 _ hin⟩ ⟨xPc.blind, xPc.at B hH (.ref a :: av)⟩ rfl hn hl.1 hs (lv_room hr) hd hf) B.2.2.2.2.2.2.2.2.1 hH (fun H1 locs1 h1 => k p e s m args below meth c B H1 locs1 ls h1 hl)
theorem aw_objInit {r : Option Nat} {a : Nat} (hra : r = some a) (hl0 : Cond.methodLink M.1 index Lib.objectInit ∈ wt) (hd : decode M.2.1 pc = .ok (.invokespecial index, 3)) (hr : (rest.map fun v => v.category).sum ≤ 8) (hR : 1 ≤ rm.frames ∧ 20 ≤ rm.locals) (hin : Cond.instanceMethod Lib.objectInit ∈ wt) (hcd : Cond.code Lib.objectInit ⟨#[0xb1]⟩ 1 none ∈ wt)
    (k : AW M rm l g x0 o1 x1 kc ks x (pc + 3) lv rest) : AW M rm l g x0 o1 x1 kc ks x pc lv (va_rf r :: rest) := fun p e s m args below meth c B H locs ls hH hl => by
  subst hra
  have h8 := lv_room (m := m) (pc := pc) (ls := ls) (rest := va_rf (some a) :: rest) hr
  refine W.objInit B.1 B.2.1 B.2.2.2.2.2.1 (B.2.2.2.2.2.2.1 _ hl0) (B.2.2.2.2.2.2.1 _ hin) (B.2.2.2.2.2.2.1 _ hcd) rfl (hl.1.trans B.2.2.1.symm) rfl hd hR.1 (by omega) ?_
  exact k p e s m args below meth c B H locs ls hH hl
end AWC
end
section
/-! The heap's rows over any world. -/
def xUp (x : xV) (a : Nat) (e : va_E) : xV := (x.1, fun q => if q = a then some e else x.2 q)
def xNew (x : xV) (e : va_E) : xV := (x.1 + 1, fun q => if q = x.1 then some e else x.2 q)
section AWH
variable {M : xM} {rm : Room} {l : Launch} {g : xG} {x0 : xV} {o1 : Option Value ⊕ String} {x1 : xV} {kc ks : Nat} {x : xV} {pc : Nat} {lv : List (Nat × Value)} {st : List Value}
variable {p : Program} {e : Env} {s : State} {m : MethodId} {args : Array Value} {below : List Frame} {meth : Method} {c : Code} {H : Heap} {locs : List Loc} {ls : Array Slot} {Q : State → Prop}
theorem xP1 {a : Nat} {e : va_E} (h : xP g x H) (ha : x.2 a = some e) : va_P g.1 vwCl [(a, e)] H := fun k q hq => by
  cases k with
  | zero => cases hq; exact h.2 a e ha
  | succ k => cases hq
theorem xP.up {a : Nat} {e e' : va_E} {H1 : Heap} (h : xP g x H) (hz : H1.size = H.size) (ho : ∀ q, q ≠ a → H1[q]? = H[q]?) (hn : va_at g.1 vwCl (a, e') H1) : xP g (xUp x a e') H1 := by
  refine ⟨by rw [hz]; exact h.1, fun q e2 hq => ?_⟩
  by_cases hqa : q = a
  · subst hqa
    simp only [xUp, if_true] at hq
    cases hq
    exact hn
  · simp only [xUp, if_neg hqa] at hq
    exact (h.2 q e2 hq).kept (ho q hqa)
theorem xH.up {a i : Nat} {e e' : va_E} {H1 : Heap} (h : xH g x0 x s H locs) (ha : x.2 a = some e) (hz : H1.size = H.size) (ho : ∀ q, q ≠ a → H1[q]? = H[q]?) (hn : va_at g.1 vwCl (a, e') H1) : xH g x0 (xUp x a e') s H1 (locs ++ [⟨a, i⟩]) := by
  refine ⟨h.1.up (e := e) hz ho hn, fun q hq => ?_, h.2.2.put hz ho (h.2.1 a (by rw [ha]; exact fun z => by cases z))⟩
  by_cases hqa : q = a
  · subst hqa; exact h.2.1 q (by rw [ha]; exact fun z => by cases z)
  · simp only [xUp, if_neg hqa] at hq; exact h.2.1 q hq
theorem xH.new {e' : va_E} {H1 : Heap} (h : xH g x0 x s H locs) (h0 : s.heap.size = x0.1) (hz : H1.size = H.size + 1) (ho : ∀ q, q < H.size → H1[q]? = H[q]?) (hn : va_at g.1 vwCl (H.size, e') H1) : xH g x0 (xNew x e') s H1 locs := by
  have hs := h.1.1
  refine ⟨⟨by rw [hz, hs]; rfl, fun q e2 hq => ?_⟩, fun q hq => ?_, Nat.le_trans h.2.2.1 (by omega), fun q h1 h2 => (ho q (Nat.lt_of_lt_of_le h1 h.2.2.1)).trans (h.2.2.2.1 q h1 h2), h.2.2.2.2⟩
  · by_cases hqa : q = x.1
    · simp only [xNew, if_pos hqa] at hq
      cases hq
      rw [hqa, ← hs]; exact hn
    · simp only [xNew, if_neg hqa] at hq
      exact (h.1.2 q e2 hq).kept (ho q (h.1.lt (by rw [hq]; exact fun z => by cases z)))
  · by_cases hqa : q = x.1
    · exact Or.inr (by rw [hqa]; exact h.size h0)
    · simp only [xNew, if_neg hqa] at hq; exact h.2.1 q hq
theorem aw_getf {a ci k index N : Nat} {fs : List Value} {C : String} {T : u_T} {v : Value} (ha : x.2 a = some (.inr (ci, fs))) (hc : vwCl[ci]? = some (C, T, N)) (hin : ∀ w ∈ u_ws C T N, w ∈ wt) (hk : k < N) (hl0 : Cond.fieldLink M.1 index (T k).1 (T k).2.1 (T k).2.2.1 ∈ wt) (hv : fs[k]? = some v) (hd : decode M.2.1 pc = .ok (.getfield index, 3))
    (kk : AW M rm l g x0 o1 x1 kc ks x (pc + 3) lv (v :: st)) : AW M rm l g x0 o1 x1 kc ks x pc lv (.ref a :: st) := fun p e s m args below meth c B H locs ls hH hl =>
  va_get (ws := [(a, .inr (ci, fs))]) B.1 B.2.1 B.2.2.2.2.2.2.1 hin B.2.2.2.2.2.1 B.2.2.2.2.2.2.2.1 (xP1 hH.1 ha) 0 rfl hc k hk (B.2.2.2.2.2.2.1 _ hl0) (fun _ h => h) hv hd (kk p e s m args below meth c B H locs ls hH hl)
theorem aw_getfN {a ci k index N : Nat} {fs : List Value} {C host : String} {T : u_T} {v : Value} (ha : x.2 a = some (.inr (ci, fs))) (hc : vwCl[ci]? = some (C, T, N)) (hin : ∀ w ∈ u_ws C T N, w ∈ wt) (hk : k < N) (hl0 : Cond.fieldLinkNest M.1 index (T k).1 (T k).2.1 (T k).2.2.1 host ∈ wt) (hv : fs[k]? = some v) (hd : decode M.2.1 pc = .ok (.getfield index, 3))
    (kk : AW M rm l g x0 o1 x1 kc ks x (pc + 3) lv (v :: st)) : AW M rm l g x0 o1 x1 kc ks x pc lv (.ref a :: st) := fun p e s m args below meth c B H locs ls hH hl =>
  va_getN (ws := [(a, .inr (ci, fs))]) B.1 B.2.1 B.2.2.2.2.2.2.1 hin B.2.2.2.2.2.1 B.2.2.2.2.2.2.2.1 (xP1 hH.1 ha) 0 rfl hc k hk (B.2.2.2.2.2.2.1 _ hl0) (fun _ h => h) hv hd (kk p e s m args below meth c B H locs ls hH hl)
/-- what a store into a field wants to know of the class -/
abbrev xPut (ci k N : Nat) (C : String) (T : u_T) (ty0 : Nat → FieldType) (fs : List Value) (ty : FieldType) (v : Value) : Prop := vwCl[ci]? = some (C, T, N) ∧ (∀ w ∈ u_ws C T N, w ∈ wt) ∧ (∀ k, k < N → parseFieldDescriptor (T k).2.2.1 = some (ty0 k)) ∧ (∀ a, a < N → ∀ b, b < N → a ≠ b → (T a).2.1 ≠ (T b).2.1) ∧ k < N ∧ parseFieldDescriptor (T k).2.2.1 = some ty ∧ narrow ty v = v ∧ fits ty v = true ∧ k < fs.length
theorem xOB {a ci k N : Nat} {fs : List Value} {C : String} {T : u_T} {ty0 : Nat → FieldType} {ty : FieldType} {v : Value} (B : xB M l g x0 o1 p s m args meth c) (hp : xPut ci k N C T ty0 fs ty v) {H1 : Heap} {cell : Cell} (q2 : cell.cls = g.1.1 ci) (q3 : cell.vm = .none) (q4 : ∀ j, j < N → cell.slots[g.1.2 ci j]? = some (vp_V fs j)) (e1 : H1[a]? = some (cell.setSlot (g.1.2 ci k) v)) : va_at g.1 vwCl (a, .inr (ci, fs.set k v)) H1 := by
  obtain ⟨hc, hin, hty, hnm, hk, hdd, hn, hfit, hl⟩ := hp
  have hap := va_apart (own := M.1) B.2.2.2.2.2.2.1 hin ty0 hty hnm B.2.2.2.2.2.2.2.1 hc
  exact ⟨_, hc, t_OB.to (V := updV (vp_V fs) k v) ⟨_, e1, q2, q3, t_set q4 hap hk v⟩ (fun j _ => vp_updV_set hl v j)⟩
theorem aw_putf {a ci k index N : Nat} {fs : List Value} {C : String} {T : u_T} {ty0 : Nat → FieldType} {ty : FieldType} {v : Value} (ha : x.2 a = some (.inr (ci, fs))) (hp : xPut ci k N C T ty0 fs ty v) (hl0 : Cond.fieldLink M.1 index (T k).1 (T k).2.1 (T k).2.2.1 ∈ wt) (hfin : (T k).2.2.2 = false) (hd : decode M.2.1 pc = .ok (.putfield index, 3))
    (kk : AW M rm l g x0 o1 x1 kc ks (xUp x a (.inr (ci, fs.set k v))) (pc + 3) lv st) : AW M rm l g x0 o1 x1 kc ks x pc lv (v :: .ref a :: st) := fun p e s m args below meth c B H locs ls hH hl => by
  have hts := B.2.2.2.2.2.2.1
  have hB := @xOB M l g x0 o1 p s m args meth c a ci k N fs C T ty0 ty v B hp
  obtain ⟨hc, hin, hty, hnm, hk, hdd, hn, hfit, hl1⟩ := hp
  obtain ⟨r, h1, cell, q1, q2, q3, q4⟩ := hH.1.2 a _ ha
  have hr : r = (C, T, N) := Option.some.inj (h1.symm.trans hc)
  subst hr
  obtain ⟨hS, hfc, kC, hkC, hkind⟩ := B.2.2.2.2.2.2.2.1.1 ci _ hc
  obtain ⟨cf, kf, fi, f, hi, hsl⟩ := hS k hk
  have hlay := hts _ (hin _ (u_in_lay hk))
  unfold u_lay at hlay
  rw [if_neg (by rw [hfin]; decide)] at hlay
  have hst := (u_facts hfc hkC (u_lays hts hin hk) hi).1
  have h6 := u_store hfc hkC hkind hlay hi hdd hn hfit
  refine W.putK B.1 B.2.1 (f := f) ⟨B.2.2.2.2.2.1, hts _ hl0, ⟨_, _, _, hi⟩, hst⟩ (by rw [q2]; exact h6) q1 q3 (by rw [hsl]; exact k2_hasslot (q4 k hk)) rfl rfl hd fun H1 e1 e2 e3 => ?_
  rw [hsl] at e1
  exact kk p e s m args below meth c B H1 _ ls (hH.up ha e2 e3 (hB q2 q3 q4 e1)) hl
theorem aw_putfN {a ci k index N : Nat} {fs : List Value} {C host : String} {T : u_T} {ty0 : Nat → FieldType} {ty : FieldType} {v : Value} (ha : x.2 a = some (.inr (ci, fs))) (hp : xPut ci k N C T ty0 fs ty v) (hl0 : Cond.fieldLinkNest M.1 index (T k).1 (T k).2.1 (T k).2.2.1 host ∈ wt) (hfin : (T k).2.2.2 = false) (hd : decode M.2.1 pc = .ok (.putfield index, 3))
    (kk : AW M rm l g x0 o1 x1 kc ks (xUp x a (.inr (ci, fs.set k v))) (pc + 3) lv st) : AW M rm l g x0 o1 x1 kc ks x pc lv (v :: .ref a :: st) := fun p e s m args below meth c B H locs ls hH hl => by
  have hts := B.2.2.2.2.2.2.1
  have hB := @xOB M l g x0 o1 p s m args meth c a ci k N fs C T ty0 ty v B hp
  obtain ⟨hc, hin, hty, hnm, hk, hdd, hn, hfit, hl1⟩ := hp
  obtain ⟨r, h1, cell, q1, q2, q3, q4⟩ := hH.1.2 a _ ha
  have hr : r = (C, T, N) := Option.some.inj (h1.symm.trans hc)
  subst hr
  obtain ⟨hS, hfc, kC, hkC, hkind⟩ := B.2.2.2.2.2.2.2.1.1 ci _ hc
  obtain ⟨cf, kf, fi, f, hi, hsl⟩ := hS k hk
  have hlay := hts _ (hin _ (u_in_lay hk))
  unfold u_lay at hlay
  rw [if_neg (by rw [hfin]; decide)] at hlay
  have hst := (u_facts hfc hkC (u_lays hts hin hk) hi).1
  have h6 := u_store hfc hkC hkind hlay hi hdd hn hfit
  refine va_WputK B.1 B.2.1 (f := f) B.2.2.2.2.2.1 (hts _ hl0) hi hst (by rw [q2]; exact h6) q1 q3 (by rw [hsl]; exact k2_hasslot (q4 k hk)) rfl rfl hd fun H1 e1 e2 e3 => ?_
  rw [hsl] at e1
  exact kk p e s m args below meth c B H1 _ ls (hH.up ha e2 e3 (hB q2 q3 q4 e1)) hl
/-- into a final field, in a constructor -/
theorem aw_putfF {a ci k index N : Nat} {fs : List Value} {C : String} {T : u_T} {ty0 : Nat → FieldType} {ty : FieldType} {v : Value} (ha : x.2 a = some (.inr (ci, fs))) (hp : xPut ci k N C T ty0 fs ty v) (hl0 : Cond.fieldLink M.1 index (T k).1 (T k).2.1 (T k).2.2.1 ∈ wt) (hfin : (T k).2.2.2 = true) (hnm0 : M.2.2.2.2 = "<init>") (hdc : (T k).1 = M.1) (hd : decode M.2.1 pc = .ok (.putfield index, 3))
    (kk : AW M rm l g x0 o1 x1 kc ks (xUp x a (.inr (ci, fs.set k v))) (pc + 3) lv st) : AW M rm l g x0 o1 x1 kc ks x pc lv (v :: .ref a :: st) := fun p e s m args below meth c B H locs ls hH hl => by
  have hts := B.2.2.2.2.2.2.1
  have hB := @xOB M l g x0 o1 p s m args meth c a ci k N fs C T ty0 ty v B hp
  obtain ⟨hc, hin, hty, hnm, hk, hdd, hn, hfit, hl1⟩ := hp
  obtain ⟨r, h1, cell, q1, q2, q3, q4⟩ := hH.1.2 a _ ha
  have hr : r = (C, T, N) := Option.some.inj (h1.symm.trans hc)
  subst hr
  obtain ⟨hS, hfc, kC, hkC, hkind⟩ := B.2.2.2.2.2.2.2.1.1 ci _ hc
  obtain ⟨cf, kf, fi, f, hi, hsl⟩ := hS k hk
  have hlay := hts _ (hin _ (u_in_lay hk))
  unfold u_lay at hlay
  rw [if_pos hfin] at hlay
  have hst := (u_facts hfc hkC (u_lays hts hin hk) hi).1
  have hcf : m.cls = cf := by
    obtain ⟨_, _, c', _, _, _, -, -, hf', -, -, -, hown2, -⟩ := Cond.laysFinal_spec hlay
    have e1 : c' = cf := by have := hi.symm.trans hf'; simp at this; exact this.1.symm
    rw [hdc] at hown2
    rw [← e1]; exact Option.some.inj (B.2.2.2.2.2.1.symm.trans hown2)
  have h6 := u_fits hfc hkC hkind (Or.inr hlay) hi hdd hn hfit
  refine W.putFinK B.1 B.2.1 B.2.2.2.2.2.1 (hts _ hl0) hi hst hcf (B.2.2.2.2.2.2.2.2.2.1.trans hnm0) (by rw [q2]; exact h6) q1 q3 (by rw [hsl]; exact k2_hasslot (q4 k hk)) rfl rfl hd fun H1 e1 e2 e3 => ?_
  rw [hsl] at e1
  exact kk p e s m args below meth c B H1 _ ls (hH.up ha e2 e3 (hB q2 q3 q4 e1)) hl
-- arrays
theorem aw_iald {a n : Nat} {f : Nat → Int32} {i : Int32} (ha : x.2 a = some (.inl (g.2.1, n, .inl f))) (hin : vp_in i n) (hd : decode M.2.1 pc = .ok (.iaload, 1))
    (kk : AW M rm l g x0 o1 x1 kc ks x (pc + 1) lv (.int (f i.toNatClampNeg) :: st)) : AW M rm l g x0 o1 x1 kc ks x pc lv (.int i :: .ref a :: st) := fun p e s m args below meth c B H locs ls hH hl =>
  va_iald (ws := [(a, .inl (g.2.1, n, .inl f))]) B.1 B.2.1 B.2.2.2.2.2.2.2.1 (xP1 hH.1 ha) 0 0 rfl rfl hin hd (kk p e s m args below meth c B H locs ls hH hl)
theorem aw_lald {a n : Nat} {f : Nat → Int64} {i : Int32} (ha : x.2 a = some (.inl (g.2.2.1, n, .inr (.inl f)))) (hin : vp_in i n) (hd : decode M.2.1 pc = .ok (.laload, 1))
    (kk : AW M rm l g x0 o1 x1 kc ks x (pc + 1) lv (.long (f i.toNatClampNeg) :: st)) : AW M rm l g x0 o1 x1 kc ks x pc lv (.int i :: .ref a :: st) := fun p e s m args below meth c B H locs ls hH hl =>
  va_lald (ws := [(a, .inl (g.2.2.1, n, .inr (.inl f)))]) B.1 B.2.1 B.2.2.2.2.2.2.2.1 (xP1 hH.1 ha) 0 1 rfl rfl hin hd (kk p e s m args below meth c B H locs ls hH hl)
theorem aw_zald {a n : Nat} {f : Nat → Int32} {i : Int32} (ha : x.2 a = some (.inl (g.2.2.2.1, n, .inl f))) (hin : vp_in i n) (hd : decode M.2.1 pc = .ok (.baload, 1))
    (kk : AW M rm l g x0 o1 x1 kc ks x (pc + 1) lv (.int (f i.toNatClampNeg) :: st)) : AW M rm l g x0 o1 x1 kc ks x pc lv (.int i :: .ref a :: st) := fun p e s m args below meth c B H locs ls hH hl =>
  va_zald (ws := [(a, .inl (g.2.2.2.1, n, .inl f))]) B.1 B.2.1 B.2.2.2.2.2.2.2.1 (xP1 hH.1 ha) 0 2 rfl rfl hin hd (kk p e s m args below meth c B H locs ls hH hl)
theorem aw_aald (t : Nat) {a n : Nat} {f : Nat → Option Nat} {i : Int32} {cA : ClassId} {C : String} (ha : x.2 a = some (.inl (cA, n, .inr (.inr (.inr (.inr f)))))) (ht : (xTys g)[t]? = some (cA, .object C)) (hin : vp_in i n) (hd : decode M.2.1 pc = .ok (.aaload, 1))
    (kk : AW M rm l g x0 o1 x1 kc ks x (pc + 1) lv (va_rf (f i.toNatClampNeg) :: st)) : AW M rm l g x0 o1 x1 kc ks x pc lv (.int i :: .ref a :: st) := fun p e s m args below meth c B H locs ls hH hl =>
  va_aldq (ws := [(a, .inl (cA, n, .inr (.inr (.inr (.inr f)))))]) B.1 B.2.1 B.2.2.2.2.2.2.2.1 (xP1 hH.1 ha) 0 t rfl ht hin hd (kk p e s m args below meth c B H locs ls hH hl)
theorem aw_alen (t : Nat) {a : Nat} {y : vp_A} {cA : ClassId} {ty : FieldType} (ha : x.2 a = some (.inl (cA, y))) (ht : (xTys g)[t]? = some (cA, ty)) (hd : decode M.2.1 pc = .ok (.arraylength, 1))
    (kk : AW M rm l g x0 o1 x1 kc ks x (pc + 1) lv (.int (nI y.1) :: st)) : AW M rm l g x0 o1 x1 kc ks x pc lv (.ref a :: st) := fun p e s m args below meth c B H locs ls hH hl =>
  va_alen (ws := [(a, .inl (cA, y))]) B.1 B.2.1 B.2.2.2.2.2.2.2.1 (xP1 hH.1 ha) 0 t rfl ht rfl hd (kk p e s m args below meth c B H locs ls hH hl)
theorem aw_iast {a n : Nat} {f : Nat → Int32} {i y : Int32} (ha : x.2 a = some (.inl (g.2.1, n, .inl f))) (hin : vp_in i n) (hd : decode M.2.1 pc = .ok (.iastore, 1))
    (kk : AW M rm l g x0 o1 x1 kc ks (xUp x a (.inl (g.2.1, n, .inl (upd f i.toNatClampNeg y)))) (pc + 1) lv st) : AW M rm l g x0 o1 x1 kc ks x pc lv (.int y :: .int i :: .ref a :: st) := fun p e s m args below meth c B H locs ls hH hl => by
  refine W.iast B.1 B.2.1 (hH.1.2 a _ ha) ((B.2.2.2.2.2.2.2.1.2 0 _ rfl).1 n (fun j => .int (f j))) (fun q => by cases q) (by show ¬ (i < 0 ∨ (arrV _ _ _).slots.size ≤ _); rw [arrV_size]; exact hin) rfl rfl hd fun H1 e1 z oq => ?_
  refine kk p e s m args below meth c B H1 _ ls (hH.up ha z oq ?_) hl
  show H1[a]? = some (vp_cell _ _)
  rw [e1, vp_cell_i, vp_cell_i, arrV_store]
  congr 2
  funext q
  by_cases hq : q = i.toNatClampNeg
  · subst hq; simp [updV, upd]
  · simp [updV, upd, hq]
theorem aw_last {a n : Nat} {f : Nat → Int64} {i : Int32} {y : Int64} (ha : x.2 a = some (.inl (g.2.2.1, n, .inr (.inl f)))) (hin : vp_in i n) (hd : decode M.2.1 pc = .ok (.lastore, 1))
    (kk : AW M rm l g x0 o1 x1 kc ks (xUp x a (.inl (g.2.2.1, n, .inr (.inl (vp_updL f i.toNatClampNeg y))))) (pc + 1) lv st) : AW M rm l g x0 o1 x1 kc ks x pc lv (.long y :: .int i :: .ref a :: st) := fun p e s m args below meth c B H locs ls hH hl => by
  refine W.last B.1 B.2.1 (hH.1.2 a _ ha) ((B.2.2.2.2.2.2.2.1.2 1 _ rfl).1 n (fun j => .long (f j))) (fun q => by cases q) (by show ¬ (i < 0 ∨ (arrV _ _ _).slots.size ≤ _); rw [arrV_size]; exact hin) rfl rfl hd fun H1 e1 z oq => ?_
  refine kk p e s m args below meth c B H1 _ ls (hH.up ha z oq ?_) hl
  show H1[a]? = some (vp_cell _ _)
  rw [e1, vp_cell_l, vp_cell_l, arrV_store]
  congr 2
  funext q
  by_cases hq : q = i.toNatClampNeg
  · subst hq; simp [updV, vp_updL]
  · simp [updV, vp_updL, hq]
theorem aw_zast {a n : Nat} {f : Nat → Int32} {i y : Int32} (hy : vp_nar .boolean y = y) (ha : x.2 a = some (.inl (g.2.2.2.1, n, .inl f))) (hin : vp_in i n) (hd : decode M.2.1 pc = .ok (.bastore, 1))
    (kk : AW M rm l g x0 o1 x1 kc ks (xUp x a (.inl (g.2.2.2.1, n, .inl (upd f i.toNatClampNeg y)))) (pc + 1) lv st) : AW M rm l g x0 o1 x1 kc ks x pc lv (.int y :: .int i :: .ref a :: st) := fun p e s m args below meth c B H locs ls hH hl => by
  refine W.zast B.1 B.2.1 (hH.1.2 a _ ha) ((B.2.2.2.2.2.2.2.1.2 2 _ rfl).1 n (fun j => .int (f j))) (fun q => by cases q) (by show ¬ (i < 0 ∨ (arrV _ _ _).slots.size ≤ _); rw [arrV_size]; exact hin) rfl rfl hd fun H1 e1 z oq => ?_
  refine kk p e s m args below meth c B H1 _ ls (hH.up ha z oq ?_) hl
  show H1[a]? = some (vp_cell _ _)
  rw [e1, vp_cell_i, vp_cell_i, arrV_store]
  congr 2
  funext q
  by_cases hq : q = i.toNatClampNeg
  · subst hq
    have hy2 : narrow .boolean (.int y) = .int y := by
      have h1 : narrow .boolean (.int y) = .int (vp_nar .boolean y) := by simp [vp_nar, narrow]
      rw [h1, hy]
    simp [updV, upd, hy2]
  · simp [updV, upd, hq]
theorem aw_aast (t ci : Nat) {a b n : Nat} {f : Nat → Option Nat} {vs : List Value} {i : Int32} {cA : ClassId} {r : vw_C} (ha : x.2 a = some (.inl (cA, n, .inr (.inr (.inr (.inr f)))))) (ht : (xTys g)[t]? = some (cA, .object r.1)) (hb : x.2 b = some (.inr (ci, vs))) (hc : vwCl[ci]? = some r) (hin : vp_in i n) (hd : decode M.2.1 pc = .ok (.aastore, 1))
    (kk : AW M rm l g x0 o1 x1 kc ks (xUp x a (.inl (cA, n, .inr (.inr (.inr (.inr (va_up f i.toNatClampNeg (some b)))))))) (pc + 1) lv st) : AW M rm l g x0 o1 x1 kc ks x pc lv (.ref b :: .int i :: .ref a :: st) := fun p e s m args below meth c B H locs ls hH hl => by
  have hlt : i.toNatClampNeg < n := Nat.not_le.mp fun q => hin (Or.inr q)
  have h0 : ¬ i < 0 := fun q => hin (Or.inl q)
  have hK := B.2.2.2.2.2.2.2.1
  obtain ⟨r', hr', cellV, g1, g2, g3, -⟩ := hH.1.2 b _ hb
  have hcls := (hK.1 ci r hc).2
  obtain ⟨kA, comp, k1, k2, k3, -⟩ := (hK.2 t _ ht).2
  have hcomp : comp = g.1.1 ci := Option.some.inj (k3.symm.trans hcls.1)
  subst hcomp
  obtain ⟨kC, hkC, -⟩ := id hcls.2
  refine W.aast B.1 B.2.1 (hH.1.2 a _ ha) (fun q h => by cases h) (fun h => by cases h) k1 k2 rfl hkC ⟨h0, by show _ < (arrV _ _ _).slots.size; rw [arrV_size]; exact hlt⟩ g1 (fun q h => by rw [g3] at h; cases h) (by rw [g2]; exact hkC) (by rw [g2]; exact va_assign hcls) rfl rfl hd fun H1 e1 z oq => ?_
  refine kk p e s m args below meth c B H1 _ ls (hH.up ha z oq ?_) hl
  show H1[a]? = some (vp_cell _ _)
  rw [e1, vp_cell_q, vp_cell_q, arrV_store]
  congr 2
  funext q
  by_cases hq : q = i.toNatClampNeg
  · subst hq; simp [updV, va_up, va_rf]
  · simp [updV, va_up, hq]
theorem aw_aastN (t : Nat) {a n : Nat} {f : Nat → Option Nat} {i : Int32} {cA : ClassId} {C : String} (ha : x.2 a = some (.inl (cA, n, .inr (.inr (.inr (.inr f)))))) (ht : (xTys g)[t]? = some (cA, .object C)) (hin : vp_in i n) (hd : decode M.2.1 pc = .ok (.aastore, 1))
    (kk : AW M rm l g x0 o1 x1 kc ks (xUp x a (.inl (cA, n, .inr (.inr (.inr (.inr (va_up f i.toNatClampNeg none))))))) (pc + 1) lv st) : AW M rm l g x0 o1 x1 kc ks x pc lv (.null :: .int i :: .ref a :: st) := fun p e s m args below meth c B H locs ls hH hl => by
  refine va_WaastN (C := C) B.1 B.2.1 (hH.1.2 a _ ha) ((B.2.2.2.2.2.2.2.1.2 t _ ht).1 n (fun j => va_rf (f j))) (fun h => by cases h) (by show ¬ (i < 0 ∨ (arrV _ _ _).slots.size ≤ _); rw [arrV_size]; exact hin) rfl rfl hd fun H1 e1 z oq => ?_
  refine kk p e s m args below meth c B H1 _ ls (hH.up ha z oq ?_) hl
  show H1[a]? = some (vp_cell _ _)
  rw [e1, vp_cell_q, vp_cell_q, arrV_store]
  congr 2
  funext q
  by_cases hq : q = i.toNatClampNeg
  · subst hq; simp [updV, va_up, va_rf]
  · simp [updV, va_up, hq]
-- what is made
theorem aw_new {ci N index : Nat} {C : String} {T : u_T} {ty0 : Nat → FieldType} (fs : List Value) (hc : vwCl[ci]? = some (C, T, N)) (hin : ∀ w ∈ u_ws C T N, w ∈ wt) (hty : ∀ k, k < N → parseFieldDescriptor (T k).2.2.1 = some (ty0 k)) (hcl : Cond.classLink M.1 index C ∈ wt) (hinst : Cond.instantiable C N ∈ wt) (hini : Cond.initialized C ∈ wt) (hfs : ∀ j, j < N → defaultValue (ty0 j) = vp_V fs j) (hf : kc + 1 ≤ rm.cells ∧ ks + N ≤ rm.slots) (hd : decode M.2.1 pc = .ok (.new index, 3))
    (kk : AW M rm l g x0 o1 x1 (kc + 1) (ks + N) (xNew x (.inr (ci, fs))) (pc + 3) lv (.ref x.1 :: st)) : AW M rm l g x0 o1 x1 kc ks x pc lv st := fun p e s m args below meth c B H locs ls hH hl => by
  have hts := B.2.2.2.2.2.2.1
  have hKn := B.2.2.2.2.2.2.2.1.1 ci _ hc
  refine W.newcK B.1 B.2.1 B.2.2.2.2.2.1 (hts _ hcl) (hts _ hinst) (hts _ hini) rfl hd hf.1 hf.2 hKn.2.1 rfl fun H1 kC hkC e1 z1 o1 => ?_
  rw [hH.1.1]
  refine kk p e s m args below meth c B H1 locs ls (hH.new B.2.2.2.2.2.2.2.2.1 z1 o1 ⟨_, hc, ?_⟩) hl
  exact (u_born ty0 hts hin hKn hkC e1 hty).to hfs
theorem xArr {ty : FieldType} {cA cB : ClassId} {t : Nat} (hK : va_K g.1 vwCl (xTys g) s) (ht : (xTys g)[t]? = some (cB, ty)) (hp : ty = .int ∨ ty = .long ∨ ty = .boolean) (h : s.vm.findClass ("[" ++ ty.toString) = some cA) : cA = cB := by
  have h2 := (hK.2 t _ ht).2
  rcases hp with rfl | rfl | rfl <;> exact Option.some.inj (h.symm.trans h2)
theorem aw_newa (t : Nat) {atype : ArrayType} {ty : FieldType} {cB : ClassId} {n : Int32} {N : Nat} {a0 : vp_A} (hty : newarray.typeOf atype = ty) (hp : ty = .int ∨ ty = .long ∨ ty = .boolean) (ht : (xTys g)[t]? = some (cB, ty)) (harr : Cond.arrayClass ty ∈ wt) (ha : vp_cell cB a0 = arrV cB N (fun _ => defaultValue ty)) (hn : ¬ n < 0) (hN : n.toNatClampNeg = N) (hbytes : N * componentBytes ty ≤ 536870912) (hf : kc + 1 ≤ rm.cells ∧ ks + N ≤ rm.slots) (hd : decode M.2.1 pc = .ok (.newarray atype, 2))
    (kk : AW M rm l g x0 o1 x1 (kc + 1) (ks + N) (xNew x (.inl (cB, a0))) (pc + 2) lv (.ref x.1 :: st)) : AW M rm l g x0 o1 x1 kc ks x pc lv (.int n :: st) := fun p e s m args below meth c B H locs ls hH hl => by
  subst hty
  have hts := B.2.2.2.2.2.2.1
  refine va_newaK B.1 B.2.1 (hts _ harr) rfl hd rfl hn hN hbytes hf.1 hf.2 rfl fun H1 cA e1 z1 o1 hAr hNm => ?_
  have hcc : cA = cB := xArr B.2.2.2.2.2.2.2.1 ht hp hNm
  subst hcc
  rw [hH.1.1]
  refine kk p e s m args below meth c B H1 locs ls (hH.new B.2.2.2.2.2.2.2.2.1 z1 o1 ?_) hl
  show H1[H.size]? = some (vp_cell _ _)
  rw [ha]; exact e1
theorem aw_newq (t : Nat) {index : Nat} {C : String} {cB : ClassId} {n : Int32} {N : Nat} (hC : C = RX3 ∨ C = RX7) (ht : (xTys g)[t]? = some (cB, .object C)) (hcl : Cond.classLink M.1 index C ∈ wt) (hn : ¬ n < 0) (hN : n.toNatClampNeg = N) (hbytes : N * 4 ≤ 536870912) (hf : kc + 1 ≤ rm.cells ∧ ks + N ≤ rm.slots) (hd : decode M.2.1 pc = .ok (.anewarray index, 3))
    (kk : AW M rm l g x0 o1 x1 (kc + 1) (ks + N) (xNew x (.inl (cB, N, .inr (.inr (.inr (.inr (fun _ => none))))))) (pc + 3) lv (.ref x.1 :: st)) : AW M rm l g x0 o1 x1 kc ks x pc lv (.int n :: st) := fun p e s m args below meth c B H locs ls hH hl => by
  subst hN
  have hts := B.2.2.2.2.2.2.1
  have hI := B.2.2.2.2.2.2.2.2.2.2.1
  have hover : va_AO C s := by rcases hC with rfl | rfl; exact hI.2.1; exact hI.2.2.1
  refine W.anew B.1 B.2.1 B.2.2.2.2.2.1 (hts _ hcl) (va_AO.use hover) rfl hd rfl hn hbytes hf.1 hf.2 fun cA kA comp f1 f2 f3 f4 => ?_
  have hcc : cA = cB := by
    obtain ⟨-, kB, comp2, -, -, -, h4⟩ := B.2.2.2.2.2.2.2.1.2 t _ ht
    exact Option.some.inj (f1.symm.trans h4)
  subst hcc
  rw [hH.1.1]
  refine kk p e s m args below meth c B _ locs ls (hH.new B.2.2.2.2.2.2.2.2.1 (by rw [Array.size_push]) (fun q hq => by rw [Array.getElem?_push, if_neg (Nat.ne_of_lt hq)]) ?_) hl
  show (H.push _)[H.size]? = some (vp_cell _ _)
  rw [Array.getElem?_push_size, vp_cell_q, ← arrV_new]
  rfl
end AWH
end
section
theorem inX1 : ∀ w ∈ u_ws RX1 TX1 3, w ∈ wt := fun w h => by
  have h1 : (u_ws RX1 TX1 3).all (fun w => decide (w ∈ lw_tbl) && goodWord w) = true := by decide +kernel
  have h2 := List.all_eq_true.mp h1 w h
  simp only [Bool.and_eq_true, decide_eq_true_eq] at h2
  exact w_fil h2.1 h2.2
theorem inX2 : ∀ w ∈ u_ws RX2 TX2 6, w ∈ wt := fun w h => by
  have h1 : (u_ws RX2 TX2 6).all (fun w => decide (w ∈ lw_tbl) && goodWord w) = true := by decide +kernel
  have h2 := List.all_eq_true.mp h1 w h
  simp only [Bool.and_eq_true, decide_eq_true_eq] at h2
  exact w_fil h2.1 h2.2
theorem inX3 : ∀ w ∈ u_ws RX3 TX3 10, w ∈ wt := fun w h => by
  have h1 : (u_ws RX3 TX3 10).all (fun w => decide (w ∈ lw_tbl) && goodWord w) = true := by decide +kernel
  have h2 := List.all_eq_true.mp h1 w h
  simp only [Bool.and_eq_true, decide_eq_true_eq] at h2
  exact w_fil h2.1 h2.2
theorem inX4 : ∀ w ∈ u_ws RX4 TX4 6, w ∈ wt := fun w h => by
  have h1 : (u_ws RX4 TX4 6).all (fun w => decide (w ∈ lw_tbl) && goodWord w) = true := by decide +kernel
  have h2 := List.all_eq_true.mp h1 w h
  simp only [Bool.and_eq_true, decide_eq_true_eq] at h2
  exact w_fil h2.1 h2.2
theorem inX6 : ∀ w ∈ u_ws RX6 TX6 3, w ∈ wt := fun w h => by
  have h1 : (u_ws RX6 TX6 3).all (fun w => decide (w ∈ lw_tbl) && goodWord w) = true := by decide +kernel
  have h2 := List.all_eq_true.mp h1 w h
  simp only [Bool.and_eq_true, decide_eq_true_eq] at h2
  exact w_fil h2.1 h2.2
theorem inX7 : ∀ w ∈ u_ws RX7 TX7 8, w ∈ wt := fun w h => by
  have h1 : (u_ws RX7 TX7 8).all (fun w => decide (w ∈ lw_tbl) && goodWord w) = true := by decide +kernel
  have h2 := List.all_eq_true.mp h1 w h
  simp only [Bool.and_eq_true, decide_eq_true_eq] at h2
  exact w_fil h2.1 h2.2
theorem inX8 : ∀ w ∈ u_ws RX8 TX8 2, w ∈ wt := fun w h => by
  have h1 : (u_ws RX8 TX8 2).all (fun w => decide (w ∈ lw_tbl) && goodWord w) = true := by decide +kernel
  have h2 := List.all_eq_true.mp h1 w h
  simp only [Bool.and_eq_true, decide_eq_true_eq] at h2
  exact w_fil h2.1 h2.2
theorem inX9 : ∀ w ∈ u_ws RX9 TX9 48, w ∈ wt := fun w h => by
  have h1 : (u_ws RX9 TX9 48).all (fun w => decide (w ∈ lw_tbl) && goodWord w) = true := by decide +kernel
  have h2 := List.all_eq_true.mp h1 w h
  simp only [Bool.and_eq_true, decide_eq_true_eq] at h2
  exact w_fil h2.1 h2.2
/-! TH: what the landed class's objects hold, by address and place: size, kinds (0 none, 1.. the classes of vwCl, 9 int[], 12 games' row, 13 nodes' row), lengths, whole numbers, long numbers, references -/
abbrev TH : Type := Nat × (Nat → Nat) × (Nat → Nat) × (Nat → Nat → Int32) × (Nat → Nat → Int64) × (Nat → Nat → Option Nat)
def t_sz (h : TH) : Nat := h.1
def t_kd (h : TH) : Nat → Nat := h.2.1
def t_ln (h : TH) : Nat → Nat := h.2.2.1
def t_I (h : TH) : Nat → Nat → Int32 := h.2.2.2.1
def t_J (h : TH) : Nat → Nat → Int64 := h.2.2.2.2.1
def t_R (h : TH) : Nat → Nat → Option Nat := h.2.2.2.2.2
def x_up2 {α : Type} (f : Nat → Nat → α) (a k : Nat) (v : α) : Nat → Nat → α := fun b j => if b = a ∧ j = k then v else f b j
def x_up1 {α : Type} (f : Nat → α) (a : Nat) (v : α) : Nat → α := fun b => if b = a then v else f b
def s_I (h : TH) (a k : Nat) (v : Int32) : TH := (t_sz h, t_kd h, t_ln h, x_up2 (t_I h) a k v, t_J h, t_R h)
def s_J (h : TH) (a k : Nat) (v : Int64) : TH := (t_sz h, t_kd h, t_ln h, t_I h, x_up2 (t_J h) a k v, t_R h)
def s_R (h : TH) (a k : Nat) (v : Option Nat) : TH := (t_sz h, t_kd h, t_ln h, t_I h, t_J h, x_up2 (t_R h) a k v)
def s_N (h : TH) (kd n : Nat) : TH := (t_sz h + 1, x_up1 (t_kd h) (t_sz h) kd, x_up1 (t_ln h) (t_sz h) n, x_up1 (t_I h) (t_sz h) (fun _ => 0), x_up1 (t_J h) (t_sz h) (fun _ => 0), x_up1 (t_R h) (t_sz h) (fun _ => none))
/-- the kinds of the fields: 0 a whole number, 1 a long one, 2 a reference -/
def tgs : Nat → List Nat := fun c => match c with
  | 0 => [0, 0, 0]
  | 1 => [2, 0, 2, 0, 2, 0]
  | 2 => [0, 0, 0, 0, 2, 2, 2, 2, 0, 0]
  | 3 => [1, 1, 0, 0, 0, 2]
  | 4 => [2, 2, 0]
  | 5 => [0, 0, 0, 2, 0, 2, 2, 0]
  | 6 => [2, 2]
  | _ => []
def thV (h : TH) (a i t : Nat) : Value := if t = 0 then .int (t_I h a i) else if t = 1 then .long (t_J h a i) else va_rf (t_R h a i)
def thF (h : TH) (a : Nat) (tl : List Nat) : List Value := tl.mapIdx (fun i t => thV h a i t)
def thC (g : xG) (h : TH) (a k : Nat) : Option va_E := if k = 0 then none else if k = 9 then some (.inl (g.2.1, t_ln h a, .inl (t_I h a))) else if k = 12 then some (.inl (g.2.2.2.2.1, t_ln h a, .inr (.inr (.inr (.inr (t_R h a)))))) else if k = 13 then some (.inl (g.2.2.2.2.2, t_ln h a, .inr (.inr (.inr (.inr (t_R h a)))))) else some (.inr (k - 1, thF h a (tgs (k - 1))))
def thE (g : xG) (h : TH) : xV := (t_sz h, fun a => thC g h a (t_kd h a))
theorem thF_at {h : TH} {a k t : Nat} {tl : List Nat} (hk : tl[k]? = some t) : (thF h a tl)[k]? = some (thV h a k t) := by simp [thF, List.getElem?_mapIdx, hk]
theorem thF_len {h : TH} {a k t : Nat} {tl : List Nat} (hk : tl[k]? = some t) : k < (thF h a tl).length := by
  have := (List.getElem?_eq_some_iff.mp hk).1
  simpa [thF] using this
theorem thF_set {h h2 : TH} {a k t : Nat} {tl : List Nat} (hk : tl[k]? = some t) (v : Value) (hv : thV h2 a k t = v) (ho : ∀ j u, j ≠ k → thV h2 a j u = thV h a j u) : (thF h a tl).set k v = thF h2 a tl := by
  apply List.ext_getElem?
  intro j
  rw [List.getElem?_set]
  by_cases hj : k = j
  · subst hj
    rw [if_pos rfl, if_pos (thF_len hk), thF_at hk, hv]
  · rw [if_neg hj]
    simp only [thF, List.getElem?_mapIdx]
    cases tl[j]? with
    | none => rfl
    | some u => simp only [Option.map_some]; rw [ho j u (fun q => hj q.symm)]
theorem thC_ob {g : xG} {h : TH} {a ci : Nat} (hk : t_kd h a = ci + 1) (hc : ci < 8) : (thE g h).2 a = some (.inr (ci, thF h a (tgs ci))) := by
  show thC g h a (t_kd h a) = _
  rw [hk]
  unfold thC
  rw [if_neg (by omega), if_neg (by omega), if_neg (by omega), if_neg (by omega)]
  rfl
theorem thC_i {g : xG} {h : TH} {a : Nat} (hk : t_kd h a = 9) : (thE g h).2 a = some (.inl (g.2.1, t_ln h a, .inl (t_I h a))) := by
  show thC g h a (t_kd h a) = _
  rw [hk]; rfl
theorem thC_m {g : xG} {h : TH} {a : Nat} (hk : t_kd h a = 12) : (thE g h).2 a = some (.inl (g.2.2.2.2.1, t_ln h a, .inr (.inr (.inr (.inr (t_R h a)))))) := by
  show thC g h a (t_kd h a) = _
  rw [hk]; rfl
theorem thC_t {g : xG} {h : TH} {a : Nat} (hk : t_kd h a = 13) : (thE g h).2 a = some (.inl (g.2.2.2.2.2, t_ln h a, .inr (.inr (.inr (.inr (t_R h a)))))) := by
  show thC g h a (t_kd h a) = _
  rw [hk]; rfl
theorem thC_ne {g : xG} {h h2 : TH} {q k : Nat} (hn : t_ln h2 q = t_ln h q) (hI : t_I h2 q = t_I h q) (hJ : t_J h2 q = t_J h q) (hR : t_R h2 q = t_R h q) : thC g h2 q k = thC g h q k := by
  have hV : ∀ i t, thV h2 q i t = thV h q i t := fun i t => by unfold thV; rw [hI, hJ, hR]
  have hF : ∀ tl, thF h2 q tl = thF h q tl := fun tl => by unfold thF; congr; funext i t; exact hV i t
  unfold thC
  rw [hn, hI, hR, hF]
theorem x_up2_ne {α : Type} {f : Nat → Nat → α} {a k : Nat} {v : α} {q : Nat} (h : q ≠ a) : x_up2 f a k v q = f q := by funext j; simp [x_up2, h]
theorem x_up2_at {α : Type} {f : Nat → Nat → α} {a k : Nat} {v : α} : x_up2 f a k v a k = v := by simp [x_up2]
theorem x_up2_off {α : Type} {f : Nat → Nat → α} {a k : Nat} {v : α} {q j : Nat} (h : j ≠ k) : x_up2 f a k v q j = f q j := by simp [x_up2, h]
theorem xUp_th {g : xG} {h h2 : TH} {a : Nat} {e : va_E} (hz : t_sz h2 = t_sz h) (hk : t_kd h2 = t_kd h) (he : thC g h2 a (t_kd h a) = some e) (ho : ∀ q, q ≠ a → t_ln h2 q = t_ln h q ∧ t_I h2 q = t_I h q ∧ t_J h2 q = t_J h q ∧ t_R h2 q = t_R h q) : xUp (thE g h) a e = thE g h2 := by
  refine Prod.ext hz.symm (funext fun q => ?_)
  show (if q = a then some e else thC g h q (t_kd h q)) = thC g h2 q (t_kd h2 q)
  rw [hk]
  by_cases hq : q = a
  · subst hq; rw [if_pos rfl, he]
  · obtain ⟨h1, h2', h3, h4⟩ := ho q hq
    rw [if_neg hq, thC_ne h1 h2' h3 h4]
theorem xUp_I {g : xG} {h : TH} {a ci k : Nat} {v : Int32} (hk : t_kd h a = ci + 1) (hc : ci < 8) (ht : (tgs ci)[k]? = some 0) : xUp (thE g h) a (.inr (ci, (thF h a (tgs ci)).set k (.int v))) = thE g (s_I h a k v) := by
  refine xUp_th rfl rfl ?_ (fun q hq => ⟨rfl, x_up2_ne hq, rfl, rfl⟩)
  have h2 := thC_ob (g := g) (h := s_I h a k v) (a := a) (ci := ci) hk hc
  rw [show thC g (s_I h a k v) a (t_kd h a) = _ from h2, thF_set (h2 := s_I h a k v) ht (.int v) (by simp [thV, s_I, t_I, x_up2]) (fun j u hj => by simp [thV, s_I, t_I, t_J, t_R, x_up2, hj])]
theorem xUp_J {g : xG} {h : TH} {a ci k : Nat} {v : Int64} (hk : t_kd h a = ci + 1) (hc : ci < 8) (ht : (tgs ci)[k]? = some 1) : xUp (thE g h) a (.inr (ci, (thF h a (tgs ci)).set k (.long v))) = thE g (s_J h a k v) := by
  refine xUp_th rfl rfl ?_ (fun q hq => ⟨rfl, rfl, x_up2_ne hq, rfl⟩)
  have h2 := thC_ob (g := g) (h := s_J h a k v) (a := a) (ci := ci) hk hc
  rw [show thC g (s_J h a k v) a (t_kd h a) = _ from h2, thF_set (h2 := s_J h a k v) ht (.long v) (by simp [thV, s_J, t_J, x_up2]) (fun j u hj => by simp [thV, s_J, t_I, t_J, t_R, x_up2, hj])]
theorem xUp_R {g : xG} {h : TH} {a ci k : Nat} {v : Option Nat} (hk : t_kd h a = ci + 1) (hc : ci < 8) (ht : (tgs ci)[k]? = some 2) : xUp (thE g h) a (.inr (ci, (thF h a (tgs ci)).set k (va_rf v))) = thE g (s_R h a k v) := by
  refine xUp_th rfl rfl ?_ (fun q hq => ⟨rfl, rfl, rfl, x_up2_ne hq⟩)
  have h2 := thC_ob (g := g) (h := s_R h a k v) (a := a) (ci := ci) hk hc
  rw [show thC g (s_R h a k v) a (t_kd h a) = _ from h2, thF_set (h2 := s_R h a k v) ht (va_rf v) (by simp [thV, s_R, t_R, x_up2]) (fun j u hj => by simp [thV, s_R, t_I, t_J, t_R, x_up2, hj])]
theorem xUp_i {g : xG} {h : TH} {a k : Nat} {v : Int32} (hk : t_kd h a = 9) : xUp (thE g h) a (.inl (g.2.1, t_ln h a, .inl (upd (t_I h a) k v))) = thE g (s_I h a k v) := by
  refine xUp_th rfl rfl ?_ (fun q hq => ⟨rfl, x_up2_ne hq, rfl, rfl⟩)
  have h2 := thC_i (g := g) (h := s_I h a k v) (a := a) hk
  rw [show thC g (s_I h a k v) a (t_kd h a) = _ from h2]
  have e : t_I (s_I h a k v) a = upd (t_I h a) k v := by funext j; simp [s_I, t_I, x_up2, upd]
  rw [e]; rfl
theorem xUp_m {g : xG} {h : TH} {a k : Nat} {v : Option Nat} (hk : t_kd h a = 12) : xUp (thE g h) a (.inl (g.2.2.2.2.1, t_ln h a, .inr (.inr (.inr (.inr (va_up (t_R h a) k v)))))) = thE g (s_R h a k v) := by
  refine xUp_th rfl rfl ?_ (fun q hq => ⟨rfl, rfl, rfl, x_up2_ne hq⟩)
  have h2 := thC_m (g := g) (h := s_R h a k v) (a := a) hk
  rw [show thC g (s_R h a k v) a (t_kd h a) = _ from h2]
  have e : t_R (s_R h a k v) a = va_up (t_R h a) k v := by funext j; simp [s_R, t_R, x_up2, va_up]
  rw [e]; rfl
theorem xUp_t {g : xG} {h : TH} {a k : Nat} {v : Option Nat} (hk : t_kd h a = 13) : xUp (thE g h) a (.inl (g.2.2.2.2.2, t_ln h a, .inr (.inr (.inr (.inr (va_up (t_R h a) k v)))))) = thE g (s_R h a k v) := by
  refine xUp_th rfl rfl ?_ (fun q hq => ⟨rfl, rfl, rfl, x_up2_ne hq⟩)
  have h2 := thC_t (g := g) (h := s_R h a k v) (a := a) hk
  rw [show thC g (s_R h a k v) a (t_kd h a) = _ from h2]
  have e : t_R (s_R h a k v) a = va_up (t_R h a) k v := by funext j; simp [s_R, t_R, x_up2, va_up]
  rw [e]; rfl
theorem xNew_th {g : xG} {h : TH} {kd n : Nat} {e : va_E} (he : thC g (s_N h kd n) (t_sz h) kd = some e) : xNew (thE g h) e = thE g (s_N h kd n) := by
  refine Prod.ext rfl (funext fun q => ?_)
  show (if q = t_sz h then some e else thC g h q (t_kd h q)) = thC g (s_N h kd n) q (t_kd (s_N h kd n) q)
  by_cases hq : q = t_sz h
  · subst hq
    rw [if_pos rfl, show t_kd (s_N h kd n) (t_sz h) = kd by simp [s_N, t_kd, x_up1], he]
  · rw [if_neg hq, show t_kd (s_N h kd n) q = t_kd h q by simp [s_N, t_kd, x_up1, hq]]
    exact (thC_ne (by simp [s_N, t_ln, x_up1, hq]) (by simp [s_N, t_I, x_up1, hq]) (by simp [s_N, t_J, x_up1, hq]) (by simp [s_N, t_R, x_up1, hq])).symm
theorem tN_I {h : TH} {kd n : Nat} : t_I (s_N h kd n) (t_sz h) = fun _ => 0 := by simp [s_N, t_I, x_up1]
theorem tN_J {h : TH} {kd n : Nat} : t_J (s_N h kd n) (t_sz h) = fun _ => 0 := by simp [s_N, t_J, x_up1]
theorem tN_R {h : TH} {kd n : Nat} : t_R (s_N h kd n) (t_sz h) = fun _ => none := by simp [s_N, t_R, x_up1]
theorem tN_ln {h : TH} {kd n : Nat} : t_ln (s_N h kd n) (t_sz h) = n := by simp [s_N, t_ln, x_up1]
/-- a blank object's fields -/
def thB (tl : List Nat) : List Value := tl.map (fun t => if t = 0 then .int 0 else if t = 1 then .long 0 else .null)
theorem thB_eq {h : TH} {kd n : Nat} {tl : List Nat} : thF (s_N h kd n) (t_sz h) tl = thB tl := by
  apply List.ext_getElem?
  intro j
  simp only [thF, thB, List.getElem?_mapIdx, List.getElem?_map]
  cases tl[j]? with
  | none => rfl
  | some t => simp [thV, tN_I, tN_J, tN_R, va_rf]
section THR
variable {M : xM} {rm : Room} {l : Launch} {g : xG} {x0 : xV} {o1 : Option Value ⊕ String} {x1 : xV} {kc ks : Nat} {h : TH} {pc : Nat} {lv : List (Nat × Value)} {st : List Value}
variable {ci k index N a : Nat} {C : String} {T : u_T} {r : Option Nat}
theorem th_getI (ci k : Nat) (hin : ∀ w ∈ u_ws C T N, w ∈ wt) (hr : r = some a) (hk : t_kd h a = ci + 1) (hc : vwCl[ci]? = some (C, T, N)) (hq : ci < 8 ∧ k < N ∧ (tgs ci)[k]? = some 0) (hl0 : Cond.fieldLink M.1 index (T k).1 (T k).2.1 (T k).2.2.1 ∈ wt) (hd : decode M.2.1 pc = .ok (.getfield index, 3))
    (kk : AW M rm l g x0 o1 x1 kc ks (thE g h) (pc + 3) lv (.int (t_I h a k) :: st)) : AW M rm l g x0 o1 x1 kc ks (thE g h) pc lv (va_rf r :: st) := by
  subst hr
  exact aw_getf (thC_ob hk hq.1) hc hin hq.2.1 hl0 (thF_at hq.2.2) hd kk
theorem th_getJ (ci k : Nat) (hin : ∀ w ∈ u_ws C T N, w ∈ wt) (hr : r = some a) (hk : t_kd h a = ci + 1) (hc : vwCl[ci]? = some (C, T, N)) (hq : ci < 8 ∧ k < N ∧ (tgs ci)[k]? = some 1) (hl0 : Cond.fieldLink M.1 index (T k).1 (T k).2.1 (T k).2.2.1 ∈ wt) (hd : decode M.2.1 pc = .ok (.getfield index, 3))
    (kk : AW M rm l g x0 o1 x1 kc ks (thE g h) (pc + 3) lv (.long (t_J h a k) :: st)) : AW M rm l g x0 o1 x1 kc ks (thE g h) pc lv (va_rf r :: st) := by
  subst hr
  exact aw_getf (thC_ob hk hq.1) hc hin hq.2.1 hl0 (thF_at hq.2.2) hd kk
theorem th_getR (ci k : Nat) (hin : ∀ w ∈ u_ws C T N, w ∈ wt) (hr : r = some a) (hk : t_kd h a = ci + 1) (hc : vwCl[ci]? = some (C, T, N)) (hq : ci < 8 ∧ k < N ∧ (tgs ci)[k]? = some 2) (hl0 : Cond.fieldLink M.1 index (T k).1 (T k).2.1 (T k).2.2.1 ∈ wt) (hd : decode M.2.1 pc = .ok (.getfield index, 3))
    (kk : AW M rm l g x0 o1 x1 kc ks (thE g h) (pc + 3) lv (va_rf (t_R h a k) :: st)) : AW M rm l g x0 o1 x1 kc ks (thE g h) pc lv (va_rf r :: st) := by
  subst hr
  exact aw_getf (thC_ob hk hq.1) hc hin hq.2.1 hl0 (thF_at hq.2.2) hd kk
theorem th_getIN (host : String) (ci k : Nat) (hin : ∀ w ∈ u_ws C T N, w ∈ wt) (hr : r = some a) (hk : t_kd h a = ci + 1) (hc : vwCl[ci]? = some (C, T, N)) (hq : ci < 8 ∧ k < N ∧ (tgs ci)[k]? = some 0) (hl0 : Cond.fieldLinkNest M.1 index (T k).1 (T k).2.1 (T k).2.2.1 host ∈ wt) (hd : decode M.2.1 pc = .ok (.getfield index, 3))
    (kk : AW M rm l g x0 o1 x1 kc ks (thE g h) (pc + 3) lv (.int (t_I h a k) :: st)) : AW M rm l g x0 o1 x1 kc ks (thE g h) pc lv (va_rf r :: st) := by
  subst hr
  exact aw_getfN (thC_ob hk hq.1) hc hin hq.2.1 hl0 (thF_at hq.2.2) hd kk
theorem th_getJN (host : String) (ci k : Nat) (hin : ∀ w ∈ u_ws C T N, w ∈ wt) (hr : r = some a) (hk : t_kd h a = ci + 1) (hc : vwCl[ci]? = some (C, T, N)) (hq : ci < 8 ∧ k < N ∧ (tgs ci)[k]? = some 1) (hl0 : Cond.fieldLinkNest M.1 index (T k).1 (T k).2.1 (T k).2.2.1 host ∈ wt) (hd : decode M.2.1 pc = .ok (.getfield index, 3))
    (kk : AW M rm l g x0 o1 x1 kc ks (thE g h) (pc + 3) lv (.long (t_J h a k) :: st)) : AW M rm l g x0 o1 x1 kc ks (thE g h) pc lv (va_rf r :: st) := by
  subst hr
  exact aw_getfN (thC_ob hk hq.1) hc hin hq.2.1 hl0 (thF_at hq.2.2) hd kk
theorem th_getRN (host : String) (ci k : Nat) (hin : ∀ w ∈ u_ws C T N, w ∈ wt) (hr : r = some a) (hk : t_kd h a = ci + 1) (hc : vwCl[ci]? = some (C, T, N)) (hq : ci < 8 ∧ k < N ∧ (tgs ci)[k]? = some 2) (hl0 : Cond.fieldLinkNest M.1 index (T k).1 (T k).2.1 (T k).2.2.1 host ∈ wt) (hd : decode M.2.1 pc = .ok (.getfield index, 3))
    (kk : AW M rm l g x0 o1 x1 kc ks (thE g h) (pc + 3) lv (va_rf (t_R h a k) :: st)) : AW M rm l g x0 o1 x1 kc ks (thE g h) pc lv (va_rf r :: st) := by
  subst hr
  exact aw_getfN (thC_ob hk hq.1) hc hin hq.2.1 hl0 (thF_at hq.2.2) hd kk
/-- what a class says of its fields' types -/
abbrev xTy (C : String) (T : u_T) (N : Nat) (ty0 : Nat → FieldType) : Prop := (∀ w ∈ u_ws C T N, w ∈ wt) ∧ (∀ k, k < N → parseFieldDescriptor (T k).2.2.1 = some (ty0 k)) ∧ (∀ a, a < N → ∀ b, b < N → a ≠ b → (T a).2.1 ≠ (T b).2.1)
theorem xTy.put {ty0 : Nat → FieldType} (hT : xTy C T N ty0) (hc : vwCl[ci]? = some (C, T, N)) (hk : k < N) {ty : FieldType} {v : Value} {fs : List Value} (hty : ty0 k = ty) (hn : narrow ty v = v) (hf : fits ty v = true) (hl : k < fs.length) : xPut ci k N C T ty0 fs ty v := ⟨hc, hT.1, hT.2.1, hT.2.2, hk, by rw [hT.2.1 k hk, hty], hn, hf, hl⟩

theorem th_putI (ci k : Nat) {ty0 : Nat → FieldType} {v : Int32} (hT : xTy C T N ty0) (hr : r = some a) (hk : t_kd h a = ci + 1) (hc : vwCl[ci]? = some (C, T, N)) (hq : ci < 8 ∧ k < N ∧ (tgs ci)[k]? = some 0) {ty : FieldType} (hty : ty0 k = ty) (hn : narrow ty (.int v) = .int v) (hf : fits ty (.int v) = true) (hl0 : Cond.fieldLink M.1 index (T k).1 (T k).2.1 (T k).2.2.1 ∈ wt) (hfin : (T k).2.2.2 = false) (hd : decode M.2.1 pc = .ok (.putfield index, 3))
    (kk : AW M rm l g x0 o1 x1 kc ks (thE g (s_I h a k v)) (pc + 3) lv st) : AW M rm l g x0 o1 x1 kc ks (thE g h) pc lv (.int v :: va_rf r :: st) := by
  subst hr
  refine aw_putf (thC_ob hk hq.1) (hT.put hc hq.2.1 hty hn hf (thF_len hq.2.2)) hl0 hfin hd ?_
  rw [xUp_I hk hq.1 hq.2.2]; exact kk
theorem th_putJ (ci k : Nat) {ty0 : Nat → FieldType} {v : Int64} (hT : xTy C T N ty0) (hr : r = some a) (hk : t_kd h a = ci + 1) (hc : vwCl[ci]? = some (C, T, N)) (hq : ci < 8 ∧ k < N ∧ (tgs ci)[k]? = some 1) {ty : FieldType} (hty : ty0 k = ty) (hn : narrow ty (.long v) = .long v) (hf : fits ty (.long v) = true) (hl0 : Cond.fieldLink M.1 index (T k).1 (T k).2.1 (T k).2.2.1 ∈ wt) (hfin : (T k).2.2.2 = false) (hd : decode M.2.1 pc = .ok (.putfield index, 3))
    (kk : AW M rm l g x0 o1 x1 kc ks (thE g (s_J h a k v)) (pc + 3) lv st) : AW M rm l g x0 o1 x1 kc ks (thE g h) pc lv (.long v :: va_rf r :: st) := by
  subst hr
  refine aw_putf (thC_ob hk hq.1) (hT.put hc hq.2.1 hty hn hf (thF_len hq.2.2)) hl0 hfin hd ?_
  rw [xUp_J hk hq.1 hq.2.2]; exact kk
theorem th_putR (ci k : Nat) {ty0 : Nat → FieldType} {v : Option Nat} (hT : xTy C T N ty0) (hr : r = some a) (hk : t_kd h a = ci + 1) (hc : vwCl[ci]? = some (C, T, N)) (hq : ci < 8 ∧ k < N ∧ (tgs ci)[k]? = some 2) {ty : FieldType} (hty : ty0 k = ty) (hn : narrow ty (va_rf v) = va_rf v) (hf : fits ty (va_rf v) = true) (hl0 : Cond.fieldLink M.1 index (T k).1 (T k).2.1 (T k).2.2.1 ∈ wt) (hfin : (T k).2.2.2 = false) (hd : decode M.2.1 pc = .ok (.putfield index, 3))
    (kk : AW M rm l g x0 o1 x1 kc ks (thE g (s_R h a k v)) (pc + 3) lv st) : AW M rm l g x0 o1 x1 kc ks (thE g h) pc lv (va_rf v :: va_rf r :: st) := by
  subst hr
  refine aw_putf (thC_ob hk hq.1) (hT.put hc hq.2.1 hty hn hf (thF_len hq.2.2)) hl0 hfin hd ?_
  rw [xUp_R hk hq.1 hq.2.2]; exact kk
theorem th_putIN (host : String) (ci k : Nat) {ty0 : Nat → FieldType} {v : Int32} (hT : xTy C T N ty0) (hr : r = some a) (hk : t_kd h a = ci + 1) (hc : vwCl[ci]? = some (C, T, N)) (hq : ci < 8 ∧ k < N ∧ (tgs ci)[k]? = some 0) {ty : FieldType} (hty : ty0 k = ty) (hn : narrow ty (.int v) = .int v) (hf : fits ty (.int v) = true) (hl0 : Cond.fieldLinkNest M.1 index (T k).1 (T k).2.1 (T k).2.2.1 host ∈ wt) (hfin : (T k).2.2.2 = false) (hd : decode M.2.1 pc = .ok (.putfield index, 3))
    (kk : AW M rm l g x0 o1 x1 kc ks (thE g (s_I h a k v)) (pc + 3) lv st) : AW M rm l g x0 o1 x1 kc ks (thE g h) pc lv (.int v :: va_rf r :: st) := by
  subst hr
  refine aw_putfN (thC_ob hk hq.1) (hT.put hc hq.2.1 hty hn hf (thF_len hq.2.2)) hl0 hfin hd ?_
  rw [xUp_I hk hq.1 hq.2.2]; exact kk
theorem th_putJN (host : String) (ci k : Nat) {ty0 : Nat → FieldType} {v : Int64} (hT : xTy C T N ty0) (hr : r = some a) (hk : t_kd h a = ci + 1) (hc : vwCl[ci]? = some (C, T, N)) (hq : ci < 8 ∧ k < N ∧ (tgs ci)[k]? = some 1) {ty : FieldType} (hty : ty0 k = ty) (hn : narrow ty (.long v) = .long v) (hf : fits ty (.long v) = true) (hl0 : Cond.fieldLinkNest M.1 index (T k).1 (T k).2.1 (T k).2.2.1 host ∈ wt) (hfin : (T k).2.2.2 = false) (hd : decode M.2.1 pc = .ok (.putfield index, 3))
    (kk : AW M rm l g x0 o1 x1 kc ks (thE g (s_J h a k v)) (pc + 3) lv st) : AW M rm l g x0 o1 x1 kc ks (thE g h) pc lv (.long v :: va_rf r :: st) := by
  subst hr
  refine aw_putfN (thC_ob hk hq.1) (hT.put hc hq.2.1 hty hn hf (thF_len hq.2.2)) hl0 hfin hd ?_
  rw [xUp_J hk hq.1 hq.2.2]; exact kk
theorem th_putRN (host : String) (ci k : Nat) {ty0 : Nat → FieldType} {v : Option Nat} (hT : xTy C T N ty0) (hr : r = some a) (hk : t_kd h a = ci + 1) (hc : vwCl[ci]? = some (C, T, N)) (hq : ci < 8 ∧ k < N ∧ (tgs ci)[k]? = some 2) {ty : FieldType} (hty : ty0 k = ty) (hn : narrow ty (va_rf v) = va_rf v) (hf : fits ty (va_rf v) = true) (hl0 : Cond.fieldLinkNest M.1 index (T k).1 (T k).2.1 (T k).2.2.1 host ∈ wt) (hfin : (T k).2.2.2 = false) (hd : decode M.2.1 pc = .ok (.putfield index, 3))
    (kk : AW M rm l g x0 o1 x1 kc ks (thE g (s_R h a k v)) (pc + 3) lv st) : AW M rm l g x0 o1 x1 kc ks (thE g h) pc lv (va_rf v :: va_rf r :: st) := by
  subst hr
  refine aw_putfN (thC_ob hk hq.1) (hT.put hc hq.2.1 hty hn hf (thF_len hq.2.2)) hl0 hfin hd ?_
  rw [xUp_R hk hq.1 hq.2.2]; exact kk
theorem th_putIF (ci k : Nat) {ty0 : Nat → FieldType} {v : Int32} (hT : xTy C T N ty0) (hr : r = some a) (hk : t_kd h a = ci + 1) (hc : vwCl[ci]? = some (C, T, N)) (hq : ci < 8 ∧ k < N ∧ (tgs ci)[k]? = some 0) {ty : FieldType} (hty : ty0 k = ty) (hn : narrow ty (.int v) = .int v) (hf : fits ty (.int v) = true) (hl0 : Cond.fieldLink M.1 index (T k).1 (T k).2.1 (T k).2.2.1 ∈ wt) (hfin : (T k).2.2.2 = true) (hnm0 : M.2.2.2.2 = "<init>") (hdc : (T k).1 = M.1) (hd : decode M.2.1 pc = .ok (.putfield index, 3))
    (kk : AW M rm l g x0 o1 x1 kc ks (thE g (s_I h a k v)) (pc + 3) lv st) : AW M rm l g x0 o1 x1 kc ks (thE g h) pc lv (.int v :: va_rf r :: st) := by
  subst hr
  refine aw_putfF (thC_ob hk hq.1) (hT.put hc hq.2.1 hty hn hf (thF_len hq.2.2)) hl0 hfin hnm0 hdc hd ?_
  rw [xUp_I hk hq.1 hq.2.2]; exact kk
theorem th_putJF (ci k : Nat) {ty0 : Nat → FieldType} {v : Int64} (hT : xTy C T N ty0) (hr : r = some a) (hk : t_kd h a = ci + 1) (hc : vwCl[ci]? = some (C, T, N)) (hq : ci < 8 ∧ k < N ∧ (tgs ci)[k]? = some 1) {ty : FieldType} (hty : ty0 k = ty) (hn : narrow ty (.long v) = .long v) (hf : fits ty (.long v) = true) (hl0 : Cond.fieldLink M.1 index (T k).1 (T k).2.1 (T k).2.2.1 ∈ wt) (hfin : (T k).2.2.2 = true) (hnm0 : M.2.2.2.2 = "<init>") (hdc : (T k).1 = M.1) (hd : decode M.2.1 pc = .ok (.putfield index, 3))
    (kk : AW M rm l g x0 o1 x1 kc ks (thE g (s_J h a k v)) (pc + 3) lv st) : AW M rm l g x0 o1 x1 kc ks (thE g h) pc lv (.long v :: va_rf r :: st) := by
  subst hr
  refine aw_putfF (thC_ob hk hq.1) (hT.put hc hq.2.1 hty hn hf (thF_len hq.2.2)) hl0 hfin hnm0 hdc hd ?_
  rw [xUp_J hk hq.1 hq.2.2]; exact kk
theorem th_putRF (ci k : Nat) {ty0 : Nat → FieldType} {v : Option Nat} (hT : xTy C T N ty0) (hr : r = some a) (hk : t_kd h a = ci + 1) (hc : vwCl[ci]? = some (C, T, N)) (hq : ci < 8 ∧ k < N ∧ (tgs ci)[k]? = some 2) {ty : FieldType} (hty : ty0 k = ty) (hn : narrow ty (va_rf v) = va_rf v) (hf : fits ty (va_rf v) = true) (hl0 : Cond.fieldLink M.1 index (T k).1 (T k).2.1 (T k).2.2.1 ∈ wt) (hfin : (T k).2.2.2 = true) (hnm0 : M.2.2.2.2 = "<init>") (hdc : (T k).1 = M.1) (hd : decode M.2.1 pc = .ok (.putfield index, 3))
    (kk : AW M rm l g x0 o1 x1 kc ks (thE g (s_R h a k v)) (pc + 3) lv st) : AW M rm l g x0 o1 x1 kc ks (thE g h) pc lv (va_rf v :: va_rf r :: st) := by
  subst hr
  refine aw_putfF (thC_ob hk hq.1) (hT.put hc hq.2.1 hty hn hf (thF_len hq.2.2)) hl0 hfin hnm0 hdc hd ?_
  rw [xUp_R hk hq.1 hq.2.2]; exact kk
theorem nar_q (C : String) (v : Option Nat) : narrow (.object C) (va_rf v) = va_rf v := by cases v <;> rfl
theorem fit_q (C : String) (v : Option Nat) : fits (.object C) (va_rf v) = true := by cases v <;> rfl
theorem nar_qa (t : FieldType) (v : Option Nat) : narrow (.array t) (va_rf v) = va_rf v := by cases v <;> rfl
theorem fit_qa (t : FieldType) (v : Option Nat) : fits (.array t) (va_rf v) = true := by cases v <;> rfl
theorem th_iald {i : Int32} (hr : r = some a) (hk : t_kd h a = 9) (hin : vp_in i (t_ln h a)) (hd : decode M.2.1 pc = .ok (.iaload, 1))
    (kk : AW M rm l g x0 o1 x1 kc ks (thE g h) (pc + 1) lv (.int (t_I h a i.toNatClampNeg) :: st)) : AW M rm l g x0 o1 x1 kc ks (thE g h) pc lv (.int i :: va_rf r :: st) := by
  subst hr
  exact aw_iald (thC_i hk) hin hd kk
theorem th_iast {i v : Int32} (hr : r = some a) (hk : t_kd h a = 9) (hin : vp_in i (t_ln h a)) (hd : decode M.2.1 pc = .ok (.iastore, 1))
    (kk : AW M rm l g x0 o1 x1 kc ks (thE g (s_I h a i.toNatClampNeg v)) (pc + 1) lv st) : AW M rm l g x0 o1 x1 kc ks (thE g h) pc lv (.int v :: .int i :: va_rf r :: st) := by
  subst hr
  refine aw_iast (thC_i hk) hin hd ?_
  rw [xUp_i hk]; exact kk
theorem th_alenI (hr : r = some a) (hk : t_kd h a = 9) (hd : decode M.2.1 pc = .ok (.arraylength, 1))
    (kk : AW M rm l g x0 o1 x1 kc ks (thE g h) (pc + 1) lv (.int (nI (t_ln h a)) :: st)) : AW M rm l g x0 o1 x1 kc ks (thE g h) pc lv (va_rf r :: st) := by
  subst hr
  exact aw_alen 0 (thC_i hk) rfl hd kk
theorem th_alenM (hr : r = some a) (hk : t_kd h a = 12) (hd : decode M.2.1 pc = .ok (.arraylength, 1))
    (kk : AW M rm l g x0 o1 x1 kc ks (thE g h) (pc + 1) lv (.int (nI (t_ln h a)) :: st)) : AW M rm l g x0 o1 x1 kc ks (thE g h) pc lv (va_rf r :: st) := by
  subst hr
  exact aw_alen 3 (thC_m hk) rfl hd kk
theorem th_alenT (hr : r = some a) (hk : t_kd h a = 13) (hd : decode M.2.1 pc = .ok (.arraylength, 1))
    (kk : AW M rm l g x0 o1 x1 kc ks (thE g h) (pc + 1) lv (.int (nI (t_ln h a)) :: st)) : AW M rm l g x0 o1 x1 kc ks (thE g h) pc lv (va_rf r :: st) := by
  subst hr
  exact aw_alen 4 (thC_t hk) rfl hd kk
theorem th_aaldM {i : Int32} (hr : r = some a) (hk : t_kd h a = 12) (hin : vp_in i (t_ln h a)) (hd : decode M.2.1 pc = .ok (.aaload, 1))
    (kk : AW M rm l g x0 o1 x1 kc ks (thE g h) (pc + 1) lv (va_rf (t_R h a i.toNatClampNeg) :: st)) : AW M rm l g x0 o1 x1 kc ks (thE g h) pc lv (.int i :: va_rf r :: st) := by
  subst hr
  exact aw_aald 3 (thC_m hk) rfl hin hd kk
theorem th_aaldT {i : Int32} (hr : r = some a) (hk : t_kd h a = 13) (hin : vp_in i (t_ln h a)) (hd : decode M.2.1 pc = .ok (.aaload, 1))
    (kk : AW M rm l g x0 o1 x1 kc ks (thE g h) (pc + 1) lv (va_rf (t_R h a i.toNatClampNeg) :: st)) : AW M rm l g x0 o1 x1 kc ks (thE g h) pc lv (.int i :: va_rf r :: st) := by
  subst hr
  exact aw_aald 4 (thC_t hk) rfl hin hd kk
theorem th_aastM {i : Int32} {v : Option Nat} (hr : r = some a) (hk : t_kd h a = 12) (hin : vp_in i (t_ln h a)) (hv : ∀ b, v = some b → t_kd h b = 3) (hd : decode M.2.1 pc = .ok (.aastore, 1))
    (kk : AW M rm l g x0 o1 x1 kc ks (thE g (s_R h a i.toNatClampNeg v)) (pc + 1) lv st) : AW M rm l g x0 o1 x1 kc ks (thE g h) pc lv (va_rf v :: .int i :: va_rf r :: st) := by
  subst hr
  cases v with
  | none =>
    refine aw_aastN 3 (thC_m hk) rfl hin hd ?_
    rw [xUp_m hk]; exact kk
  | some b =>
    refine aw_aast 3 2 (r := (RX3, TX3, 10)) (thC_m hk) rfl (thC_ob (ci := 2) (hv b rfl) (by decide)) rfl hin hd ?_
    rw [xUp_m hk]; exact kk
theorem th_aastT {i : Int32} {v : Option Nat} (hr : r = some a) (hk : t_kd h a = 13) (hin : vp_in i (t_ln h a)) (hv : ∀ b, v = some b → t_kd h b = 6) (hd : decode M.2.1 pc = .ok (.aastore, 1))
    (kk : AW M rm l g x0 o1 x1 kc ks (thE g (s_R h a i.toNatClampNeg v)) (pc + 1) lv st) : AW M rm l g x0 o1 x1 kc ks (thE g h) pc lv (va_rf v :: .int i :: va_rf r :: st) := by
  subst hr
  cases v with
  | none =>
    refine aw_aastN 4 (thC_t hk) rfl hin hd ?_
    rw [xUp_t hk]; exact kk
  | some b =>
    refine aw_aast 4 5 (r := (RX7, TX7, 8)) (thC_t hk) rfl (thC_ob (ci := 5) (hv b rfl) (by decide)) rfl hin hd ?_
    rw [xUp_t hk]; exact kk
theorem th_new (ci : Nat) {ty0 : Nat → FieldType} (hT : xTy C T N ty0) (hc : vwCl[ci]? = some (C, T, N)) (hc8 : ci < 8) (hcl : Cond.classLink M.1 index C ∈ wt) (hinst : Cond.instantiable C N ∈ wt) (hini : Cond.initialized C ∈ wt) (hfs : ∀ j, j < N → defaultValue (ty0 j) = vp_V (thB (tgs ci)) j) (hf : kc + 1 ≤ rm.cells ∧ ks + N ≤ rm.slots) (hd : decode M.2.1 pc = .ok (.new index, 3))
    (kk : AW M rm l g x0 o1 x1 (kc + 1) (ks + N) (thE g (s_N h (ci + 1) 0)) (pc + 3) lv (va_rf (some (t_sz h)) :: st)) : AW M rm l g x0 o1 x1 kc ks (thE g h) pc lv st := by
  refine aw_new (thB (tgs ci)) hc hT.1 hT.2.1 hcl hinst hini hfs hf hd ?_
  rw [xNew_th (kd := ci + 1) (n := 0)]
  · exact kk
  · have h2 := thC_ob (g := g) (h := s_N h (ci + 1) 0) (a := t_sz h) (ci := ci) (by simp [s_N, t_kd, x_up1]) hc8
    rw [thB_eq] at h2
    rw [← h2]
    show _ = thC g (s_N h (ci + 1) 0) (t_sz h) (t_kd (s_N h (ci + 1) 0) (t_sz h))
    rw [show t_kd (s_N h (ci + 1) 0) (t_sz h) = ci + 1 by simp [s_N, t_kd, x_up1]]
theorem th_newI {n : Int32} (n' : Nat) (harr : Cond.arrayClass .int ∈ wt) (hn : ¬ n < 0) (hN : n.toNatClampNeg = n') (hb : n' * componentBytes .int ≤ 536870912) (hf : kc + 1 ≤ rm.cells ∧ ks + n' ≤ rm.slots) {aty : ArrayType} (hty : newarray.typeOf aty = .int) (hd : decode M.2.1 pc = .ok (.newarray aty, 2))
    (kk : AW M rm l g x0 o1 x1 (kc + 1) (ks + n') (thE g (s_N h 9 n')) (pc + 2) lv (va_rf (some (t_sz h)) :: st)) : AW M rm l g x0 o1 x1 kc ks (thE g h) pc lv (.int n :: st) := by
  refine aw_newa 0 (a0 := (n', .inl (fun _ => 0))) hty (Or.inl rfl) rfl harr rfl hn hN hb hf hd ?_
  rw [xNew_th (kd := 9) (n := n')]
  · exact kk
  · show some _ = _
    rw [tN_ln, tN_I]
theorem th_newM {n : Int32} (n' : Nat) (hcl : Cond.classLink M.1 index RX3 ∈ wt) (hn : ¬ n < 0) (hN : n.toNatClampNeg = n') (hb : n' * 4 ≤ 536870912) (hf : kc + 1 ≤ rm.cells ∧ ks + n' ≤ rm.slots) (hd : decode M.2.1 pc = .ok (.anewarray index, 3))
    (kk : AW M rm l g x0 o1 x1 (kc + 1) (ks + n') (thE g (s_N h 12 n')) (pc + 3) lv (va_rf (some (t_sz h)) :: st)) : AW M rm l g x0 o1 x1 kc ks (thE g h) pc lv (.int n :: st) := by
  refine aw_newq 3 (Or.inl rfl) rfl hcl hn hN hb hf hd ?_
  rw [xNew_th (kd := 12) (n := n')]
  · exact kk
  · show some _ = _
    rw [tN_ln, tN_R]
theorem th_newT {n : Int32} (n' : Nat) (hcl : Cond.classLink M.1 index RX7 ∈ wt) (hn : ¬ n < 0) (hN : n.toNatClampNeg = n') (hb : n' * 4 ≤ 536870912) (hf : kc + 1 ≤ rm.cells ∧ ks + n' ≤ rm.slots) (hd : decode M.2.1 pc = .ok (.anewarray index, 3))
    (kk : AW M rm l g x0 o1 x1 (kc + 1) (ks + n') (thE g (s_N h 13 n')) (pc + 3) lv (va_rf (some (t_sz h)) :: st)) : AW M rm l g x0 o1 x1 kc ks (thE g h) pc lv (.int n :: st) := by
  refine aw_newq 4 (Or.inr rfl) rfl hcl hn hN hb hf hd ?_
  rw [xNew_th (kd := 13) (n := n')]
  · exact kk
  · show some _ = _
    rw [tN_ln, tN_R]
end THR
theorem xtX1 : xTy RX1 TX1 3 tyX1 := ⟨inX1, tyX1_ok, nmX1⟩
theorem xtX2 : xTy RX2 TX2 6 tyX2 := ⟨inX2, tyX2_ok, nmX2⟩
theorem xtX3 : xTy RX3 TX3 10 tyX3 := ⟨inX3, tyX3_ok, nmX3⟩
theorem xtX4 : xTy RX4 TX4 6 tyX4 := ⟨inX4, tyX4_ok, nmX4⟩
theorem xtX6 : xTy RX6 TX6 3 tyX6 := ⟨inX6, tyX6_ok, nmX6⟩
theorem xtX7 : xTy RX7 TX7 8 tyX7 := ⟨inX7, tyX7_ok, nmX7⟩
theorem xtX8 : xTy RX8 TX8 2 tyX8 := ⟨inX8, tyX8_ok, nmX8⟩
theorem xtX9 : xTy RX9 TX9 48 tyX9 := ⟨inX9, tyX9_ok, nmX9⟩
/-! MS: what the reference object holds: whole and long numbers by field, int (and boolean) and long arrays by their place in the order of making: 0 start, 1 rank, 2 string, 3 first, 4 second, 5 black, 6 white, 7 handicap, 8 state, 9 isVoid, 10 endedThen, 11 last, 12 moves, 13 passings, 14 main, 15 periods, 16 length, 17 order, 18 ofBlack, 19 ofWhite, 20 ahead, 21 wayBlack, 22 wayWhite, 23 tries, 24 midBlack, 25 midWhite, 26 answers, 27 passes, 28 parent, 29 root, 30 move, 31 game, 32 number, 33 side, 34 nodeBlack, 35 nodeWhite, 36 marks, 37 image -/
abbrev MS : Type := (Nat → Int32) × (Nat → Int64) × (Nat → Nat → Int32) × (Nat → Nat → Int64)
def m_i (S : MS) : Nat → Int32 := S.1
def m_j (S : MS) : Nat → Int64 := S.2.1
def m_I (S : MS) : Nat → Nat → Int32 := S.2.2.1
def m_J (S : MS) : Nat → Nat → Int64 := S.2.2.2
def ms_i (S : MS) (k : Nat) (v : Int32) : MS := (x_up1 (m_i S) k v, m_j S, m_I S, m_J S)
def ms_j (S : MS) (k : Nat) (v : Int64) : MS := (m_i S, x_up1 (m_j S) k v, m_I S, m_J S)
def ms_I (S : MS) (j i : Nat) (v : Int32) : MS := (m_i S, m_j S, x_up2 (m_I S) j i v, m_J S)
def ms_J (S : MS) (j i : Nat) (v : Int64) : MS := (m_i S, m_j S, m_I S, x_up2 (m_J S) j i v)
def mtg : List (Nat × Nat) := [(0, 0), (2, 0), (2, 1), (2, 2), (0, 4), (2, 3), (2, 4), (2, 5), (2, 6), (2, 7), (2, 8), (2, 9), (2, 10), (2, 11), (2, 12), (2, 13), (2, 14), (2, 15), (2, 16), (0, 19), (2, 17), (0, 21), (2, 18), (2, 19), (2, 20), (1, 25), (1, 26), (0, 27), (0, 28), (2, 21), (2, 22), (2, 23), (2, 24), (2, 25), (2, 26), (2, 27), (0, 36), (2, 28), (2, 29), (2, 30), (2, 31), (2, 32), (2, 33), (2, 34), (2, 35), (2, 36), (2, 37), (0, 47)]
def mar : List (Nat × Nat) := [(0, 8), (0, 8), (0, 8), (0, 16), (0, 16), (0, 16), (0, 16), (0, 16), (0, 16), (2, 16), (0, 16), (0, 16), (0, 16), (0, 16), (0, 32), (0, 32), (0, 16), (0, 16), (1, 4096), (1, 4096), (0, 4096), (1, 10), (1, 10), (1, 10), (1, 10), (1, 10), (1, 10), (2, 10), (0, 60), (0, 60), (0, 60), (0, 60), (0, 60), (0, 60), (1, 60), (1, 60), (0, 240), (0, 60)]
def moV (mo : Nat) (S : MS) (t : Nat × Nat) : Value := if t.1 = 0 then .int (m_i S t.2) else if t.1 = 1 then .long (m_j S t.2) else .ref (mo + 1 + t.2)
def moF (mo : Nat) (S : MS) : List Value := mtg.map (moV mo S)
def moA (g : xG) (S : MS) (j : Nat) : Option va_E := match mar[j]? with
  | none => none
  | some (t, n) => if t = 0 then some (.inl (g.2.1, n, .inl (m_I S j))) else if t = 1 then some (.inl (g.2.2.1, n, .inr (.inl (m_J S j)))) else some (.inl (g.2.2.2.1, n, .inl (m_I S j)))
def moE (g : xG) (mo sz : Nat) (S : MS) : xV := (sz, fun a => if a = mo then some (.inr (7, moF mo S)) else if mo < a then moA g S (a - mo - 1) else none)
theorem mo_ob {g : xG} {mo sz : Nat} {S : MS} : (moE g mo sz S).2 mo = some (.inr (7, moF mo S)) := by simp [moE]
theorem mo_ar {g : xG} {mo sz j : Nat} {S : MS} : (moE g mo sz S).2 (mo + 1 + j) = moA g S j := by
  show (if mo + 1 + j = mo then _ else if mo < mo + 1 + j then moA g S (mo + 1 + j - mo - 1) else none) = _
  rw [if_neg (by omega), if_pos (by omega), show mo + 1 + j - mo - 1 = j by omega]
theorem moA_i {g : xG} {S : MS} {j n : Nat} (h : mar[j]? = some (0, n)) : moA g S j = some (.inl (g.2.1, n, .inl (m_I S j))) := by simp [moA, h]
theorem moA_l {g : xG} {S : MS} {j n : Nat} (h : mar[j]? = some (1, n)) : moA g S j = some (.inl (g.2.2.1, n, .inr (.inl (m_J S j)))) := by simp [moA, h]
theorem moA_z {g : xG} {S : MS} {j n : Nat} (h : mar[j]? = some (2, n)) : moA g S j = some (.inl (g.2.2.2.1, n, .inl (m_I S j))) := by simp [moA, h]
theorem moF_at {mo : Nat} {S : MS} {k : Nat} {t : Nat × Nat} (h : mtg[k]? = some t) : (moF mo S)[k]? = some (moV mo S t) := by simp [moF, h]
theorem moF_len {mo : Nat} {S : MS} {k : Nat} {t : Nat × Nat} (h : mtg[k]? = some t) : k < (moF mo S).length := by
  have := (List.getElem?_eq_some_iff.mp h).1
  simpa [moF] using this
theorem mtg_k : ∀ k, k < 48 → ∀ t, mtg[k]? = some t → t.1 ≠ 2 → t.2 = k := by decide +kernel
theorem moF_set {mo : Nat} {S S2 : MS} {k : Nat} {v : Value} {t : Nat × Nat} (h : mtg[k]? = some t) (hv : moV mo S2 t = v) (ho : ∀ j u, j ≠ k → mtg[j]? = some u → moV mo S2 u = moV mo S u) : (moF mo S).set k v = moF mo S2 := by
  apply List.ext_getElem?
  intro j
  rw [List.getElem?_set]
  by_cases hj : k = j
  · subst hj
    rw [if_pos rfl, if_pos (moF_len h), moF_at h, hv]
  · rw [if_neg hj]
    simp only [moF, List.getElem?_map]
    cases hm : mtg[j]? with
    | none => rfl
    | some u => simp only [Option.map_some]; rw [ho j u (fun q => hj q.symm) hm]
theorem mtg_lt {j : Nat} {u : Nat × Nat} (h : mtg[j]? = some u) : j < 48 := (List.getElem?_eq_some_iff.mp h).1
theorem xUp_mo {g : xG} {mo sz : Nat} {S S2 : MS} {fs : List Value} (h : fs = moF mo S2) (hI : m_I S2 = m_I S) (hJ : m_J S2 = m_J S) : xUp (moE g mo sz S) mo (.inr (7, fs)) = moE g mo sz S2 := by
  subst h
  refine Prod.ext rfl (funext fun q => ?_)
  show (if q = mo then _ else if q = mo then _ else if mo < q then moA g S (q - mo - 1) else none) = (if q = mo then _ else if mo < q then moA g S2 (q - mo - 1) else none)
  by_cases hq : q = mo
  · simp [hq]
  · simp only [hq, if_false]
    congr 1
    unfold moA
    rw [hI, hJ]
theorem xUp_moi {g : xG} {mo sz : Nat} {S : MS} {k : Nat} {v : Int32} (h : mtg[k]? = some (0, k)) : xUp (moE g mo sz S) mo (.inr (7, (moF mo S).set k (.int v))) = moE g mo sz (ms_i S k v) := by
  refine xUp_mo (moF_set h (by simp [moV, ms_i, m_i, x_up1]) (fun j u hj hu => ?_)) rfl rfl
  have h1 : u.1 ≠ 2 → u.2 = j := mtg_k j (mtg_lt hu) u hu
  unfold moV
  by_cases h0 : u.1 = 0
  · rw [if_pos h0, if_pos h0, h1 (by omega)]; simp [ms_i, m_i, x_up1, hj]
  · rw [if_neg h0, if_neg h0]; rfl
theorem xUp_moj {g : xG} {mo sz : Nat} {S : MS} {k : Nat} {v : Int64} (h : mtg[k]? = some (1, k)) : xUp (moE g mo sz S) mo (.inr (7, (moF mo S).set k (.long v))) = moE g mo sz (ms_j S k v) := by
  refine xUp_mo (moF_set h (by simp [moV, ms_j, m_j, x_up1]) (fun j u hj hu => ?_)) rfl rfl
  have h1 : u.1 ≠ 2 → u.2 = j := mtg_k j (mtg_lt hu) u hu
  unfold moV
  by_cases h0 : u.1 = 0
  · rw [if_pos h0, if_pos h0]; rfl
  · rw [if_neg h0, if_neg h0]
    by_cases h2 : u.1 = 1
    · rw [if_pos h2, if_pos h2, h1 (by omega)]; simp [ms_j, m_j, x_up1, hj]
    · rw [if_neg h2, if_neg h2]
theorem xUp_moA {g : xG} {mo sz j : Nat} {S S2 : MS} {e : va_E} (he : moA g S2 j = some e) (hi : m_i S2 = m_i S) (hj : m_j S2 = m_j S) (ho : ∀ q, q ≠ j → m_I S2 q = m_I S q ∧ m_J S2 q = m_J S q) : xUp (moE g mo sz S) (mo + 1 + j) e = moE g mo sz S2 := by
  refine Prod.ext rfl (funext fun q => ?_)
  show (if q = mo + 1 + j then some e else if q = mo then _ else if mo < q then moA g S (q - mo - 1) else none) = (if q = mo then _ else if mo < q then moA g S2 (q - mo - 1) else none)
  by_cases hq : q = mo + 1 + j
  · rw [if_pos hq, if_neg (by omega), if_pos (by omega), show q - mo - 1 = j by omega, he]
  · rw [if_neg hq]
    by_cases h1 : q = mo
    · rw [if_pos h1, if_pos h1]
      have : moF mo S = moF mo S2 := by
        have h9 : moV mo S = moV mo S2 := funext fun t => by unfold moV; rw [hi, hj]
        unfold moF; rw [h9]
      rw [this]
    · rw [if_neg h1, if_neg h1]
      by_cases h2 : mo < q
      · rw [if_pos h2, if_pos h2]
        have h3 := ho (q - mo - 1) (by omega)
        unfold moA
        rw [h3.1, h3.2]
      · rw [if_neg h2, if_neg h2]
section MOR
variable {M : xM} {rm : Room} {l : Launch} {g : xG} {x0 : xV} {o1 : Option Value ⊕ String} {x1 : xV} {kc ks : Nat} {mo sz : Nat} {S : MS} {pc : Nat} {lv : List (Nat × Value)} {st : List Value}
variable {index : Nat}
theorem mo_getI (k : Nat) (ht : mtg[k]? = some (0, k)) (hk : k < 48) (hl0 : Cond.fieldLink M.1 index (TX9 k).1 (TX9 k).2.1 (TX9 k).2.2.1 ∈ wt) (hd : decode M.2.1 pc = .ok (.getfield index, 3))
    (kk : AW M rm l g x0 o1 x1 kc ks (moE g mo sz S) (pc + 3) lv (.int (m_i S k) :: st)) : AW M rm l g x0 o1 x1 kc ks (moE g mo sz S) pc lv (.ref mo :: st) := aw_getf mo_ob (rfl : vwCl[7]? = some (RX9, TX9, 48)) inX9 hk hl0 (moF_at ht) hd kk
theorem mo_getJ (k : Nat) (ht : mtg[k]? = some (1, k)) (hk : k < 48) (hl0 : Cond.fieldLink M.1 index (TX9 k).1 (TX9 k).2.1 (TX9 k).2.2.1 ∈ wt) (hd : decode M.2.1 pc = .ok (.getfield index, 3))
    (kk : AW M rm l g x0 o1 x1 kc ks (moE g mo sz S) (pc + 3) lv (.long (m_j S k) :: st)) : AW M rm l g x0 o1 x1 kc ks (moE g mo sz S) pc lv (.ref mo :: st) := aw_getf mo_ob (rfl : vwCl[7]? = some (RX9, TX9, 48)) inX9 hk hl0 (moF_at ht) hd kk
theorem mo_getR (k j : Nat) (ht : mtg[k]? = some (2, j)) (hk : k < 48) (hl0 : Cond.fieldLink M.1 index (TX9 k).1 (TX9 k).2.1 (TX9 k).2.2.1 ∈ wt) (hd : decode M.2.1 pc = .ok (.getfield index, 3))
    (kk : AW M rm l g x0 o1 x1 kc ks (moE g mo sz S) (pc + 3) lv (.ref (mo + 1 + j) :: st)) : AW M rm l g x0 o1 x1 kc ks (moE g mo sz S) pc lv (.ref mo :: st) := aw_getf mo_ob (rfl : vwCl[7]? = some (RX9, TX9, 48)) inX9 hk hl0 (moF_at ht) hd kk
theorem mo_putI (k : Nat) {v : Int32} {ty : FieldType} (ht : mtg[k]? = some (0, k)) (hk : k < 48) (hty : tyX9 k = ty) (hn : narrow ty (.int v) = .int v) (hf : fits ty (.int v) = true) (hfin : (TX9 k).2.2.2 = false) (hl0 : Cond.fieldLink M.1 index (TX9 k).1 (TX9 k).2.1 (TX9 k).2.2.1 ∈ wt) (hd : decode M.2.1 pc = .ok (.putfield index, 3))
    (kk : AW M rm l g x0 o1 x1 kc ks (moE g mo sz (ms_i S k v)) (pc + 3) lv st) : AW M rm l g x0 o1 x1 kc ks (moE g mo sz S) pc lv (.int v :: .ref mo :: st) := by
  refine aw_putf mo_ob (xtX9.put (rfl : vwCl[7]? = some (RX9, TX9, 48)) hk hty hn hf (moF_len ht)) hl0 hfin hd ?_
  rw [xUp_moi ht]; exact kk
theorem mo_putJ (k : Nat) {v : Int64} (ht : mtg[k]? = some (1, k)) (hk : k < 48) (hty : tyX9 k = .long) (hfin : (TX9 k).2.2.2 = false) (hl0 : Cond.fieldLink M.1 index (TX9 k).1 (TX9 k).2.1 (TX9 k).2.2.1 ∈ wt) (hd : decode M.2.1 pc = .ok (.putfield index, 3))
    (kk : AW M rm l g x0 o1 x1 kc ks (moE g mo sz (ms_j S k v)) (pc + 3) lv st) : AW M rm l g x0 o1 x1 kc ks (moE g mo sz S) pc lv (.long v :: .ref mo :: st) := by
  refine aw_putf mo_ob (xtX9.put (rfl : vwCl[7]? = some (RX9, TX9, 48)) hk hty rfl rfl (moF_len ht)) hl0 hfin hd ?_
  rw [xUp_moj ht]; exact kk
theorem mo_iald (j n : Nat) {i : Int32} (hj : mar[j]? = some (0, n)) (hin : vp_in i n) (hd : decode M.2.1 pc = .ok (.iaload, 1))
    (kk : AW M rm l g x0 o1 x1 kc ks (moE g mo sz S) (pc + 1) lv (.int (m_I S j i.toNatClampNeg) :: st)) : AW M rm l g x0 o1 x1 kc ks (moE g mo sz S) pc lv (.int i :: .ref (mo + 1 + j) :: st) := aw_iald (mo_ar.trans (moA_i hj)) hin hd kk
theorem mo_zald (j n : Nat) {i : Int32} (hj : mar[j]? = some (2, n)) (hin : vp_in i n) (hd : decode M.2.1 pc = .ok (.baload, 1))
    (kk : AW M rm l g x0 o1 x1 kc ks (moE g mo sz S) (pc + 1) lv (.int (m_I S j i.toNatClampNeg) :: st)) : AW M rm l g x0 o1 x1 kc ks (moE g mo sz S) pc lv (.int i :: .ref (mo + 1 + j) :: st) := aw_zald (mo_ar.trans (moA_z hj)) hin hd kk
theorem mo_lald (j n : Nat) {i : Int32} (hj : mar[j]? = some (1, n)) (hin : vp_in i n) (hd : decode M.2.1 pc = .ok (.laload, 1))
    (kk : AW M rm l g x0 o1 x1 kc ks (moE g mo sz S) (pc + 1) lv (.long (m_J S j i.toNatClampNeg) :: st)) : AW M rm l g x0 o1 x1 kc ks (moE g mo sz S) pc lv (.int i :: .ref (mo + 1 + j) :: st) := aw_lald (mo_ar.trans (moA_l hj)) hin hd kk
theorem m_I_up {S : MS} {j i : Nat} {v : Int32} : m_I (ms_I S j i v) j = upd (m_I S j) i v := by funext q; simp [ms_I, m_I, x_up2, upd]
theorem m_J_up {S : MS} {j i : Nat} {v : Int64} : m_J (ms_J S j i v) j = vp_updL (m_J S j) i v := by funext q; simp [ms_J, m_J, x_up2, vp_updL]
theorem mo_iast (j n : Nat) {i v : Int32} (hj : mar[j]? = some (0, n)) (hin : vp_in i n) (hd : decode M.2.1 pc = .ok (.iastore, 1))
    (kk : AW M rm l g x0 o1 x1 kc ks (moE g mo sz (ms_I S j i.toNatClampNeg v)) (pc + 1) lv st) : AW M rm l g x0 o1 x1 kc ks (moE g mo sz S) pc lv (.int v :: .int i :: .ref (mo + 1 + j) :: st) := by
  refine aw_iast (mo_ar.trans (moA_i hj)) hin hd ?_
  rw [xUp_moA (S := S) (S2 := ms_I S j i.toNatClampNeg v) (by rw [moA_i hj, m_I_up]) rfl rfl (fun q hq => ⟨x_up2_ne hq, rfl⟩)]; exact kk
theorem mo_zast (j n : Nat) {i v : Int32} (hy : vp_nar .boolean v = v) (hj : mar[j]? = some (2, n)) (hin : vp_in i n) (hd : decode M.2.1 pc = .ok (.bastore, 1))
    (kk : AW M rm l g x0 o1 x1 kc ks (moE g mo sz (ms_I S j i.toNatClampNeg v)) (pc + 1) lv st) : AW M rm l g x0 o1 x1 kc ks (moE g mo sz S) pc lv (.int v :: .int i :: .ref (mo + 1 + j) :: st) := by
  refine aw_zast hy (mo_ar.trans (moA_z hj)) hin hd ?_
  rw [xUp_moA (S := S) (S2 := ms_I S j i.toNatClampNeg v) (by rw [moA_z hj, m_I_up]) rfl rfl (fun q hq => ⟨x_up2_ne hq, rfl⟩)]; exact kk
theorem mo_last (j n : Nat) {i : Int32} {v : Int64} (hj : mar[j]? = some (1, n)) (hin : vp_in i n) (hd : decode M.2.1 pc = .ok (.lastore, 1))
    (kk : AW M rm l g x0 o1 x1 kc ks (moE g mo sz (ms_J S j i.toNatClampNeg v)) (pc + 1) lv st) : AW M rm l g x0 o1 x1 kc ks (moE g mo sz S) pc lv (.long v :: .int i :: .ref (mo + 1 + j) :: st) := by
  refine aw_last (mo_ar.trans (moA_l hj)) hin hd ?_
  rw [xUp_moA (S := S) (S2 := ms_J S j i.toNatClampNeg v) (by rw [moA_l hj, m_J_up]) rfl rfl (fun q hq => ⟨rfl, x_up2_ne hq⟩)]; exact kk
end MOR
end
section
theorem dX0_around_0 : decode cX0_around 0 = .ok (.lload_n 0, 1) := by decide +kernel
theorem dX0_around_1 : decode cX0_around 1 = .ok (.ldc2_w 11, 3) := by decide +kernel
theorem dX0_around_4 : decode cX0_around 4 = .ok (.land, 1) := by decide +kernel
theorem dX0_around_5 : decode cX0_around 5 = .ok (.iconst 1, 1) := by decide +kernel
theorem dX0_around_6 : decode cX0_around 6 = .ok (.lshl, 1) := by decide +kernel
theorem dX0_around_7 : decode cX0_around 7 = .ok (.lload_n 0, 1) := by decide +kernel
theorem dX0_around_8 : decode cX0_around 8 = .ok (.ldc2_w 13, 3) := by decide +kernel
theorem dX0_around_11 : decode cX0_around 11 = .ok (.land, 1) := by decide +kernel
theorem dX0_around_12 : decode cX0_around 12 = .ok (.iconst 1, 1) := by decide +kernel
theorem dX0_around_13 : decode cX0_around 13 = .ok (.lushr, 1) := by decide +kernel
theorem dX0_around_14 : decode cX0_around 14 = .ok (.lor, 1) := by decide +kernel
theorem dX0_around_15 : decode cX0_around 15 = .ok (.lstore_n 2, 1) := by decide +kernel
theorem dX0_around_16 : decode cX0_around 16 = .ok (.lload_n 0, 1) := by decide +kernel
theorem dX0_around_17 : decode cX0_around 17 = .ok (.bipush 7, 2) := by decide +kernel
theorem dX0_around_19 : decode cX0_around 19 = .ok (.lshl, 1) := by decide +kernel
theorem dX0_around_20 : decode cX0_around 20 = .ok (.lload_n 0, 1) := by decide +kernel
theorem dX0_around_21 : decode cX0_around 21 = .ok (.bipush 7, 2) := by decide +kernel
theorem dX0_around_23 : decode cX0_around 23 = .ok (.lushr, 1) := by decide +kernel
theorem dX0_around_24 : decode cX0_around 24 = .ok (.lor, 1) := by decide +kernel
theorem dX0_around_25 : decode cX0_around 25 = .ok (.lload_n 2, 1) := by decide +kernel
theorem dX0_around_26 : decode cX0_around 26 = .ok (.lor, 1) := by decide +kernel
theorem dX0_around_27 : decode cX0_around 27 = .ok (.ldc2_w 15, 3) := by decide +kernel
theorem dX0_around_30 : decode cX0_around 30 = .ok (.land, 1) := by decide +kernel
theorem dX0_around_31 : decode cX0_around 31 = .ok (.lreturn, 1) := by decide +kernel
theorem dX0_flood_0 : decode cX0_flood 0 = .ok (.lload_n 0, 1) := by decide +kernel
theorem dX0_flood_1 : decode cX0_flood 1 = .ok (.lload_n 2, 1) := by decide +kernel
theorem dX0_flood_2 : decode cX0_flood 2 = .ok (.land, 1) := by decide +kernel
theorem dX0_flood_3 : decode cX0_flood 3 = .ok (.lstore 4, 2) := by decide +kernel
theorem dX0_flood_5 : decode cX0_flood 5 = .ok (.iconst 0, 1) := by decide +kernel
theorem dX0_flood_6 : decode cX0_flood 6 = .ok (.istore 6, 2) := by decide +kernel
theorem dX0_flood_8 : decode cX0_flood 8 = .ok (.iload 6, 2) := by decide +kernel
theorem dX0_flood_10 : decode cX0_flood 10 = .ok (.bipush 49, 2) := by decide +kernel
theorem dX0_flood_12 : decode cX0_flood 12 = .ok (.if_icmp .ge 36, 3) := by decide +kernel
theorem dX0_flood_15 : decode cX0_flood 15 = .ok (.lload 4, 2) := by decide +kernel
theorem dX0_flood_17 : decode cX0_flood 17 = .ok (.lload 4, 2) := by decide +kernel
theorem dX0_flood_19 : decode cX0_flood 19 = .ok (.invokestatic 17, 3) := by decide +kernel
theorem dX0_flood_22 : decode cX0_flood 22 = .ok (.lload_n 2, 1) := by decide +kernel
theorem dX0_flood_23 : decode cX0_flood 23 = .ok (.land, 1) := by decide +kernel
theorem dX0_flood_24 : decode cX0_flood 24 = .ok (.lor, 1) := by decide +kernel
theorem dX0_flood_25 : decode cX0_flood 25 = .ok (.lstore 7, 2) := by decide +kernel
theorem dX0_flood_27 : decode cX0_flood 27 = .ok (.lload 7, 2) := by decide +kernel
theorem dX0_flood_29 : decode cX0_flood 29 = .ok (.lload 4, 2) := by decide +kernel
theorem dX0_flood_31 : decode cX0_flood 31 = .ok (.lcmp, 1) := by decide +kernel
theorem dX0_flood_32 : decode cX0_flood 32 = .ok (.ifCond .ne 6, 3) := by decide +kernel
theorem dX0_flood_35 : decode cX0_flood 35 = .ok (.goto 13, 3) := by decide +kernel
theorem dX0_flood_38 : decode cX0_flood 38 = .ok (.lload 7, 2) := by decide +kernel
theorem dX0_flood_40 : decode cX0_flood 40 = .ok (.lstore 4, 2) := by decide +kernel
theorem dX0_flood_42 : decode cX0_flood 42 = .ok (.iinc 6 1, 3) := by decide +kernel
theorem dX0_flood_45 : decode cX0_flood 45 = .ok (.goto (-37), 3) := by decide +kernel
theorem dX0_flood_48 : decode cX0_flood 48 = .ok (.lload 4, 2) := by decide +kernel
theorem dX0_flood_50 : decode cX0_flood 50 = .ok (.lreturn, 1) := by decide +kernel
theorem dX0_libertiesOf_0 : decode cX0_libertiesOf 0 = .ok (.lload_n 0, 1) := by decide +kernel
theorem dX0_libertiesOf_1 : decode cX0_libertiesOf 1 = .ok (.invokestatic 17, 3) := by decide +kernel
theorem dX0_libertiesOf_4 : decode cX0_libertiesOf 4 = .ok (.lload_n 2, 1) := by decide +kernel
theorem dX0_libertiesOf_5 : decode cX0_libertiesOf 5 = .ok (.ldc2_w 21, 3) := by decide +kernel
theorem dX0_libertiesOf_8 : decode cX0_libertiesOf 8 = .ok (.lxor, 1) := by decide +kernel
theorem dX0_libertiesOf_9 : decode cX0_libertiesOf 9 = .ok (.land, 1) := by decide +kernel
theorem dX0_libertiesOf_10 : decode cX0_libertiesOf 10 = .ok (.lreturn, 1) := by decide +kernel
theorem dX0_leftBehind_0 : decode cX0_leftBehind 0 = .ok (.lload_n 0, 1) := by decide +kernel
theorem dX0_leftBehind_1 : decode cX0_leftBehind 1 = .ok (.lload_n 2, 1) := by decide +kernel
theorem dX0_leftBehind_2 : decode cX0_leftBehind 2 = .ok (.lor, 1) := by decide +kernel
theorem dX0_leftBehind_3 : decode cX0_leftBehind 3 = .ok (.lload 4, 2) := by decide +kernel
theorem dX0_leftBehind_5 : decode cX0_leftBehind 5 = .ok (.land, 1) := by decide +kernel
theorem dX0_leftBehind_6 : decode cX0_leftBehind 6 = .ok (.lconst 0, 1) := by decide +kernel
theorem dX0_leftBehind_7 : decode cX0_leftBehind 7 = .ok (.lcmp, 1) := by decide +kernel
theorem dX0_leftBehind_8 : decode cX0_leftBehind 8 = .ok (.ifCond .eq 7, 3) := by decide +kernel
theorem dX0_leftBehind_11 : decode cX0_leftBehind 11 = .ok (.ldc2_w 21, 3) := by decide +kernel
theorem dX0_leftBehind_14 : decode cX0_leftBehind 14 = .ok (.lreturn, 1) := by decide +kernel
theorem dX0_leftBehind_15 : decode cX0_leftBehind 15 = .ok (.lload_n 0, 1) := by decide +kernel
theorem dX0_leftBehind_16 : decode cX0_leftBehind 16 = .ok (.lload 4, 2) := by decide +kernel
theorem dX0_leftBehind_18 : decode cX0_leftBehind 18 = .ok (.lor, 1) := by decide +kernel
theorem dX0_leftBehind_19 : decode cX0_leftBehind 19 = .ok (.lstore 6, 2) := by decide +kernel
theorem dX0_leftBehind_21 : decode cX0_leftBehind 21 = .ok (.ldc2_w 15, 3) := by decide +kernel
theorem dX0_leftBehind_24 : decode cX0_leftBehind 24 = .ok (.lload 6, 2) := by decide +kernel
theorem dX0_leftBehind_26 : decode cX0_leftBehind 26 = .ok (.lload_n 2, 1) := by decide +kernel
theorem dX0_leftBehind_27 : decode cX0_leftBehind 27 = .ok (.lor, 1) := by decide +kernel
theorem dX0_leftBehind_28 : decode cX0_leftBehind 28 = .ok (.ldc2_w 21, 3) := by decide +kernel
theorem dX0_leftBehind_31 : decode cX0_leftBehind 31 = .ok (.lxor, 1) := by decide +kernel
theorem dX0_leftBehind_32 : decode cX0_leftBehind 32 = .ok (.land, 1) := by decide +kernel
theorem dX0_leftBehind_33 : decode cX0_leftBehind 33 = .ok (.invokestatic 17, 3) := by decide +kernel
theorem dX0_leftBehind_36 : decode cX0_leftBehind 36 = .ok (.lload_n 2, 1) := by decide +kernel
theorem dX0_leftBehind_37 : decode cX0_leftBehind 37 = .ok (.invokestatic 23, 3) := by decide +kernel
theorem dX0_leftBehind_40 : decode cX0_leftBehind 40 = .ok (.lstore 8, 2) := by decide +kernel
theorem dX0_leftBehind_42 : decode cX0_leftBehind 42 = .ok (.lload 4, 2) := by decide +kernel
theorem dX0_leftBehind_44 : decode cX0_leftBehind 44 = .ok (.lload 6, 2) := by decide +kernel
theorem dX0_leftBehind_46 : decode cX0_leftBehind 46 = .ok (.invokestatic 23, 3) := by decide +kernel
theorem dX0_leftBehind_49 : decode cX0_leftBehind 49 = .ok (.lstore 10, 2) := by decide +kernel
theorem dX0_leftBehind_51 : decode cX0_leftBehind 51 = .ok (.lload 10, 2) := by decide +kernel
theorem dX0_leftBehind_53 : decode cX0_leftBehind 53 = .ok (.lload 6, 2) := by decide +kernel
theorem dX0_leftBehind_55 : decode cX0_leftBehind 55 = .ok (.lload 8, 2) := by decide +kernel
theorem dX0_leftBehind_57 : decode cX0_leftBehind 57 = .ok (.lor, 1) := by decide +kernel
theorem dX0_leftBehind_58 : decode cX0_leftBehind 58 = .ok (.invokestatic 27, 3) := by decide +kernel
theorem dX0_leftBehind_61 : decode cX0_leftBehind 61 = .ok (.lconst 0, 1) := by decide +kernel
theorem dX0_leftBehind_62 : decode cX0_leftBehind 62 = .ok (.lcmp, 1) := by decide +kernel
theorem dX0_leftBehind_63 : decode cX0_leftBehind 63 = .ok (.ifCond .ne 9, 3) := by decide +kernel
theorem dX0_leftBehind_66 : decode cX0_leftBehind 66 = .ok (.ldc2_w 21, 3) := by decide +kernel
theorem dX0_leftBehind_69 : decode cX0_leftBehind 69 = .ok (.goto 5, 3) := by decide +kernel
theorem dX0_leftBehind_72 : decode cX0_leftBehind 72 = .ok (.lload 8, 2) := by decide +kernel
theorem dX0_leftBehind_74 : decode cX0_leftBehind 74 = .ok (.lreturn, 1) := by decide +kernel
theorem dX0_lead_0 : decode cX0_lead 0 = .ok (.ldc2_w 15, 3) := by decide +kernel
theorem dX0_lead_3 : decode cX0_lead 3 = .ok (.lload_n 0, 1) := by decide +kernel
theorem dX0_lead_4 : decode cX0_lead 4 = .ok (.lload_n 2, 1) := by decide +kernel
theorem dX0_lead_5 : decode cX0_lead 5 = .ok (.lor, 1) := by decide +kernel
theorem dX0_lead_6 : decode cX0_lead 6 = .ok (.ldc2_w 21, 3) := by decide +kernel
theorem dX0_lead_9 : decode cX0_lead 9 = .ok (.lxor, 1) := by decide +kernel
theorem dX0_lead_10 : decode cX0_lead 10 = .ok (.land, 1) := by decide +kernel
theorem dX0_lead_11 : decode cX0_lead 11 = .ok (.lstore 4, 2) := by decide +kernel
theorem dX0_lead_13 : decode cX0_lead 13 = .ok (.lload_n 0, 1) := by decide +kernel
theorem dX0_lead_14 : decode cX0_lead 14 = .ok (.invokestatic 17, 3) := by decide +kernel
theorem dX0_lead_17 : decode cX0_lead 17 = .ok (.lload 4, 2) := by decide +kernel
theorem dX0_lead_19 : decode cX0_lead 19 = .ok (.invokestatic 23, 3) := by decide +kernel
theorem dX0_lead_22 : decode cX0_lead 22 = .ok (.lstore 6, 2) := by decide +kernel
theorem dX0_lead_24 : decode cX0_lead 24 = .ok (.lload_n 2, 1) := by decide +kernel
theorem dX0_lead_25 : decode cX0_lead 25 = .ok (.invokestatic 17, 3) := by decide +kernel
theorem dX0_lead_28 : decode cX0_lead 28 = .ok (.lload 4, 2) := by decide +kernel
theorem dX0_lead_30 : decode cX0_lead 30 = .ok (.invokestatic 23, 3) := by decide +kernel
theorem dX0_lead_33 : decode cX0_lead 33 = .ok (.lstore 8, 2) := by decide +kernel
theorem dX0_lead_35 : decode cX0_lead 35 = .ok (.lload_n 0, 1) := by decide +kernel
theorem dX0_lead_36 : decode cX0_lead 36 = .ok (.lload 6, 2) := by decide +kernel
theorem dX0_lead_38 : decode cX0_lead 38 = .ok (.lload 8, 2) := by decide +kernel
theorem dX0_lead_40 : decode cX0_lead 40 = .ok (.ldc2_w 21, 3) := by decide +kernel
theorem dX0_lead_43 : decode cX0_lead 43 = .ok (.lxor, 1) := by decide +kernel
theorem dX0_lead_44 : decode cX0_lead 44 = .ok (.land, 1) := by decide +kernel
theorem dX0_lead_45 : decode cX0_lead 45 = .ok (.lor, 1) := by decide +kernel
theorem dX0_lead_46 : decode cX0_lead 46 = .ok (.invokestatic 30, 3) := by decide +kernel
theorem dX0_lead_49 : decode cX0_lead 49 = .ok (.lload_n 2, 1) := by decide +kernel
theorem dX0_lead_50 : decode cX0_lead 50 = .ok (.lload 8, 2) := by decide +kernel
theorem dX0_lead_52 : decode cX0_lead 52 = .ok (.lload 6, 2) := by decide +kernel
theorem dX0_lead_54 : decode cX0_lead 54 = .ok (.ldc2_w 21, 3) := by decide +kernel
theorem dX0_lead_57 : decode cX0_lead 57 = .ok (.lxor, 1) := by decide +kernel
theorem dX0_lead_58 : decode cX0_lead 58 = .ok (.land, 1) := by decide +kernel
theorem dX0_lead_59 : decode cX0_lead 59 = .ok (.lor, 1) := by decide +kernel
theorem dX0_lead_60 : decode cX0_lead 60 = .ok (.invokestatic 30, 3) := by decide +kernel
theorem dX0_lead_63 : decode cX0_lead 63 = .ok (.isub, 1) := by decide +kernel
theorem dX0_lead_64 : decode cX0_lead 64 = .ok (.ireturn, 1) := by decide +kernel
theorem dX1_init_0 : decode cX1_init 0 = .ok (.aload_n 0, 1) := by decide +kernel
theorem dX1_init_1 : decode cX1_init 1 = .ok (.invokespecial 1, 3) := by decide +kernel
theorem dX1_init_4 : decode cX1_init 4 = .ok (.aload_n 0, 1) := by decide +kernel
theorem dX1_init_5 : decode cX1_init 5 = .ok (.iload_n 1, 1) := by decide +kernel
theorem dX1_init_6 : decode cX1_init 6 = .ok (.putfield 7, 3) := by decide +kernel
theorem dX1_init_9 : decode cX1_init 9 = .ok (.aload_n 0, 1) := by decide +kernel
theorem dX1_init_10 : decode cX1_init 10 = .ok (.iload_n 2, 1) := by decide +kernel
theorem dX1_init_11 : decode cX1_init 11 = .ok (.putfield 13, 3) := by decide +kernel
theorem dX1_init_14 : decode cX1_init 14 = .ok (.aload_n 0, 1) := by decide +kernel
theorem dX1_init_15 : decode cX1_init 15 = .ok (.iload_n 3, 1) := by decide +kernel
theorem dX1_init_16 : decode cX1_init 16 = .ok (.putfield 16, 3) := by decide +kernel
theorem dX1_init_19 : decode cX1_init 19 = .ok (.return_, 1) := by decide +kernel
theorem dX1_take_0 : decode cX1_take 0 = .ok (.iload_n 1, 1) := by decide +kernel
theorem dX1_take_1 : decode cX1_take 1 = .ok (.aload_n 0, 1) := by decide +kernel
theorem dX1_take_2 : decode cX1_take 2 = .ok (.getfield 7, 3) := by decide +kernel
theorem dX1_take_5 : decode cX1_take 5 = .ok (.if_icmp .gt 15, 3) := by decide +kernel
theorem dX1_take_8 : decode cX1_take 8 = .ok (.aload_n 0, 1) := by decide +kernel
theorem dX1_take_9 : decode cX1_take 9 = .ok (.dup, 1) := by decide +kernel
theorem dX1_take_10 : decode cX1_take 10 = .ok (.getfield 7, 3) := by decide +kernel
theorem dX1_take_13 : decode cX1_take 13 = .ok (.iload_n 1, 1) := by decide +kernel
theorem dX1_take_14 : decode cX1_take 14 = .ok (.isub, 1) := by decide +kernel
theorem dX1_take_15 : decode cX1_take 15 = .ok (.putfield 7, 3) := by decide +kernel
theorem dX1_take_18 : decode cX1_take 18 = .ok (.iconst 1, 1) := by decide +kernel
theorem dX1_take_19 : decode cX1_take 19 = .ok (.ireturn, 1) := by decide +kernel
theorem dX1_take_20 : decode cX1_take 20 = .ok (.iload_n 1, 1) := by decide +kernel
theorem dX1_take_21 : decode cX1_take 21 = .ok (.aload_n 0, 1) := by decide +kernel
theorem dX1_take_22 : decode cX1_take 22 = .ok (.getfield 7, 3) := by decide +kernel
theorem dX1_take_25 : decode cX1_take 25 = .ok (.isub, 1) := by decide +kernel
theorem dX1_take_26 : decode cX1_take 26 = .ok (.istore_n 2, 1) := by decide +kernel
theorem dX1_take_27 : decode cX1_take 27 = .ok (.aload_n 0, 1) := by decide +kernel
theorem dX1_take_28 : decode cX1_take 28 = .ok (.iconst 0, 1) := by decide +kernel
theorem dX1_take_29 : decode cX1_take 29 = .ok (.putfield 7, 3) := by decide +kernel
theorem dX1_take_32 : decode cX1_take 32 = .ok (.aload_n 0, 1) := by decide +kernel
theorem dX1_take_33 : decode cX1_take 33 = .ok (.getfield 16, 3) := by decide +kernel
theorem dX1_take_36 : decode cX1_take 36 = .ok (.iconst 1, 1) := by decide +kernel
theorem dX1_take_37 : decode cX1_take 37 = .ok (.if_icmp .ge 10, 3) := by decide +kernel
theorem dX1_take_40 : decode cX1_take 40 = .ok (.aload_n 0, 1) := by decide +kernel
theorem dX1_take_41 : decode cX1_take 41 = .ok (.getfield 13, 3) := by decide +kernel
theorem dX1_take_44 : decode cX1_take 44 = .ok (.goto 11, 3) := by decide +kernel
theorem dX1_take_47 : decode cX1_take 47 = .ok (.iload_n 2, 1) := by decide +kernel
theorem dX1_take_48 : decode cX1_take 48 = .ok (.iconst 1, 1) := by decide +kernel
theorem dX1_take_49 : decode cX1_take 49 = .ok (.isub, 1) := by decide +kernel
theorem dX1_take_50 : decode cX1_take 50 = .ok (.aload_n 0, 1) := by decide +kernel
theorem dX1_take_51 : decode cX1_take 51 = .ok (.getfield 16, 3) := by decide +kernel
theorem dX1_take_54 : decode cX1_take 54 = .ok (.idiv, 1) := by decide +kernel
theorem dX1_take_55 : decode cX1_take 55 = .ok (.istore_n 3, 1) := by decide +kernel
theorem dX1_take_56 : decode cX1_take 56 = .ok (.aload_n 0, 1) := by decide +kernel
theorem dX1_take_57 : decode cX1_take 57 = .ok (.iconst 0, 1) := by decide +kernel
theorem dX1_take_58 : decode cX1_take 58 = .ok (.aload_n 0, 1) := by decide +kernel
theorem dX1_take_59 : decode cX1_take 59 = .ok (.getfield 13, 3) := by decide +kernel
theorem dX1_take_62 : decode cX1_take 62 = .ok (.iload_n 3, 1) := by decide +kernel
theorem dX1_take_63 : decode cX1_take 63 = .ok (.isub, 1) := by decide +kernel
theorem dX1_take_64 : decode cX1_take 64 = .ok (.invokestatic 19, 3) := by decide +kernel
theorem dX1_take_67 : decode cX1_take 67 = .ok (.putfield 13, 3) := by decide +kernel
theorem dX1_take_70 : decode cX1_take 70 = .ok (.aload_n 0, 1) := by decide +kernel
theorem dX1_take_71 : decode cX1_take 71 = .ok (.getfield 13, 3) := by decide +kernel
theorem dX1_take_74 : decode cX1_take 74 = .ok (.ifCond .le 7, 3) := by decide +kernel
theorem dX1_take_77 : decode cX1_take 77 = .ok (.iconst 1, 1) := by decide +kernel
theorem dX1_take_78 : decode cX1_take 78 = .ok (.goto 4, 3) := by decide +kernel
theorem dX1_take_81 : decode cX1_take 81 = .ok (.iconst 0, 1) := by decide +kernel
theorem dX1_take_82 : decode cX1_take 82 = .ok (.ireturn, 1) := by decide +kernel
theorem dX1_reading_0 : decode cX1_reading 0 = .ok (.bipush 10, 2) := by decide +kernel
theorem dX1_reading_2 : decode cX1_reading 2 = .ok (.aload_n 0, 1) := by decide +kernel
theorem dX1_reading_3 : decode cX1_reading 3 = .ok (.getfield 7, 3) := by decide +kernel
theorem dX1_reading_6 : decode cX1_reading 6 = .ok (.imul, 1) := by decide +kernel
theorem dX1_reading_7 : decode cX1_reading 7 = .ok (.aload_n 0, 1) := by decide +kernel
theorem dX1_reading_8 : decode cX1_reading 8 = .ok (.getfield 13, 3) := by decide +kernel
theorem dX1_reading_11 : decode cX1_reading 11 = .ok (.iadd, 1) := by decide +kernel
theorem dX1_reading_12 : decode cX1_reading 12 = .ok (.ireturn, 1) := by decide +kernel
theorem dX2_init_0 : decode cX2_init 0 = .ok (.aload_n 0, 1) := by decide +kernel
theorem dX2_init_1 : decode cX2_init 1 = .ok (.invokespecial 3, 3) := by decide +kernel
theorem dX2_init_4 : decode cX2_init 4 = .ok (.aload_n 0, 1) := by decide +kernel
theorem dX2_init_5 : decode cX2_init 5 = .ok (.bipush 8, 2) := by decide +kernel
theorem dX2_init_7 : decode cX2_init 7 = .ok (.newarray .int, 2) := by decide +kernel
theorem dX2_init_9 : decode cX2_init 9 = .ok (.putfield 9, 3) := by decide +kernel
theorem dX2_init_12 : decode cX2_init 12 = .ok (.aload_n 0, 1) := by decide +kernel
theorem dX2_init_13 : decode cX2_init 13 = .ok (.bipush 16, 2) := by decide +kernel
theorem dX2_init_15 : decode cX2_init 15 = .ok (.anewarray 15, 3) := by decide +kernel
theorem dX2_init_18 : decode cX2_init 18 = .ok (.putfield 17, 3) := by decide +kernel
theorem dX2_init_21 : decode cX2_init 21 = .ok (.aload_n 0, 1) := by decide +kernel
theorem dX2_init_22 : decode cX2_init 22 = .ok (.bipush 16, 2) := by decide +kernel
theorem dX2_init_24 : decode cX2_init 24 = .ok (.anewarray 15, 3) := by decide +kernel
theorem dX2_init_27 : decode cX2_init 27 = .ok (.putfield 21, 3) := by decide +kernel
theorem dX2_init_30 : decode cX2_init 30 = .ok (.return_, 1) := by decide +kernel
theorem dX2_hasPlayer_0 : decode cX2_hasPlayer 0 = .ok (.iload_n 1, 1) := by decide +kernel
theorem dX2_hasPlayer_1 : decode cX2_hasPlayer 1 = .ok (.ifCond .lt 15, 3) := by decide +kernel
theorem dX2_hasPlayer_4 : decode cX2_hasPlayer 4 = .ok (.iload_n 1, 1) := by decide +kernel
theorem dX2_hasPlayer_5 : decode cX2_hasPlayer 5 = .ok (.aload_n 0, 1) := by decide +kernel
theorem dX2_hasPlayer_6 : decode cX2_hasPlayer 6 = .ok (.getfield 24, 3) := by decide +kernel
theorem dX2_hasPlayer_9 : decode cX2_hasPlayer 9 = .ok (.if_icmp .ge 7, 3) := by decide +kernel
theorem dX2_hasPlayer_12 : decode cX2_hasPlayer 12 = .ok (.iconst 1, 1) := by decide +kernel
theorem dX2_hasPlayer_13 : decode cX2_hasPlayer 13 = .ok (.goto 4, 3) := by decide +kernel
theorem dX2_hasPlayer_16 : decode cX2_hasPlayer 16 = .ok (.iconst 0, 1) := by decide +kernel
theorem dX2_hasPlayer_17 : decode cX2_hasPlayer 17 = .ok (.ireturn, 1) := by decide +kernel
theorem dX2_enrol_0 : decode cX2_enrol 0 = .ok (.aload_n 0, 1) := by decide +kernel
theorem dX2_enrol_1 : decode cX2_enrol 1 = .ok (.getfield 24, 3) := by decide +kernel
theorem dX2_enrol_4 : decode cX2_enrol 4 = .ok (.ifCond .lt 15, 3) := by decide +kernel
theorem dX2_enrol_7 : decode cX2_enrol 7 = .ok (.aload_n 0, 1) := by decide +kernel
theorem dX2_enrol_8 : decode cX2_enrol 8 = .ok (.getfield 24, 3) := by decide +kernel
theorem dX2_enrol_11 : decode cX2_enrol 11 = .ok (.aload_n 0, 1) := by decide +kernel
theorem dX2_enrol_12 : decode cX2_enrol 12 = .ok (.getfield 9, 3) := by decide +kernel
theorem dX2_enrol_15 : decode cX2_enrol 15 = .ok (.arraylength, 1) := by decide +kernel
theorem dX2_enrol_16 : decode cX2_enrol 16 = .ok (.if_icmp .lt 5, 3) := by decide +kernel
theorem dX2_enrol_19 : decode cX2_enrol 19 = .ok (.iconst (-1), 1) := by decide +kernel
theorem dX2_enrol_20 : decode cX2_enrol 20 = .ok (.ireturn, 1) := by decide +kernel
theorem dX2_enrol_21 : decode cX2_enrol 21 = .ok (.aload_n 0, 1) := by decide +kernel
theorem dX2_enrol_22 : decode cX2_enrol 22 = .ok (.getfield 9, 3) := by decide +kernel
theorem dX2_enrol_25 : decode cX2_enrol 25 = .ok (.aload_n 0, 1) := by decide +kernel
theorem dX2_enrol_26 : decode cX2_enrol 26 = .ok (.getfield 24, 3) := by decide +kernel
theorem dX2_enrol_29 : decode cX2_enrol 29 = .ok (.iload_n 1, 1) := by decide +kernel
theorem dX2_enrol_30 : decode cX2_enrol 30 = .ok (.iastore, 1) := by decide +kernel
theorem dX2_enrol_31 : decode cX2_enrol 31 = .ok (.aload_n 0, 1) := by decide +kernel
theorem dX2_enrol_32 : decode cX2_enrol 32 = .ok (.dup, 1) := by decide +kernel
theorem dX2_enrol_33 : decode cX2_enrol 33 = .ok (.getfield 24, 3) := by decide +kernel
theorem dX2_enrol_36 : decode cX2_enrol 36 = .ok (.dup_x1, 1) := by decide +kernel
theorem dX2_enrol_37 : decode cX2_enrol 37 = .ok (.iconst 1, 1) := by decide +kernel
theorem dX2_enrol_38 : decode cX2_enrol 38 = .ok (.iadd, 1) := by decide +kernel
theorem dX2_enrol_39 : decode cX2_enrol 39 = .ok (.putfield 24, 3) := by decide +kernel
theorem dX2_enrol_42 : decode cX2_enrol 42 = .ok (.ireturn, 1) := by decide +kernel
theorem dX2_matchAt_0 : decode cX2_matchAt 0 = .ok (.iload_n 1, 1) := by decide +kernel
theorem dX2_matchAt_1 : decode cX2_matchAt 1 = .ok (.ifCond .lt 12, 3) := by decide +kernel
theorem dX2_matchAt_4 : decode cX2_matchAt 4 = .ok (.iload_n 1, 1) := by decide +kernel
theorem dX2_matchAt_5 : decode cX2_matchAt 5 = .ok (.aload_n 0, 1) := by decide +kernel
theorem dX2_matchAt_6 : decode cX2_matchAt 6 = .ok (.getfield 17, 3) := by decide +kernel
theorem dX2_matchAt_9 : decode cX2_matchAt 9 = .ok (.arraylength, 1) := by decide +kernel
theorem dX2_matchAt_10 : decode cX2_matchAt 10 = .ok (.if_icmp .lt 7, 3) := by decide +kernel
theorem dX2_matchAt_13 : decode cX2_matchAt 13 = .ok (.aconst_null, 1) := by decide +kernel
theorem dX2_matchAt_14 : decode cX2_matchAt 14 = .ok (.goto 9, 3) := by decide +kernel
theorem dX2_matchAt_17 : decode cX2_matchAt 17 = .ok (.aload_n 0, 1) := by decide +kernel
theorem dX2_matchAt_18 : decode cX2_matchAt 18 = .ok (.getfield 17, 3) := by decide +kernel
theorem dX2_matchAt_21 : decode cX2_matchAt 21 = .ok (.iload_n 1, 1) := by decide +kernel
theorem dX2_matchAt_22 : decode cX2_matchAt 22 = .ok (.aaload, 1) := by decide +kernel
theorem dX2_matchAt_23 : decode cX2_matchAt 23 = .ok (.areturn, 1) := by decide +kernel
theorem dX2_begin_0 : decode cX2_begin 0 = .ok (.aload_n 0, 1) := by decide +kernel
theorem dX2_begin_1 : decode cX2_begin 1 = .ok (.iload_n 1, 1) := by decide +kernel
theorem dX2_begin_2 : decode cX2_begin 2 = .ok (.invokevirtual 28, 3) := by decide +kernel
theorem dX2_begin_5 : decode cX2_begin 5 = .ok (.ifCond .ne 30, 3) := by decide +kernel
theorem dX2_begin_8 : decode cX2_begin 8 = .ok (.aload_n 0, 1) := by decide +kernel
theorem dX2_begin_9 : decode cX2_begin 9 = .ok (.iload_n 2, 1) := by decide +kernel
theorem dX2_begin_10 : decode cX2_begin 10 = .ok (.invokevirtual 28, 3) := by decide +kernel
theorem dX2_begin_13 : decode cX2_begin 13 = .ok (.ifCond .ne 22, 3) := by decide +kernel
theorem dX2_begin_16 : decode cX2_begin 16 = .ok (.aload_n 0, 1) := by decide +kernel
theorem dX2_begin_17 : decode cX2_begin 17 = .ok (.getfield 32, 3) := by decide +kernel
theorem dX2_begin_20 : decode cX2_begin 20 = .ok (.ifCond .lt 15, 3) := by decide +kernel
theorem dX2_begin_23 : decode cX2_begin 23 = .ok (.aload_n 0, 1) := by decide +kernel
theorem dX2_begin_24 : decode cX2_begin 24 = .ok (.getfield 32, 3) := by decide +kernel
theorem dX2_begin_27 : decode cX2_begin 27 = .ok (.aload_n 0, 1) := by decide +kernel
theorem dX2_begin_28 : decode cX2_begin 28 = .ok (.getfield 17, 3) := by decide +kernel
theorem dX2_begin_31 : decode cX2_begin 31 = .ok (.arraylength, 1) := by decide +kernel
theorem dX2_begin_32 : decode cX2_begin 32 = .ok (.if_icmp .lt 5, 3) := by decide +kernel
theorem dX2_begin_35 : decode cX2_begin 35 = .ok (.iconst (-1), 1) := by decide +kernel
theorem dX2_begin_36 : decode cX2_begin 36 = .ok (.ireturn, 1) := by decide +kernel
theorem dX2_begin_37 : decode cX2_begin 37 = .ok (.aload_n 0, 1) := by decide +kernel
theorem dX2_begin_38 : decode cX2_begin 38 = .ok (.iload_n 1, 1) := by decide +kernel
theorem dX2_begin_39 : decode cX2_begin 39 = .ok (.iload_n 2, 1) := by decide +kernel
theorem dX2_begin_40 : decode cX2_begin 40 = .ok (.aload_n 0, 1) := by decide +kernel
theorem dX2_begin_41 : decode cX2_begin 41 = .ok (.getfield 35, 3) := by decide +kernel
theorem dX2_begin_44 : decode cX2_begin 44 = .ok (.invokevirtual 38, 3) := by decide +kernel
theorem dX2_begin_47 : decode cX2_begin 47 = .ok (.istore 5, 2) := by decide +kernel
theorem dX2_begin_49 : decode cX2_begin 49 = .ok (.aload_n 0, 1) := by decide +kernel
theorem dX2_begin_50 : decode cX2_begin 50 = .ok (.getfield 17, 3) := by decide +kernel
theorem dX2_begin_53 : decode cX2_begin 53 = .ok (.aload_n 0, 1) := by decide +kernel
theorem dX2_begin_54 : decode cX2_begin 54 = .ok (.getfield 32, 3) := by decide +kernel
theorem dX2_begin_57 : decode cX2_begin 57 = .ok (.new 15, 3) := by decide +kernel
theorem dX2_begin_60 : decode cX2_begin 60 = .ok (.dup, 1) := by decide +kernel
theorem dX2_begin_61 : decode cX2_begin 61 = .ok (.iload_n 1, 1) := by decide +kernel
theorem dX2_begin_62 : decode cX2_begin 62 = .ok (.iload_n 2, 1) := by decide +kernel
theorem dX2_begin_63 : decode cX2_begin 63 = .ok (.iload 5, 2) := by decide +kernel
theorem dX2_begin_65 : decode cX2_begin 65 = .ok (.aload_n 0, 1) := by decide +kernel
theorem dX2_begin_66 : decode cX2_begin 66 = .ok (.getfield 35, 3) := by decide +kernel
theorem dX2_begin_69 : decode cX2_begin 69 = .ok (.aload_n 3, 1) := by decide +kernel
theorem dX2_begin_70 : decode cX2_begin 70 = .ok (.aload 4, 2) := by decide +kernel
theorem dX2_begin_72 : decode cX2_begin 72 = .ok (.invokespecial 42, 3) := by decide +kernel
theorem dX2_begin_75 : decode cX2_begin 75 = .ok (.aastore, 1) := by decide +kernel
theorem dX2_begin_76 : decode cX2_begin 76 = .ok (.aload_n 0, 1) := by decide +kernel
theorem dX2_begin_77 : decode cX2_begin 77 = .ok (.dup, 1) := by decide +kernel
theorem dX2_begin_78 : decode cX2_begin 78 = .ok (.getfield 32, 3) := by decide +kernel
theorem dX2_begin_81 : decode cX2_begin 81 = .ok (.dup_x1, 1) := by decide +kernel
theorem dX2_begin_82 : decode cX2_begin 82 = .ok (.iconst 1, 1) := by decide +kernel
theorem dX2_begin_83 : decode cX2_begin 83 = .ok (.iadd, 1) := by decide +kernel
theorem dX2_begin_84 : decode cX2_begin 84 = .ok (.putfield 32, 3) := by decide +kernel
theorem dX2_begin_87 : decode cX2_begin 87 = .ok (.ireturn, 1) := by decide +kernel
theorem dX2_isBusy_0 : decode cX2_isBusy 0 = .ok (.iconst 0, 1) := by decide +kernel
theorem dX2_isBusy_1 : decode cX2_isBusy 1 = .ok (.istore_n 2, 1) := by decide +kernel
theorem dX2_isBusy_2 : decode cX2_isBusy 2 = .ok (.iload_n 2, 1) := by decide +kernel
theorem dX2_isBusy_3 : decode cX2_isBusy 3 = .ok (.aload_n 0, 1) := by decide +kernel
theorem dX2_isBusy_4 : decode cX2_isBusy 4 = .ok (.getfield 17, 3) := by decide +kernel
theorem dX2_isBusy_7 : decode cX2_isBusy 7 = .ok (.arraylength, 1) := by decide +kernel
theorem dX2_isBusy_8 : decode cX2_isBusy 8 = .ok (.if_icmp .ge 37, 3) := by decide +kernel
theorem dX2_isBusy_11 : decode cX2_isBusy 11 = .ok (.aload_n 0, 1) := by decide +kernel
theorem dX2_isBusy_12 : decode cX2_isBusy 12 = .ok (.getfield 17, 3) := by decide +kernel
theorem dX2_isBusy_15 : decode cX2_isBusy 15 = .ok (.iload_n 2, 1) := by decide +kernel
theorem dX2_isBusy_16 : decode cX2_isBusy 16 = .ok (.aaload, 1) := by decide +kernel
theorem dX2_isBusy_17 : decode cX2_isBusy 17 = .ok (.astore_n 3, 1) := by decide +kernel
theorem dX2_isBusy_18 : decode cX2_isBusy 18 = .ok (.aload_n 3, 1) := by decide +kernel
theorem dX2_isBusy_19 : decode cX2_isBusy 19 = .ok (.ifnull 20, 3) := by decide +kernel
theorem dX2_isBusy_22 : decode cX2_isBusy 22 = .ok (.aload_n 3, 1) := by decide +kernel
theorem dX2_isBusy_23 : decode cX2_isBusy 23 = .ok (.invokevirtual 45, 3) := by decide +kernel
theorem dX2_isBusy_26 : decode cX2_isBusy 26 = .ok (.ifCond .eq 13, 3) := by decide +kernel
theorem dX2_isBusy_29 : decode cX2_isBusy 29 = .ok (.aload_n 3, 1) := by decide +kernel
theorem dX2_isBusy_30 : decode cX2_isBusy 30 = .ok (.iload_n 1, 1) := by decide +kernel
theorem dX2_isBusy_31 : decode cX2_isBusy 31 = .ok (.invokevirtual 49, 3) := by decide +kernel
theorem dX2_isBusy_34 : decode cX2_isBusy 34 = .ok (.ifCond .eq 5, 3) := by decide +kernel
theorem dX2_isBusy_37 : decode cX2_isBusy 37 = .ok (.iconst 1, 1) := by decide +kernel
theorem dX2_isBusy_38 : decode cX2_isBusy 38 = .ok (.ireturn, 1) := by decide +kernel
theorem dX2_isBusy_39 : decode cX2_isBusy 39 = .ok (.iinc 2 1, 3) := by decide +kernel
theorem dX2_isBusy_42 : decode cX2_isBusy 42 = .ok (.goto (-40), 3) := by decide +kernel
theorem dX2_isBusy_45 : decode cX2_isBusy 45 = .ok (.iconst 0, 1) := by decide +kernel
theorem dX2_isBusy_46 : decode cX2_isBusy 46 = .ok (.ireturn, 1) := by decide +kernel
theorem dX2_spend_0 : decode cX2_spend 0 = .ok (.aload_n 1, 1) := by decide +kernel
theorem dX2_spend_1 : decode cX2_spend 1 = .ok (.aload_n 1, 1) := by decide +kernel
theorem dX2_spend_2 : decode cX2_spend 2 = .ok (.getfield 52, 3) := by decide +kernel
theorem dX2_spend_5 : decode cX2_spend 5 = .ok (.getfield 56, 3) := by decide +kernel
theorem dX2_spend_8 : decode cX2_spend 8 = .ok (.invokevirtual 61, 3) := by decide +kernel
theorem dX2_spend_11 : decode cX2_spend 11 = .ok (.iload_n 2, 1) := by decide +kernel
theorem dX2_spend_12 : decode cX2_spend 12 = .ok (.invokevirtual 65, 3) := by decide +kernel
theorem dX2_spend_15 : decode cX2_spend 15 = .ok (.ifCond .eq 5, 3) := by decide +kernel
theorem dX2_spend_18 : decode cX2_spend 18 = .ok (.iconst 1, 1) := by decide +kernel
theorem dX2_spend_19 : decode cX2_spend 19 = .ok (.ireturn, 1) := by decide +kernel
theorem dX2_spend_20 : decode cX2_spend 20 = .ok (.aload_n 0, 1) := by decide +kernel
theorem dX2_spend_21 : decode cX2_spend 21 = .ok (.aload_n 1, 1) := by decide +kernel
theorem dX2_spend_22 : decode cX2_spend 22 = .ok (.aload_n 1, 1) := by decide +kernel
theorem dX2_spend_23 : decode cX2_spend 23 = .ok (.invokevirtual 70, 3) := by decide +kernel
theorem dX2_spend_26 : decode cX2_spend 26 = .ok (.invokevirtual 74, 3) := by decide +kernel
theorem dX2_spend_29 : decode cX2_spend 29 = .ok (.iconst 0, 1) := by decide +kernel
theorem dX2_spend_30 : decode cX2_spend 30 = .ok (.ireturn, 1) := by decide +kernel
theorem dX2_passIn_0 : decode cX2_passIn 0 = .ok (.aload_n 1, 1) := by decide +kernel
theorem dX2_passIn_1 : decode cX2_passIn 1 = .ok (.aload_n 1, 1) := by decide +kernel
theorem dX2_passIn_2 : decode cX2_passIn 2 = .ok (.getfield 52, 3) := by decide +kernel
theorem dX2_passIn_5 : decode cX2_passIn 5 = .ok (.invokevirtual 78, 3) := by decide +kernel
theorem dX2_passIn_8 : decode cX2_passIn 8 = .ok (.invokevirtual 82, 3) := by decide +kernel
theorem dX2_passIn_11 : decode cX2_passIn 11 = .ok (.pop, 1) := by decide +kernel
theorem dX2_passIn_12 : decode cX2_passIn 12 = .ok (.aload_n 1, 1) := by decide +kernel
theorem dX2_passIn_13 : decode cX2_passIn 13 = .ok (.getfield 52, 3) := by decide +kernel
theorem dX2_passIn_16 : decode cX2_passIn 16 = .ok (.getfield 86, 3) := by decide +kernel
theorem dX2_passIn_19 : decode cX2_passIn 19 = .ok (.iconst 2, 1) := by decide +kernel
theorem dX2_passIn_20 : decode cX2_passIn 20 = .ok (.if_icmp .lt 12, 3) := by decide +kernel
theorem dX2_passIn_23 : decode cX2_passIn 23 = .ok (.aload_n 0, 1) := by decide +kernel
theorem dX2_passIn_24 : decode cX2_passIn 24 = .ok (.aload_n 1, 1) := by decide +kernel
theorem dX2_passIn_25 : decode cX2_passIn 25 = .ok (.aload_n 1, 1) := by decide +kernel
theorem dX2_passIn_26 : decode cX2_passIn 26 = .ok (.invokevirtual 89, 3) := by decide +kernel
theorem dX2_passIn_29 : decode cX2_passIn 29 = .ok (.invokevirtual 74, 3) := by decide +kernel
theorem dX2_passIn_32 : decode cX2_passIn 32 = .ok (.return_, 1) := by decide +kernel
theorem dX2_end_0 : decode cX2_end 0 = .ok (.aload_n 1, 1) := by decide +kernel
theorem dX2_end_1 : decode cX2_end 1 = .ok (.iload_n 2, 1) := by decide +kernel
theorem dX2_end_2 : decode cX2_end 2 = .ok (.putfield 92, 3) := by decide +kernel
theorem dX2_end_5 : decode cX2_end 5 = .ok (.aload_n 0, 1) := by decide +kernel
theorem dX2_end_6 : decode cX2_end 6 = .ok (.getfield 35, 3) := by decide +kernel
theorem dX2_end_9 : decode cX2_end 9 = .ok (.ifCond .lt 35, 3) := by decide +kernel
theorem dX2_end_12 : decode cX2_end 12 = .ok (.aload_n 0, 1) := by decide +kernel
theorem dX2_end_13 : decode cX2_end 13 = .ok (.getfield 35, 3) := by decide +kernel
theorem dX2_end_16 : decode cX2_end 16 = .ok (.aload_n 0, 1) := by decide +kernel
theorem dX2_end_17 : decode cX2_end 17 = .ok (.getfield 21, 3) := by decide +kernel
theorem dX2_end_20 : decode cX2_end 20 = .ok (.arraylength, 1) := by decide +kernel
theorem dX2_end_21 : decode cX2_end 21 = .ok (.if_icmp .ge 23, 3) := by decide +kernel
theorem dX2_end_24 : decode cX2_end 24 = .ok (.aload_n 0, 1) := by decide +kernel
theorem dX2_end_25 : decode cX2_end 25 = .ok (.getfield 21, 3) := by decide +kernel
theorem dX2_end_28 : decode cX2_end 28 = .ok (.aload_n 0, 1) := by decide +kernel
theorem dX2_end_29 : decode cX2_end 29 = .ok (.getfield 35, 3) := by decide +kernel
theorem dX2_end_32 : decode cX2_end 32 = .ok (.aload_n 1, 1) := by decide +kernel
theorem dX2_end_33 : decode cX2_end 33 = .ok (.aastore, 1) := by decide +kernel
theorem dX2_end_34 : decode cX2_end 34 = .ok (.aload_n 0, 1) := by decide +kernel
theorem dX2_end_35 : decode cX2_end 35 = .ok (.dup, 1) := by decide +kernel
theorem dX2_end_36 : decode cX2_end 36 = .ok (.getfield 35, 3) := by decide +kernel
theorem dX2_end_39 : decode cX2_end 39 = .ok (.iconst 1, 1) := by decide +kernel
theorem dX2_end_40 : decode cX2_end 40 = .ok (.iadd, 1) := by decide +kernel
theorem dX2_end_41 : decode cX2_end 41 = .ok (.putfield 35, 3) := by decide +kernel
theorem dX2_end_44 : decode cX2_end 44 = .ok (.return_, 1) := by decide +kernel
theorem dX2_standing_0 : decode cX2_standing 0 = .ok (.iload_n 1, 1) := by decide +kernel
theorem dX2_standing_1 : decode cX2_standing 1 = .ok (.ifCond .lt 12, 3) := by decide +kernel
theorem dX2_standing_4 : decode cX2_standing 4 = .ok (.iload_n 1, 1) := by decide +kernel
theorem dX2_standing_5 : decode cX2_standing 5 = .ok (.aload_n 0, 1) := by decide +kernel
theorem dX2_standing_6 : decode cX2_standing 6 = .ok (.getfield 9, 3) := by decide +kernel
theorem dX2_standing_9 : decode cX2_standing 9 = .ok (.arraylength, 1) := by decide +kernel
theorem dX2_standing_10 : decode cX2_standing 10 = .ok (.if_icmp .lt 7, 3) := by decide +kernel
theorem dX2_standing_13 : decode cX2_standing 13 = .ok (.iconst 0, 1) := by decide +kernel
theorem dX2_standing_14 : decode cX2_standing 14 = .ok (.goto 9, 3) := by decide +kernel
theorem dX2_standing_17 : decode cX2_standing 17 = .ok (.aload_n 0, 1) := by decide +kernel
theorem dX2_standing_18 : decode cX2_standing 18 = .ok (.getfield 9, 3) := by decide +kernel
theorem dX2_standing_21 : decode cX2_standing 21 = .ok (.iload_n 1, 1) := by decide +kernel
theorem dX2_standing_22 : decode cX2_standing 22 = .ok (.iaload, 1) := by decide +kernel
theorem dX2_standing_23 : decode cX2_standing 23 = .ok (.istore_n 3, 1) := by decide +kernel
theorem dX2_standing_24 : decode cX2_standing 24 = .ok (.iconst 0, 1) := by decide +kernel
theorem dX2_standing_25 : decode cX2_standing 25 = .ok (.istore 4, 2) := by decide +kernel
theorem dX2_standing_27 : decode cX2_standing 27 = .ok (.iconst 0, 1) := by decide +kernel
theorem dX2_standing_28 : decode cX2_standing 28 = .ok (.istore 5, 2) := by decide +kernel
theorem dX2_standing_30 : decode cX2_standing 30 = .ok (.iload 5, 2) := by decide +kernel
theorem dX2_standing_32 : decode cX2_standing 32 = .ok (.iload_n 2, 1) := by decide +kernel
theorem dX2_standing_33 : decode cX2_standing 33 = .ok (.if_icmp .ge 115, 3) := by decide +kernel
theorem dX2_standing_36 : decode cX2_standing 36 = .ok (.iload 5, 2) := by decide +kernel
theorem dX2_standing_38 : decode cX2_standing 38 = .ok (.aload_n 0, 1) := by decide +kernel
theorem dX2_standing_39 : decode cX2_standing 39 = .ok (.getfield 21, 3) := by decide +kernel
theorem dX2_standing_42 : decode cX2_standing 42 = .ok (.arraylength, 1) := by decide +kernel
theorem dX2_standing_43 : decode cX2_standing 43 = .ok (.if_icmp .ge 105, 3) := by decide +kernel
theorem dX2_standing_46 : decode cX2_standing 46 = .ok (.aload_n 0, 1) := by decide +kernel
theorem dX2_standing_47 : decode cX2_standing 47 = .ok (.getfield 21, 3) := by decide +kernel
theorem dX2_standing_50 : decode cX2_standing 50 = .ok (.iload 5, 2) := by decide +kernel
theorem dX2_standing_52 : decode cX2_standing 52 = .ok (.aaload, 1) := by decide +kernel
theorem dX2_standing_53 : decode cX2_standing 53 = .ok (.astore 6, 2) := by decide +kernel
theorem dX2_standing_55 : decode cX2_standing 55 = .ok (.aload 6, 2) := by decide +kernel
theorem dX2_standing_57 : decode cX2_standing 57 = .ok (.ifnull 85, 3) := by decide +kernel
theorem dX2_standing_60 : decode cX2_standing 60 = .ok (.aload 6, 2) := by decide +kernel
theorem dX2_standing_62 : decode cX2_standing 62 = .ok (.getfield 95, 3) := by decide +kernel
theorem dX2_standing_65 : decode cX2_standing 65 = .ok (.ifCond .ne 77, 3) := by decide +kernel
theorem dX2_standing_68 : decode cX2_standing 68 = .ok (.aload 6, 2) := by decide +kernel
theorem dX2_standing_70 : decode cX2_standing 70 = .ok (.iload_n 1, 1) := by decide +kernel
theorem dX2_standing_71 : decode cX2_standing 71 = .ok (.invokevirtual 49, 3) := by decide +kernel
theorem dX2_standing_74 : decode cX2_standing 74 = .ok (.ifCond .ne 6, 3) := by decide +kernel
theorem dX2_standing_77 : decode cX2_standing 77 = .ok (.goto 65, 3) := by decide +kernel
theorem dX2_standing_80 : decode cX2_standing 80 = .ok (.aload 6, 2) := by decide +kernel
theorem dX2_standing_82 : decode cX2_standing 82 = .ok (.invokevirtual 99, 3) := by decide +kernel
theorem dX2_standing_85 : decode cX2_standing 85 = .ok (.iload_n 1, 1) := by decide +kernel
theorem dX2_standing_86 : decode cX2_standing 86 = .ok (.if_icmp .ne 14, 3) := by decide +kernel
theorem dX2_standing_89 : decode cX2_standing 89 = .ok (.iload 4, 2) := by decide +kernel
theorem dX2_standing_91 : decode cX2_standing 91 = .ok (.iconst 0, 1) := by decide +kernel
theorem dX2_standing_92 : decode cX2_standing 92 = .ok (.invokestatic 102, 3) := by decide +kernel
theorem dX2_standing_95 : decode cX2_standing 95 = .ok (.iconst 1, 1) := by decide +kernel
theorem dX2_standing_96 : decode cX2_standing 96 = .ok (.iadd, 1) := by decide +kernel
theorem dX2_standing_97 : decode cX2_standing 97 = .ok (.goto 11, 3) := by decide +kernel
theorem dX2_standing_100 : decode cX2_standing 100 = .ok (.iload 4, 2) := by decide +kernel
theorem dX2_standing_102 : decode cX2_standing 102 = .ok (.iconst 0, 1) := by decide +kernel
theorem dX2_standing_103 : decode cX2_standing 103 = .ok (.invokestatic 108, 3) := by decide +kernel
theorem dX2_standing_106 : decode cX2_standing 106 = .ok (.iconst 1, 1) := by decide +kernel
theorem dX2_standing_107 : decode cX2_standing 107 = .ok (.isub, 1) := by decide +kernel
theorem dX2_standing_108 : decode cX2_standing 108 = .ok (.istore 4, 2) := by decide +kernel
theorem dX2_standing_110 : decode cX2_standing 110 = .ok (.iload 4, 2) := by decide +kernel
theorem dX2_standing_112 : decode cX2_standing 112 = .ok (.iconst 3, 1) := by decide +kernel
theorem dX2_standing_113 : decode cX2_standing 113 = .ok (.if_icmp .eq 10, 3) := by decide +kernel
theorem dX2_standing_116 : decode cX2_standing 116 = .ok (.iload 4, 2) := by decide +kernel
theorem dX2_standing_118 : decode cX2_standing 118 = .ok (.bipush (-3), 2) := by decide +kernel
theorem dX2_standing_120 : decode cX2_standing 120 = .ok (.if_icmp .ne 22, 3) := by decide +kernel
theorem dX2_standing_123 : decode cX2_standing 123 = .ok (.iconst 0, 1) := by decide +kernel
theorem dX2_standing_124 : decode cX2_standing 124 = .ok (.bipush 20, 2) := by decide +kernel
theorem dX2_standing_126 : decode cX2_standing 126 = .ok (.iload_n 3, 1) := by decide +kernel
theorem dX2_standing_127 : decode cX2_standing 127 = .ok (.iload 4, 2) := by decide +kernel
theorem dX2_standing_129 : decode cX2_standing 129 = .ok (.iconst 3, 1) := by decide +kernel
theorem dX2_standing_130 : decode cX2_standing 130 = .ok (.idiv, 1) := by decide +kernel
theorem dX2_standing_131 : decode cX2_standing 131 = .ok (.iadd, 1) := by decide +kernel
theorem dX2_standing_132 : decode cX2_standing 132 = .ok (.invokestatic 108, 3) := by decide +kernel
theorem dX2_standing_135 : decode cX2_standing 135 = .ok (.invokestatic 102, 3) := by decide +kernel
theorem dX2_standing_138 : decode cX2_standing 138 = .ok (.istore_n 3, 1) := by decide +kernel
theorem dX2_standing_139 : decode cX2_standing 139 = .ok (.iconst 0, 1) := by decide +kernel
theorem dX2_standing_140 : decode cX2_standing 140 = .ok (.istore 4, 2) := by decide +kernel
theorem dX2_standing_142 : decode cX2_standing 142 = .ok (.iinc 5 1, 3) := by decide +kernel
theorem dX2_standing_145 : decode cX2_standing 145 = .ok (.goto (-115), 3) := by decide +kernel
theorem dX2_standing_148 : decode cX2_standing 148 = .ok (.bipush 10, 2) := by decide +kernel
theorem dX2_standing_150 : decode cX2_standing 150 = .ok (.iload_n 3, 1) := by decide +kernel
theorem dX2_standing_151 : decode cX2_standing 151 = .ok (.imul, 1) := by decide +kernel
theorem dX2_standing_152 : decode cX2_standing 152 = .ok (.iload 4, 2) := by decide +kernel
theorem dX2_standing_154 : decode cX2_standing 154 = .ok (.ifCond .ge 10, 3) := by decide +kernel
theorem dX2_standing_157 : decode cX2_standing 157 = .ok (.iconst 5, 1) := by decide +kernel
theorem dX2_standing_158 : decode cX2_standing 158 = .ok (.iload 4, 2) := by decide +kernel
theorem dX2_standing_160 : decode cX2_standing 160 = .ok (.isub, 1) := by decide +kernel
theorem dX2_standing_161 : decode cX2_standing 161 = .ok (.goto 5, 3) := by decide +kernel
theorem dX2_standing_164 : decode cX2_standing 164 = .ok (.iload 4, 2) := by decide +kernel
theorem dX2_standing_166 : decode cX2_standing 166 = .ok (.iadd, 1) := by decide +kernel
theorem dX2_standing_167 : decode cX2_standing 167 = .ok (.ireturn, 1) := by decide +kernel
theorem dX2_pairing_0 : decode cX2_pairing 0 = .ok (.aload_n 0, 1) := by decide +kernel
theorem dX2_pairing_1 : decode cX2_pairing 1 = .ok (.iload_n 1, 1) := by decide +kernel
theorem dX2_pairing_2 : decode cX2_pairing 2 = .ok (.iload_n 3, 1) := by decide +kernel
theorem dX2_pairing_3 : decode cX2_pairing 3 = .ok (.invokevirtual 111, 3) := by decide +kernel
theorem dX2_pairing_6 : decode cX2_pairing 6 = .ok (.bipush 10, 2) := by decide +kernel
theorem dX2_pairing_8 : decode cX2_pairing 8 = .ok (.idiv, 1) := by decide +kernel
theorem dX2_pairing_9 : decode cX2_pairing 9 = .ok (.istore 4, 2) := by decide +kernel
theorem dX2_pairing_11 : decode cX2_pairing 11 = .ok (.aload_n 0, 1) := by decide +kernel
theorem dX2_pairing_12 : decode cX2_pairing 12 = .ok (.iload_n 2, 1) := by decide +kernel
theorem dX2_pairing_13 : decode cX2_pairing 13 = .ok (.iload_n 3, 1) := by decide +kernel
theorem dX2_pairing_14 : decode cX2_pairing 14 = .ok (.invokevirtual 111, 3) := by decide +kernel
theorem dX2_pairing_17 : decode cX2_pairing 17 = .ok (.bipush 10, 2) := by decide +kernel
theorem dX2_pairing_19 : decode cX2_pairing 19 = .ok (.idiv, 1) := by decide +kernel
theorem dX2_pairing_20 : decode cX2_pairing 20 = .ok (.istore 5, 2) := by decide +kernel
theorem dX2_pairing_22 : decode cX2_pairing 22 = .ok (.iload 4, 2) := by decide +kernel
theorem dX2_pairing_24 : decode cX2_pairing 24 = .ok (.iload 5, 2) := by decide +kernel
theorem dX2_pairing_26 : decode cX2_pairing 26 = .ok (.if_icmp .gt 7, 3) := by decide +kernel
theorem dX2_pairing_29 : decode cX2_pairing 29 = .ok (.iconst 1, 1) := by decide +kernel
theorem dX2_pairing_30 : decode cX2_pairing 30 = .ok (.goto 4, 3) := by decide +kernel
theorem dX2_pairing_33 : decode cX2_pairing 33 = .ok (.iconst 0, 1) := by decide +kernel
theorem dX2_pairing_34 : decode cX2_pairing 34 = .ok (.istore 6, 2) := by decide +kernel
theorem dX2_pairing_36 : decode cX2_pairing 36 = .ok (.iload 6, 2) := by decide +kernel
theorem dX2_pairing_38 : decode cX2_pairing 38 = .ok (.ifCond .eq 7, 3) := by decide +kernel
theorem dX2_pairing_41 : decode cX2_pairing 41 = .ok (.iload_n 1, 1) := by decide +kernel
theorem dX2_pairing_42 : decode cX2_pairing 42 = .ok (.goto 4, 3) := by decide +kernel
theorem dX2_pairing_45 : decode cX2_pairing 45 = .ok (.iload_n 2, 1) := by decide +kernel
theorem dX2_pairing_46 : decode cX2_pairing 46 = .ok (.istore 7, 2) := by decide +kernel
theorem dX2_pairing_48 : decode cX2_pairing 48 = .ok (.iload 6, 2) := by decide +kernel
theorem dX2_pairing_50 : decode cX2_pairing 50 = .ok (.ifCond .eq 7, 3) := by decide +kernel
theorem dX2_pairing_53 : decode cX2_pairing 53 = .ok (.iload_n 2, 1) := by decide +kernel
theorem dX2_pairing_54 : decode cX2_pairing 54 = .ok (.goto 4, 3) := by decide +kernel
theorem dX2_pairing_57 : decode cX2_pairing 57 = .ok (.iload_n 1, 1) := by decide +kernel
theorem dX2_pairing_58 : decode cX2_pairing 58 = .ok (.istore 8, 2) := by decide +kernel
theorem dX2_pairing_60 : decode cX2_pairing 60 = .ok (.bipush 100, 2) := by decide +kernel
theorem dX2_pairing_62 : decode cX2_pairing 62 = .ok (.iload 7, 2) := by decide +kernel
theorem dX2_pairing_64 : decode cX2_pairing 64 = .ok (.imul, 1) := by decide +kernel
theorem dX2_pairing_65 : decode cX2_pairing 65 = .ok (.bipush 10, 2) := by decide +kernel
theorem dX2_pairing_67 : decode cX2_pairing 67 = .ok (.iload 8, 2) := by decide +kernel
theorem dX2_pairing_69 : decode cX2_pairing 69 = .ok (.imul, 1) := by decide +kernel
theorem dX2_pairing_70 : decode cX2_pairing 70 = .ok (.iadd, 1) := by decide +kernel
theorem dX2_pairing_71 : decode cX2_pairing 71 = .ok (.iconst 4, 1) := by decide +kernel
theorem dX2_pairing_72 : decode cX2_pairing 72 = .ok (.iload 4, 2) := by decide +kernel
theorem dX2_pairing_74 : decode cX2_pairing 74 = .ok (.iload 5, 2) := by decide +kernel
theorem dX2_pairing_76 : decode cX2_pairing 76 = .ok (.isub, 1) := by decide +kernel
theorem dX2_pairing_77 : decode cX2_pairing 77 = .ok (.invokestatic 114, 3) := by decide +kernel
theorem dX2_pairing_80 : decode cX2_pairing 80 = .ok (.invokestatic 108, 3) := by decide +kernel
theorem dX2_pairing_83 : decode cX2_pairing 83 = .ok (.iadd, 1) := by decide +kernel
theorem dX2_pairing_84 : decode cX2_pairing 84 = .ok (.ireturn, 1) := by decide +kernel
theorem dX2_duePairing_0 : decode cX2_duePairing 0 = .ok (.aload_n 0, 1) := by decide +kernel
theorem dX2_duePairing_1 : decode cX2_duePairing 1 = .ok (.aload_n 1, 1) := by decide +kernel
theorem dX2_duePairing_2 : decode cX2_duePairing 2 = .ok (.getfield 118, 3) := by decide +kernel
theorem dX2_duePairing_5 : decode cX2_duePairing 5 = .ok (.aload_n 1, 1) := by decide +kernel
theorem dX2_duePairing_6 : decode cX2_duePairing 6 = .ok (.getfield 121, 3) := by decide +kernel
theorem dX2_duePairing_9 : decode cX2_duePairing 9 = .ok (.aload_n 1, 1) := by decide +kernel
theorem dX2_duePairing_10 : decode cX2_duePairing 10 = .ok (.getfield 124, 3) := by decide +kernel
theorem dX2_duePairing_13 : decode cX2_duePairing 13 = .ok (.invokevirtual 38, 3) := by decide +kernel
theorem dX2_duePairing_16 : decode cX2_duePairing 16 = .ok (.ireturn, 1) := by decide +kernel
theorem dX2_isOff_0 : decode cX2_isOff 0 = .ok (.aload_n 1, 1) := by decide +kernel
theorem dX2_isOff_1 : decode cX2_isOff 1 = .ok (.getfield 95, 3) := by decide +kernel
theorem dX2_isOff_4 : decode cX2_isOff 4 = .ok (.ifCond .ne 19, 3) := by decide +kernel
theorem dX2_isOff_7 : decode cX2_isOff 7 = .ok (.aload_n 1, 1) := by decide +kernel
theorem dX2_isOff_8 : decode cX2_isOff 8 = .ok (.getfield 127, 3) := by decide +kernel
theorem dX2_isOff_11 : decode cX2_isOff 11 = .ok (.aload_n 0, 1) := by decide +kernel
theorem dX2_isOff_12 : decode cX2_isOff 12 = .ok (.aload_n 1, 1) := by decide +kernel
theorem dX2_isOff_13 : decode cX2_isOff 13 = .ok (.invokevirtual 129, 3) := by decide +kernel
theorem dX2_isOff_16 : decode cX2_isOff 16 = .ok (.if_icmp .eq 7, 3) := by decide +kernel
theorem dX2_isOff_19 : decode cX2_isOff 19 = .ok (.iconst 1, 1) := by decide +kernel
theorem dX2_isOff_20 : decode cX2_isOff 20 = .ok (.goto 4, 3) := by decide +kernel
theorem dX2_isOff_23 : decode cX2_isOff 23 = .ok (.iconst 0, 1) := by decide +kernel
theorem dX2_isOff_24 : decode cX2_isOff 24 = .ok (.ireturn, 1) := by decide +kernel
theorem dX2_offSet_0 : decode cX2_offSet 0 = .ok (.iconst 0, 1) := by decide +kernel
theorem dX2_offSet_1 : decode cX2_offSet 1 = .ok (.istore_n 1, 1) := by decide +kernel
theorem dX2_offSet_2 : decode cX2_offSet 2 = .ok (.iconst 0, 1) := by decide +kernel
theorem dX2_offSet_3 : decode cX2_offSet 3 = .ok (.istore_n 2, 1) := by decide +kernel
theorem dX2_offSet_4 : decode cX2_offSet 4 = .ok (.iload_n 2, 1) := by decide +kernel
theorem dX2_offSet_5 : decode cX2_offSet 5 = .ok (.aload_n 0, 1) := by decide +kernel
theorem dX2_offSet_6 : decode cX2_offSet 6 = .ok (.getfield 17, 3) := by decide +kernel
theorem dX2_offSet_9 : decode cX2_offSet 9 = .ok (.arraylength, 1) := by decide +kernel
theorem dX2_offSet_10 : decode cX2_offSet 10 = .ok (.if_icmp .ge 34, 3) := by decide +kernel
theorem dX2_offSet_13 : decode cX2_offSet 13 = .ok (.aload_n 0, 1) := by decide +kernel
theorem dX2_offSet_14 : decode cX2_offSet 14 = .ok (.getfield 17, 3) := by decide +kernel
theorem dX2_offSet_17 : decode cX2_offSet 17 = .ok (.iload_n 2, 1) := by decide +kernel
theorem dX2_offSet_18 : decode cX2_offSet 18 = .ok (.aaload, 1) := by decide +kernel
theorem dX2_offSet_19 : decode cX2_offSet 19 = .ok (.astore_n 3, 1) := by decide +kernel
theorem dX2_offSet_20 : decode cX2_offSet 20 = .ok (.aload_n 3, 1) := by decide +kernel
theorem dX2_offSet_21 : decode cX2_offSet 21 = .ok (.ifnull 17, 3) := by decide +kernel
theorem dX2_offSet_24 : decode cX2_offSet 24 = .ok (.aload_n 0, 1) := by decide +kernel
theorem dX2_offSet_25 : decode cX2_offSet 25 = .ok (.aload_n 3, 1) := by decide +kernel
theorem dX2_offSet_26 : decode cX2_offSet 26 = .ok (.invokevirtual 133, 3) := by decide +kernel
theorem dX2_offSet_29 : decode cX2_offSet 29 = .ok (.ifCond .eq 9, 3) := by decide +kernel
theorem dX2_offSet_32 : decode cX2_offSet 32 = .ok (.iload_n 1, 1) := by decide +kernel
theorem dX2_offSet_33 : decode cX2_offSet 33 = .ok (.iconst 1, 1) := by decide +kernel
theorem dX2_offSet_34 : decode cX2_offSet 34 = .ok (.iload_n 2, 1) := by decide +kernel
theorem dX2_offSet_35 : decode cX2_offSet 35 = .ok (.ishl, 1) := by decide +kernel
theorem dX2_offSet_36 : decode cX2_offSet 36 = .ok (.ior, 1) := by decide +kernel
theorem dX2_offSet_37 : decode cX2_offSet 37 = .ok (.istore_n 1, 1) := by decide +kernel
theorem dX2_offSet_38 : decode cX2_offSet 38 = .ok (.iinc 2 1, 3) := by decide +kernel
theorem dX2_offSet_41 : decode cX2_offSet 41 = .ok (.goto (-37), 3) := by decide +kernel
theorem dX2_offSet_44 : decode cX2_offSet 44 = .ok (.iload_n 1, 1) := by decide +kernel
theorem dX2_offSet_45 : decode cX2_offSet 45 = .ok (.ireturn, 1) := by decide +kernel
theorem dX2_lowestOff_0 : decode cX2_lowestOff 0 = .ok (.iconst 0, 1) := by decide +kernel
theorem dX2_lowestOff_1 : decode cX2_lowestOff 1 = .ok (.istore_n 1, 1) := by decide +kernel
theorem dX2_lowestOff_2 : decode cX2_lowestOff 2 = .ok (.iload_n 1, 1) := by decide +kernel
theorem dX2_lowestOff_3 : decode cX2_lowestOff 3 = .ok (.aload_n 0, 1) := by decide +kernel
theorem dX2_lowestOff_4 : decode cX2_lowestOff 4 = .ok (.getfield 17, 3) := by decide +kernel
theorem dX2_lowestOff_7 : decode cX2_lowestOff 7 = .ok (.arraylength, 1) := by decide +kernel
theorem dX2_lowestOff_8 : decode cX2_lowestOff 8 = .ok (.if_icmp .ge 30, 3) := by decide +kernel
theorem dX2_lowestOff_11 : decode cX2_lowestOff 11 = .ok (.aload_n 0, 1) := by decide +kernel
theorem dX2_lowestOff_12 : decode cX2_lowestOff 12 = .ok (.getfield 17, 3) := by decide +kernel
theorem dX2_lowestOff_15 : decode cX2_lowestOff 15 = .ok (.iload_n 1, 1) := by decide +kernel
theorem dX2_lowestOff_16 : decode cX2_lowestOff 16 = .ok (.aaload, 1) := by decide +kernel
theorem dX2_lowestOff_17 : decode cX2_lowestOff 17 = .ok (.astore_n 2, 1) := by decide +kernel
theorem dX2_lowestOff_18 : decode cX2_lowestOff 18 = .ok (.aload_n 2, 1) := by decide +kernel
theorem dX2_lowestOff_19 : decode cX2_lowestOff 19 = .ok (.ifnull 13, 3) := by decide +kernel
theorem dX2_lowestOff_22 : decode cX2_lowestOff 22 = .ok (.aload_n 0, 1) := by decide +kernel
theorem dX2_lowestOff_23 : decode cX2_lowestOff 23 = .ok (.aload_n 2, 1) := by decide +kernel
theorem dX2_lowestOff_24 : decode cX2_lowestOff 24 = .ok (.invokevirtual 133, 3) := by decide +kernel
theorem dX2_lowestOff_27 : decode cX2_lowestOff 27 = .ok (.ifCond .eq 5, 3) := by decide +kernel
theorem dX2_lowestOff_30 : decode cX2_lowestOff 30 = .ok (.aload_n 2, 1) := by decide +kernel
theorem dX2_lowestOff_31 : decode cX2_lowestOff 31 = .ok (.areturn, 1) := by decide +kernel
theorem dX2_lowestOff_32 : decode cX2_lowestOff 32 = .ok (.iinc 1 1, 3) := by decide +kernel
theorem dX2_lowestOff_35 : decode cX2_lowestOff 35 = .ok (.goto (-33), 3) := by decide +kernel
theorem dX2_lowestOff_38 : decode cX2_lowestOff 38 = .ok (.aconst_null, 1) := by decide +kernel
theorem dX2_lowestOff_39 : decode cX2_lowestOff 39 = .ok (.areturn, 1) := by decide +kernel
theorem dX2_annulWhileOff_0 : decode cX2_annulWhileOff 0 = .ok (.iconst 0, 1) := by decide +kernel
theorem dX2_annulWhileOff_1 : decode cX2_annulWhileOff 1 = .ok (.istore_n 1, 1) := by decide +kernel
theorem dX2_annulWhileOff_2 : decode cX2_annulWhileOff 2 = .ok (.iload_n 1, 1) := by decide +kernel
theorem dX2_annulWhileOff_3 : decode cX2_annulWhileOff 3 = .ok (.aload_n 0, 1) := by decide +kernel
theorem dX2_annulWhileOff_4 : decode cX2_annulWhileOff 4 = .ok (.getfield 17, 3) := by decide +kernel
theorem dX2_annulWhileOff_7 : decode cX2_annulWhileOff 7 = .ok (.arraylength, 1) := by decide +kernel
theorem dX2_annulWhileOff_8 : decode cX2_annulWhileOff 8 = .ok (.if_icmp .ge 24, 3) := by decide +kernel
theorem dX2_annulWhileOff_11 : decode cX2_annulWhileOff 11 = .ok (.aload_n 0, 1) := by decide +kernel
theorem dX2_annulWhileOff_12 : decode cX2_annulWhileOff 12 = .ok (.invokevirtual 137, 3) := by decide +kernel
theorem dX2_annulWhileOff_15 : decode cX2_annulWhileOff 15 = .ok (.astore_n 2, 1) := by decide +kernel
theorem dX2_annulWhileOff_16 : decode cX2_annulWhileOff 16 = .ok (.aload_n 2, 1) := by decide +kernel
theorem dX2_annulWhileOff_17 : decode cX2_annulWhileOff 17 = .ok (.ifnonnull 5, 3) := by decide +kernel
theorem dX2_annulWhileOff_20 : decode cX2_annulWhileOff 20 = .ok (.iload_n 1, 1) := by decide +kernel
theorem dX2_annulWhileOff_21 : decode cX2_annulWhileOff 21 = .ok (.ireturn, 1) := by decide +kernel
theorem dX2_annulWhileOff_22 : decode cX2_annulWhileOff 22 = .ok (.aload_n 2, 1) := by decide +kernel
theorem dX2_annulWhileOff_23 : decode cX2_annulWhileOff 23 = .ok (.invokevirtual 141, 3) := by decide +kernel
theorem dX2_annulWhileOff_26 : decode cX2_annulWhileOff 26 = .ok (.iinc 1 1, 3) := by decide +kernel
theorem dX2_annulWhileOff_29 : decode cX2_annulWhileOff 29 = .ok (.goto (-27), 3) := by decide +kernel
theorem dX2_annulWhileOff_32 : decode cX2_annulWhileOff 32 = .ok (.aload_n 0, 1) := by decide +kernel
theorem dX2_annulWhileOff_33 : decode cX2_annulWhileOff 33 = .ok (.getfield 17, 3) := by decide +kernel
theorem dX2_annulWhileOff_36 : decode cX2_annulWhileOff 36 = .ok (.arraylength, 1) := by decide +kernel
theorem dX2_annulWhileOff_37 : decode cX2_annulWhileOff 37 = .ok (.ireturn, 1) := by decide +kernel
theorem dX3_init_0 : decode cX3_init 0 = .ok (.aload_n 0, 1) := by decide +kernel
theorem dX3_init_1 : decode cX3_init 1 = .ok (.invokespecial 3, 3) := by decide +kernel
theorem dX3_init_4 : decode cX3_init 4 = .ok (.aload_n 0, 1) := by decide +kernel
theorem dX3_init_5 : decode cX3_init 5 = .ok (.bipush 49, 2) := by decide +kernel
theorem dX3_init_7 : decode cX3_init 7 = .ok (.newarray .int, 2) := by decide +kernel
theorem dX3_init_9 : decode cX3_init 9 = .ok (.putfield 9, 3) := by decide +kernel
theorem dX3_init_12 : decode cX3_init 12 = .ok (.aload_n 0, 1) := by decide +kernel
theorem dX3_init_13 : decode cX3_init 13 = .ok (.iconst 0, 1) := by decide +kernel
theorem dX3_init_14 : decode cX3_init 14 = .ok (.putfield 15, 3) := by decide +kernel
theorem dX3_init_17 : decode cX3_init 17 = .ok (.aload_n 0, 1) := by decide +kernel
theorem dX3_init_18 : decode cX3_init 18 = .ok (.iload_n 1, 1) := by decide +kernel
theorem dX3_init_19 : decode cX3_init 19 = .ok (.putfield 19, 3) := by decide +kernel
theorem dX3_init_22 : decode cX3_init 22 = .ok (.aload_n 0, 1) := by decide +kernel
theorem dX3_init_23 : decode cX3_init 23 = .ok (.iload_n 2, 1) := by decide +kernel
theorem dX3_init_24 : decode cX3_init 24 = .ok (.putfield 22, 3) := by decide +kernel
theorem dX3_init_27 : decode cX3_init 27 = .ok (.aload_n 0, 1) := by decide +kernel
theorem dX3_init_28 : decode cX3_init 28 = .ok (.iload_n 3, 1) := by decide +kernel
theorem dX3_init_29 : decode cX3_init 29 = .ok (.putfield 25, 3) := by decide +kernel
theorem dX3_init_32 : decode cX3_init 32 = .ok (.aload_n 0, 1) := by decide +kernel
theorem dX3_init_33 : decode cX3_init 33 = .ok (.iload 4, 2) := by decide +kernel
theorem dX3_init_35 : decode cX3_init 35 = .ok (.putfield 28, 3) := by decide +kernel
theorem dX3_init_38 : decode cX3_init 38 = .ok (.aload_n 0, 1) := by decide +kernel
theorem dX3_init_39 : decode cX3_init 39 = .ok (.aload 5, 2) := by decide +kernel
theorem dX3_init_41 : decode cX3_init 41 = .ok (.putfield 31, 3) := by decide +kernel
theorem dX3_init_44 : decode cX3_init 44 = .ok (.aload_n 0, 1) := by decide +kernel
theorem dX3_init_45 : decode cX3_init 45 = .ok (.aload 6, 2) := by decide +kernel
theorem dX3_init_47 : decode cX3_init 47 = .ok (.putfield 35, 3) := by decide +kernel
theorem dX3_init_50 : decode cX3_init 50 = .ok (.aload_n 0, 1) := by decide +kernel
theorem dX3_init_51 : decode cX3_init 51 = .ok (.iload_n 3, 1) := by decide +kernel
theorem dX3_init_52 : decode cX3_init 52 = .ok (.bipush 10, 2) := by decide +kernel
theorem dX3_init_54 : decode cX3_init 54 = .ok (.irem, 1) := by decide +kernel
theorem dX3_init_55 : decode cX3_init 55 = .ok (.invokestatic 38, 3) := by decide +kernel
theorem dX3_init_58 : decode cX3_init 58 = .ok (.putfield 44, 3) := by decide +kernel
theorem dX3_init_61 : decode cX3_init 61 = .ok (.aload_n 0, 1) := by decide +kernel
theorem dX3_init_62 : decode cX3_init 62 = .ok (.aload_n 0, 1) := by decide +kernel
theorem dX3_init_63 : decode cX3_init 63 = .ok (.getfield 44, 3) := by decide +kernel
theorem dX3_init_66 : decode cX3_init 66 = .ok (.invokevirtual 48, 3) := by decide +kernel
theorem dX3_init_69 : decode cX3_init 69 = .ok (.invokevirtual 52, 3) := by decide +kernel
theorem dX3_init_72 : decode cX3_init 72 = .ok (.return_, 1) := by decide +kernel
theorem dX3_goesOn_0 : decode cX3_goesOn 0 = .ok (.aload_n 0, 1) := by decide +kernel
theorem dX3_goesOn_1 : decode cX3_goesOn 1 = .ok (.getfield 15, 3) := by decide +kernel
theorem dX3_goesOn_4 : decode cX3_goesOn 4 = .ok (.ifCond .ne 7, 3) := by decide +kernel
theorem dX3_goesOn_7 : decode cX3_goesOn 7 = .ok (.iconst 1, 1) := by decide +kernel
theorem dX3_goesOn_8 : decode cX3_goesOn 8 = .ok (.goto 4, 3) := by decide +kernel
theorem dX3_goesOn_11 : decode cX3_goesOn 11 = .ok (.iconst 0, 1) := by decide +kernel
theorem dX3_goesOn_12 : decode cX3_goesOn 12 = .ok (.ireturn, 1) := by decide +kernel
theorem dX3_isPlayedBy_0 : decode cX3_isPlayedBy 0 = .ok (.aload_n 0, 1) := by decide +kernel
theorem dX3_isPlayedBy_1 : decode cX3_isPlayedBy 1 = .ok (.getfield 19, 3) := by decide +kernel
theorem dX3_isPlayedBy_4 : decode cX3_isPlayedBy 4 = .ok (.iload_n 1, 1) := by decide +kernel
theorem dX3_isPlayedBy_5 : decode cX3_isPlayedBy 5 = .ok (.if_icmp .eq 11, 3) := by decide +kernel
theorem dX3_isPlayedBy_8 : decode cX3_isPlayedBy 8 = .ok (.aload_n 0, 1) := by decide +kernel
theorem dX3_isPlayedBy_9 : decode cX3_isPlayedBy 9 = .ok (.getfield 22, 3) := by decide +kernel
theorem dX3_isPlayedBy_12 : decode cX3_isPlayedBy 12 = .ok (.iload_n 1, 1) := by decide +kernel
theorem dX3_isPlayedBy_13 : decode cX3_isPlayedBy 13 = .ok (.if_icmp .ne 7, 3) := by decide +kernel
theorem dX3_isPlayedBy_16 : decode cX3_isPlayedBy 16 = .ok (.iconst 1, 1) := by decide +kernel
theorem dX3_isPlayedBy_17 : decode cX3_isPlayedBy 17 = .ok (.goto 4, 3) := by decide +kernel
theorem dX3_isPlayedBy_20 : decode cX3_isPlayedBy 20 = .ok (.iconst 0, 1) := by decide +kernel
theorem dX3_isPlayedBy_21 : decode cX3_isPlayedBy 21 = .ok (.ireturn, 1) := by decide +kernel
theorem dX3_winner_0 : decode cX3_winner 0 = .ok (.aload_n 0, 1) := by decide +kernel
theorem dX3_winner_1 : decode cX3_winner 1 = .ok (.getfield 15, 3) := by decide +kernel
theorem dX3_winner_4 : decode cX3_winner 4 = .ok (.iconst 1, 1) := by decide +kernel
theorem dX3_winner_5 : decode cX3_winner 5 = .ok (.if_icmp .ne 13, 3) := by decide +kernel
theorem dX3_winner_8 : decode cX3_winner 8 = .ok (.aload_n 0, 1) := by decide +kernel
theorem dX3_winner_9 : decode cX3_winner 9 = .ok (.getfield 25, 3) := by decide +kernel
theorem dX3_winner_12 : decode cX3_winner 12 = .ok (.bipush 100, 2) := by decide +kernel
theorem dX3_winner_14 : decode cX3_winner 14 = .ok (.idiv, 1) := by decide +kernel
theorem dX3_winner_15 : decode cX3_winner 15 = .ok (.goto 13, 3) := by decide +kernel
theorem dX3_winner_18 : decode cX3_winner 18 = .ok (.aload_n 0, 1) := by decide +kernel
theorem dX3_winner_19 : decode cX3_winner 19 = .ok (.getfield 25, 3) := by decide +kernel
theorem dX3_winner_22 : decode cX3_winner 22 = .ok (.bipush 10, 2) := by decide +kernel
theorem dX3_winner_24 : decode cX3_winner 24 = .ok (.idiv, 1) := by decide +kernel
theorem dX3_winner_25 : decode cX3_winner 25 = .ok (.bipush 10, 2) := by decide +kernel
theorem dX3_winner_27 : decode cX3_winner 27 = .ok (.irem, 1) := by decide +kernel
theorem dX3_winner_28 : decode cX3_winner 28 = .ok (.ireturn, 1) := by decide +kernel
theorem dX3_told_0 : decode cX3_told 0 = .ok (.aload_n 0, 1) := by decide +kernel
theorem dX3_told_1 : decode cX3_told 1 = .ok (.getfield 56, 3) := by decide +kernel
theorem dX3_told_4 : decode cX3_told 4 = .ok (.ifCond .eq 13, 3) := by decide +kernel
theorem dX3_told_7 : decode cX3_told 7 = .ok (.aload_n 0, 1) := by decide +kernel
theorem dX3_told_8 : decode cX3_told 8 = .ok (.getfield 15, 3) := by decide +kernel
theorem dX3_told_11 : decode cX3_told 11 = .ok (.bipush 10, 2) := by decide +kernel
theorem dX3_told_13 : decode cX3_told 13 = .ok (.iadd, 1) := by decide +kernel
theorem dX3_told_14 : decode cX3_told 14 = .ok (.goto 7, 3) := by decide +kernel
theorem dX3_told_17 : decode cX3_told 17 = .ok (.aload_n 0, 1) := by decide +kernel
theorem dX3_told_18 : decode cX3_told 18 = .ok (.getfield 15, 3) := by decide +kernel
theorem dX3_told_21 : decode cX3_told 21 = .ok (.ireturn, 1) := by decide +kernel
theorem dX3_wonAgainstMover_0 : decode cX3_wonAgainstMover 0 = .ok (.aload_n 0, 1) := by decide +kernel
theorem dX3_wonAgainstMover_1 : decode cX3_wonAgainstMover 1 = .ok (.getfield 44, 3) := by decide +kernel
theorem dX3_wonAgainstMover_4 : decode cX3_wonAgainstMover 4 = .ok (.getfield 60, 3) := by decide +kernel
theorem dX3_wonAgainstMover_7 : decode cX3_wonAgainstMover 7 = .ok (.ifCond .ne 7, 3) := by decide +kernel
theorem dX3_wonAgainstMover_10 : decode cX3_wonAgainstMover 10 = .ok (.iconst 2, 1) := by decide +kernel
theorem dX3_wonAgainstMover_11 : decode cX3_wonAgainstMover 11 = .ok (.goto 4, 3) := by decide +kernel
theorem dX3_wonAgainstMover_14 : decode cX3_wonAgainstMover 14 = .ok (.iconst 1, 1) := by decide +kernel
theorem dX3_wonAgainstMover_15 : decode cX3_wonAgainstMover 15 = .ok (.ireturn, 1) := by decide +kernel
theorem dX3_wonByCounting_0 : decode cX3_wonByCounting 0 = .ok (.aload_n 0, 1) := by decide +kernel
theorem dX3_wonByCounting_1 : decode cX3_wonByCounting 1 = .ok (.invokevirtual 63, 3) := by decide +kernel
theorem dX3_wonByCounting_4 : decode cX3_wonByCounting 4 = .ok (.ifCond .le 7, 3) := by decide +kernel
theorem dX3_wonByCounting_7 : decode cX3_wonByCounting 7 = .ok (.iconst 1, 1) := by decide +kernel
theorem dX3_wonByCounting_8 : decode cX3_wonByCounting 8 = .ok (.goto 4, 3) := by decide +kernel
theorem dX3_wonByCounting_11 : decode cX3_wonByCounting 11 = .ok (.iconst 2, 1) := by decide +kernel
theorem dX3_wonByCounting_12 : decode cX3_wonByCounting 12 = .ok (.ireturn, 1) := by decide +kernel
theorem dX3_lead_0 : decode cX3_lead 0 = .ok (.aload_n 0, 1) := by decide +kernel
theorem dX3_lead_1 : decode cX3_lead 1 = .ok (.getfield 25, 3) := by decide +kernel
theorem dX3_lead_4 : decode cX3_lead 4 = .ok (.bipush 10, 2) := by decide +kernel
theorem dX3_lead_6 : decode cX3_lead 6 = .ok (.irem, 1) := by decide +kernel
theorem dX3_lead_7 : decode cX3_lead 7 = .ok (.ifCond .ne 8, 3) := by decide +kernel
theorem dX3_lead_10 : decode cX3_lead 10 = .ok (.bipush 6, 2) := by decide +kernel
theorem dX3_lead_12 : decode cX3_lead 12 = .ok (.goto 4, 3) := by decide +kernel
theorem dX3_lead_15 : decode cX3_lead 15 = .ok (.iconst 0, 1) := by decide +kernel
theorem dX3_lead_16 : decode cX3_lead 16 = .ok (.istore_n 1, 1) := by decide +kernel
theorem dX3_lead_17 : decode cX3_lead 17 = .ok (.aload_n 0, 1) := by decide +kernel
theorem dX3_lead_18 : decode cX3_lead 18 = .ok (.getfield 44, 3) := by decide +kernel
theorem dX3_lead_21 : decode cX3_lead 21 = .ok (.getfield 67, 3) := by decide +kernel
theorem dX3_lead_24 : decode cX3_lead 24 = .ok (.aload_n 0, 1) := by decide +kernel
theorem dX3_lead_25 : decode cX3_lead 25 = .ok (.getfield 44, 3) := by decide +kernel
theorem dX3_lead_28 : decode cX3_lead 28 = .ok (.getfield 71, 3) := by decide +kernel
theorem dX3_lead_31 : decode cX3_lead 31 = .ok (.invokestatic 74, 3) := by decide +kernel
theorem dX3_lead_34 : decode cX3_lead 34 = .ok (.iload_n 1, 1) := by decide +kernel
theorem dX3_lead_35 : decode cX3_lead 35 = .ok (.isub, 1) := by decide +kernel
theorem dX3_lead_36 : decode cX3_lead 36 = .ok (.ireturn, 1) := by decide +kernel
theorem dX3_clockOf_0 : decode cX3_clockOf 0 = .ok (.iload_n 1, 1) := by decide +kernel
theorem dX3_clockOf_1 : decode cX3_clockOf 1 = .ok (.ifCond .ne 10, 3) := by decide +kernel
theorem dX3_clockOf_4 : decode cX3_clockOf 4 = .ok (.aload_n 0, 1) := by decide +kernel
theorem dX3_clockOf_5 : decode cX3_clockOf 5 = .ok (.getfield 31, 3) := by decide +kernel
theorem dX3_clockOf_8 : decode cX3_clockOf 8 = .ok (.goto 7, 3) := by decide +kernel
theorem dX3_clockOf_11 : decode cX3_clockOf 11 = .ok (.aload_n 0, 1) := by decide +kernel
theorem dX3_clockOf_12 : decode cX3_clockOf 12 = .ok (.getfield 35, 3) := by decide +kernel
theorem dX3_clockOf_15 : decode cX3_clockOf 15 = .ok (.areturn, 1) := by decide +kernel
theorem dX3_advance_0 : decode cX3_advance 0 = .ok (.aload_n 0, 1) := by decide +kernel
theorem dX3_advance_1 : decode cX3_advance 1 = .ok (.getfield 44, 3) := by decide +kernel
theorem dX3_advance_4 : decode cX3_advance 4 = .ok (.invokevirtual 48, 3) := by decide +kernel
theorem dX3_advance_7 : decode cX3_advance 7 = .ok (.aload_n 1, 1) := by decide +kernel
theorem dX3_advance_8 : decode cX3_advance 8 = .ok (.invokevirtual 48, 3) := by decide +kernel
theorem dX3_advance_11 : decode cX3_advance 11 = .ok (.lxor, 1) := by decide +kernel
theorem dX3_advance_12 : decode cX3_advance 12 = .ok (.lstore_n 2, 1) := by decide +kernel
theorem dX3_advance_13 : decode cX3_advance 13 = .ok (.aload_n 1, 1) := by decide +kernel
theorem dX3_advance_14 : decode cX3_advance 14 = .ok (.invokevirtual 48, 3) := by decide +kernel
theorem dX3_advance_17 : decode cX3_advance 17 = .ok (.lload_n 2, 1) := by decide +kernel
theorem dX3_advance_18 : decode cX3_advance 18 = .ok (.land, 1) := by decide +kernel
theorem dX3_advance_19 : decode cX3_advance 19 = .ok (.invokestatic 79, 3) := by decide +kernel
theorem dX3_advance_22 : decode cX3_advance 22 = .ok (.istore 4, 2) := by decide +kernel
theorem dX3_advance_24 : decode cX3_advance 24 = .ok (.aload_n 0, 1) := by decide +kernel
theorem dX3_advance_25 : decode cX3_advance 25 = .ok (.aload_n 1, 1) := by decide +kernel
theorem dX3_advance_26 : decode cX3_advance 26 = .ok (.putfield 44, 3) := by decide +kernel
theorem dX3_advance_29 : decode cX3_advance 29 = .ok (.aload_n 0, 1) := by decide +kernel
theorem dX3_advance_30 : decode cX3_advance 30 = .ok (.lload_n 2, 1) := by decide +kernel
theorem dX3_advance_31 : decode cX3_advance 31 = .ok (.invokevirtual 52, 3) := by decide +kernel
theorem dX3_advance_34 : decode cX3_advance 34 = .ok (.lload_n 2, 1) := by decide +kernel
theorem dX3_advance_35 : decode cX3_advance 35 = .ok (.invokestatic 79, 3) := by decide +kernel
theorem dX3_advance_38 : decode cX3_advance 38 = .ok (.iload 4, 2) := by decide +kernel
theorem dX3_advance_40 : decode cX3_advance 40 = .ok (.isub, 1) := by decide +kernel
theorem dX3_advance_41 : decode cX3_advance 41 = .ok (.ireturn, 1) := by decide +kernel
theorem dX3_annul_0 : decode cX3_annul 0 = .ok (.aload_n 0, 1) := by decide +kernel
theorem dX3_annul_1 : decode cX3_annul 1 = .ok (.iconst 1, 1) := by decide +kernel
theorem dX3_annul_2 : decode cX3_annul 2 = .ok (.putfield 56, 3) := by decide +kernel
theorem dX3_annul_5 : decode cX3_annul 5 = .ok (.aload_n 0, 1) := by decide +kernel
theorem dX3_annul_6 : decode cX3_annul 6 = .ok (.getfield 15, 3) := by decide +kernel
theorem dX3_annul_9 : decode cX3_annul 9 = .ok (.ifCond .ne 8, 3) := by decide +kernel
theorem dX3_annul_12 : decode cX3_annul 12 = .ok (.aload_n 0, 1) := by decide +kernel
theorem dX3_annul_13 : decode cX3_annul 13 = .ok (.iconst 2, 1) := by decide +kernel
theorem dX3_annul_14 : decode cX3_annul 14 = .ok (.putfield 15, 3) := by decide +kernel
theorem dX3_annul_17 : decode cX3_annul 17 = .ok (.return_, 1) := by decide +kernel
theorem dX3_keptLiberties_0 : decode cX3_keptLiberties 0 = .ok (.iload_n 1, 1) := by decide +kernel
theorem dX3_keptLiberties_1 : decode cX3_keptLiberties 1 = .ok (.ifCond .lt 12, 3) := by decide +kernel
theorem dX3_keptLiberties_4 : decode cX3_keptLiberties 4 = .ok (.iload_n 1, 1) := by decide +kernel
theorem dX3_keptLiberties_5 : decode cX3_keptLiberties 5 = .ok (.aload_n 0, 1) := by decide +kernel
theorem dX3_keptLiberties_6 : decode cX3_keptLiberties 6 = .ok (.getfield 9, 3) := by decide +kernel
theorem dX3_keptLiberties_9 : decode cX3_keptLiberties 9 = .ok (.arraylength, 1) := by decide +kernel
theorem dX3_keptLiberties_10 : decode cX3_keptLiberties 10 = .ok (.if_icmp .lt 7, 3) := by decide +kernel
theorem dX3_keptLiberties_13 : decode cX3_keptLiberties 13 = .ok (.iconst 0, 1) := by decide +kernel
theorem dX3_keptLiberties_14 : decode cX3_keptLiberties 14 = .ok (.goto 9, 3) := by decide +kernel
theorem dX3_keptLiberties_17 : decode cX3_keptLiberties 17 = .ok (.aload_n 0, 1) := by decide +kernel
theorem dX3_keptLiberties_18 : decode cX3_keptLiberties 18 = .ok (.getfield 9, 3) := by decide +kernel
theorem dX3_keptLiberties_21 : decode cX3_keptLiberties 21 = .ok (.iload_n 1, 1) := by decide +kernel
theorem dX3_keptLiberties_22 : decode cX3_keptLiberties 22 = .ok (.iaload, 1) := by decide +kernel
theorem dX3_keptLiberties_23 : decode cX3_keptLiberties 23 = .ok (.ireturn, 1) := by decide +kernel
theorem dX3_keepLiberties_0 : decode cX3_keepLiberties 0 = .ok (.aload_n 0, 1) := by decide +kernel
theorem dX3_keepLiberties_1 : decode cX3_keepLiberties 1 = .ok (.lload_n 1, 1) := by decide +kernel
theorem dX3_keepLiberties_2 : decode cX3_keepLiberties 2 = .ok (.iconst 0, 1) := by decide +kernel
theorem dX3_keepLiberties_3 : decode cX3_keepLiberties 3 = .ok (.invokevirtual 85, 3) := by decide +kernel
theorem dX3_keepLiberties_6 : decode cX3_keepLiberties 6 = .ok (.lload_n 1, 1) := by decide +kernel
theorem dX3_keepLiberties_7 : decode cX3_keepLiberties 7 = .ok (.lload_n 1, 1) := by decide +kernel
theorem dX3_keepLiberties_8 : decode cX3_keepLiberties 8 = .ok (.invokestatic 89, 3) := by decide +kernel
theorem dX3_keepLiberties_11 : decode cX3_keepLiberties 11 = .ok (.lor, 1) := by decide +kernel
theorem dX3_keepLiberties_12 : decode cX3_keepLiberties 12 = .ok (.lstore_n 3, 1) := by decide +kernel
theorem dX3_keepLiberties_13 : decode cX3_keepLiberties 13 = .ok (.iconst 0, 1) := by decide +kernel
theorem dX3_keepLiberties_14 : decode cX3_keepLiberties 14 = .ok (.istore 5, 2) := by decide +kernel
theorem dX3_keepLiberties_16 : decode cX3_keepLiberties 16 = .ok (.iload 5, 2) := by decide +kernel
theorem dX3_keepLiberties_18 : decode cX3_keepLiberties 18 = .ok (.bipush 49, 2) := by decide +kernel
theorem dX3_keepLiberties_20 : decode cX3_keepLiberties 20 = .ok (.if_icmp .ge 61, 3) := by decide +kernel
theorem dX3_keepLiberties_23 : decode cX3_keepLiberties 23 = .ok (.lload_n 3, 1) := by decide +kernel
theorem dX3_keepLiberties_24 : decode cX3_keepLiberties 24 = .ok (.lconst 1, 1) := by decide +kernel
theorem dX3_keepLiberties_25 : decode cX3_keepLiberties 25 = .ok (.iload 5, 2) := by decide +kernel
theorem dX3_keepLiberties_27 : decode cX3_keepLiberties 27 = .ok (.lshl, 1) := by decide +kernel
theorem dX3_keepLiberties_28 : decode cX3_keepLiberties 28 = .ok (.land, 1) := by decide +kernel
theorem dX3_keepLiberties_29 : decode cX3_keepLiberties 29 = .ok (.lconst 0, 1) := by decide +kernel
theorem dX3_keepLiberties_30 : decode cX3_keepLiberties 30 = .ok (.lcmp, 1) := by decide +kernel
theorem dX3_keepLiberties_31 : decode cX3_keepLiberties 31 = .ok (.ifCond .eq 44, 3) := by decide +kernel
theorem dX3_keepLiberties_34 : decode cX3_keepLiberties 34 = .ok (.aload_n 0, 1) := by decide +kernel
theorem dX3_keepLiberties_35 : decode cX3_keepLiberties 35 = .ok (.getfield 44, 3) := by decide +kernel
theorem dX3_keepLiberties_38 : decode cX3_keepLiberties 38 = .ok (.iload 5, 2) := by decide +kernel
theorem dX3_keepLiberties_40 : decode cX3_keepLiberties 40 = .ok (.invokevirtual 93, 3) := by decide +kernel
theorem dX3_keepLiberties_43 : decode cX3_keepLiberties 43 = .ok (.lstore 6, 2) := by decide +kernel
theorem dX3_keepLiberties_45 : decode cX3_keepLiberties 45 = .ok (.aload_n 0, 1) := by decide +kernel
theorem dX3_keepLiberties_46 : decode cX3_keepLiberties 46 = .ok (.lload 6, 2) := by decide +kernel
theorem dX3_keepLiberties_48 : decode cX3_keepLiberties 48 = .ok (.lload 6, 2) := by decide +kernel
theorem dX3_keepLiberties_50 : decode cX3_keepLiberties 50 = .ok (.aload_n 0, 1) := by decide +kernel
theorem dX3_keepLiberties_51 : decode cX3_keepLiberties 51 = .ok (.getfield 44, 3) := by decide +kernel
theorem dX3_keepLiberties_54 : decode cX3_keepLiberties 54 = .ok (.invokevirtual 48, 3) := by decide +kernel
theorem dX3_keepLiberties_57 : decode cX3_keepLiberties 57 = .ok (.invokestatic 97, 3) := by decide +kernel
theorem dX3_keepLiberties_60 : decode cX3_keepLiberties 60 = .ok (.invokestatic 79, 3) := by decide +kernel
theorem dX3_keepLiberties_63 : decode cX3_keepLiberties 63 = .ok (.invokevirtual 85, 3) := by decide +kernel
theorem dX3_keepLiberties_66 : decode cX3_keepLiberties 66 = .ok (.lload_n 3, 1) := by decide +kernel
theorem dX3_keepLiberties_67 : decode cX3_keepLiberties 67 = .ok (.lload 6, 2) := by decide +kernel
theorem dX3_keepLiberties_69 : decode cX3_keepLiberties 69 = .ok (.ldc2_w 101, 3) := by decide +kernel
theorem dX3_keepLiberties_72 : decode cX3_keepLiberties 72 = .ok (.lxor, 1) := by decide +kernel
theorem dX3_keepLiberties_73 : decode cX3_keepLiberties 73 = .ok (.land, 1) := by decide +kernel
theorem dX3_keepLiberties_74 : decode cX3_keepLiberties 74 = .ok (.lstore_n 3, 1) := by decide +kernel
theorem dX3_keepLiberties_75 : decode cX3_keepLiberties 75 = .ok (.iinc 5 1, 3) := by decide +kernel
theorem dX3_keepLiberties_78 : decode cX3_keepLiberties 78 = .ok (.goto (-62), 3) := by decide +kernel
theorem dX3_keepLiberties_81 : decode cX3_keepLiberties 81 = .ok (.return_, 1) := by decide +kernel
theorem dX3_keepForAll_0 : decode cX3_keepForAll 0 = .ok (.iconst 0, 1) := by decide +kernel
theorem dX3_keepForAll_1 : decode cX3_keepForAll 1 = .ok (.istore 4, 2) := by decide +kernel
theorem dX3_keepForAll_3 : decode cX3_keepForAll 3 = .ok (.iload 4, 2) := by decide +kernel
theorem dX3_keepForAll_5 : decode cX3_keepForAll 5 = .ok (.aload_n 0, 1) := by decide +kernel
theorem dX3_keepForAll_6 : decode cX3_keepForAll 6 = .ok (.getfield 9, 3) := by decide +kernel
theorem dX3_keepForAll_9 : decode cX3_keepForAll 9 = .ok (.arraylength, 1) := by decide +kernel
theorem dX3_keepForAll_10 : decode cX3_keepForAll 10 = .ok (.if_icmp .ge 28, 3) := by decide +kernel
theorem dX3_keepForAll_13 : decode cX3_keepForAll 13 = .ok (.lload_n 1, 1) := by decide +kernel
theorem dX3_keepForAll_14 : decode cX3_keepForAll 14 = .ok (.lconst 1, 1) := by decide +kernel
theorem dX3_keepForAll_15 : decode cX3_keepForAll 15 = .ok (.iload 4, 2) := by decide +kernel
theorem dX3_keepForAll_17 : decode cX3_keepForAll 17 = .ok (.lshl, 1) := by decide +kernel
theorem dX3_keepForAll_18 : decode cX3_keepForAll 18 = .ok (.land, 1) := by decide +kernel
theorem dX3_keepForAll_19 : decode cX3_keepForAll 19 = .ok (.lconst 0, 1) := by decide +kernel
theorem dX3_keepForAll_20 : decode cX3_keepForAll 20 = .ok (.lcmp, 1) := by decide +kernel
theorem dX3_keepForAll_21 : decode cX3_keepForAll 21 = .ok (.ifCond .eq 11, 3) := by decide +kernel
theorem dX3_keepForAll_24 : decode cX3_keepForAll 24 = .ok (.aload_n 0, 1) := by decide +kernel
theorem dX3_keepForAll_25 : decode cX3_keepForAll 25 = .ok (.getfield 9, 3) := by decide +kernel
theorem dX3_keepForAll_28 : decode cX3_keepForAll 28 = .ok (.iload 4, 2) := by decide +kernel
theorem dX3_keepForAll_30 : decode cX3_keepForAll 30 = .ok (.iload_n 3, 1) := by decide +kernel
theorem dX3_keepForAll_31 : decode cX3_keepForAll 31 = .ok (.iastore, 1) := by decide +kernel
theorem dX3_keepForAll_32 : decode cX3_keepForAll 32 = .ok (.iinc 4 1, 3) := by decide +kernel
theorem dX3_keepForAll_35 : decode cX3_keepForAll 35 = .ok (.goto (-32), 3) := by decide +kernel
theorem dX3_keepForAll_38 : decode cX3_keepForAll 38 = .ok (.return_, 1) := by decide +kernel
theorem dX4_init_0 : decode cX4_init 0 = .ok (.aload_n 0, 1) := by decide +kernel
theorem dX4_init_1 : decode cX4_init 1 = .ok (.invokespecial 3, 3) := by decide +kernel
theorem dX4_init_4 : decode cX4_init 4 = .ok (.aload_n 0, 1) := by decide +kernel
theorem dX4_init_5 : decode cX4_init 5 = .ok (.lload_n 1, 1) := by decide +kernel
theorem dX4_init_6 : decode cX4_init 6 = .ok (.putfield 9, 3) := by decide +kernel
theorem dX4_init_9 : decode cX4_init 9 = .ok (.aload_n 0, 1) := by decide +kernel
theorem dX4_init_10 : decode cX4_init 10 = .ok (.lload_n 3, 1) := by decide +kernel
theorem dX4_init_11 : decode cX4_init 11 = .ok (.putfield 15, 3) := by decide +kernel
theorem dX4_init_14 : decode cX4_init 14 = .ok (.aload_n 0, 1) := by decide +kernel
theorem dX4_init_15 : decode cX4_init 15 = .ok (.iload 5, 2) := by decide +kernel
theorem dX4_init_17 : decode cX4_init 17 = .ok (.putfield 18, 3) := by decide +kernel
theorem dX4_init_20 : decode cX4_init 20 = .ok (.aload_n 0, 1) := by decide +kernel
theorem dX4_init_21 : decode cX4_init 21 = .ok (.aload 7, 2) := by decide +kernel
theorem dX4_init_23 : decode cX4_init 23 = .ok (.ifnonnull 7, 3) := by decide +kernel
theorem dX4_init_26 : decode cX4_init 26 = .ok (.iconst 0, 1) := by decide +kernel
theorem dX4_init_27 : decode cX4_init 27 = .ok (.goto 10, 3) := by decide +kernel
theorem dX4_init_30 : decode cX4_init 30 = .ok (.aload 7, 2) := by decide +kernel
theorem dX4_init_32 : decode cX4_init 32 = .ok (.getfield 22, 3) := by decide +kernel
theorem dX4_init_35 : decode cX4_init 35 = .ok (.iconst 1, 1) := by decide +kernel
theorem dX4_init_36 : decode cX4_init 36 = .ok (.iadd, 1) := by decide +kernel
theorem dX4_init_37 : decode cX4_init 37 = .ok (.putfield 22, 3) := by decide +kernel
theorem dX4_init_40 : decode cX4_init 40 = .ok (.aload_n 0, 1) := by decide +kernel
theorem dX4_init_41 : decode cX4_init 41 = .ok (.iload 6, 2) := by decide +kernel
theorem dX4_init_43 : decode cX4_init 43 = .ok (.putfield 25, 3) := by decide +kernel
theorem dX4_init_46 : decode cX4_init 46 = .ok (.aload_n 0, 1) := by decide +kernel
theorem dX4_init_47 : decode cX4_init 47 = .ok (.aload 7, 2) := by decide +kernel
theorem dX4_init_49 : decode cX4_init 49 = .ok (.putfield 28, 3) := by decide +kernel
theorem dX4_init_52 : decode cX4_init 52 = .ok (.return_, 1) := by decide +kernel
theorem dX4_beginning_0 : decode cX4_beginning 0 = .ok (.iload_n 0, 1) := by decide +kernel
theorem dX4_beginning_1 : decode cX4_beginning 1 = .ok (.iconst 2, 1) := by decide +kernel
theorem dX4_beginning_2 : decode cX4_beginning 2 = .ok (.if_icmp .ge 16, 3) := by decide +kernel
theorem dX4_beginning_5 : decode cX4_beginning 5 = .ok (.new 10, 3) := by decide +kernel
theorem dX4_beginning_8 : decode cX4_beginning 8 = .ok (.dup, 1) := by decide +kernel
theorem dX4_beginning_9 : decode cX4_beginning 9 = .ok (.lconst 0, 1) := by decide +kernel
theorem dX4_beginning_10 : decode cX4_beginning 10 = .ok (.lconst 0, 1) := by decide +kernel
theorem dX4_beginning_11 : decode cX4_beginning 11 = .ok (.iconst 0, 1) := by decide +kernel
theorem dX4_beginning_12 : decode cX4_beginning 12 = .ok (.iconst 0, 1) := by decide +kernel
theorem dX4_beginning_13 : decode cX4_beginning 13 = .ok (.aconst_null, 1) := by decide +kernel
theorem dX4_beginning_14 : decode cX4_beginning 14 = .ok (.invokespecial 32, 3) := by decide +kernel
theorem dX4_beginning_17 : decode cX4_beginning 17 = .ok (.areturn, 1) := by decide +kernel
theorem dX4_beginning_18 : decode cX4_beginning 18 = .ok (.lconst 0, 1) := by decide +kernel
theorem dX4_beginning_19 : decode cX4_beginning 19 = .ok (.lstore_n 1, 1) := by decide +kernel
theorem dX4_beginning_20 : decode cX4_beginning 20 = .ok (.iconst 0, 1) := by decide +kernel
theorem dX4_beginning_21 : decode cX4_beginning 21 = .ok (.istore_n 3, 1) := by decide +kernel
theorem dX4_beginning_22 : decode cX4_beginning 22 = .ok (.iload_n 3, 1) := by decide +kernel
theorem dX4_beginning_23 : decode cX4_beginning 23 = .ok (.iload_n 0, 1) := by decide +kernel
theorem dX4_beginning_24 : decode cX4_beginning 24 = .ok (.if_icmp .ge 27, 3) := by decide +kernel
theorem dX4_beginning_27 : decode cX4_beginning 27 = .ok (.iload_n 3, 1) := by decide +kernel
theorem dX4_beginning_28 : decode cX4_beginning 28 = .ok (.getstatic 35, 3) := by decide +kernel
theorem dX4_beginning_31 : decode cX4_beginning 31 = .ok (.arraylength, 1) := by decide +kernel
theorem dX4_beginning_32 : decode cX4_beginning 32 = .ok (.if_icmp .ge 19, 3) := by decide +kernel
theorem dX4_beginning_35 : decode cX4_beginning 35 = .ok (.lload_n 1, 1) := by decide +kernel
theorem dX4_beginning_36 : decode cX4_beginning 36 = .ok (.lconst 1, 1) := by decide +kernel
theorem dX4_beginning_37 : decode cX4_beginning 37 = .ok (.getstatic 35, 3) := by decide +kernel
theorem dX4_beginning_40 : decode cX4_beginning 40 = .ok (.iload_n 3, 1) := by decide +kernel
theorem dX4_beginning_41 : decode cX4_beginning 41 = .ok (.iaload, 1) := by decide +kernel
theorem dX4_beginning_42 : decode cX4_beginning 42 = .ok (.lshl, 1) := by decide +kernel
theorem dX4_beginning_43 : decode cX4_beginning 43 = .ok (.lor, 1) := by decide +kernel
theorem dX4_beginning_44 : decode cX4_beginning 44 = .ok (.lstore_n 1, 1) := by decide +kernel
theorem dX4_beginning_45 : decode cX4_beginning 45 = .ok (.iinc 3 1, 3) := by decide +kernel
theorem dX4_beginning_48 : decode cX4_beginning 48 = .ok (.goto (-26), 3) := by decide +kernel
theorem dX4_beginning_51 : decode cX4_beginning 51 = .ok (.new 10, 3) := by decide +kernel
theorem dX4_beginning_54 : decode cX4_beginning 54 = .ok (.dup, 1) := by decide +kernel
theorem dX4_beginning_55 : decode cX4_beginning 55 = .ok (.lload_n 1, 1) := by decide +kernel
theorem dX4_beginning_56 : decode cX4_beginning 56 = .ok (.lconst 0, 1) := by decide +kernel
theorem dX4_beginning_57 : decode cX4_beginning 57 = .ok (.iconst 1, 1) := by decide +kernel
theorem dX4_beginning_58 : decode cX4_beginning 58 = .ok (.iconst 0, 1) := by decide +kernel
theorem dX4_beginning_59 : decode cX4_beginning 59 = .ok (.aconst_null, 1) := by decide +kernel
theorem dX4_beginning_60 : decode cX4_beginning 60 = .ok (.invokespecial 32, 3) := by decide +kernel
theorem dX4_beginning_63 : decode cX4_beginning 63 = .ok (.areturn, 1) := by decide +kernel
theorem dX4_withStone_0 : decode cX4_withStone 0 = .ok (.lconst 1, 1) := by decide +kernel
theorem dX4_withStone_1 : decode cX4_withStone 1 = .ok (.iload_n 1, 1) := by decide +kernel
theorem dX4_withStone_2 : decode cX4_withStone 2 = .ok (.lshl, 1) := by decide +kernel
theorem dX4_withStone_3 : decode cX4_withStone 3 = .ok (.lstore_n 2, 1) := by decide +kernel
theorem dX4_withStone_4 : decode cX4_withStone 4 = .ok (.aload_n 0, 1) := by decide +kernel
theorem dX4_withStone_5 : decode cX4_withStone 5 = .ok (.aload_n 0, 1) := by decide +kernel
theorem dX4_withStone_6 : decode cX4_withStone 6 = .ok (.getfield 18, 3) := by decide +kernel
theorem dX4_withStone_9 : decode cX4_withStone 9 = .ok (.invokevirtual 39, 3) := by decide +kernel
theorem dX4_withStone_12 : decode cX4_withStone 12 = .ok (.lstore 4, 2) := by decide +kernel
theorem dX4_withStone_14 : decode cX4_withStone 14 = .ok (.lload 4, 2) := by decide +kernel
theorem dX4_withStone_16 : decode cX4_withStone 16 = .ok (.aload_n 0, 1) := by decide +kernel
theorem dX4_withStone_17 : decode cX4_withStone 17 = .ok (.iconst 1, 1) := by decide +kernel
theorem dX4_withStone_18 : decode cX4_withStone 18 = .ok (.aload_n 0, 1) := by decide +kernel
theorem dX4_withStone_19 : decode cX4_withStone 19 = .ok (.getfield 18, 3) := by decide +kernel
theorem dX4_withStone_22 : decode cX4_withStone 22 = .ok (.isub, 1) := by decide +kernel
theorem dX4_withStone_23 : decode cX4_withStone 23 = .ok (.invokevirtual 39, 3) := by decide +kernel
theorem dX4_withStone_26 : decode cX4_withStone 26 = .ok (.lload_n 2, 1) := by decide +kernel
theorem dX4_withStone_27 : decode cX4_withStone 27 = .ok (.invokestatic 43, 3) := by decide +kernel
theorem dX4_withStone_30 : decode cX4_withStone 30 = .ok (.lstore 6, 2) := by decide +kernel
theorem dX4_withStone_32 : decode cX4_withStone 32 = .ok (.lload 6, 2) := by decide +kernel
theorem dX4_withStone_34 : decode cX4_withStone 34 = .ok (.ldc2_w 49, 3) := by decide +kernel
theorem dX4_withStone_37 : decode cX4_withStone 37 = .ok (.lcmp, 1) := by decide +kernel
theorem dX4_withStone_38 : decode cX4_withStone 38 = .ok (.ifCond .ne 5, 3) := by decide +kernel
theorem dX4_withStone_41 : decode cX4_withStone 41 = .ok (.aconst_null, 1) := by decide +kernel
theorem dX4_withStone_42 : decode cX4_withStone 42 = .ok (.areturn, 1) := by decide +kernel
theorem dX4_withStone_43 : decode cX4_withStone 43 = .ok (.lload 4, 2) := by decide +kernel
theorem dX4_withStone_45 : decode cX4_withStone 45 = .ok (.lload_n 2, 1) := by decide +kernel
theorem dX4_withStone_46 : decode cX4_withStone 46 = .ok (.lor, 1) := by decide +kernel
theorem dX4_withStone_47 : decode cX4_withStone 47 = .ok (.lstore 8, 2) := by decide +kernel
theorem dX4_withStone_49 : decode cX4_withStone 49 = .ok (.aload_n 0, 1) := by decide +kernel
theorem dX4_withStone_50 : decode cX4_withStone 50 = .ok (.getfield 18, 3) := by decide +kernel
theorem dX4_withStone_53 : decode cX4_withStone 53 = .ok (.ifCond .ne 8, 3) := by decide +kernel
theorem dX4_withStone_56 : decode cX4_withStone 56 = .ok (.lload 8, 2) := by decide +kernel
theorem dX4_withStone_58 : decode cX4_withStone 58 = .ok (.goto 5, 3) := by decide +kernel
theorem dX4_withStone_61 : decode cX4_withStone 61 = .ok (.lload 6, 2) := by decide +kernel
theorem dX4_withStone_63 : decode cX4_withStone 63 = .ok (.lstore 10, 2) := by decide +kernel
theorem dX4_withStone_65 : decode cX4_withStone 65 = .ok (.aload_n 0, 1) := by decide +kernel
theorem dX4_withStone_66 : decode cX4_withStone 66 = .ok (.getfield 18, 3) := by decide +kernel
theorem dX4_withStone_69 : decode cX4_withStone 69 = .ok (.ifCond .ne 8, 3) := by decide +kernel
theorem dX4_withStone_72 : decode cX4_withStone 72 = .ok (.lload 6, 2) := by decide +kernel
theorem dX4_withStone_74 : decode cX4_withStone 74 = .ok (.goto 5, 3) := by decide +kernel
theorem dX4_withStone_77 : decode cX4_withStone 77 = .ok (.lload 8, 2) := by decide +kernel
theorem dX4_withStone_79 : decode cX4_withStone 79 = .ok (.lstore 12, 2) := by decide +kernel
theorem dX4_withStone_81 : decode cX4_withStone 81 = .ok (.aload_n 0, 1) := by decide +kernel
theorem dX4_withStone_82 : decode cX4_withStone 82 = .ok (.lload 10, 2) := by decide +kernel
theorem dX4_withStone_84 : decode cX4_withStone 84 = .ok (.lload 12, 2) := by decide +kernel
theorem dX4_withStone_86 : decode cX4_withStone 86 = .ok (.invokevirtual 51, 3) := by decide +kernel
theorem dX4_withStone_89 : decode cX4_withStone 89 = .ok (.ifCond .eq 7, 3) := by decide +kernel
theorem dX4_withStone_92 : decode cX4_withStone 92 = .ok (.aconst_null, 1) := by decide +kernel
theorem dX4_withStone_93 : decode cX4_withStone 93 = .ok (.goto 22, 3) := by decide +kernel
theorem dX4_withStone_96 : decode cX4_withStone 96 = .ok (.new 10, 3) := by decide +kernel
theorem dX4_withStone_99 : decode cX4_withStone 99 = .ok (.dup, 1) := by decide +kernel
theorem dX4_withStone_100 : decode cX4_withStone 100 = .ok (.lload 10, 2) := by decide +kernel
theorem dX4_withStone_102 : decode cX4_withStone 102 = .ok (.lload 12, 2) := by decide +kernel
theorem dX4_withStone_104 : decode cX4_withStone 104 = .ok (.iconst 1, 1) := by decide +kernel
theorem dX4_withStone_105 : decode cX4_withStone 105 = .ok (.aload_n 0, 1) := by decide +kernel
theorem dX4_withStone_106 : decode cX4_withStone 106 = .ok (.getfield 18, 3) := by decide +kernel
theorem dX4_withStone_109 : decode cX4_withStone 109 = .ok (.isub, 1) := by decide +kernel
theorem dX4_withStone_110 : decode cX4_withStone 110 = .ok (.iconst 0, 1) := by decide +kernel
theorem dX4_withStone_111 : decode cX4_withStone 111 = .ok (.aload_n 0, 1) := by decide +kernel
theorem dX4_withStone_112 : decode cX4_withStone 112 = .ok (.invokespecial 32, 3) := by decide +kernel
theorem dX4_withStone_115 : decode cX4_withStone 115 = .ok (.areturn, 1) := by decide +kernel
theorem dX4_withPassing_0 : decode cX4_withPassing 0 = .ok (.new 10, 3) := by decide +kernel
theorem dX4_withPassing_3 : decode cX4_withPassing 3 = .ok (.dup, 1) := by decide +kernel
theorem dX4_withPassing_4 : decode cX4_withPassing 4 = .ok (.aload_n 0, 1) := by decide +kernel
theorem dX4_withPassing_5 : decode cX4_withPassing 5 = .ok (.getfield 9, 3) := by decide +kernel
theorem dX4_withPassing_8 : decode cX4_withPassing 8 = .ok (.aload_n 0, 1) := by decide +kernel
theorem dX4_withPassing_9 : decode cX4_withPassing 9 = .ok (.getfield 15, 3) := by decide +kernel
theorem dX4_withPassing_12 : decode cX4_withPassing 12 = .ok (.iconst 1, 1) := by decide +kernel
theorem dX4_withPassing_13 : decode cX4_withPassing 13 = .ok (.aload_n 0, 1) := by decide +kernel
theorem dX4_withPassing_14 : decode cX4_withPassing 14 = .ok (.getfield 18, 3) := by decide +kernel
theorem dX4_withPassing_17 : decode cX4_withPassing 17 = .ok (.isub, 1) := by decide +kernel
theorem dX4_withPassing_18 : decode cX4_withPassing 18 = .ok (.aload_n 0, 1) := by decide +kernel
theorem dX4_withPassing_19 : decode cX4_withPassing 19 = .ok (.getfield 25, 3) := by decide +kernel
theorem dX4_withPassing_22 : decode cX4_withPassing 22 = .ok (.iconst 1, 1) := by decide +kernel
theorem dX4_withPassing_23 : decode cX4_withPassing 23 = .ok (.iadd, 1) := by decide +kernel
theorem dX4_withPassing_24 : decode cX4_withPassing 24 = .ok (.aload_n 0, 1) := by decide +kernel
theorem dX4_withPassing_25 : decode cX4_withPassing 25 = .ok (.invokespecial 32, 3) := by decide +kernel
theorem dX4_withPassing_28 : decode cX4_withPassing 28 = .ok (.areturn, 1) := by decide +kernel
theorem dX4_wasThere_0 : decode cX4_wasThere 0 = .ok (.aload_n 0, 1) := by decide +kernel
theorem dX4_wasThere_1 : decode cX4_wasThere 1 = .ok (.astore 5, 2) := by decide +kernel
theorem dX4_wasThere_3 : decode cX4_wasThere 3 = .ok (.aload 5, 2) := by decide +kernel
theorem dX4_wasThere_5 : decode cX4_wasThere 5 = .ok (.ifnull 35, 3) := by decide +kernel
theorem dX4_wasThere_8 : decode cX4_wasThere 8 = .ok (.aload 5, 2) := by decide +kernel
theorem dX4_wasThere_10 : decode cX4_wasThere 10 = .ok (.getfield 9, 3) := by decide +kernel
theorem dX4_wasThere_13 : decode cX4_wasThere 13 = .ok (.lload_n 1, 1) := by decide +kernel
theorem dX4_wasThere_14 : decode cX4_wasThere 14 = .ok (.lcmp, 1) := by decide +kernel
theorem dX4_wasThere_15 : decode cX4_wasThere 15 = .ok (.ifCond .ne 15, 3) := by decide +kernel
theorem dX4_wasThere_18 : decode cX4_wasThere 18 = .ok (.aload 5, 2) := by decide +kernel
theorem dX4_wasThere_20 : decode cX4_wasThere 20 = .ok (.getfield 15, 3) := by decide +kernel
theorem dX4_wasThere_23 : decode cX4_wasThere 23 = .ok (.lload_n 3, 1) := by decide +kernel
theorem dX4_wasThere_24 : decode cX4_wasThere 24 = .ok (.lcmp, 1) := by decide +kernel
theorem dX4_wasThere_25 : decode cX4_wasThere 25 = .ok (.ifCond .ne 5, 3) := by decide +kernel
theorem dX4_wasThere_28 : decode cX4_wasThere 28 = .ok (.iconst 1, 1) := by decide +kernel
theorem dX4_wasThere_29 : decode cX4_wasThere 29 = .ok (.ireturn, 1) := by decide +kernel
theorem dX4_wasThere_30 : decode cX4_wasThere 30 = .ok (.aload 5, 2) := by decide +kernel
theorem dX4_wasThere_32 : decode cX4_wasThere 32 = .ok (.getfield 28, 3) := by decide +kernel
theorem dX4_wasThere_35 : decode cX4_wasThere 35 = .ok (.astore 5, 2) := by decide +kernel
theorem dX4_wasThere_37 : decode cX4_wasThere 37 = .ok (.goto (-34), 3) := by decide +kernel
theorem dX4_wasThere_40 : decode cX4_wasThere 40 = .ok (.iconst 0, 1) := by decide +kernel
theorem dX4_wasThere_41 : decode cX4_wasThere 41 = .ok (.ireturn, 1) := by decide +kernel
theorem dX4_behind_0 : decode cX4_behind 0 = .ok (.aload_n 0, 1) := by decide +kernel
theorem dX4_behind_1 : decode cX4_behind 1 = .ok (.astore_n 2, 1) := by decide +kernel
theorem dX4_behind_2 : decode cX4_behind 2 = .ok (.aload_n 2, 1) := by decide +kernel
theorem dX4_behind_3 : decode cX4_behind 3 = .ok (.ifnull 19, 3) := by decide +kernel
theorem dX4_behind_6 : decode cX4_behind 6 = .ok (.aload_n 2, 1) := by decide +kernel
theorem dX4_behind_7 : decode cX4_behind 7 = .ok (.getfield 22, 3) := by decide +kernel
theorem dX4_behind_10 : decode cX4_behind 10 = .ok (.iload_n 1, 1) := by decide +kernel
theorem dX4_behind_11 : decode cX4_behind 11 = .ok (.if_icmp .eq 11, 3) := by decide +kernel
theorem dX4_behind_14 : decode cX4_behind 14 = .ok (.aload_n 2, 1) := by decide +kernel
theorem dX4_behind_15 : decode cX4_behind 15 = .ok (.getfield 28, 3) := by decide +kernel
theorem dX4_behind_18 : decode cX4_behind 18 = .ok (.astore_n 2, 1) := by decide +kernel
theorem dX4_behind_19 : decode cX4_behind 19 = .ok (.goto (-17), 3) := by decide +kernel
theorem dX4_behind_22 : decode cX4_behind 22 = .ok (.aload_n 2, 1) := by decide +kernel
theorem dX4_behind_23 : decode cX4_behind 23 = .ok (.areturn, 1) := by decide +kernel
theorem dX4_stonesOf_0 : decode cX4_stonesOf 0 = .ok (.iload_n 1, 1) := by decide +kernel
theorem dX4_stonesOf_1 : decode cX4_stonesOf 1 = .ok (.ifCond .ne 10, 3) := by decide +kernel
theorem dX4_stonesOf_4 : decode cX4_stonesOf 4 = .ok (.aload_n 0, 1) := by decide +kernel
theorem dX4_stonesOf_5 : decode cX4_stonesOf 5 = .ok (.getfield 9, 3) := by decide +kernel
theorem dX4_stonesOf_8 : decode cX4_stonesOf 8 = .ok (.goto 7, 3) := by decide +kernel
theorem dX4_stonesOf_11 : decode cX4_stonesOf 11 = .ok (.aload_n 0, 1) := by decide +kernel
theorem dX4_stonesOf_12 : decode cX4_stonesOf 12 = .ok (.getfield 15, 3) := by decide +kernel
theorem dX4_stonesOf_15 : decode cX4_stonesOf 15 = .ok (.lreturn, 1) := by decide +kernel
theorem dX4_stones_0 : decode cX4_stones 0 = .ok (.aload_n 0, 1) := by decide +kernel
theorem dX4_stones_1 : decode cX4_stones 1 = .ok (.getfield 9, 3) := by decide +kernel
theorem dX4_stones_4 : decode cX4_stones 4 = .ok (.aload_n 0, 1) := by decide +kernel
theorem dX4_stones_5 : decode cX4_stones 5 = .ok (.getfield 15, 3) := by decide +kernel
theorem dX4_stones_8 : decode cX4_stones 8 = .ok (.lor, 1) := by decide +kernel
theorem dX4_stones_9 : decode cX4_stones 9 = .ok (.lreturn, 1) := by decide +kernel
theorem dX4_chainAt_0 : decode cX4_chainAt 0 = .ok (.lconst 1, 1) := by decide +kernel
theorem dX4_chainAt_1 : decode cX4_chainAt 1 = .ok (.iload_n 1, 1) := by decide +kernel
theorem dX4_chainAt_2 : decode cX4_chainAt 2 = .ok (.lshl, 1) := by decide +kernel
theorem dX4_chainAt_3 : decode cX4_chainAt 3 = .ok (.lstore_n 2, 1) := by decide +kernel
theorem dX4_chainAt_4 : decode cX4_chainAt 4 = .ok (.lload_n 2, 1) := by decide +kernel
theorem dX4_chainAt_5 : decode cX4_chainAt 5 = .ok (.aload_n 0, 1) := by decide +kernel
theorem dX4_chainAt_6 : decode cX4_chainAt 6 = .ok (.getfield 9, 3) := by decide +kernel
theorem dX4_chainAt_9 : decode cX4_chainAt 9 = .ok (.lload_n 2, 1) := by decide +kernel
theorem dX4_chainAt_10 : decode cX4_chainAt 10 = .ok (.land, 1) := by decide +kernel
theorem dX4_chainAt_11 : decode cX4_chainAt 11 = .ok (.lconst 0, 1) := by decide +kernel
theorem dX4_chainAt_12 : decode cX4_chainAt 12 = .ok (.lcmp, 1) := by decide +kernel
theorem dX4_chainAt_13 : decode cX4_chainAt 13 = .ok (.ifCond .eq 10, 3) := by decide +kernel
theorem dX4_chainAt_16 : decode cX4_chainAt 16 = .ok (.aload_n 0, 1) := by decide +kernel
theorem dX4_chainAt_17 : decode cX4_chainAt 17 = .ok (.getfield 9, 3) := by decide +kernel
theorem dX4_chainAt_20 : decode cX4_chainAt 20 = .ok (.goto 7, 3) := by decide +kernel
theorem dX4_chainAt_23 : decode cX4_chainAt 23 = .ok (.aload_n 0, 1) := by decide +kernel
theorem dX4_chainAt_24 : decode cX4_chainAt 24 = .ok (.getfield 15, 3) := by decide +kernel
theorem dX4_chainAt_27 : decode cX4_chainAt 27 = .ok (.invokestatic 55, 3) := by decide +kernel
theorem dX4_chainAt_30 : decode cX4_chainAt 30 = .ok (.lreturn, 1) := by decide +kernel
theorem dX4_countLiberties_0 : decode cX4_countLiberties 0 = .ok (.aload_n 0, 1) := by decide +kernel
theorem dX4_countLiberties_1 : decode cX4_countLiberties 1 = .ok (.iload_n 1, 1) := by decide +kernel
theorem dX4_countLiberties_2 : decode cX4_countLiberties 2 = .ok (.invokevirtual 59, 3) := by decide +kernel
theorem dX4_countLiberties_5 : decode cX4_countLiberties 5 = .ok (.aload_n 0, 1) := by decide +kernel
theorem dX4_countLiberties_6 : decode cX4_countLiberties 6 = .ok (.invokevirtual 62, 3) := by decide +kernel
theorem dX4_countLiberties_9 : decode cX4_countLiberties 9 = .ok (.invokestatic 66, 3) := by decide +kernel
theorem dX4_countLiberties_12 : decode cX4_countLiberties 12 = .ok (.invokestatic 69, 3) := by decide +kernel
theorem dX4_countLiberties_15 : decode cX4_countLiberties 15 = .ok (.ireturn, 1) := by decide +kernel
theorem dX4_signAt_0 : decode cX4_signAt 0 = .ok (.lconst 1, 1) := by decide +kernel
theorem dX4_signAt_1 : decode cX4_signAt 1 = .ok (.iload_n 1, 1) := by decide +kernel
theorem dX4_signAt_2 : decode cX4_signAt 2 = .ok (.lshl, 1) := by decide +kernel
theorem dX4_signAt_3 : decode cX4_signAt 3 = .ok (.lstore_n 2, 1) := by decide +kernel
theorem dX4_signAt_4 : decode cX4_signAt 4 = .ok (.aload_n 0, 1) := by decide +kernel
theorem dX4_signAt_5 : decode cX4_signAt 5 = .ok (.getfield 9, 3) := by decide +kernel
theorem dX4_signAt_8 : decode cX4_signAt 8 = .ok (.lload_n 2, 1) := by decide +kernel
theorem dX4_signAt_9 : decode cX4_signAt 9 = .ok (.land, 1) := by decide +kernel
theorem dX4_signAt_10 : decode cX4_signAt 10 = .ok (.lconst 0, 1) := by decide +kernel
theorem dX4_signAt_11 : decode cX4_signAt 11 = .ok (.lcmp, 1) := by decide +kernel
theorem dX4_signAt_12 : decode cX4_signAt 12 = .ok (.ifCond .eq 6, 3) := by decide +kernel
theorem dX4_signAt_15 : decode cX4_signAt 15 = .ok (.bipush 88, 2) := by decide +kernel
theorem dX4_signAt_17 : decode cX4_signAt 17 = .ok (.ireturn, 1) := by decide +kernel
theorem dX4_signAt_18 : decode cX4_signAt 18 = .ok (.aload_n 0, 1) := by decide +kernel
theorem dX4_signAt_19 : decode cX4_signAt 19 = .ok (.getfield 15, 3) := by decide +kernel
theorem dX4_signAt_22 : decode cX4_signAt 22 = .ok (.lload_n 2, 1) := by decide +kernel
theorem dX4_signAt_23 : decode cX4_signAt 23 = .ok (.land, 1) := by decide +kernel
theorem dX4_signAt_24 : decode cX4_signAt 24 = .ok (.lconst 0, 1) := by decide +kernel
theorem dX4_signAt_25 : decode cX4_signAt 25 = .ok (.lcmp, 1) := by decide +kernel
theorem dX4_signAt_26 : decode cX4_signAt 26 = .ok (.ifCond .eq 8, 3) := by decide +kernel
theorem dX4_signAt_29 : decode cX4_signAt 29 = .ok (.bipush 79, 2) := by decide +kernel
theorem dX4_signAt_31 : decode cX4_signAt 31 = .ok (.goto 5, 3) := by decide +kernel
theorem dX4_signAt_34 : decode cX4_signAt 34 = .ok (.bipush 46, 2) := by decide +kernel
theorem dX4_signAt_36 : decode cX4_signAt 36 = .ok (.ireturn, 1) := by decide +kernel
theorem dX4_canBeCaught_0 : decode cX4_canBeCaught 0 = .ok (.lconst 1, 1) := by decide +kernel
theorem dX4_canBeCaught_1 : decode cX4_canBeCaught 1 = .ok (.iload_n 1, 1) := by decide +kernel
theorem dX4_canBeCaught_2 : decode cX4_canBeCaught 2 = .ok (.lshl, 1) := by decide +kernel
theorem dX4_canBeCaught_3 : decode cX4_canBeCaught 3 = .ok (.lstore 4, 2) := by decide +kernel
theorem dX4_canBeCaught_5 : decode cX4_canBeCaught 5 = .ok (.aload_n 0, 1) := by decide +kernel
theorem dX4_canBeCaught_6 : decode cX4_canBeCaught 6 = .ok (.getfield 9, 3) := by decide +kernel
theorem dX4_canBeCaught_9 : decode cX4_canBeCaught 9 = .ok (.lload 4, 2) := by decide +kernel
theorem dX4_canBeCaught_11 : decode cX4_canBeCaught 11 = .ok (.land, 1) := by decide +kernel
theorem dX4_canBeCaught_12 : decode cX4_canBeCaught 12 = .ok (.lconst 0, 1) := by decide +kernel
theorem dX4_canBeCaught_13 : decode cX4_canBeCaught 13 = .ok (.lcmp, 1) := by decide +kernel
theorem dX4_canBeCaught_14 : decode cX4_canBeCaught 14 = .ok (.ifCond .eq 19, 3) := by decide +kernel
theorem dX4_canBeCaught_17 : decode cX4_canBeCaught 17 = .ok (.aload_n 0, 1) := by decide +kernel
theorem dX4_canBeCaught_18 : decode cX4_canBeCaught 18 = .ok (.getfield 9, 3) := by decide +kernel
theorem dX4_canBeCaught_21 : decode cX4_canBeCaught 21 = .ok (.aload_n 0, 1) := by decide +kernel
theorem dX4_canBeCaught_22 : decode cX4_canBeCaught 22 = .ok (.getfield 15, 3) := by decide +kernel
theorem dX4_canBeCaught_25 : decode cX4_canBeCaught 25 = .ok (.lload 4, 2) := by decide +kernel
theorem dX4_canBeCaught_27 : decode cX4_canBeCaught 27 = .ok (.iload_n 2, 1) := by decide +kernel
theorem dX4_canBeCaught_28 : decode cX4_canBeCaught 28 = .ok (.iload_n 3, 1) := by decide +kernel
theorem dX4_canBeCaught_29 : decode cX4_canBeCaught 29 = .ok (.invokestatic 75, 3) := by decide +kernel
theorem dX4_canBeCaught_32 : decode cX4_canBeCaught 32 = .ok (.ireturn, 1) := by decide +kernel
theorem dX4_canBeCaught_33 : decode cX4_canBeCaught 33 = .ok (.aload_n 0, 1) := by decide +kernel
theorem dX4_canBeCaught_34 : decode cX4_canBeCaught 34 = .ok (.getfield 15, 3) := by decide +kernel
theorem dX4_canBeCaught_37 : decode cX4_canBeCaught 37 = .ok (.lload 4, 2) := by decide +kernel
theorem dX4_canBeCaught_39 : decode cX4_canBeCaught 39 = .ok (.land, 1) := by decide +kernel
theorem dX4_canBeCaught_40 : decode cX4_canBeCaught 40 = .ok (.lconst 0, 1) := by decide +kernel
theorem dX4_canBeCaught_41 : decode cX4_canBeCaught 41 = .ok (.lcmp, 1) := by decide +kernel
theorem dX4_canBeCaught_42 : decode cX4_canBeCaught 42 = .ok (.ifCond .eq 25, 3) := by decide +kernel
theorem dX4_canBeCaught_45 : decode cX4_canBeCaught 45 = .ok (.aload_n 0, 1) := by decide +kernel
theorem dX4_canBeCaught_46 : decode cX4_canBeCaught 46 = .ok (.getfield 15, 3) := by decide +kernel
theorem dX4_canBeCaught_49 : decode cX4_canBeCaught 49 = .ok (.aload_n 0, 1) := by decide +kernel
theorem dX4_canBeCaught_50 : decode cX4_canBeCaught 50 = .ok (.getfield 9, 3) := by decide +kernel
theorem dX4_canBeCaught_53 : decode cX4_canBeCaught 53 = .ok (.lload 4, 2) := by decide +kernel
theorem dX4_canBeCaught_55 : decode cX4_canBeCaught 55 = .ok (.iload_n 2, 1) := by decide +kernel
theorem dX4_canBeCaught_56 : decode cX4_canBeCaught 56 = .ok (.iload_n 3, 1) := by decide +kernel
theorem dX4_canBeCaught_57 : decode cX4_canBeCaught 57 = .ok (.invokestatic 75, 3) := by decide +kernel
theorem dX4_canBeCaught_60 : decode cX4_canBeCaught 60 = .ok (.ifCond .eq 7, 3) := by decide +kernel
theorem dX4_canBeCaught_63 : decode cX4_canBeCaught 63 = .ok (.iconst 1, 1) := by decide +kernel
theorem dX4_canBeCaught_64 : decode cX4_canBeCaught 64 = .ok (.goto 4, 3) := by decide +kernel
theorem dX4_canBeCaught_67 : decode cX4_canBeCaught 67 = .ok (.iconst 0, 1) := by decide +kernel
theorem dX4_canBeCaught_68 : decode cX4_canBeCaught 68 = .ok (.ireturn, 1) := by decide +kernel
theorem dX5_caught_0 : decode cX5_caught 0 = .ok (.iload 6, 2) := by decide +kernel
theorem dX5_caught_2 : decode cX5_caught 2 = .ok (.iconst 1, 1) := by decide +kernel
theorem dX5_caught_3 : decode cX5_caught 3 = .ok (.if_icmp .lt 10, 3) := by decide +kernel
theorem dX5_caught_6 : decode cX5_caught 6 = .ok (.iload 6, 2) := by decide +kernel
theorem dX5_caught_8 : decode cX5_caught 8 = .ok (.bipush 8, 2) := by decide +kernel
theorem dX5_caught_10 : decode cX5_caught 10 = .ok (.if_icmp .le 5, 3) := by decide +kernel
theorem dX5_caught_13 : decode cX5_caught 13 = .ok (.iconst 0, 1) := by decide +kernel
theorem dX5_caught_14 : decode cX5_caught 14 = .ok (.ireturn, 1) := by decide +kernel
theorem dX5_caught_15 : decode cX5_caught 15 = .ok (.lload_n 0, 1) := by decide +kernel
theorem dX5_caught_16 : decode cX5_caught 16 = .ok (.lload_n 2, 1) := by decide +kernel
theorem dX5_caught_17 : decode cX5_caught 17 = .ok (.lor, 1) := by decide +kernel
theorem dX5_caught_18 : decode cX5_caught 18 = .ok (.lstore 8, 2) := by decide +kernel
theorem dX5_caught_20 : decode cX5_caught 20 = .ok (.lload 4, 2) := by decide +kernel
theorem dX5_caught_22 : decode cX5_caught 22 = .ok (.lload_n 0, 1) := by decide +kernel
theorem dX5_caught_23 : decode cX5_caught 23 = .ok (.invokestatic 9, 3) := by decide +kernel
theorem dX5_caught_26 : decode cX5_caught 26 = .ok (.lload 8, 2) := by decide +kernel
theorem dX5_caught_28 : decode cX5_caught 28 = .ok (.invokestatic 15, 3) := by decide +kernel
theorem dX5_caught_31 : decode cX5_caught 31 = .ok (.lstore 10, 2) := by decide +kernel
theorem dX5_caught_33 : decode cX5_caught 33 = .ok (.lload 10, 2) := by decide +kernel
theorem dX5_caught_35 : decode cX5_caught 35 = .ok (.invokestatic 18, 3) := by decide +kernel
theorem dX5_caught_38 : decode cX5_caught 38 = .ok (.istore 12, 2) := by decide +kernel
theorem dX5_caught_40 : decode cX5_caught 40 = .ok (.iload 12, 2) := by decide +kernel
theorem dX5_caught_42 : decode cX5_caught 42 = .ok (.iconst 1, 1) := by decide +kernel
theorem dX5_caught_43 : decode cX5_caught 43 = .ok (.if_icmp .ne 19, 3) := by decide +kernel
theorem dX5_caught_46 : decode cX5_caught 46 = .ok (.lload_n 2, 1) := by decide +kernel
theorem dX5_caught_47 : decode cX5_caught 47 = .ok (.lload_n 0, 1) := by decide +kernel
theorem dX5_caught_48 : decode cX5_caught 48 = .ok (.lload 10, 2) := by decide +kernel
theorem dX5_caught_50 : decode cX5_caught 50 = .ok (.invokestatic 24, 3) := by decide +kernel
theorem dX5_caught_53 : decode cX5_caught 53 = .ok (.ldc2_w 28, 3) := by decide +kernel
theorem dX5_caught_56 : decode cX5_caught 56 = .ok (.lcmp, 1) := by decide +kernel
theorem dX5_caught_57 : decode cX5_caught 57 = .ok (.ifCond .eq 5, 3) := by decide +kernel
theorem dX5_caught_60 : decode cX5_caught 60 = .ok (.iconst 1, 1) := by decide +kernel
theorem dX5_caught_61 : decode cX5_caught 61 = .ok (.ireturn, 1) := by decide +kernel
theorem dX5_caught_62 : decode cX5_caught 62 = .ok (.iload 6, 2) := by decide +kernel
theorem dX5_caught_64 : decode cX5_caught 64 = .ok (.iconst 2, 1) := by decide +kernel
theorem dX5_caught_65 : decode cX5_caught 65 = .ok (.if_icmp .lt 10, 3) := by decide +kernel
theorem dX5_caught_68 : decode cX5_caught 68 = .ok (.iload 12, 2) := by decide +kernel
theorem dX5_caught_70 : decode cX5_caught 70 = .ok (.iload 7, 2) := by decide +kernel
theorem dX5_caught_72 : decode cX5_caught 72 = .ok (.if_icmp .le 5, 3) := by decide +kernel
theorem dX5_caught_75 : decode cX5_caught 75 = .ok (.iconst 0, 1) := by decide +kernel
theorem dX5_caught_76 : decode cX5_caught 76 = .ok (.ireturn, 1) := by decide +kernel
theorem dX5_caught_77 : decode cX5_caught 77 = .ok (.iload 7, 2) := by decide +kernel
theorem dX5_caught_79 : decode cX5_caught 79 = .ok (.iconst 2, 1) := by decide +kernel
theorem dX5_caught_80 : decode cX5_caught 80 = .ok (.if_icmp .ne 8, 3) := by decide +kernel
theorem dX5_caught_83 : decode cX5_caught 83 = .ok (.lload 10, 2) := by decide +kernel
theorem dX5_caught_85 : decode cX5_caught 85 = .ok (.goto 13, 3) := by decide +kernel
theorem dX5_caught_88 : decode cX5_caught 88 = .ok (.lload 10, 2) := by decide +kernel
theorem dX5_caught_90 : decode cX5_caught 90 = .ok (.lload 10, 2) := by decide +kernel
theorem dX5_caught_92 : decode cX5_caught 92 = .ok (.lload 8, 2) := by decide +kernel
theorem dX5_caught_94 : decode cX5_caught 94 = .ok (.invokestatic 15, 3) := by decide +kernel
theorem dX5_caught_97 : decode cX5_caught 97 = .ok (.lor, 1) := by decide +kernel
theorem dX5_caught_98 : decode cX5_caught 98 = .ok (.lstore 13, 2) := by decide +kernel
theorem dX5_caught_100 : decode cX5_caught 100 = .ok (.iconst 0, 1) := by decide +kernel
theorem dX5_caught_101 : decode cX5_caught 101 = .ok (.istore 15, 2) := by decide +kernel
theorem dX5_caught_103 : decode cX5_caught 103 = .ok (.iload 15, 2) := by decide +kernel
theorem dX5_caught_105 : decode cX5_caught 105 = .ok (.bipush 49, 2) := by decide +kernel
theorem dX5_caught_107 : decode cX5_caught 107 = .ok (.if_icmp .ge 43, 3) := by decide +kernel
theorem dX5_caught_110 : decode cX5_caught 110 = .ok (.lload 13, 2) := by decide +kernel
theorem dX5_caught_112 : decode cX5_caught 112 = .ok (.lconst 1, 1) := by decide +kernel
theorem dX5_caught_113 : decode cX5_caught 113 = .ok (.iload 15, 2) := by decide +kernel
theorem dX5_caught_115 : decode cX5_caught 115 = .ok (.lshl, 1) := by decide +kernel
theorem dX5_caught_116 : decode cX5_caught 116 = .ok (.land, 1) := by decide +kernel
theorem dX5_caught_117 : decode cX5_caught 117 = .ok (.lstore 16, 2) := by decide +kernel
theorem dX5_caught_119 : decode cX5_caught 119 = .ok (.lload 16, 2) := by decide +kernel
theorem dX5_caught_121 : decode cX5_caught 121 = .ok (.lconst 0, 1) := by decide +kernel
theorem dX5_caught_122 : decode cX5_caught 122 = .ok (.lcmp, 1) := by decide +kernel
theorem dX5_caught_123 : decode cX5_caught 123 = .ok (.ifCond .eq 21, 3) := by decide +kernel
theorem dX5_caught_126 : decode cX5_caught 126 = .ok (.lload_n 0, 1) := by decide +kernel
theorem dX5_caught_127 : decode cX5_caught 127 = .ok (.lload_n 2, 1) := by decide +kernel
theorem dX5_caught_128 : decode cX5_caught 128 = .ok (.lload 4, 2) := by decide +kernel
theorem dX5_caught_130 : decode cX5_caught 130 = .ok (.lload 16, 2) := by decide +kernel
theorem dX5_caught_132 : decode cX5_caught 132 = .ok (.iload 6, 2) := by decide +kernel
theorem dX5_caught_134 : decode cX5_caught 134 = .ok (.iload 7, 2) := by decide +kernel
theorem dX5_caught_136 : decode cX5_caught 136 = .ok (.invokestatic 30, 3) := by decide +kernel
theorem dX5_caught_139 : decode cX5_caught 139 = .ok (.ifCond .eq 5, 3) := by decide +kernel
theorem dX5_caught_142 : decode cX5_caught 142 = .ok (.iconst 1, 1) := by decide +kernel
theorem dX5_caught_143 : decode cX5_caught 143 = .ok (.ireturn, 1) := by decide +kernel
theorem dX5_caught_144 : decode cX5_caught 144 = .ok (.iinc 15 1, 3) := by decide +kernel
theorem dX5_caught_147 : decode cX5_caught 147 = .ok (.goto (-44), 3) := by decide +kernel
theorem dX5_caught_150 : decode cX5_caught 150 = .ok (.iconst 0, 1) := by decide +kernel
theorem dX5_caught_151 : decode cX5_caught 151 = .ok (.ireturn, 1) := by decide +kernel
theorem dX5_catches_0 : decode cX5_catches 0 = .ok (.lload_n 2, 1) := by decide +kernel
theorem dX5_catches_1 : decode cX5_catches 1 = .ok (.lload_n 0, 1) := by decide +kernel
theorem dX5_catches_2 : decode cX5_catches 2 = .ok (.lload 6, 2) := by decide +kernel
theorem dX5_catches_4 : decode cX5_catches 4 = .ok (.invokestatic 24, 3) := by decide +kernel
theorem dX5_catches_7 : decode cX5_catches 7 = .ok (.lstore 10, 2) := by decide +kernel
theorem dX5_catches_9 : decode cX5_catches 9 = .ok (.lload 10, 2) := by decide +kernel
theorem dX5_catches_11 : decode cX5_catches 11 = .ok (.ldc2_w 28, 3) := by decide +kernel
theorem dX5_catches_14 : decode cX5_catches 14 = .ok (.lcmp, 1) := by decide +kernel
theorem dX5_catches_15 : decode cX5_catches 15 = .ok (.ifCond .eq 13, 3) := by decide +kernel
theorem dX5_catches_18 : decode cX5_catches 18 = .ok (.lload 10, 2) := by decide +kernel
theorem dX5_catches_20 : decode cX5_catches 20 = .ok (.lload 4, 2) := by decide +kernel
theorem dX5_catches_22 : decode cX5_catches 22 = .ok (.land, 1) := by decide +kernel
theorem dX5_catches_23 : decode cX5_catches 23 = .ok (.lconst 0, 1) := by decide +kernel
theorem dX5_catches_24 : decode cX5_catches 24 = .ok (.lcmp, 1) := by decide +kernel
theorem dX5_catches_25 : decode cX5_catches 25 = .ok (.ifCond .ne 5, 3) := by decide +kernel
theorem dX5_catches_28 : decode cX5_catches 28 = .ok (.iconst 0, 1) := by decide +kernel
theorem dX5_catches_29 : decode cX5_catches 29 = .ok (.ireturn, 1) := by decide +kernel
theorem dX5_catches_30 : decode cX5_catches 30 = .ok (.lload_n 2, 1) := by decide +kernel
theorem dX5_catches_31 : decode cX5_catches 31 = .ok (.lload 6, 2) := by decide +kernel
theorem dX5_catches_33 : decode cX5_catches 33 = .ok (.lor, 1) := by decide +kernel
theorem dX5_catches_34 : decode cX5_catches 34 = .ok (.lstore 12, 2) := by decide +kernel
theorem dX5_catches_36 : decode cX5_catches 36 = .ok (.lload 4, 2) := by decide +kernel
theorem dX5_catches_38 : decode cX5_catches 38 = .ok (.lload 10, 2) := by decide +kernel
theorem dX5_catches_40 : decode cX5_catches 40 = .ok (.invokestatic 9, 3) := by decide +kernel
theorem dX5_catches_43 : decode cX5_catches 43 = .ok (.lload 10, 2) := by decide +kernel
theorem dX5_catches_45 : decode cX5_catches 45 = .ok (.lload 12, 2) := by decide +kernel
theorem dX5_catches_47 : decode cX5_catches 47 = .ok (.lor, 1) := by decide +kernel
theorem dX5_catches_48 : decode cX5_catches 48 = .ok (.invokestatic 15, 3) := by decide +kernel
theorem dX5_catches_51 : decode cX5_catches 51 = .ok (.invokestatic 18, 3) := by decide +kernel
theorem dX5_catches_54 : decode cX5_catches 54 = .ok (.istore 14, 2) := by decide +kernel
theorem dX5_catches_56 : decode cX5_catches 56 = .ok (.iload 14, 2) := by decide +kernel
theorem dX5_catches_58 : decode cX5_catches 58 = .ok (.iconst 1, 1) := by decide +kernel
theorem dX5_catches_59 : decode cX5_catches 59 = .ok (.if_icmp .lt 15, 3) := by decide +kernel
theorem dX5_catches_62 : decode cX5_catches 62 = .ok (.iload 9, 2) := by decide +kernel
theorem dX5_catches_64 : decode cX5_catches 64 = .ok (.iconst 2, 1) := by decide +kernel
theorem dX5_catches_65 : decode cX5_catches 65 = .ok (.if_icmp .ne 11, 3) := by decide +kernel
theorem dX5_catches_68 : decode cX5_catches 68 = .ok (.iload 14, 2) := by decide +kernel
theorem dX5_catches_70 : decode cX5_catches 70 = .ok (.iconst 1, 1) := by decide +kernel
theorem dX5_catches_71 : decode cX5_catches 71 = .ok (.if_icmp .eq 5, 3) := by decide +kernel
theorem dX5_catches_74 : decode cX5_catches 74 = .ok (.iconst 0, 1) := by decide +kernel
theorem dX5_catches_75 : decode cX5_catches 75 = .ok (.ireturn, 1) := by decide +kernel
theorem dX5_catches_76 : decode cX5_catches 76 = .ok (.lload 10, 2) := by decide +kernel
theorem dX5_catches_78 : decode cX5_catches 78 = .ok (.lload 12, 2) := by decide +kernel
theorem dX5_catches_80 : decode cX5_catches 80 = .ok (.lload 4, 2) := by decide +kernel
theorem dX5_catches_82 : decode cX5_catches 82 = .ok (.iload 8, 2) := by decide +kernel
theorem dX5_catches_84 : decode cX5_catches 84 = .ok (.iconst 1, 1) := by decide +kernel
theorem dX5_catches_85 : decode cX5_catches 85 = .ok (.isub, 1) := by decide +kernel
theorem dX5_catches_86 : decode cX5_catches 86 = .ok (.iload 9, 2) := by decide +kernel
theorem dX5_catches_88 : decode cX5_catches 88 = .ok (.invokestatic 36, 3) := by decide +kernel
theorem dX5_catches_91 : decode cX5_catches 91 = .ok (.ireturn, 1) := by decide +kernel
theorem dX5_caughtForEachAnswer_0 : decode cX5_caughtForEachAnswer 0 = .ok (.lload_n 0, 1) := by decide +kernel
theorem dX5_caughtForEachAnswer_1 : decode cX5_caughtForEachAnswer 1 = .ok (.lload_n 2, 1) := by decide +kernel
theorem dX5_caughtForEachAnswer_2 : decode cX5_caughtForEachAnswer 2 = .ok (.lload 4, 2) := by decide +kernel
theorem dX5_caughtForEachAnswer_4 : decode cX5_caughtForEachAnswer 4 = .ok (.lload_n 0, 1) := by decide +kernel
theorem dX5_caughtForEachAnswer_5 : decode cX5_caughtForEachAnswer 5 = .ok (.invokestatic 9, 3) := by decide +kernel
theorem dX5_caughtForEachAnswer_8 : decode cX5_caughtForEachAnswer 8 = .ok (.invokestatic 40, 3) := by decide +kernel
theorem dX5_caughtForEachAnswer_11 : decode cX5_caughtForEachAnswer 11 = .ok (.lstore 8, 2) := by decide +kernel
theorem dX5_caughtForEachAnswer_13 : decode cX5_caughtForEachAnswer 13 = .ok (.iconst 0, 1) := by decide +kernel
theorem dX5_caughtForEachAnswer_14 : decode cX5_caughtForEachAnswer 14 = .ok (.istore 10, 2) := by decide +kernel
theorem dX5_caughtForEachAnswer_16 : decode cX5_caughtForEachAnswer 16 = .ok (.iconst 0, 1) := by decide +kernel
theorem dX5_caughtForEachAnswer_17 : decode cX5_caughtForEachAnswer 17 = .ok (.istore 11, 2) := by decide +kernel
theorem dX5_caughtForEachAnswer_19 : decode cX5_caughtForEachAnswer 19 = .ok (.iload 11, 2) := by decide +kernel
theorem dX5_caughtForEachAnswer_21 : decode cX5_caughtForEachAnswer 21 = .ok (.bipush 49, 2) := by decide +kernel
theorem dX5_caughtForEachAnswer_23 : decode cX5_caughtForEachAnswer 23 = .ok (.if_icmp .ge 72, 3) := by decide +kernel
theorem dX5_caughtForEachAnswer_26 : decode cX5_caughtForEachAnswer 26 = .ok (.lload 8, 2) := by decide +kernel
theorem dX5_caughtForEachAnswer_28 : decode cX5_caughtForEachAnswer 28 = .ok (.lconst 1, 1) := by decide +kernel
theorem dX5_caughtForEachAnswer_29 : decode cX5_caughtForEachAnswer 29 = .ok (.iload 11, 2) := by decide +kernel
theorem dX5_caughtForEachAnswer_31 : decode cX5_caughtForEachAnswer 31 = .ok (.lshl, 1) := by decide +kernel
theorem dX5_caughtForEachAnswer_32 : decode cX5_caughtForEachAnswer 32 = .ok (.land, 1) := by decide +kernel
theorem dX5_caughtForEachAnswer_33 : decode cX5_caughtForEachAnswer 33 = .ok (.lstore 12, 2) := by decide +kernel
theorem dX5_caughtForEachAnswer_35 : decode cX5_caughtForEachAnswer 35 = .ok (.lload 12, 2) := by decide +kernel
theorem dX5_caughtForEachAnswer_37 : decode cX5_caughtForEachAnswer 37 = .ok (.lconst 0, 1) := by decide +kernel
theorem dX5_caughtForEachAnswer_38 : decode cX5_caughtForEachAnswer 38 = .ok (.lcmp, 1) := by decide +kernel
theorem dX5_caughtForEachAnswer_39 : decode cX5_caughtForEachAnswer 39 = .ok (.ifCond .ne 9, 3) := by decide +kernel
theorem dX5_caughtForEachAnswer_42 : decode cX5_caughtForEachAnswer 42 = .ok (.ldc2_w 28, 3) := by decide +kernel
theorem dX5_caughtForEachAnswer_45 : decode cX5_caughtForEachAnswer 45 = .ok (.goto 10, 3) := by decide +kernel
theorem dX5_caughtForEachAnswer_48 : decode cX5_caughtForEachAnswer 48 = .ok (.lload_n 0, 1) := by decide +kernel
theorem dX5_caughtForEachAnswer_49 : decode cX5_caughtForEachAnswer 49 = .ok (.lload_n 2, 1) := by decide +kernel
theorem dX5_caughtForEachAnswer_50 : decode cX5_caughtForEachAnswer 50 = .ok (.lload 12, 2) := by decide +kernel
theorem dX5_caughtForEachAnswer_52 : decode cX5_caughtForEachAnswer 52 = .ok (.invokestatic 24, 3) := by decide +kernel
theorem dX5_caughtForEachAnswer_55 : decode cX5_caughtForEachAnswer 55 = .ok (.lstore 14, 2) := by decide +kernel
theorem dX5_caughtForEachAnswer_57 : decode cX5_caughtForEachAnswer 57 = .ok (.lload 14, 2) := by decide +kernel
theorem dX5_caughtForEachAnswer_59 : decode cX5_caughtForEachAnswer 59 = .ok (.ldc2_w 28, 3) := by decide +kernel
theorem dX5_caughtForEachAnswer_62 : decode cX5_caughtForEachAnswer 62 = .ok (.lcmp, 1) := by decide +kernel
theorem dX5_caughtForEachAnswer_63 : decode cX5_caughtForEachAnswer 63 = .ok (.ifCond .eq 26, 3) := by decide +kernel
theorem dX5_caughtForEachAnswer_66 : decode cX5_caughtForEachAnswer 66 = .ok (.iconst 1, 1) := by decide +kernel
theorem dX5_caughtForEachAnswer_67 : decode cX5_caughtForEachAnswer 67 = .ok (.istore 10, 2) := by decide +kernel
theorem dX5_caughtForEachAnswer_69 : decode cX5_caughtForEachAnswer 69 = .ok (.lload_n 0, 1) := by decide +kernel
theorem dX5_caughtForEachAnswer_70 : decode cX5_caughtForEachAnswer 70 = .ok (.lload 12, 2) := by decide +kernel
theorem dX5_caughtForEachAnswer_72 : decode cX5_caughtForEachAnswer 72 = .ok (.lor, 1) := by decide +kernel
theorem dX5_caughtForEachAnswer_73 : decode cX5_caughtForEachAnswer 73 = .ok (.lload 14, 2) := by decide +kernel
theorem dX5_caughtForEachAnswer_75 : decode cX5_caughtForEachAnswer 75 = .ok (.lload 4, 2) := by decide +kernel
theorem dX5_caughtForEachAnswer_77 : decode cX5_caughtForEachAnswer 77 = .ok (.iload 6, 2) := by decide +kernel
theorem dX5_caughtForEachAnswer_79 : decode cX5_caughtForEachAnswer 79 = .ok (.iload 7, 2) := by decide +kernel
theorem dX5_caughtForEachAnswer_81 : decode cX5_caughtForEachAnswer 81 = .ok (.invokestatic 43, 3) := by decide +kernel
theorem dX5_caughtForEachAnswer_84 : decode cX5_caughtForEachAnswer 84 = .ok (.ifCond .ne 5, 3) := by decide +kernel
theorem dX5_caughtForEachAnswer_87 : decode cX5_caughtForEachAnswer 87 = .ok (.iconst 0, 1) := by decide +kernel
theorem dX5_caughtForEachAnswer_88 : decode cX5_caughtForEachAnswer 88 = .ok (.ireturn, 1) := by decide +kernel
theorem dX5_caughtForEachAnswer_89 : decode cX5_caughtForEachAnswer 89 = .ok (.iinc 11 1, 3) := by decide +kernel
theorem dX5_caughtForEachAnswer_92 : decode cX5_caughtForEachAnswer 92 = .ok (.goto (-73), 3) := by decide +kernel
theorem dX5_caughtForEachAnswer_95 : decode cX5_caughtForEachAnswer 95 = .ok (.iload 10, 2) := by decide +kernel
theorem dX5_caughtForEachAnswer_97 : decode cX5_caughtForEachAnswer 97 = .ok (.ifCond .ne 17, 3) := by decide +kernel
theorem dX5_caughtForEachAnswer_100 : decode cX5_caughtForEachAnswer 100 = .ok (.lload_n 0, 1) := by decide +kernel
theorem dX5_caughtForEachAnswer_101 : decode cX5_caughtForEachAnswer 101 = .ok (.lload_n 2, 1) := by decide +kernel
theorem dX5_caughtForEachAnswer_102 : decode cX5_caughtForEachAnswer 102 = .ok (.lload 4, 2) := by decide +kernel
theorem dX5_caughtForEachAnswer_104 : decode cX5_caughtForEachAnswer 104 = .ok (.iload 6, 2) := by decide +kernel
theorem dX5_caughtForEachAnswer_106 : decode cX5_caughtForEachAnswer 106 = .ok (.iload 7, 2) := by decide +kernel
theorem dX5_caughtForEachAnswer_108 : decode cX5_caughtForEachAnswer 108 = .ok (.invokestatic 43, 3) := by decide +kernel
theorem dX5_caughtForEachAnswer_111 : decode cX5_caughtForEachAnswer 111 = .ok (.ifCond .eq 7, 3) := by decide +kernel
theorem dX5_caughtForEachAnswer_114 : decode cX5_caughtForEachAnswer 114 = .ok (.iconst 1, 1) := by decide +kernel
theorem dX5_caughtForEachAnswer_115 : decode cX5_caughtForEachAnswer 115 = .ok (.goto 4, 3) := by decide +kernel
theorem dX5_caughtForEachAnswer_118 : decode cX5_caughtForEachAnswer 118 = .ok (.iconst 0, 1) := by decide +kernel
theorem dX5_caughtForEachAnswer_119 : decode cX5_caughtForEachAnswer 119 = .ok (.ireturn, 1) := by decide +kernel
theorem dX5_answers_0 : decode cX5_answers 0 = .ok (.lload_n 0, 1) := by decide +kernel
theorem dX5_answers_1 : decode cX5_answers 1 = .ok (.lload_n 2, 1) := by decide +kernel
theorem dX5_answers_2 : decode cX5_answers 2 = .ok (.lor, 1) := by decide +kernel
theorem dX5_answers_3 : decode cX5_answers 3 = .ok (.lstore 6, 2) := by decide +kernel
theorem dX5_answers_5 : decode cX5_answers 5 = .ok (.lload 4, 2) := by decide +kernel
theorem dX5_answers_7 : decode cX5_answers 7 = .ok (.lload 6, 2) := by decide +kernel
theorem dX5_answers_9 : decode cX5_answers 9 = .ok (.invokestatic 15, 3) := by decide +kernel
theorem dX5_answers_12 : decode cX5_answers 12 = .ok (.lstore 8, 2) := by decide +kernel
theorem dX5_answers_14 : decode cX5_answers 14 = .ok (.lload 4, 2) := by decide +kernel
theorem dX5_answers_16 : decode cX5_answers 16 = .ok (.invokestatic 46, 3) := by decide +kernel
theorem dX5_answers_19 : decode cX5_answers 19 = .ok (.lload_n 2, 1) := by decide +kernel
theorem dX5_answers_20 : decode cX5_answers 20 = .ok (.land, 1) := by decide +kernel
theorem dX5_answers_21 : decode cX5_answers 21 = .ok (.lstore 10, 2) := by decide +kernel
theorem dX5_answers_23 : decode cX5_answers 23 = .ok (.iconst 0, 1) := by decide +kernel
theorem dX5_answers_24 : decode cX5_answers 24 = .ok (.istore 12, 2) := by decide +kernel
theorem dX5_answers_26 : decode cX5_answers 26 = .ok (.iload 12, 2) := by decide +kernel
theorem dX5_answers_28 : decode cX5_answers 28 = .ok (.bipush 49, 2) := by decide +kernel
theorem dX5_answers_30 : decode cX5_answers 30 = .ok (.if_icmp .ge 58, 3) := by decide +kernel
theorem dX5_answers_33 : decode cX5_answers 33 = .ok (.lload 10, 2) := by decide +kernel
theorem dX5_answers_35 : decode cX5_answers 35 = .ok (.lconst 1, 1) := by decide +kernel
theorem dX5_answers_36 : decode cX5_answers 36 = .ok (.iload 12, 2) := by decide +kernel
theorem dX5_answers_38 : decode cX5_answers 38 = .ok (.lshl, 1) := by decide +kernel
theorem dX5_answers_39 : decode cX5_answers 39 = .ok (.land, 1) := by decide +kernel
theorem dX5_answers_40 : decode cX5_answers 40 = .ok (.lload_n 2, 1) := by decide +kernel
theorem dX5_answers_41 : decode cX5_answers 41 = .ok (.invokestatic 9, 3) := by decide +kernel
theorem dX5_answers_44 : decode cX5_answers 44 = .ok (.lstore 13, 2) := by decide +kernel
theorem dX5_answers_46 : decode cX5_answers 46 = .ok (.lload 13, 2) := by decide +kernel
theorem dX5_answers_48 : decode cX5_answers 48 = .ok (.lload 6, 2) := by decide +kernel
theorem dX5_answers_50 : decode cX5_answers 50 = .ok (.invokestatic 15, 3) := by decide +kernel
theorem dX5_answers_53 : decode cX5_answers 53 = .ok (.lstore 15, 2) := by decide +kernel
theorem dX5_answers_55 : decode cX5_answers 55 = .ok (.lload 15, 2) := by decide +kernel
theorem dX5_answers_57 : decode cX5_answers 57 = .ok (.invokestatic 18, 3) := by decide +kernel
theorem dX5_answers_60 : decode cX5_answers 60 = .ok (.iconst 1, 1) := by decide +kernel
theorem dX5_answers_61 : decode cX5_answers 61 = .ok (.if_icmp .ne 10, 3) := by decide +kernel
theorem dX5_answers_64 : decode cX5_answers 64 = .ok (.lload 8, 2) := by decide +kernel
theorem dX5_answers_66 : decode cX5_answers 66 = .ok (.lload 15, 2) := by decide +kernel
theorem dX5_answers_68 : decode cX5_answers 68 = .ok (.lor, 1) := by decide +kernel
theorem dX5_answers_69 : decode cX5_answers 69 = .ok (.lstore 8, 2) := by decide +kernel
theorem dX5_answers_71 : decode cX5_answers 71 = .ok (.lload 10, 2) := by decide +kernel
theorem dX5_answers_73 : decode cX5_answers 73 = .ok (.lload 13, 2) := by decide +kernel
theorem dX5_answers_75 : decode cX5_answers 75 = .ok (.ldc2_w 28, 3) := by decide +kernel
theorem dX5_answers_78 : decode cX5_answers 78 = .ok (.lxor, 1) := by decide +kernel
theorem dX5_answers_79 : decode cX5_answers 79 = .ok (.land, 1) := by decide +kernel
theorem dX5_answers_80 : decode cX5_answers 80 = .ok (.lstore 10, 2) := by decide +kernel
theorem dX5_answers_82 : decode cX5_answers 82 = .ok (.iinc 12 1, 3) := by decide +kernel
theorem dX5_answers_85 : decode cX5_answers 85 = .ok (.goto (-59), 3) := by decide +kernel
theorem dX5_answers_88 : decode cX5_answers 88 = .ok (.lload 8, 2) := by decide +kernel
theorem dX5_answers_90 : decode cX5_answers 90 = .ok (.lreturn, 1) := by decide +kernel
theorem dX6_init_0 : decode cX6_init 0 = .ok (.aload_n 0, 1) := by decide +kernel
theorem dX6_init_1 : decode cX6_init 1 = .ok (.invokespecial 3, 3) := by decide +kernel
theorem dX6_init_4 : decode cX6_init 4 = .ok (.aload_n 0, 1) := by decide +kernel
theorem dX6_init_5 : decode cX6_init 5 = .ok (.bipush 60, 2) := by decide +kernel
theorem dX6_init_7 : decode cX6_init 7 = .ok (.anewarray 9, 3) := by decide +kernel
theorem dX6_init_10 : decode cX6_init 10 = .ok (.putfield 11, 3) := by decide +kernel
theorem dX6_init_13 : decode cX6_init 13 = .ok (.aload_n 0, 1) := by decide +kernel
theorem dX6_init_14 : decode cX6_init 14 = .ok (.bipush 60, 2) := by decide +kernel
theorem dX6_init_16 : decode cX6_init 16 = .ok (.anewarray 9, 3) := by decide +kernel
theorem dX6_init_19 : decode cX6_init 19 = .ok (.putfield 17, 3) := by decide +kernel
theorem dX6_init_22 : decode cX6_init 22 = .ok (.return_, 1) := by decide +kernel
theorem dX6_twigAt_0 : decode cX6_twigAt 0 = .ok (.iload_n 1, 1) := by decide +kernel
theorem dX6_twigAt_1 : decode cX6_twigAt 1 = .ok (.ifCond .lt 12, 3) := by decide +kernel
theorem dX6_twigAt_4 : decode cX6_twigAt 4 = .ok (.iload_n 1, 1) := by decide +kernel
theorem dX6_twigAt_5 : decode cX6_twigAt 5 = .ok (.aload_n 0, 1) := by decide +kernel
theorem dX6_twigAt_6 : decode cX6_twigAt 6 = .ok (.getfield 11, 3) := by decide +kernel
theorem dX6_twigAt_9 : decode cX6_twigAt 9 = .ok (.arraylength, 1) := by decide +kernel
theorem dX6_twigAt_10 : decode cX6_twigAt 10 = .ok (.if_icmp .lt 7, 3) := by decide +kernel
theorem dX6_twigAt_13 : decode cX6_twigAt 13 = .ok (.aconst_null, 1) := by decide +kernel
theorem dX6_twigAt_14 : decode cX6_twigAt 14 = .ok (.goto 9, 3) := by decide +kernel
theorem dX6_twigAt_17 : decode cX6_twigAt 17 = .ok (.aload_n 0, 1) := by decide +kernel
theorem dX6_twigAt_18 : decode cX6_twigAt 18 = .ok (.getfield 11, 3) := by decide +kernel
theorem dX6_twigAt_21 : decode cX6_twigAt 21 = .ok (.iload_n 1, 1) := by decide +kernel
theorem dX6_twigAt_22 : decode cX6_twigAt 22 = .ok (.aaload, 1) := by decide +kernel
theorem dX6_twigAt_23 : decode cX6_twigAt 23 = .ok (.areturn, 1) := by decide +kernel
theorem dX6_isFull_0 : decode cX6_isFull 0 = .ok (.aload_n 0, 1) := by decide +kernel
theorem dX6_isFull_1 : decode cX6_isFull 1 = .ok (.getfield 20, 3) := by decide +kernel
theorem dX6_isFull_4 : decode cX6_isFull 4 = .ok (.ifCond .lt 15, 3) := by decide +kernel
theorem dX6_isFull_7 : decode cX6_isFull 7 = .ok (.aload_n 0, 1) := by decide +kernel
theorem dX6_isFull_8 : decode cX6_isFull 8 = .ok (.getfield 20, 3) := by decide +kernel
theorem dX6_isFull_11 : decode cX6_isFull 11 = .ok (.aload_n 0, 1) := by decide +kernel
theorem dX6_isFull_12 : decode cX6_isFull 12 = .ok (.getfield 11, 3) := by decide +kernel
theorem dX6_isFull_15 : decode cX6_isFull 15 = .ok (.arraylength, 1) := by decide +kernel
theorem dX6_isFull_16 : decode cX6_isFull 16 = .ok (.if_icmp .lt 7, 3) := by decide +kernel
theorem dX6_isFull_19 : decode cX6_isFull 19 = .ok (.iconst 1, 1) := by decide +kernel
theorem dX6_isFull_20 : decode cX6_isFull 20 = .ok (.goto 4, 3) := by decide +kernel
theorem dX6_isFull_23 : decode cX6_isFull 23 = .ok (.iconst 0, 1) := by decide +kernel
theorem dX6_isFull_24 : decode cX6_isFull 24 = .ok (.ireturn, 1) := by decide +kernel
theorem dX6_begin_0 : decode cX6_begin 0 = .ok (.aload_n 0, 1) := by decide +kernel
theorem dX6_begin_1 : decode cX6_begin 1 = .ok (.invokevirtual 24, 3) := by decide +kernel
theorem dX6_begin_4 : decode cX6_begin 4 = .ok (.ifCond .eq 5, 3) := by decide +kernel
theorem dX6_begin_7 : decode cX6_begin 7 = .ok (.iconst (-1), 1) := by decide +kernel
theorem dX6_begin_8 : decode cX6_begin 8 = .ok (.ireturn, 1) := by decide +kernel
theorem dX6_begin_9 : decode cX6_begin 9 = .ok (.aload_n 0, 1) := by decide +kernel
theorem dX6_begin_10 : decode cX6_begin 10 = .ok (.getfield 11, 3) := by decide +kernel
theorem dX6_begin_13 : decode cX6_begin 13 = .ok (.aload_n 0, 1) := by decide +kernel
theorem dX6_begin_14 : decode cX6_begin 14 = .ok (.getfield 20, 3) := by decide +kernel
theorem dX6_begin_17 : decode cX6_begin 17 = .ok (.new 9, 3) := by decide +kernel
theorem dX6_begin_20 : decode cX6_begin 20 = .ok (.dup, 1) := by decide +kernel
theorem dX6_begin_21 : decode cX6_begin 21 = .ok (.aload_n 0, 1) := by decide +kernel
theorem dX6_begin_22 : decode cX6_begin 22 = .ok (.getfield 20, 3) := by decide +kernel
theorem dX6_begin_25 : decode cX6_begin 25 = .ok (.aload_n 0, 1) := by decide +kernel
theorem dX6_begin_26 : decode cX6_begin 26 = .ok (.getfield 20, 3) := by decide +kernel
theorem dX6_begin_29 : decode cX6_begin 29 = .ok (.iload_n 1, 1) := by decide +kernel
theorem dX6_begin_30 : decode cX6_begin 30 = .ok (.aconst_null, 1) := by decide +kernel
theorem dX6_begin_31 : decode cX6_begin 31 = .ok (.bipush (-2), 2) := by decide +kernel
theorem dX6_begin_33 : decode cX6_begin 33 = .ok (.aload_n 2, 1) := by decide +kernel
theorem dX6_begin_34 : decode cX6_begin 34 = .ok (.invokespecial 28, 3) := by decide +kernel
theorem dX6_begin_37 : decode cX6_begin 37 = .ok (.aastore, 1) := by decide +kernel
theorem dX6_begin_38 : decode cX6_begin 38 = .ok (.aload_n 0, 1) := by decide +kernel
theorem dX6_begin_39 : decode cX6_begin 39 = .ok (.dup, 1) := by decide +kernel
theorem dX6_begin_40 : decode cX6_begin 40 = .ok (.getfield 20, 3) := by decide +kernel
theorem dX6_begin_43 : decode cX6_begin 43 = .ok (.dup_x1, 1) := by decide +kernel
theorem dX6_begin_44 : decode cX6_begin 44 = .ok (.iconst 1, 1) := by decide +kernel
theorem dX6_begin_45 : decode cX6_begin 45 = .ok (.iadd, 1) := by decide +kernel
theorem dX6_begin_46 : decode cX6_begin 46 = .ok (.putfield 20, 3) := by decide +kernel
theorem dX6_begin_49 : decode cX6_begin 49 = .ok (.ireturn, 1) := by decide +kernel
theorem dX6_childOf_0 : decode cX6_childOf 0 = .ok (.iconst 0, 1) := by decide +kernel
theorem dX6_childOf_1 : decode cX6_childOf 1 = .ok (.istore_n 3, 1) := by decide +kernel
theorem dX6_childOf_2 : decode cX6_childOf 2 = .ok (.iload_n 3, 1) := by decide +kernel
theorem dX6_childOf_3 : decode cX6_childOf 3 = .ok (.aload_n 0, 1) := by decide +kernel
theorem dX6_childOf_4 : decode cX6_childOf 4 = .ok (.getfield 11, 3) := by decide +kernel
theorem dX6_childOf_7 : decode cX6_childOf 7 = .ok (.arraylength, 1) := by decide +kernel
theorem dX6_childOf_8 : decode cX6_childOf 8 = .ok (.if_icmp .ge 43, 3) := by decide +kernel
theorem dX6_childOf_11 : decode cX6_childOf 11 = .ok (.aload_n 0, 1) := by decide +kernel
theorem dX6_childOf_12 : decode cX6_childOf 12 = .ok (.getfield 11, 3) := by decide +kernel
theorem dX6_childOf_15 : decode cX6_childOf 15 = .ok (.iload_n 3, 1) := by decide +kernel
theorem dX6_childOf_16 : decode cX6_childOf 16 = .ok (.aaload, 1) := by decide +kernel
theorem dX6_childOf_17 : decode cX6_childOf 17 = .ok (.astore 4, 2) := by decide +kernel
theorem dX6_childOf_19 : decode cX6_childOf 19 = .ok (.aload 4, 2) := by decide +kernel
theorem dX6_childOf_21 : decode cX6_childOf 21 = .ok (.ifnull 24, 3) := by decide +kernel
theorem dX6_childOf_24 : decode cX6_childOf 24 = .ok (.aload 4, 2) := by decide +kernel
theorem dX6_childOf_26 : decode cX6_childOf 26 = .ok (.getfield 31, 3) := by decide +kernel
theorem dX6_childOf_29 : decode cX6_childOf 29 = .ok (.aload_n 1, 1) := by decide +kernel
theorem dX6_childOf_30 : decode cX6_childOf 30 = .ok (.if_acmp .ne 15, 3) := by decide +kernel
theorem dX6_childOf_33 : decode cX6_childOf 33 = .ok (.aload 4, 2) := by decide +kernel
theorem dX6_childOf_35 : decode cX6_childOf 35 = .ok (.getfield 35, 3) := by decide +kernel
theorem dX6_childOf_38 : decode cX6_childOf 38 = .ok (.iload_n 2, 1) := by decide +kernel
theorem dX6_childOf_39 : decode cX6_childOf 39 = .ok (.if_icmp .ne 6, 3) := by decide +kernel
theorem dX6_childOf_42 : decode cX6_childOf 42 = .ok (.aload 4, 2) := by decide +kernel
theorem dX6_childOf_44 : decode cX6_childOf 44 = .ok (.areturn, 1) := by decide +kernel
theorem dX6_childOf_45 : decode cX6_childOf 45 = .ok (.iinc 3 1, 3) := by decide +kernel
theorem dX6_childOf_48 : decode cX6_childOf 48 = .ok (.goto (-46), 3) := by decide +kernel
theorem dX6_childOf_51 : decode cX6_childOf 51 = .ok (.aconst_null, 1) := by decide +kernel
theorem dX6_childOf_52 : decode cX6_childOf 52 = .ok (.areturn, 1) := by decide +kernel
theorem dX6_childOrNew_0 : decode cX6_childOrNew 0 = .ok (.aload_n 0, 1) := by decide +kernel
theorem dX6_childOrNew_1 : decode cX6_childOrNew 1 = .ok (.aload_n 1, 1) := by decide +kernel
theorem dX6_childOrNew_2 : decode cX6_childOrNew 2 = .ok (.iload_n 2, 1) := by decide +kernel
theorem dX6_childOrNew_3 : decode cX6_childOrNew 3 = .ok (.invokevirtual 38, 3) := by decide +kernel
theorem dX6_childOrNew_6 : decode cX6_childOrNew 6 = .ok (.astore_n 3, 1) := by decide +kernel
theorem dX6_childOrNew_7 : decode cX6_childOrNew 7 = .ok (.aload_n 3, 1) := by decide +kernel
theorem dX6_childOrNew_8 : decode cX6_childOrNew 8 = .ok (.ifnonnull 35, 3) := by decide +kernel
theorem dX6_childOrNew_11 : decode cX6_childOrNew 11 = .ok (.aload_n 1, 1) := by decide +kernel
theorem dX6_childOrNew_12 : decode cX6_childOrNew 12 = .ok (.getfield 42, 3) := by decide +kernel
theorem dX6_childOrNew_15 : decode cX6_childOrNew 15 = .ok (.astore 4, 2) := by decide +kernel
theorem dX6_childOrNew_17 : decode cX6_childOrNew 17 = .ok (.aload_n 0, 1) := by decide +kernel
theorem dX6_childOrNew_18 : decode cX6_childOrNew 18 = .ok (.aload_n 1, 1) := by decide +kernel
theorem dX6_childOrNew_19 : decode cX6_childOrNew 19 = .ok (.iload_n 2, 1) := by decide +kernel
theorem dX6_childOrNew_20 : decode cX6_childOrNew 20 = .ok (.iload_n 2, 1) := by decide +kernel
theorem dX6_childOrNew_21 : decode cX6_childOrNew 21 = .ok (.iconst (-1), 1) := by decide +kernel
theorem dX6_childOrNew_22 : decode cX6_childOrNew 22 = .ok (.if_icmp .ne 11, 3) := by decide +kernel
theorem dX6_childOrNew_25 : decode cX6_childOrNew 25 = .ok (.aload 4, 2) := by decide +kernel
theorem dX6_childOrNew_27 : decode cX6_childOrNew 27 = .ok (.invokevirtual 46, 3) := by decide +kernel
theorem dX6_childOrNew_30 : decode cX6_childOrNew 30 = .ok (.goto 9, 3) := by decide +kernel
theorem dX6_childOrNew_33 : decode cX6_childOrNew 33 = .ok (.aload 4, 2) := by decide +kernel
theorem dX6_childOrNew_35 : decode cX6_childOrNew 35 = .ok (.iload_n 2, 1) := by decide +kernel
theorem dX6_childOrNew_36 : decode cX6_childOrNew 36 = .ok (.invokevirtual 52, 3) := by decide +kernel
theorem dX6_childOrNew_39 : decode cX6_childOrNew 39 = .ok (.invokevirtual 56, 3) := by decide +kernel
theorem dX6_childOrNew_42 : decode cX6_childOrNew 42 = .ok (.astore_n 3, 1) := by decide +kernel
theorem dX6_childOrNew_43 : decode cX6_childOrNew 43 = .ok (.aload_n 3, 1) := by decide +kernel
theorem dX6_childOrNew_44 : decode cX6_childOrNew 44 = .ok (.ifnonnull 7, 3) := by decide +kernel
theorem dX6_childOrNew_47 : decode cX6_childOrNew 47 = .ok (.iconst (-1), 1) := by decide +kernel
theorem dX6_childOrNew_48 : decode cX6_childOrNew 48 = .ok (.goto 7, 3) := by decide +kernel
theorem dX6_childOrNew_51 : decode cX6_childOrNew 51 = .ok (.aload_n 3, 1) := by decide +kernel
theorem dX6_childOrNew_52 : decode cX6_childOrNew 52 = .ok (.getfield 60, 3) := by decide +kernel
theorem dX6_childOrNew_55 : decode cX6_childOrNew 55 = .ok (.ireturn, 1) := by decide +kernel
theorem dX6_grow_0 : decode cX6_grow 0 = .ok (.aload_n 3, 1) := by decide +kernel
theorem dX6_grow_1 : decode cX6_grow 1 = .ok (.ifnull 10, 3) := by decide +kernel
theorem dX6_grow_4 : decode cX6_grow 4 = .ok (.aload_n 0, 1) := by decide +kernel
theorem dX6_grow_5 : decode cX6_grow 5 = .ok (.invokevirtual 24, 3) := by decide +kernel
theorem dX6_grow_8 : decode cX6_grow 8 = .ok (.ifCond .eq 5, 3) := by decide +kernel
theorem dX6_grow_11 : decode cX6_grow 11 = .ok (.aconst_null, 1) := by decide +kernel
theorem dX6_grow_12 : decode cX6_grow 12 = .ok (.areturn, 1) := by decide +kernel
theorem dX6_grow_13 : decode cX6_grow 13 = .ok (.new 9, 3) := by decide +kernel
theorem dX6_grow_16 : decode cX6_grow 16 = .ok (.dup, 1) := by decide +kernel
theorem dX6_grow_17 : decode cX6_grow 17 = .ok (.aload_n 0, 1) := by decide +kernel
theorem dX6_grow_18 : decode cX6_grow 18 = .ok (.getfield 20, 3) := by decide +kernel
theorem dX6_grow_21 : decode cX6_grow 21 = .ok (.aload_n 1, 1) := by decide +kernel
theorem dX6_grow_22 : decode cX6_grow 22 = .ok (.getfield 63, 3) := by decide +kernel
theorem dX6_grow_25 : decode cX6_grow 25 = .ok (.aload_n 1, 1) := by decide +kernel
theorem dX6_grow_26 : decode cX6_grow 26 = .ok (.getfield 66, 3) := by decide +kernel
theorem dX6_grow_29 : decode cX6_grow 29 = .ok (.aload_n 1, 1) := by decide +kernel
theorem dX6_grow_30 : decode cX6_grow 30 = .ok (.iload_n 2, 1) := by decide +kernel
theorem dX6_grow_31 : decode cX6_grow 31 = .ok (.aload_n 3, 1) := by decide +kernel
theorem dX6_grow_32 : decode cX6_grow 32 = .ok (.invokespecial 28, 3) := by decide +kernel
theorem dX6_grow_35 : decode cX6_grow 35 = .ok (.astore 4, 2) := by decide +kernel
theorem dX6_grow_37 : decode cX6_grow 37 = .ok (.aload_n 0, 1) := by decide +kernel
theorem dX6_grow_38 : decode cX6_grow 38 = .ok (.getfield 11, 3) := by decide +kernel
theorem dX6_grow_41 : decode cX6_grow 41 = .ok (.aload_n 0, 1) := by decide +kernel
theorem dX6_grow_42 : decode cX6_grow 42 = .ok (.getfield 20, 3) := by decide +kernel
theorem dX6_grow_45 : decode cX6_grow 45 = .ok (.aload 4, 2) := by decide +kernel
theorem dX6_grow_47 : decode cX6_grow 47 = .ok (.aastore, 1) := by decide +kernel
theorem dX6_grow_48 : decode cX6_grow 48 = .ok (.aload_n 0, 1) := by decide +kernel
theorem dX6_grow_49 : decode cX6_grow 49 = .ok (.dup, 1) := by decide +kernel
theorem dX6_grow_50 : decode cX6_grow 50 = .ok (.getfield 20, 3) := by decide +kernel
theorem dX6_grow_53 : decode cX6_grow 53 = .ok (.iconst 1, 1) := by decide +kernel
theorem dX6_grow_54 : decode cX6_grow 54 = .ok (.iadd, 1) := by decide +kernel
theorem dX6_grow_55 : decode cX6_grow 55 = .ok (.putfield 20, 3) := by decide +kernel
theorem dX6_grow_58 : decode cX6_grow 58 = .ok (.aload_n 1, 1) := by decide +kernel
theorem dX6_grow_59 : decode cX6_grow 59 = .ok (.dup, 1) := by decide +kernel
theorem dX6_grow_60 : decode cX6_grow 60 = .ok (.getfield 69, 3) := by decide +kernel
theorem dX6_grow_63 : decode cX6_grow 63 = .ok (.iconst 1, 1) := by decide +kernel
theorem dX6_grow_64 : decode cX6_grow 64 = .ok (.iadd, 1) := by decide +kernel
theorem dX6_grow_65 : decode cX6_grow 65 = .ok (.putfield 69, 3) := by decide +kernel
theorem dX6_grow_68 : decode cX6_grow 68 = .ok (.aload 4, 2) := by decide +kernel
theorem dX6_grow_70 : decode cX6_grow 70 = .ok (.areturn, 1) := by decide +kernel
theorem dX6_graft_0 : decode cX6_graft 0 = .ok (.aload_n 0, 1) := by decide +kernel
theorem dX6_graft_1 : decode cX6_graft 1 = .ok (.aload_n 1, 1) := by decide +kernel
theorem dX6_graft_2 : decode cX6_graft 2 = .ok (.aload_n 2, 1) := by decide +kernel
theorem dX6_graft_3 : decode cX6_graft 3 = .ok (.invokevirtual 72, 3) := by decide +kernel
theorem dX6_graft_6 : decode cX6_graft 6 = .ok (.istore_n 3, 1) := by decide +kernel
theorem dX6_graft_7 : decode cX6_graft 7 = .ok (.aload_n 0, 1) := by decide +kernel
theorem dX6_graft_8 : decode cX6_graft 8 = .ok (.getfield 20, 3) := by decide +kernel
theorem dX6_graft_11 : decode cX6_graft 11 = .ok (.iload_n 3, 1) := by decide +kernel
theorem dX6_graft_12 : decode cX6_graft 12 = .ok (.iadd, 1) := by decide +kernel
theorem dX6_graft_13 : decode cX6_graft 13 = .ok (.aload_n 0, 1) := by decide +kernel
theorem dX6_graft_14 : decode cX6_graft 14 = .ok (.getfield 11, 3) := by decide +kernel
theorem dX6_graft_17 : decode cX6_graft 17 = .ok (.arraylength, 1) := by decide +kernel
theorem dX6_graft_18 : decode cX6_graft 18 = .ok (.if_icmp .le 5, 3) := by decide +kernel
theorem dX6_graft_21 : decode cX6_graft 21 = .ok (.iconst (-1), 1) := by decide +kernel
theorem dX6_graft_22 : decode cX6_graft 22 = .ok (.ireturn, 1) := by decide +kernel
theorem dX6_graft_23 : decode cX6_graft 23 = .ok (.iconst 0, 1) := by decide +kernel
theorem dX6_graft_24 : decode cX6_graft 24 = .ok (.istore 4, 2) := by decide +kernel
theorem dX6_graft_26 : decode cX6_graft 26 = .ok (.iload 4, 2) := by decide +kernel
theorem dX6_graft_28 : decode cX6_graft 28 = .ok (.aload_n 0, 1) := by decide +kernel
theorem dX6_graft_29 : decode cX6_graft 29 = .ok (.getfield 11, 3) := by decide +kernel
theorem dX6_graft_32 : decode cX6_graft 32 = .ok (.arraylength, 1) := by decide +kernel
theorem dX6_graft_33 : decode cX6_graft 33 = .ok (.if_icmp .ge 75, 3) := by decide +kernel
theorem dX6_graft_36 : decode cX6_graft 36 = .ok (.iload 4, 2) := by decide +kernel
theorem dX6_graft_38 : decode cX6_graft 38 = .ok (.aload_n 0, 1) := by decide +kernel
theorem dX6_graft_39 : decode cX6_graft 39 = .ok (.getfield 17, 3) := by decide +kernel
theorem dX6_graft_42 : decode cX6_graft 42 = .ok (.arraylength, 1) := by decide +kernel
theorem dX6_graft_43 : decode cX6_graft 43 = .ok (.if_icmp .ge 65, 3) := by decide +kernel
theorem dX6_graft_46 : decode cX6_graft 46 = .ok (.aload_n 0, 1) := by decide +kernel
theorem dX6_graft_47 : decode cX6_graft 47 = .ok (.getfield 11, 3) := by decide +kernel
theorem dX6_graft_50 : decode cX6_graft 50 = .ok (.iload 4, 2) := by decide +kernel
theorem dX6_graft_52 : decode cX6_graft 52 = .ok (.aaload, 1) := by decide +kernel
theorem dX6_graft_53 : decode cX6_graft 53 = .ok (.astore 5, 2) := by decide +kernel
theorem dX6_graft_55 : decode cX6_graft 55 = .ok (.aload 5, 2) := by decide +kernel
theorem dX6_graft_57 : decode cX6_graft 57 = .ok (.ifnull 45, 3) := by decide +kernel
theorem dX6_graft_60 : decode cX6_graft 60 = .ok (.aload 5, 2) := by decide +kernel
theorem dX6_graft_62 : decode cX6_graft 62 = .ok (.getfield 63, 3) := by decide +kernel
theorem dX6_graft_65 : decode cX6_graft 65 = .ok (.aload_n 1, 1) := by decide +kernel
theorem dX6_graft_66 : decode cX6_graft 66 = .ok (.getfield 60, 3) := by decide +kernel
theorem dX6_graft_69 : decode cX6_graft 69 = .ok (.if_icmp .ne 33, 3) := by decide +kernel
theorem dX6_graft_72 : decode cX6_graft 72 = .ok (.aload_n 0, 1) := by decide +kernel
theorem dX6_graft_73 : decode cX6_graft 73 = .ok (.aload 5, 2) := by decide +kernel
theorem dX6_graft_75 : decode cX6_graft 75 = .ok (.aload_n 2, 1) := by decide +kernel
theorem dX6_graft_76 : decode cX6_graft 76 = .ok (.invokevirtual 76, 3) := by decide +kernel
theorem dX6_graft_79 : decode cX6_graft 79 = .ok (.astore 6, 2) := by decide +kernel
theorem dX6_graft_81 : decode cX6_graft 81 = .ok (.aload_n 0, 1) := by decide +kernel
theorem dX6_graft_82 : decode cX6_graft 82 = .ok (.getfield 17, 3) := by decide +kernel
theorem dX6_graft_85 : decode cX6_graft 85 = .ok (.iload 4, 2) := by decide +kernel
theorem dX6_graft_87 : decode cX6_graft 87 = .ok (.aload 6, 2) := by decide +kernel
theorem dX6_graft_89 : decode cX6_graft 89 = .ok (.aastore, 1) := by decide +kernel
theorem dX6_graft_90 : decode cX6_graft 90 = .ok (.aload 6, 2) := by decide +kernel
theorem dX6_graft_92 : decode cX6_graft 92 = .ok (.ifnull 10, 3) := by decide +kernel
theorem dX6_graft_95 : decode cX6_graft 95 = .ok (.aload 6, 2) := by decide +kernel
theorem dX6_graft_97 : decode cX6_graft 97 = .ok (.aload 5, 2) := by decide +kernel
theorem dX6_graft_99 : decode cX6_graft 99 = .ok (.invokevirtual 80, 3) := by decide +kernel
theorem dX6_graft_102 : decode cX6_graft 102 = .ok (.iinc 4 1, 3) := by decide +kernel
theorem dX6_graft_105 : decode cX6_graft 105 = .ok (.goto (-79), 3) := by decide +kernel
theorem dX6_graft_108 : decode cX6_graft 108 = .ok (.iload_n 3, 1) := by decide +kernel
theorem dX6_graft_109 : decode cX6_graft 109 = .ok (.ireturn, 1) := by decide +kernel
theorem dX6_countMissing_0 : decode cX6_countMissing 0 = .ok (.iconst 0, 1) := by decide +kernel
theorem dX6_countMissing_1 : decode cX6_countMissing 1 = .ok (.istore_n 3, 1) := by decide +kernel
theorem dX6_countMissing_2 : decode cX6_countMissing 2 = .ok (.iconst 0, 1) := by decide +kernel
theorem dX6_countMissing_3 : decode cX6_countMissing 3 = .ok (.istore 4, 2) := by decide +kernel
theorem dX6_countMissing_5 : decode cX6_countMissing 5 = .ok (.iload 4, 2) := by decide +kernel
theorem dX6_countMissing_7 : decode cX6_countMissing 7 = .ok (.aload_n 0, 1) := by decide +kernel
theorem dX6_countMissing_8 : decode cX6_countMissing 8 = .ok (.getfield 11, 3) := by decide +kernel
theorem dX6_countMissing_11 : decode cX6_countMissing 11 = .ok (.arraylength, 1) := by decide +kernel
theorem dX6_countMissing_12 : decode cX6_countMissing 12 = .ok (.if_icmp .ge 77, 3) := by decide +kernel
theorem dX6_countMissing_15 : decode cX6_countMissing 15 = .ok (.iload 4, 2) := by decide +kernel
theorem dX6_countMissing_17 : decode cX6_countMissing 17 = .ok (.aload_n 0, 1) := by decide +kernel
theorem dX6_countMissing_18 : decode cX6_countMissing 18 = .ok (.getfield 17, 3) := by decide +kernel
theorem dX6_countMissing_21 : decode cX6_countMissing 21 = .ok (.arraylength, 1) := by decide +kernel
theorem dX6_countMissing_22 : decode cX6_countMissing 22 = .ok (.if_icmp .ge 67, 3) := by decide +kernel
theorem dX6_countMissing_25 : decode cX6_countMissing 25 = .ok (.aload_n 0, 1) := by decide +kernel
theorem dX6_countMissing_26 : decode cX6_countMissing 26 = .ok (.getfield 11, 3) := by decide +kernel
theorem dX6_countMissing_29 : decode cX6_countMissing 29 = .ok (.iload 4, 2) := by decide +kernel
theorem dX6_countMissing_31 : decode cX6_countMissing 31 = .ok (.aaload, 1) := by decide +kernel
theorem dX6_countMissing_32 : decode cX6_countMissing 32 = .ok (.astore 5, 2) := by decide +kernel
theorem dX6_countMissing_34 : decode cX6_countMissing 34 = .ok (.aload 5, 2) := by decide +kernel
theorem dX6_countMissing_36 : decode cX6_countMissing 36 = .ok (.ifnull 47, 3) := by decide +kernel
theorem dX6_countMissing_39 : decode cX6_countMissing 39 = .ok (.aload 5, 2) := by decide +kernel
theorem dX6_countMissing_41 : decode cX6_countMissing 41 = .ok (.getfield 63, 3) := by decide +kernel
theorem dX6_countMissing_44 : decode cX6_countMissing 44 = .ok (.aload_n 1, 1) := by decide +kernel
theorem dX6_countMissing_45 : decode cX6_countMissing 45 = .ok (.getfield 60, 3) := by decide +kernel
theorem dX6_countMissing_48 : decode cX6_countMissing 48 = .ok (.if_icmp .ne 35, 3) := by decide +kernel
theorem dX6_countMissing_51 : decode cX6_countMissing 51 = .ok (.aload_n 0, 1) := by decide +kernel
theorem dX6_countMissing_52 : decode cX6_countMissing 52 = .ok (.getfield 17, 3) := by decide +kernel
theorem dX6_countMissing_55 : decode cX6_countMissing 55 = .ok (.iload 4, 2) := by decide +kernel
theorem dX6_countMissing_57 : decode cX6_countMissing 57 = .ok (.aload_n 0, 1) := by decide +kernel
theorem dX6_countMissing_58 : decode cX6_countMissing 58 = .ok (.aload 5, 2) := by decide +kernel
theorem dX6_countMissing_60 : decode cX6_countMissing 60 = .ok (.aload_n 2, 1) := by decide +kernel
theorem dX6_countMissing_61 : decode cX6_countMissing 61 = .ok (.invokevirtual 84, 3) := by decide +kernel
theorem dX6_countMissing_64 : decode cX6_countMissing 64 = .ok (.aastore, 1) := by decide +kernel
theorem dX6_countMissing_65 : decode cX6_countMissing 65 = .ok (.iload_n 3, 1) := by decide +kernel
theorem dX6_countMissing_66 : decode cX6_countMissing 66 = .ok (.aload_n 0, 1) := by decide +kernel
theorem dX6_countMissing_67 : decode cX6_countMissing 67 = .ok (.getfield 17, 3) := by decide +kernel
theorem dX6_countMissing_70 : decode cX6_countMissing 70 = .ok (.iload 4, 2) := by decide +kernel
theorem dX6_countMissing_72 : decode cX6_countMissing 72 = .ok (.aaload, 1) := by decide +kernel
theorem dX6_countMissing_73 : decode cX6_countMissing 73 = .ok (.ifnonnull 7, 3) := by decide +kernel
theorem dX6_countMissing_76 : decode cX6_countMissing 76 = .ok (.iconst 1, 1) := by decide +kernel
theorem dX6_countMissing_77 : decode cX6_countMissing 77 = .ok (.goto 4, 3) := by decide +kernel
theorem dX6_countMissing_80 : decode cX6_countMissing 80 = .ok (.iconst 0, 1) := by decide +kernel
theorem dX6_countMissing_81 : decode cX6_countMissing 81 = .ok (.iadd, 1) := by decide +kernel
theorem dX6_countMissing_82 : decode cX6_countMissing 82 = .ok (.istore_n 3, 1) := by decide +kernel
theorem dX6_countMissing_83 : decode cX6_countMissing 83 = .ok (.iinc 4 1, 3) := by decide +kernel
theorem dX6_countMissing_86 : decode cX6_countMissing 86 = .ok (.goto (-81), 3) := by decide +kernel
theorem dX6_countMissing_89 : decode cX6_countMissing 89 = .ok (.iload_n 3, 1) := by decide +kernel
theorem dX6_countMissing_90 : decode cX6_countMissing 90 = .ok (.ireturn, 1) := by decide +kernel
theorem dX6_twinOfParent_0 : decode cX6_twinOfParent 0 = .ok (.aload_n 1, 1) := by decide +kernel
theorem dX6_twinOfParent_1 : decode cX6_twinOfParent 1 = .ok (.getfield 31, 3) := by decide +kernel
theorem dX6_twinOfParent_4 : decode cX6_twinOfParent 4 = .ok (.ifnonnull 7, 3) := by decide +kernel
theorem dX6_twinOfParent_7 : decode cX6_twinOfParent 7 = .ok (.iconst (-1), 1) := by decide +kernel
theorem dX6_twinOfParent_8 : decode cX6_twinOfParent 8 = .ok (.goto 10, 3) := by decide +kernel
theorem dX6_twinOfParent_11 : decode cX6_twinOfParent 11 = .ok (.aload_n 1, 1) := by decide +kernel
theorem dX6_twinOfParent_12 : decode cX6_twinOfParent 12 = .ok (.getfield 31, 3) := by decide +kernel
theorem dX6_twinOfParent_15 : decode cX6_twinOfParent 15 = .ok (.getfield 60, 3) := by decide +kernel
theorem dX6_twinOfParent_18 : decode cX6_twinOfParent 18 = .ok (.istore_n 2, 1) := by decide +kernel
theorem dX6_twinOfParent_19 : decode cX6_twinOfParent 19 = .ok (.iload_n 2, 1) := by decide +kernel
theorem dX6_twinOfParent_20 : decode cX6_twinOfParent 20 = .ok (.ifCond .lt 12, 3) := by decide +kernel
theorem dX6_twinOfParent_23 : decode cX6_twinOfParent 23 = .ok (.iload_n 2, 1) := by decide +kernel
theorem dX6_twinOfParent_24 : decode cX6_twinOfParent 24 = .ok (.aload_n 0, 1) := by decide +kernel
theorem dX6_twinOfParent_25 : decode cX6_twinOfParent 25 = .ok (.getfield 17, 3) := by decide +kernel
theorem dX6_twinOfParent_28 : decode cX6_twinOfParent 28 = .ok (.arraylength, 1) := by decide +kernel
theorem dX6_twinOfParent_29 : decode cX6_twinOfParent 29 = .ok (.if_icmp .lt 7, 3) := by decide +kernel
theorem dX6_twinOfParent_32 : decode cX6_twinOfParent 32 = .ok (.aconst_null, 1) := by decide +kernel
theorem dX6_twinOfParent_33 : decode cX6_twinOfParent 33 = .ok (.goto 9, 3) := by decide +kernel
theorem dX6_twinOfParent_36 : decode cX6_twinOfParent 36 = .ok (.aload_n 0, 1) := by decide +kernel
theorem dX6_twinOfParent_37 : decode cX6_twinOfParent 37 = .ok (.getfield 17, 3) := by decide +kernel
theorem dX6_twinOfParent_40 : decode cX6_twinOfParent 40 = .ok (.iload_n 2, 1) := by decide +kernel
theorem dX6_twinOfParent_41 : decode cX6_twinOfParent 41 = .ok (.aaload, 1) := by decide +kernel
theorem dX6_twinOfParent_42 : decode cX6_twinOfParent 42 = .ok (.areturn, 1) := by decide +kernel
theorem dX6_twinOf_0 : decode cX6_twinOf 0 = .ok (.aload_n 1, 1) := by decide +kernel
theorem dX6_twinOf_1 : decode cX6_twinOf 1 = .ok (.getfield 31, 3) := by decide +kernel
theorem dX6_twinOf_4 : decode cX6_twinOf 4 = .ok (.ifnonnull 5, 3) := by decide +kernel
theorem dX6_twinOf_7 : decode cX6_twinOf 7 = .ok (.aload_n 2, 1) := by decide +kernel
theorem dX6_twinOf_8 : decode cX6_twinOf 8 = .ok (.areturn, 1) := by decide +kernel
theorem dX6_twinOf_9 : decode cX6_twinOf 9 = .ok (.aload_n 0, 1) := by decide +kernel
theorem dX6_twinOf_10 : decode cX6_twinOf 10 = .ok (.aload_n 1, 1) := by decide +kernel
theorem dX6_twinOf_11 : decode cX6_twinOf 11 = .ok (.invokevirtual 87, 3) := by decide +kernel
theorem dX6_twinOf_14 : decode cX6_twinOf 14 = .ok (.astore_n 3, 1) := by decide +kernel
theorem dX6_twinOf_15 : decode cX6_twinOf 15 = .ok (.aload_n 3, 1) := by decide +kernel
theorem dX6_twinOf_16 : decode cX6_twinOf 16 = .ok (.ifnonnull 7, 3) := by decide +kernel
theorem dX6_twinOf_19 : decode cX6_twinOf 19 = .ok (.aconst_null, 1) := by decide +kernel
theorem dX6_twinOf_20 : decode cX6_twinOf 20 = .ok (.goto 12, 3) := by decide +kernel
theorem dX6_twinOf_23 : decode cX6_twinOf 23 = .ok (.aload_n 0, 1) := by decide +kernel
theorem dX6_twinOf_24 : decode cX6_twinOf 24 = .ok (.aload_n 3, 1) := by decide +kernel
theorem dX6_twinOf_25 : decode cX6_twinOf 25 = .ok (.aload_n 1, 1) := by decide +kernel
theorem dX6_twinOf_26 : decode cX6_twinOf 26 = .ok (.getfield 35, 3) := by decide +kernel
theorem dX6_twinOf_29 : decode cX6_twinOf 29 = .ok (.invokevirtual 38, 3) := by decide +kernel
theorem dX6_twinOf_32 : decode cX6_twinOf 32 = .ok (.areturn, 1) := by decide +kernel
theorem dX6_twinOrNew_0 : decode cX6_twinOrNew 0 = .ok (.aload_n 0, 1) := by decide +kernel
theorem dX6_twinOrNew_1 : decode cX6_twinOrNew 1 = .ok (.aload_n 1, 1) := by decide +kernel
theorem dX6_twinOrNew_2 : decode cX6_twinOrNew 2 = .ok (.aload_n 2, 1) := by decide +kernel
theorem dX6_twinOrNew_3 : decode cX6_twinOrNew 3 = .ok (.invokevirtual 84, 3) := by decide +kernel
theorem dX6_twinOrNew_6 : decode cX6_twinOrNew 6 = .ok (.astore_n 3, 1) := by decide +kernel
theorem dX6_twinOrNew_7 : decode cX6_twinOrNew 7 = .ok (.aload_n 0, 1) := by decide +kernel
theorem dX6_twinOrNew_8 : decode cX6_twinOrNew 8 = .ok (.aload_n 1, 1) := by decide +kernel
theorem dX6_twinOrNew_9 : decode cX6_twinOrNew 9 = .ok (.invokevirtual 87, 3) := by decide +kernel
theorem dX6_twinOrNew_12 : decode cX6_twinOrNew 12 = .ok (.astore 4, 2) := by decide +kernel
theorem dX6_twinOrNew_14 : decode cX6_twinOrNew 14 = .ok (.aload_n 3, 1) := by decide +kernel
theorem dX6_twinOrNew_15 : decode cX6_twinOrNew 15 = .ok (.ifnonnull 25, 3) := by decide +kernel
theorem dX6_twinOrNew_18 : decode cX6_twinOrNew 18 = .ok (.aload 4, 2) := by decide +kernel
theorem dX6_twinOrNew_20 : decode cX6_twinOrNew 20 = .ok (.ifnull 20, 3) := by decide +kernel
theorem dX6_twinOrNew_23 : decode cX6_twinOrNew 23 = .ok (.aload_n 0, 1) := by decide +kernel
theorem dX6_twinOrNew_24 : decode cX6_twinOrNew 24 = .ok (.aload 4, 2) := by decide +kernel
theorem dX6_twinOrNew_26 : decode cX6_twinOrNew 26 = .ok (.aload_n 1, 1) := by decide +kernel
theorem dX6_twinOrNew_27 : decode cX6_twinOrNew 27 = .ok (.getfield 35, 3) := by decide +kernel
theorem dX6_twinOrNew_30 : decode cX6_twinOrNew 30 = .ok (.aload_n 1, 1) := by decide +kernel
theorem dX6_twinOrNew_31 : decode cX6_twinOrNew 31 = .ok (.getfield 42, 3) := by decide +kernel
theorem dX6_twinOrNew_34 : decode cX6_twinOrNew 34 = .ok (.invokevirtual 56, 3) := by decide +kernel
theorem dX6_twinOrNew_37 : decode cX6_twinOrNew 37 = .ok (.goto 4, 3) := by decide +kernel
theorem dX6_twinOrNew_40 : decode cX6_twinOrNew 40 = .ok (.aload_n 3, 1) := by decide +kernel
theorem dX6_twinOrNew_41 : decode cX6_twinOrNew 41 = .ok (.areturn, 1) := by decide +kernel
theorem dX7_init_0 : decode cX7_init 0 = .ok (.aload_n 0, 1) := by decide +kernel
theorem dX7_init_1 : decode cX7_init 1 = .ok (.invokespecial 3, 3) := by decide +kernel
theorem dX7_init_4 : decode cX7_init 4 = .ok (.aload_n 0, 1) := by decide +kernel
theorem dX7_init_5 : decode cX7_init 5 = .ok (.iconst 4, 1) := by decide +kernel
theorem dX7_init_6 : decode cX7_init 6 = .ok (.newarray .int, 2) := by decide +kernel
theorem dX7_init_8 : decode cX7_init 8 = .ok (.putfield 9, 3) := by decide +kernel
theorem dX7_init_11 : decode cX7_init 11 = .ok (.aload_n 0, 1) := by decide +kernel
theorem dX7_init_12 : decode cX7_init 12 = .ok (.iload_n 1, 1) := by decide +kernel
theorem dX7_init_13 : decode cX7_init 13 = .ok (.putfield 15, 3) := by decide +kernel
theorem dX7_init_16 : decode cX7_init 16 = .ok (.aload_n 0, 1) := by decide +kernel
theorem dX7_init_17 : decode cX7_init 17 = .ok (.iload_n 2, 1) := by decide +kernel
theorem dX7_init_18 : decode cX7_init 18 = .ok (.putfield 19, 3) := by decide +kernel
theorem dX7_init_21 : decode cX7_init 21 = .ok (.aload_n 0, 1) := by decide +kernel
theorem dX7_init_22 : decode cX7_init 22 = .ok (.iload_n 3, 1) := by decide +kernel
theorem dX7_init_23 : decode cX7_init 23 = .ok (.putfield 22, 3) := by decide +kernel
theorem dX7_init_26 : decode cX7_init 26 = .ok (.aload_n 0, 1) := by decide +kernel
theorem dX7_init_27 : decode cX7_init 27 = .ok (.aload 4, 2) := by decide +kernel
theorem dX7_init_29 : decode cX7_init 29 = .ok (.putfield 25, 3) := by decide +kernel
theorem dX7_init_32 : decode cX7_init 32 = .ok (.aload_n 0, 1) := by decide +kernel
theorem dX7_init_33 : decode cX7_init 33 = .ok (.iload 5, 2) := by decide +kernel
theorem dX7_init_35 : decode cX7_init 35 = .ok (.putfield 29, 3) := by decide +kernel
theorem dX7_init_38 : decode cX7_init 38 = .ok (.aload_n 0, 1) := by decide +kernel
theorem dX7_init_39 : decode cX7_init 39 = .ok (.aload 6, 2) := by decide +kernel
theorem dX7_init_41 : decode cX7_init 41 = .ok (.putfield 32, 3) := by decide +kernel
theorem dX7_init_44 : decode cX7_init 44 = .ok (.return_, 1) := by decide +kernel
theorem dX7_beginsAs_0 : decode cX7_beginsAs 0 = .ok (.aload_n 0, 1) := by decide +kernel
theorem dX7_beginsAs_1 : decode cX7_beginsAs 1 = .ok (.getfield 25, 3) := by decide +kernel
theorem dX7_beginsAs_4 : decode cX7_beginsAs 4 = .ok (.ifnonnull 42, 3) := by decide +kernel
theorem dX7_beginsAs_7 : decode cX7_beginsAs 7 = .ok (.aload_n 1, 1) := by decide +kernel
theorem dX7_beginsAs_8 : decode cX7_beginsAs 8 = .ok (.getfield 25, 3) := by decide +kernel
theorem dX7_beginsAs_11 : decode cX7_beginsAs 11 = .ok (.ifnonnull 35, 3) := by decide +kernel
theorem dX7_beginsAs_14 : decode cX7_beginsAs 14 = .ok (.aload_n 0, 1) := by decide +kernel
theorem dX7_beginsAs_15 : decode cX7_beginsAs 15 = .ok (.getfield 22, 3) := by decide +kernel
theorem dX7_beginsAs_18 : decode cX7_beginsAs 18 = .ok (.aload_n 1, 1) := by decide +kernel
theorem dX7_beginsAs_19 : decode cX7_beginsAs 19 = .ok (.getfield 22, 3) := by decide +kernel
theorem dX7_beginsAs_22 : decode cX7_beginsAs 22 = .ok (.if_icmp .ne 24, 3) := by decide +kernel
theorem dX7_beginsAs_25 : decode cX7_beginsAs 25 = .ok (.aload_n 0, 1) := by decide +kernel
theorem dX7_beginsAs_26 : decode cX7_beginsAs 26 = .ok (.getfield 32, 3) := by decide +kernel
theorem dX7_beginsAs_29 : decode cX7_beginsAs 29 = .ok (.getfield 36, 3) := by decide +kernel
theorem dX7_beginsAs_32 : decode cX7_beginsAs 32 = .ok (.aload_n 1, 1) := by decide +kernel
theorem dX7_beginsAs_33 : decode cX7_beginsAs 33 = .ok (.getfield 32, 3) := by decide +kernel
theorem dX7_beginsAs_36 : decode cX7_beginsAs 36 = .ok (.getfield 36, 3) := by decide +kernel
theorem dX7_beginsAs_39 : decode cX7_beginsAs 39 = .ok (.if_icmp .ne 7, 3) := by decide +kernel
theorem dX7_beginsAs_42 : decode cX7_beginsAs 42 = .ok (.iconst 1, 1) := by decide +kernel
theorem dX7_beginsAs_43 : decode cX7_beginsAs 43 = .ok (.goto 4, 3) := by decide +kernel
theorem dX7_beginsAs_46 : decode cX7_beginsAs 46 = .ok (.iconst 0, 1) := by decide +kernel
theorem dX7_beginsAs_47 : decode cX7_beginsAs 47 = .ok (.ireturn, 1) := by decide +kernel
theorem dX7_changeMark_0 : decode cX7_changeMark 0 = .ok (.iload_n 1, 1) := by decide +kernel
theorem dX7_changeMark_1 : decode cX7_changeMark 1 = .ok (.ifCond .lt 12, 3) := by decide +kernel
theorem dX7_changeMark_4 : decode cX7_changeMark 4 = .ok (.iload_n 1, 1) := by decide +kernel
theorem dX7_changeMark_5 : decode cX7_changeMark 5 = .ok (.aload_n 0, 1) := by decide +kernel
theorem dX7_changeMark_6 : decode cX7_changeMark 6 = .ok (.getfield 9, 3) := by decide +kernel
theorem dX7_changeMark_9 : decode cX7_changeMark 9 = .ok (.arraylength, 1) := by decide +kernel
theorem dX7_changeMark_10 : decode cX7_changeMark 10 = .ok (.if_icmp .lt 5, 3) := by decide +kernel
theorem dX7_changeMark_13 : decode cX7_changeMark 13 = .ok (.iconst 0, 1) := by decide +kernel
theorem dX7_changeMark_14 : decode cX7_changeMark 14 = .ok (.ireturn, 1) := by decide +kernel
theorem dX7_changeMark_15 : decode cX7_changeMark 15 = .ok (.aload_n 0, 1) := by decide +kernel
theorem dX7_changeMark_16 : decode cX7_changeMark 16 = .ok (.getfield 9, 3) := by decide +kernel
theorem dX7_changeMark_19 : decode cX7_changeMark 19 = .ok (.iload_n 1, 1) := by decide +kernel
theorem dX7_changeMark_20 : decode cX7_changeMark 20 = .ok (.iaload, 1) := by decide +kernel
theorem dX7_changeMark_21 : decode cX7_changeMark 21 = .ok (.istore_n 3, 1) := by decide +kernel
theorem dX7_changeMark_22 : decode cX7_changeMark 22 = .ok (.aload_n 0, 1) := by decide +kernel
theorem dX7_changeMark_23 : decode cX7_changeMark 23 = .ok (.getfield 9, 3) := by decide +kernel
theorem dX7_changeMark_26 : decode cX7_changeMark 26 = .ok (.iload_n 1, 1) := by decide +kernel
theorem dX7_changeMark_27 : decode cX7_changeMark 27 = .ok (.iload_n 2, 1) := by decide +kernel
theorem dX7_changeMark_28 : decode cX7_changeMark 28 = .ok (.iastore, 1) := by decide +kernel
theorem dX7_changeMark_29 : decode cX7_changeMark 29 = .ok (.iload_n 3, 1) := by decide +kernel
theorem dX7_changeMark_30 : decode cX7_changeMark 30 = .ok (.ireturn, 1) := by decide +kernel
theorem dX7_takeMarks_0 : decode cX7_takeMarks 0 = .ok (.iconst 0, 1) := by decide +kernel
theorem dX7_takeMarks_1 : decode cX7_takeMarks 1 = .ok (.istore_n 2, 1) := by decide +kernel
theorem dX7_takeMarks_2 : decode cX7_takeMarks 2 = .ok (.iload_n 2, 1) := by decide +kernel
theorem dX7_takeMarks_3 : decode cX7_takeMarks 3 = .ok (.aload_n 0, 1) := by decide +kernel
theorem dX7_takeMarks_4 : decode cX7_takeMarks 4 = .ok (.getfield 9, 3) := by decide +kernel
theorem dX7_takeMarks_7 : decode cX7_takeMarks 7 = .ok (.arraylength, 1) := by decide +kernel
theorem dX7_takeMarks_8 : decode cX7_takeMarks 8 = .ok (.if_icmp .ge 39, 3) := by decide +kernel
theorem dX7_takeMarks_11 : decode cX7_takeMarks 11 = .ok (.iload_n 2, 1) := by decide +kernel
theorem dX7_takeMarks_12 : decode cX7_takeMarks 12 = .ok (.aload_n 1, 1) := by decide +kernel
theorem dX7_takeMarks_13 : decode cX7_takeMarks 13 = .ok (.getfield 9, 3) := by decide +kernel
theorem dX7_takeMarks_16 : decode cX7_takeMarks 16 = .ok (.arraylength, 1) := by decide +kernel
theorem dX7_takeMarks_17 : decode cX7_takeMarks 17 = .ok (.if_icmp .ge 30, 3) := by decide +kernel
theorem dX7_takeMarks_20 : decode cX7_takeMarks 20 = .ok (.aload_n 0, 1) := by decide +kernel
theorem dX7_takeMarks_21 : decode cX7_takeMarks 21 = .ok (.getfield 9, 3) := by decide +kernel
theorem dX7_takeMarks_24 : decode cX7_takeMarks 24 = .ok (.iload_n 2, 1) := by decide +kernel
theorem dX7_takeMarks_25 : decode cX7_takeMarks 25 = .ok (.iaload, 1) := by decide +kernel
theorem dX7_takeMarks_26 : decode cX7_takeMarks 26 = .ok (.ifCond .ne 15, 3) := by decide +kernel
theorem dX7_takeMarks_29 : decode cX7_takeMarks 29 = .ok (.aload_n 0, 1) := by decide +kernel
theorem dX7_takeMarks_30 : decode cX7_takeMarks 30 = .ok (.getfield 9, 3) := by decide +kernel
theorem dX7_takeMarks_33 : decode cX7_takeMarks 33 = .ok (.iload_n 2, 1) := by decide +kernel
theorem dX7_takeMarks_34 : decode cX7_takeMarks 34 = .ok (.aload_n 1, 1) := by decide +kernel
theorem dX7_takeMarks_35 : decode cX7_takeMarks 35 = .ok (.getfield 9, 3) := by decide +kernel
theorem dX7_takeMarks_38 : decode cX7_takeMarks 38 = .ok (.iload_n 2, 1) := by decide +kernel
theorem dX7_takeMarks_39 : decode cX7_takeMarks 39 = .ok (.iaload, 1) := by decide +kernel
theorem dX7_takeMarks_40 : decode cX7_takeMarks 40 = .ok (.iastore, 1) := by decide +kernel
theorem dX7_takeMarks_41 : decode cX7_takeMarks 41 = .ok (.iinc 2 1, 3) := by decide +kernel
theorem dX7_takeMarks_44 : decode cX7_takeMarks 44 = .ok (.goto (-42), 3) := by decide +kernel
theorem dX7_takeMarks_47 : decode cX7_takeMarks 47 = .ok (.return_, 1) := by decide +kernel
theorem dX7_hasMark_0 : decode cX7_hasMark 0 = .ok (.iconst 0, 1) := by decide +kernel
theorem dX7_hasMark_1 : decode cX7_hasMark 1 = .ok (.istore_n 2, 1) := by decide +kernel
theorem dX7_hasMark_2 : decode cX7_hasMark 2 = .ok (.iload_n 2, 1) := by decide +kernel
theorem dX7_hasMark_3 : decode cX7_hasMark 3 = .ok (.aload_n 0, 1) := by decide +kernel
theorem dX7_hasMark_4 : decode cX7_hasMark 4 = .ok (.getfield 9, 3) := by decide +kernel
theorem dX7_hasMark_7 : decode cX7_hasMark 7 = .ok (.arraylength, 1) := by decide +kernel
theorem dX7_hasMark_8 : decode cX7_hasMark 8 = .ok (.if_icmp .ge 21, 3) := by decide +kernel
theorem dX7_hasMark_11 : decode cX7_hasMark 11 = .ok (.aload_n 0, 1) := by decide +kernel
theorem dX7_hasMark_12 : decode cX7_hasMark 12 = .ok (.getfield 9, 3) := by decide +kernel
theorem dX7_hasMark_15 : decode cX7_hasMark 15 = .ok (.iload_n 2, 1) := by decide +kernel
theorem dX7_hasMark_16 : decode cX7_hasMark 16 = .ok (.iaload, 1) := by decide +kernel
theorem dX7_hasMark_17 : decode cX7_hasMark 17 = .ok (.iload_n 1, 1) := by decide +kernel
theorem dX7_hasMark_18 : decode cX7_hasMark 18 = .ok (.if_icmp .ne 5, 3) := by decide +kernel
theorem dX7_hasMark_21 : decode cX7_hasMark 21 = .ok (.iconst 1, 1) := by decide +kernel
theorem dX7_hasMark_22 : decode cX7_hasMark 22 = .ok (.ireturn, 1) := by decide +kernel
theorem dX7_hasMark_23 : decode cX7_hasMark 23 = .ok (.iinc 2 1, 3) := by decide +kernel
theorem dX7_hasMark_26 : decode cX7_hasMark 26 = .ok (.goto (-24), 3) := by decide +kernel
theorem dX7_hasMark_29 : decode cX7_hasMark 29 = .ok (.iconst 0, 1) := by decide +kernel
theorem dX7_hasMark_30 : decode cX7_hasMark 30 = .ok (.ireturn, 1) := by decide +kernel
theorem dX7_told_0 : decode cX7_told 0 = .ok (.aload_n 0, 1) := by decide +kernel
theorem dX7_told_1 : decode cX7_told 1 = .ok (.iconst 1, 1) := by decide +kernel
theorem dX7_told_2 : decode cX7_told 2 = .ok (.invokevirtual 41, 3) := by decide +kernel
theorem dX7_told_5 : decode cX7_told 5 = .ok (.ifCond .eq 15, 3) := by decide +kernel
theorem dX7_told_8 : decode cX7_told 8 = .ok (.aload_n 0, 1) := by decide +kernel
theorem dX7_told_9 : decode cX7_told 9 = .ok (.iconst 2, 1) := by decide +kernel
theorem dX7_told_10 : decode cX7_told 10 = .ok (.invokevirtual 41, 3) := by decide +kernel
theorem dX7_told_13 : decode cX7_told 13 = .ok (.ifCond .eq 7, 3) := by decide +kernel
theorem dX7_told_16 : decode cX7_told 16 = .ok (.iconst 1, 1) := by decide +kernel
theorem dX7_told_17 : decode cX7_told 17 = .ok (.goto 4, 3) := by decide +kernel
theorem dX7_told_20 : decode cX7_told 20 = .ok (.iconst 0, 1) := by decide +kernel
theorem dX7_told_21 : decode cX7_told 21 = .ok (.istore_n 1, 1) := by decide +kernel
theorem dX7_told_22 : decode cX7_told 22 = .ok (.sipush 1000, 3) := by decide +kernel
theorem dX7_told_25 : decode cX7_told 25 = .ok (.aload_n 0, 1) := by decide +kernel
theorem dX7_told_26 : decode cX7_told 26 = .ok (.getfield 45, 3) := by decide +kernel
theorem dX7_told_29 : decode cX7_told 29 = .ok (.imul, 1) := by decide +kernel
theorem dX7_told_30 : decode cX7_told 30 = .ok (.bipush 10, 2) := by decide +kernel
theorem dX7_told_32 : decode cX7_told 32 = .ok (.aload_n 0, 1) := by decide +kernel
theorem dX7_told_33 : decode cX7_told 33 = .ok (.getfield 29, 3) := by decide +kernel
theorem dX7_told_36 : decode cX7_told 36 = .ok (.bipush (-2), 2) := by decide +kernel
theorem dX7_told_38 : decode cX7_told 38 = .ok (.isub, 1) := by decide +kernel
theorem dX7_told_39 : decode cX7_told 39 = .ok (.imul, 1) := by decide +kernel
theorem dX7_told_40 : decode cX7_told 40 = .ok (.iadd, 1) := by decide +kernel
theorem dX7_told_41 : decode cX7_told 41 = .ok (.iload_n 1, 1) := by decide +kernel
theorem dX7_told_42 : decode cX7_told 42 = .ok (.ifCond .eq 7, 3) := by decide +kernel
theorem dX7_told_45 : decode cX7_told 45 = .ok (.iconst 1, 1) := by decide +kernel
theorem dX7_told_46 : decode cX7_told 46 = .ok (.goto 4, 3) := by decide +kernel
theorem dX7_told_49 : decode cX7_told 49 = .ok (.iconst 0, 1) := by decide +kernel
theorem dX7_told_50 : decode cX7_told 50 = .ok (.iadd, 1) := by decide +kernel
theorem dX7_told_51 : decode cX7_told 51 = .ok (.ireturn, 1) := by decide +kernel
theorem dX8_init_0 : decode cX8_init 0 = .ok (.aload_n 0, 1) := by decide +kernel
theorem dX8_init_1 : decode cX8_init 1 = .ok (.invokespecial 1, 3) := by decide +kernel
theorem dX8_init_4 : decode cX8_init 4 = .ok (.aload_n 0, 1) := by decide +kernel
theorem dX8_init_5 : decode cX8_init 5 = .ok (.new 7, 3) := by decide +kernel
theorem dX8_init_8 : decode cX8_init 8 = .ok (.dup, 1) := by decide +kernel
theorem dX8_init_9 : decode cX8_init 9 = .ok (.invokespecial 9, 3) := by decide +kernel
theorem dX8_init_12 : decode cX8_init 12 = .ok (.putfield 10, 3) := by decide +kernel
theorem dX8_init_15 : decode cX8_init 15 = .ok (.aload_n 0, 1) := by decide +kernel
theorem dX8_init_16 : decode cX8_init 16 = .ok (.new 16, 3) := by decide +kernel
theorem dX8_init_19 : decode cX8_init 19 = .ok (.dup, 1) := by decide +kernel
theorem dX8_init_20 : decode cX8_init 20 = .ok (.invokespecial 18, 3) := by decide +kernel
theorem dX8_init_23 : decode cX8_init 23 = .ok (.putfield 19, 3) := by decide +kernel
theorem dX8_init_26 : decode cX8_init 26 = .ok (.return_, 1) := by decide +kernel
theorem dX8_player_0 : decode cX8_player 0 = .ok (.iload_n 1, 1) := by decide +kernel
theorem dX8_player_1 : decode cX8_player 1 = .ok (.iconst 0, 1) := by decide +kernel
theorem dX8_player_2 : decode cX8_player 2 = .ok (.bipush 20, 2) := by decide +kernel
theorem dX8_player_4 : decode cX8_player 4 = .ok (.invokestatic 23, 3) := by decide +kernel
theorem dX8_player_7 : decode cX8_player 7 = .ok (.aload_n 0, 1) := by decide +kernel
theorem dX8_player_8 : decode cX8_player 8 = .ok (.getfield 10, 3) := by decide +kernel
theorem dX8_player_11 : decode cX8_player 11 = .ok (.iload_n 1, 1) := by decide +kernel
theorem dX8_player_12 : decode cX8_player 12 = .ok (.invokevirtual 27, 3) := by decide +kernel
theorem dX8_player_15 : decode cX8_player 15 = .ok (.istore_n 2, 1) := by decide +kernel
theorem dX8_player_16 : decode cX8_player 16 = .ok (.iload_n 2, 1) := by decide +kernel
theorem dX8_player_17 : decode cX8_player 17 = .ok (.ifCond .ge 13, 3) := by decide +kernel
theorem dX8_player_20 : decode cX8_player 20 = .ok (.new 31, 3) := by decide +kernel
theorem dX8_player_23 : decode cX8_player 23 = .ok (.dup, 1) := by decide +kernel
theorem dX8_player_24 : decode cX8_player 24 = .ok (.ldc 33, 2) := by decide +kernel
theorem dX8_player_26 : decode cX8_player 26 = .ok (.invokespecial 35, 3) := by decide +kernel
theorem dX8_player_29 : decode cX8_player 29 = .ok (.athrow, 1) := by decide +kernel
theorem dX8_player_30 : decode cX8_player 30 = .ok (.iload_n 2, 1) := by decide +kernel
theorem dX8_player_31 : decode cX8_player 31 = .ok (.ireturn, 1) := by decide +kernel
theorem dX8_rank_0 : decode cX8_rank 0 = .ok (.aload_n 0, 1) := by decide +kernel
theorem dX8_rank_1 : decode cX8_rank 1 = .ok (.iload_n 1, 1) := by decide +kernel
theorem dX8_rank_2 : decode cX8_rank 2 = .ok (.invokevirtual 38, 3) := by decide +kernel
theorem dX8_rank_5 : decode cX8_rank 5 = .ok (.aload_n 0, 1) := by decide +kernel
theorem dX8_rank_6 : decode cX8_rank 6 = .ok (.getfield 10, 3) := by decide +kernel
theorem dX8_rank_9 : decode cX8_rank 9 = .ok (.iload_n 1, 1) := by decide +kernel
theorem dX8_rank_10 : decode cX8_rank 10 = .ok (.aload_n 0, 1) := by decide +kernel
theorem dX8_rank_11 : decode cX8_rank 11 = .ok (.getfield 10, 3) := by decide +kernel
theorem dX8_rank_14 : decode cX8_rank 14 = .ok (.getfield 42, 3) := by decide +kernel
theorem dX8_rank_17 : decode cX8_rank 17 = .ok (.invokevirtual 46, 3) := by decide +kernel
theorem dX8_rank_20 : decode cX8_rank 20 = .ok (.ireturn, 1) := by decide +kernel
theorem dX8_game_0 : decode cX8_game 0 = .ok (.aload_n 0, 1) := by decide +kernel
theorem dX8_game_1 : decode cX8_game 1 = .ok (.iload_n 1, 1) := by decide +kernel
theorem dX8_game_2 : decode cX8_game 2 = .ok (.invokevirtual 38, 3) := by decide +kernel
theorem dX8_game_5 : decode cX8_game 5 = .ok (.aload_n 0, 1) := by decide +kernel
theorem dX8_game_6 : decode cX8_game 6 = .ok (.iload_n 2, 1) := by decide +kernel
theorem dX8_game_7 : decode cX8_game 7 = .ok (.invokevirtual 38, 3) := by decide +kernel
theorem dX8_game_10 : decode cX8_game 10 = .ok (.iload_n 1, 1) := by decide +kernel
theorem dX8_game_11 : decode cX8_game 11 = .ok (.iload_n 2, 1) := by decide +kernel
theorem dX8_game_12 : decode cX8_game 12 = .ok (.if_icmp .ne 13, 3) := by decide +kernel
theorem dX8_game_15 : decode cX8_game 15 = .ok (.new 50, 3) := by decide +kernel
theorem dX8_game_18 : decode cX8_game 18 = .ok (.dup, 1) := by decide +kernel
theorem dX8_game_19 : decode cX8_game 19 = .ok (.ldc 52, 2) := by decide +kernel
theorem dX8_game_21 : decode cX8_game 21 = .ok (.invokespecial 54, 3) := by decide +kernel
theorem dX8_game_24 : decode cX8_game 24 = .ok (.athrow, 1) := by decide +kernel
theorem dX8_game_25 : decode cX8_game 25 = .ok (.iload_n 3, 1) := by decide +kernel
theorem dX8_game_26 : decode cX8_game 26 = .ok (.iconst 0, 1) := by decide +kernel
theorem dX8_game_27 : decode cX8_game 27 = .ok (.sipush 3600, 3) := by decide +kernel
theorem dX8_game_30 : decode cX8_game 30 = .ok (.invokestatic 23, 3) := by decide +kernel
theorem dX8_game_33 : decode cX8_game 33 = .ok (.iload 4, 2) := by decide +kernel
theorem dX8_game_35 : decode cX8_game 35 = .ok (.iconst 0, 1) := by decide +kernel
theorem dX8_game_36 : decode cX8_game 36 = .ok (.iconst 5, 1) := by decide +kernel
theorem dX8_game_37 : decode cX8_game 37 = .ok (.invokestatic 23, 3) := by decide +kernel
theorem dX8_game_40 : decode cX8_game 40 = .ok (.iload 5, 2) := by decide +kernel
theorem dX8_game_42 : decode cX8_game 42 = .ok (.iconst 1, 1) := by decide +kernel
theorem dX8_game_43 : decode cX8_game 43 = .ok (.bipush 60, 2) := by decide +kernel
theorem dX8_game_45 : decode cX8_game 45 = .ok (.invokestatic 23, 3) := by decide +kernel
theorem dX8_game_48 : decode cX8_game 48 = .ok (.aload_n 0, 1) := by decide +kernel
theorem dX8_game_49 : decode cX8_game 49 = .ok (.getfield 10, 3) := by decide +kernel
theorem dX8_game_52 : decode cX8_game 52 = .ok (.iload_n 1, 1) := by decide +kernel
theorem dX8_game_53 : decode cX8_game 53 = .ok (.iload_n 2, 1) := by decide +kernel
theorem dX8_game_54 : decode cX8_game 54 = .ok (.new 55, 3) := by decide +kernel
theorem dX8_game_57 : decode cX8_game 57 = .ok (.dup, 1) := by decide +kernel
theorem dX8_game_58 : decode cX8_game 58 = .ok (.iload_n 3, 1) := by decide +kernel
theorem dX8_game_59 : decode cX8_game 59 = .ok (.iload 4, 2) := by decide +kernel
theorem dX8_game_61 : decode cX8_game 61 = .ok (.iload 5, 2) := by decide +kernel
theorem dX8_game_63 : decode cX8_game 63 = .ok (.invokespecial 57, 3) := by decide +kernel
theorem dX8_game_66 : decode cX8_game 66 = .ok (.new 55, 3) := by decide +kernel
theorem dX8_game_69 : decode cX8_game 69 = .ok (.dup, 1) := by decide +kernel
theorem dX8_game_70 : decode cX8_game 70 = .ok (.iload_n 3, 1) := by decide +kernel
theorem dX8_game_71 : decode cX8_game 71 = .ok (.iload 4, 2) := by decide +kernel
theorem dX8_game_73 : decode cX8_game 73 = .ok (.iload 5, 2) := by decide +kernel
theorem dX8_game_75 : decode cX8_game 75 = .ok (.invokespecial 57, 3) := by decide +kernel
theorem dX8_game_78 : decode cX8_game 78 = .ok (.invokevirtual 59, 3) := by decide +kernel
theorem dX8_game_81 : decode cX8_game 81 = .ok (.istore 6, 2) := by decide +kernel
theorem dX8_game_83 : decode cX8_game 83 = .ok (.iload 6, 2) := by decide +kernel
theorem dX8_game_85 : decode cX8_game 85 = .ok (.ifCond .ge 13, 3) := by decide +kernel
theorem dX8_game_88 : decode cX8_game 88 = .ok (.new 31, 3) := by decide +kernel
theorem dX8_game_91 : decode cX8_game 91 = .ok (.dup, 1) := by decide +kernel
theorem dX8_game_92 : decode cX8_game 92 = .ok (.ldc 63, 2) := by decide +kernel
theorem dX8_game_94 : decode cX8_game 94 = .ok (.invokespecial 35, 3) := by decide +kernel
theorem dX8_game_97 : decode cX8_game 97 = .ok (.athrow, 1) := by decide +kernel
theorem dX8_game_98 : decode cX8_game 98 = .ok (.iload 6, 2) := by decide +kernel
theorem dX8_game_100 : decode cX8_game 100 = .ok (.ireturn, 1) := by decide +kernel
theorem dX8_play_0 : decode cX8_play 0 = .ok (.aload_n 0, 1) := by decide +kernel
theorem dX8_play_1 : decode cX8_play 1 = .ok (.iload_n 1, 1) := by decide +kernel
theorem dX8_play_2 : decode cX8_play 2 = .ok (.invokevirtual 65, 3) := by decide +kernel
theorem dX8_play_5 : decode cX8_play 5 = .ok (.astore 4, 2) := by decide +kernel
theorem dX8_play_7 : decode cX8_play 7 = .ok (.iload_n 2, 1) := by decide +kernel
theorem dX8_play_8 : decode cX8_play 8 = .ok (.invokestatic 69, 3) := by decide +kernel
theorem dX8_play_11 : decode cX8_play 11 = .ok (.iload_n 3, 1) := by decide +kernel
theorem dX8_play_12 : decode cX8_play 12 = .ok (.iconst 0, 1) := by decide +kernel
theorem dX8_play_13 : decode cX8_play 13 = .ok (.sipush 1000, 3) := by decide +kernel
theorem dX8_play_16 : decode cX8_play 16 = .ok (.invokestatic 23, 3) := by decide +kernel
theorem dX8_play_19 : decode cX8_play 19 = .ok (.aload 4, 2) := by decide +kernel
theorem dX8_play_21 : decode cX8_play 21 = .ok (.invokevirtual 72, 3) := by decide +kernel
theorem dX8_play_24 : decode cX8_play 24 = .ok (.ifCond .eq 15, 3) := by decide +kernel
theorem dX8_play_27 : decode cX8_play 27 = .ok (.aload 4, 2) := by decide +kernel
theorem dX8_play_29 : decode cX8_play 29 = .ok (.getfield 78, 3) := by decide +kernel
theorem dX8_play_32 : decode cX8_play 32 = .ok (.iload_n 2, 1) := by decide +kernel
theorem dX8_play_33 : decode cX8_play 33 = .ok (.invokevirtual 82, 3) := by decide +kernel
theorem dX8_play_36 : decode cX8_play 36 = .ok (.goto 4, 3) := by decide +kernel
theorem dX8_play_39 : decode cX8_play 39 = .ok (.aconst_null, 1) := by decide +kernel
theorem dX8_play_40 : decode cX8_play 40 = .ok (.astore 5, 2) := by decide +kernel
theorem dX8_play_42 : decode cX8_play 42 = .ok (.aload 5, 2) := by decide +kernel
theorem dX8_play_44 : decode cX8_play 44 = .ok (.ifnonnull 13, 3) := by decide +kernel
theorem dX8_play_47 : decode cX8_play 47 = .ok (.new 31, 3) := by decide +kernel
theorem dX8_play_50 : decode cX8_play 50 = .ok (.dup, 1) := by decide +kernel
theorem dX8_play_51 : decode cX8_play 51 = .ok (.ldc 88, 2) := by decide +kernel
theorem dX8_play_53 : decode cX8_play 53 = .ok (.invokespecial 35, 3) := by decide +kernel
theorem dX8_play_56 : decode cX8_play 56 = .ok (.athrow, 1) := by decide +kernel
theorem dX8_play_57 : decode cX8_play 57 = .ok (.aload_n 0, 1) := by decide +kernel
theorem dX8_play_58 : decode cX8_play 58 = .ok (.getfield 10, 3) := by decide +kernel
theorem dX8_play_61 : decode cX8_play 61 = .ok (.aload 4, 2) := by decide +kernel
theorem dX8_play_63 : decode cX8_play 63 = .ok (.iload_n 3, 1) := by decide +kernel
theorem dX8_play_64 : decode cX8_play 64 = .ok (.invokevirtual 90, 3) := by decide +kernel
theorem dX8_play_67 : decode cX8_play 67 = .ok (.ifCond .eq 13, 3) := by decide +kernel
theorem dX8_play_70 : decode cX8_play 70 = .ok (.aload 4, 2) := by decide +kernel
theorem dX8_play_72 : decode cX8_play 72 = .ok (.aload 5, 2) := by decide +kernel
theorem dX8_play_74 : decode cX8_play 74 = .ok (.invokevirtual 94, 3) := by decide +kernel
theorem dX8_play_77 : decode cX8_play 77 = .ok (.goto 4, 3) := by decide +kernel
theorem dX8_play_80 : decode cX8_play 80 = .ok (.iconst (-1), 1) := by decide +kernel
theorem dX8_play_81 : decode cX8_play 81 = .ok (.ireturn, 1) := by decide +kernel
theorem dX8_pass_0 : decode cX8_pass 0 = .ok (.aload_n 0, 1) := by decide +kernel
theorem dX8_pass_1 : decode cX8_pass 1 = .ok (.iload_n 1, 1) := by decide +kernel
theorem dX8_pass_2 : decode cX8_pass 2 = .ok (.invokevirtual 65, 3) := by decide +kernel
theorem dX8_pass_5 : decode cX8_pass 5 = .ok (.astore_n 3, 1) := by decide +kernel
theorem dX8_pass_6 : decode cX8_pass 6 = .ok (.iload_n 2, 1) := by decide +kernel
theorem dX8_pass_7 : decode cX8_pass 7 = .ok (.iconst 0, 1) := by decide +kernel
theorem dX8_pass_8 : decode cX8_pass 8 = .ok (.sipush 1000, 3) := by decide +kernel
theorem dX8_pass_11 : decode cX8_pass 11 = .ok (.invokestatic 23, 3) := by decide +kernel
theorem dX8_pass_14 : decode cX8_pass 14 = .ok (.aload_n 3, 1) := by decide +kernel
theorem dX8_pass_15 : decode cX8_pass 15 = .ok (.invokestatic 98, 3) := by decide +kernel
theorem dX8_pass_18 : decode cX8_pass 18 = .ok (.aload_n 0, 1) := by decide +kernel
theorem dX8_pass_19 : decode cX8_pass 19 = .ok (.getfield 10, 3) := by decide +kernel
theorem dX8_pass_22 : decode cX8_pass 22 = .ok (.aload_n 3, 1) := by decide +kernel
theorem dX8_pass_23 : decode cX8_pass 23 = .ok (.iload_n 2, 1) := by decide +kernel
theorem dX8_pass_24 : decode cX8_pass 24 = .ok (.invokevirtual 90, 3) := by decide +kernel
theorem dX8_pass_27 : decode cX8_pass 27 = .ok (.ifCond .eq 11, 3) := by decide +kernel
theorem dX8_pass_30 : decode cX8_pass 30 = .ok (.aload_n 0, 1) := by decide +kernel
theorem dX8_pass_31 : decode cX8_pass 31 = .ok (.getfield 10, 3) := by decide +kernel
theorem dX8_pass_34 : decode cX8_pass 34 = .ok (.aload_n 3, 1) := by decide +kernel
theorem dX8_pass_35 : decode cX8_pass 35 = .ok (.invokevirtual 102, 3) := by decide +kernel
theorem dX8_pass_38 : decode cX8_pass 38 = .ok (.aload_n 3, 1) := by decide +kernel
theorem dX8_pass_39 : decode cX8_pass 39 = .ok (.invokevirtual 105, 3) := by decide +kernel
theorem dX8_pass_42 : decode cX8_pass 42 = .ok (.ireturn, 1) := by decide +kernel
theorem dX8_resign_0 : decode cX8_resign 0 = .ok (.aload_n 0, 1) := by decide +kernel
theorem dX8_resign_1 : decode cX8_resign 1 = .ok (.iload_n 1, 1) := by decide +kernel
theorem dX8_resign_2 : decode cX8_resign 2 = .ok (.invokevirtual 65, 3) := by decide +kernel
theorem dX8_resign_5 : decode cX8_resign 5 = .ok (.astore_n 2, 1) := by decide +kernel
theorem dX8_resign_6 : decode cX8_resign 6 = .ok (.aload_n 2, 1) := by decide +kernel
theorem dX8_resign_7 : decode cX8_resign 7 = .ok (.invokestatic 98, 3) := by decide +kernel
theorem dX8_resign_10 : decode cX8_resign 10 = .ok (.aload_n 0, 1) := by decide +kernel
theorem dX8_resign_11 : decode cX8_resign 11 = .ok (.getfield 10, 3) := by decide +kernel
theorem dX8_resign_14 : decode cX8_resign 14 = .ok (.aload_n 2, 1) := by decide +kernel
theorem dX8_resign_15 : decode cX8_resign 15 = .ok (.aload_n 2, 1) := by decide +kernel
theorem dX8_resign_16 : decode cX8_resign 16 = .ok (.invokevirtual 109, 3) := by decide +kernel
theorem dX8_resign_19 : decode cX8_resign 19 = .ok (.invokevirtual 112, 3) := by decide +kernel
theorem dX8_resign_22 : decode cX8_resign 22 = .ok (.aload_n 2, 1) := by decide +kernel
theorem dX8_resign_23 : decode cX8_resign 23 = .ok (.invokevirtual 105, 3) := by decide +kernel
theorem dX8_resign_26 : decode cX8_resign 26 = .ok (.ireturn, 1) := by decide +kernel
theorem dX8_state_0 : decode cX8_state 0 = .ok (.aload_n 0, 1) := by decide +kernel
theorem dX8_state_1 : decode cX8_state 1 = .ok (.iload_n 1, 1) := by decide +kernel
theorem dX8_state_2 : decode cX8_state 2 = .ok (.invokevirtual 65, 3) := by decide +kernel
theorem dX8_state_5 : decode cX8_state 5 = .ok (.invokevirtual 105, 3) := by decide +kernel
theorem dX8_state_8 : decode cX8_state 8 = .ok (.ireturn, 1) := by decide +kernel
theorem dX8_handicap_0 : decode cX8_handicap 0 = .ok (.aload_n 0, 1) := by decide +kernel
theorem dX8_handicap_1 : decode cX8_handicap 1 = .ok (.iload_n 1, 1) := by decide +kernel
theorem dX8_handicap_2 : decode cX8_handicap 2 = .ok (.invokevirtual 65, 3) := by decide +kernel
theorem dX8_handicap_5 : decode cX8_handicap 5 = .ok (.getfield 116, 3) := by decide +kernel
theorem dX8_handicap_8 : decode cX8_handicap 8 = .ok (.ireturn, 1) := by decide +kernel
theorem dX8_sign_0 : decode cX8_sign 0 = .ok (.aload_n 0, 1) := by decide +kernel
theorem dX8_sign_1 : decode cX8_sign 1 = .ok (.iload_n 1, 1) := by decide +kernel
theorem dX8_sign_2 : decode cX8_sign 2 = .ok (.invokevirtual 65, 3) := by decide +kernel
theorem dX8_sign_5 : decode cX8_sign 5 = .ok (.astore_n 3, 1) := by decide +kernel
theorem dX8_sign_6 : decode cX8_sign 6 = .ok (.iload_n 2, 1) := by decide +kernel
theorem dX8_sign_7 : decode cX8_sign 7 = .ok (.invokestatic 69, 3) := by decide +kernel
theorem dX8_sign_10 : decode cX8_sign 10 = .ok (.aload_n 3, 1) := by decide +kernel
theorem dX8_sign_11 : decode cX8_sign 11 = .ok (.getfield 78, 3) := by decide +kernel
theorem dX8_sign_14 : decode cX8_sign 14 = .ok (.iload_n 2, 1) := by decide +kernel
theorem dX8_sign_15 : decode cX8_sign 15 = .ok (.invokevirtual 119, 3) := by decide +kernel
theorem dX8_sign_18 : decode cX8_sign 18 = .ok (.ireturn, 1) := by decide +kernel
theorem dX8_clock_0 : decode cX8_clock 0 = .ok (.aload_n 0, 1) := by decide +kernel
theorem dX8_clock_1 : decode cX8_clock 1 = .ok (.iload_n 1, 1) := by decide +kernel
theorem dX8_clock_2 : decode cX8_clock 2 = .ok (.invokevirtual 65, 3) := by decide +kernel
theorem dX8_clock_5 : decode cX8_clock 5 = .ok (.astore_n 3, 1) := by decide +kernel
theorem dX8_clock_6 : decode cX8_clock 6 = .ok (.iload_n 2, 1) := by decide +kernel
theorem dX8_clock_7 : decode cX8_clock 7 = .ok (.ifCond .eq 18, 3) := by decide +kernel
theorem dX8_clock_10 : decode cX8_clock 10 = .ok (.iload_n 2, 1) := by decide +kernel
theorem dX8_clock_11 : decode cX8_clock 11 = .ok (.iconst 1, 1) := by decide +kernel
theorem dX8_clock_12 : decode cX8_clock 12 = .ok (.if_icmp .eq 13, 3) := by decide +kernel
theorem dX8_clock_15 : decode cX8_clock 15 = .ok (.new 123, 3) := by decide +kernel
theorem dX8_clock_18 : decode cX8_clock 18 = .ok (.dup, 1) := by decide +kernel
theorem dX8_clock_19 : decode cX8_clock 19 = .ok (.ldc 125, 2) := by decide +kernel
theorem dX8_clock_21 : decode cX8_clock 21 = .ok (.invokespecial 127, 3) := by decide +kernel
theorem dX8_clock_24 : decode cX8_clock 24 = .ok (.athrow, 1) := by decide +kernel
theorem dX8_clock_25 : decode cX8_clock 25 = .ok (.aload_n 3, 1) := by decide +kernel
theorem dX8_clock_26 : decode cX8_clock 26 = .ok (.iload_n 2, 1) := by decide +kernel
theorem dX8_clock_27 : decode cX8_clock 27 = .ok (.invokevirtual 128, 3) := by decide +kernel
theorem dX8_clock_30 : decode cX8_clock 30 = .ok (.invokevirtual 132, 3) := by decide +kernel
theorem dX8_clock_33 : decode cX8_clock 33 = .ok (.ireturn, 1) := by decide +kernel
theorem dX8_score_0 : decode cX8_score 0 = .ok (.aload_n 0, 1) := by decide +kernel
theorem dX8_score_1 : decode cX8_score 1 = .ok (.iload_n 1, 1) := by decide +kernel
theorem dX8_score_2 : decode cX8_score 2 = .ok (.invokevirtual 65, 3) := by decide +kernel
theorem dX8_score_5 : decode cX8_score 5 = .ok (.invokevirtual 135, 3) := by decide +kernel
theorem dX8_score_8 : decode cX8_score 8 = .ok (.ireturn, 1) := by decide +kernel
theorem dX8_liberties_0 : decode cX8_liberties 0 = .ok (.aload_n 0, 1) := by decide +kernel
theorem dX8_liberties_1 : decode cX8_liberties 1 = .ok (.iload_n 1, 1) := by decide +kernel
theorem dX8_liberties_2 : decode cX8_liberties 2 = .ok (.invokevirtual 65, 3) := by decide +kernel
theorem dX8_liberties_5 : decode cX8_liberties 5 = .ok (.astore_n 3, 1) := by decide +kernel
theorem dX8_liberties_6 : decode cX8_liberties 6 = .ok (.iload_n 2, 1) := by decide +kernel
theorem dX8_liberties_7 : decode cX8_liberties 7 = .ok (.invokestatic 69, 3) := by decide +kernel
theorem dX8_liberties_10 : decode cX8_liberties 10 = .ok (.aload_n 3, 1) := by decide +kernel
theorem dX8_liberties_11 : decode cX8_liberties 11 = .ok (.iload_n 2, 1) := by decide +kernel
theorem dX8_liberties_12 : decode cX8_liberties 12 = .ok (.invokevirtual 138, 3) := by decide +kernel
theorem dX8_liberties_15 : decode cX8_liberties 15 = .ok (.ireturn, 1) := by decide +kernel
theorem dX8_flooded_0 : decode cX8_flooded 0 = .ok (.aload_n 0, 1) := by decide +kernel
theorem dX8_flooded_1 : decode cX8_flooded 1 = .ok (.iload_n 1, 1) := by decide +kernel
theorem dX8_flooded_2 : decode cX8_flooded 2 = .ok (.invokevirtual 65, 3) := by decide +kernel
theorem dX8_flooded_5 : decode cX8_flooded 5 = .ok (.astore_n 3, 1) := by decide +kernel
theorem dX8_flooded_6 : decode cX8_flooded 6 = .ok (.iload_n 2, 1) := by decide +kernel
theorem dX8_flooded_7 : decode cX8_flooded 7 = .ok (.invokestatic 69, 3) := by decide +kernel
theorem dX8_flooded_10 : decode cX8_flooded 10 = .ok (.aload_n 3, 1) := by decide +kernel
theorem dX8_flooded_11 : decode cX8_flooded 11 = .ok (.getfield 78, 3) := by decide +kernel
theorem dX8_flooded_14 : decode cX8_flooded 14 = .ok (.iload_n 2, 1) := by decide +kernel
theorem dX8_flooded_15 : decode cX8_flooded 15 = .ok (.invokevirtual 141, 3) := by decide +kernel
theorem dX8_flooded_18 : decode cX8_flooded 18 = .ok (.ireturn, 1) := by decide +kernel
theorem dX8_judge_0 : decode cX8_judge 0 = .ok (.aload_n 0, 1) := by decide +kernel
theorem dX8_judge_1 : decode cX8_judge 1 = .ok (.iload_n 1, 1) := by decide +kernel
theorem dX8_judge_2 : decode cX8_judge 2 = .ok (.invokevirtual 65, 3) := by decide +kernel
theorem dX8_judge_5 : decode cX8_judge 5 = .ok (.astore_n 2, 1) := by decide +kernel
theorem dX8_judge_6 : decode cX8_judge 6 = .ok (.aload_n 2, 1) := by decide +kernel
theorem dX8_judge_7 : decode cX8_judge 7 = .ok (.invokevirtual 72, 3) := by decide +kernel
theorem dX8_judge_10 : decode cX8_judge 10 = .ok (.ifCond .ne 10, 3) := by decide +kernel
theorem dX8_judge_13 : decode cX8_judge 13 = .ok (.aload_n 2, 1) := by decide +kernel
theorem dX8_judge_14 : decode cX8_judge 14 = .ok (.getfield 144, 3) := by decide +kernel
theorem dX8_judge_17 : decode cX8_judge 17 = .ok (.ifCond .eq 13, 3) := by decide +kernel
theorem dX8_judge_20 : decode cX8_judge 20 = .ok (.new 31, 3) := by decide +kernel
theorem dX8_judge_23 : decode cX8_judge 23 = .ok (.dup, 1) := by decide +kernel
theorem dX8_judge_24 : decode cX8_judge 24 = .ok (.ldc 148, 2) := by decide +kernel
theorem dX8_judge_26 : decode cX8_judge 26 = .ok (.invokespecial 35, 3) := by decide +kernel
theorem dX8_judge_29 : decode cX8_judge 29 = .ok (.athrow, 1) := by decide +kernel
theorem dX8_judge_30 : decode cX8_judge 30 = .ok (.aload_n 2, 1) := by decide +kernel
theorem dX8_judge_31 : decode cX8_judge 31 = .ok (.invokevirtual 150, 3) := by decide +kernel
theorem dX8_judge_34 : decode cX8_judge 34 = .ok (.aload_n 0, 1) := by decide +kernel
theorem dX8_judge_35 : decode cX8_judge 35 = .ok (.getfield 10, 3) := by decide +kernel
theorem dX8_judge_38 : decode cX8_judge 38 = .ok (.invokevirtual 153, 3) := by decide +kernel
theorem dX8_judge_41 : decode cX8_judge 41 = .ok (.ireturn, 1) := by decide +kernel
theorem dX8_due_0 : decode cX8_due 0 = .ok (.aload_n 0, 1) := by decide +kernel
theorem dX8_due_1 : decode cX8_due 1 = .ok (.getfield 10, 3) := by decide +kernel
theorem dX8_due_4 : decode cX8_due 4 = .ok (.aload_n 0, 1) := by decide +kernel
theorem dX8_due_5 : decode cX8_due 5 = .ok (.iload_n 1, 1) := by decide +kernel
theorem dX8_due_6 : decode cX8_due 6 = .ok (.invokevirtual 65, 3) := by decide +kernel
theorem dX8_due_9 : decode cX8_due 9 = .ok (.invokevirtual 156, 3) := by decide +kernel
theorem dX8_due_12 : decode cX8_due 12 = .ok (.ireturn, 1) := by decide +kernel
theorem dX8_settle_0 : decode cX8_settle 0 = .ok (.aload_n 0, 1) := by decide +kernel
theorem dX8_settle_1 : decode cX8_settle 1 = .ok (.getfield 10, 3) := by decide +kernel
theorem dX8_settle_4 : decode cX8_settle 4 = .ok (.invokevirtual 160, 3) := by decide +kernel
theorem dX8_settle_7 : decode cX8_settle 7 = .ok (.ireturn, 1) := by decide +kernel
theorem dX8_ladder_0 : decode cX8_ladder 0 = .ok (.aload_n 0, 1) := by decide +kernel
theorem dX8_ladder_1 : decode cX8_ladder 1 = .ok (.iload_n 1, 1) := by decide +kernel
theorem dX8_ladder_2 : decode cX8_ladder 2 = .ok (.invokevirtual 65, 3) := by decide +kernel
theorem dX8_ladder_5 : decode cX8_ladder 5 = .ok (.astore 4, 2) := by decide +kernel
theorem dX8_ladder_7 : decode cX8_ladder 7 = .ok (.iload_n 2, 1) := by decide +kernel
theorem dX8_ladder_8 : decode cX8_ladder 8 = .ok (.invokestatic 69, 3) := by decide +kernel
theorem dX8_ladder_11 : decode cX8_ladder 11 = .ok (.iload_n 3, 1) := by decide +kernel
theorem dX8_ladder_12 : decode cX8_ladder 12 = .ok (.iconst 1, 1) := by decide +kernel
theorem dX8_ladder_13 : decode cX8_ladder 13 = .ok (.bipush 8, 2) := by decide +kernel
theorem dX8_ladder_15 : decode cX8_ladder 15 = .ok (.invokestatic 23, 3) := by decide +kernel
theorem dX8_ladder_18 : decode cX8_ladder 18 = .ok (.aload 4, 2) := by decide +kernel
theorem dX8_ladder_20 : decode cX8_ladder 20 = .ok (.getfield 78, 3) := by decide +kernel
theorem dX8_ladder_23 : decode cX8_ladder 23 = .ok (.iload_n 2, 1) := by decide +kernel
theorem dX8_ladder_24 : decode cX8_ladder 24 = .ok (.iload_n 3, 1) := by decide +kernel
theorem dX8_ladder_25 : decode cX8_ladder 25 = .ok (.iconst 2, 1) := by decide +kernel
theorem dX8_ladder_26 : decode cX8_ladder 26 = .ok (.invokevirtual 163, 3) := by decide +kernel
theorem dX8_ladder_29 : decode cX8_ladder 29 = .ok (.ireturn, 1) := by decide +kernel
theorem dX8_net_0 : decode cX8_net 0 = .ok (.aload_n 0, 1) := by decide +kernel
theorem dX8_net_1 : decode cX8_net 1 = .ok (.iload_n 1, 1) := by decide +kernel
theorem dX8_net_2 : decode cX8_net 2 = .ok (.invokevirtual 65, 3) := by decide +kernel
theorem dX8_net_5 : decode cX8_net 5 = .ok (.astore 4, 2) := by decide +kernel
theorem dX8_net_7 : decode cX8_net 7 = .ok (.iload_n 2, 1) := by decide +kernel
theorem dX8_net_8 : decode cX8_net 8 = .ok (.invokestatic 69, 3) := by decide +kernel
theorem dX8_net_11 : decode cX8_net 11 = .ok (.iload_n 3, 1) := by decide +kernel
theorem dX8_net_12 : decode cX8_net 12 = .ok (.iconst 1, 1) := by decide +kernel
theorem dX8_net_13 : decode cX8_net 13 = .ok (.iconst 3, 1) := by decide +kernel
theorem dX8_net_14 : decode cX8_net 14 = .ok (.invokestatic 23, 3) := by decide +kernel
theorem dX8_net_17 : decode cX8_net 17 = .ok (.aload 4, 2) := by decide +kernel
theorem dX8_net_19 : decode cX8_net 19 = .ok (.getfield 78, 3) := by decide +kernel
theorem dX8_net_22 : decode cX8_net 22 = .ok (.iload_n 2, 1) := by decide +kernel
theorem dX8_net_23 : decode cX8_net 23 = .ok (.iload_n 3, 1) := by decide +kernel
theorem dX8_net_24 : decode cX8_net 24 = .ok (.iconst 3, 1) := by decide +kernel
theorem dX8_net_25 : decode cX8_net 25 = .ok (.invokevirtual 163, 3) := by decide +kernel
theorem dX8_net_28 : decode cX8_net 28 = .ok (.ireturn, 1) := by decide +kernel
theorem dX8_lesson_0 : decode cX8_lesson 0 = .ok (.aload_n 0, 1) := by decide +kernel
theorem dX8_lesson_1 : decode cX8_lesson 1 = .ok (.iload_n 1, 1) := by decide +kernel
theorem dX8_lesson_2 : decode cX8_lesson 2 = .ok (.invokevirtual 65, 3) := by decide +kernel
theorem dX8_lesson_5 : decode cX8_lesson 5 = .ok (.astore_n 3, 1) := by decide +kernel
theorem dX8_lesson_6 : decode cX8_lesson 6 = .ok (.iload_n 2, 1) := by decide +kernel
theorem dX8_lesson_7 : decode cX8_lesson 7 = .ok (.iconst 0, 1) := by decide +kernel
theorem dX8_lesson_8 : decode cX8_lesson 8 = .ok (.aload_n 3, 1) := by decide +kernel
theorem dX8_lesson_9 : decode cX8_lesson 9 = .ok (.getfield 78, 3) := by decide +kernel
theorem dX8_lesson_12 : decode cX8_lesson 12 = .ok (.getfield 167, 3) := by decide +kernel
theorem dX8_lesson_15 : decode cX8_lesson 15 = .ok (.invokestatic 23, 3) := by decide +kernel
theorem dX8_lesson_18 : decode cX8_lesson 18 = .ok (.aload_n 3, 1) := by decide +kernel
theorem dX8_lesson_19 : decode cX8_lesson 19 = .ok (.getfield 78, 3) := by decide +kernel
theorem dX8_lesson_22 : decode cX8_lesson 22 = .ok (.iload_n 2, 1) := by decide +kernel
theorem dX8_lesson_23 : decode cX8_lesson 23 = .ok (.invokevirtual 170, 3) := by decide +kernel
theorem dX8_lesson_26 : decode cX8_lesson 26 = .ok (.astore 4, 2) := by decide +kernel
theorem dX8_lesson_28 : decode cX8_lesson 28 = .ok (.aload 4, 2) := by decide +kernel
theorem dX8_lesson_30 : decode cX8_lesson 30 = .ok (.ifnonnull 7, 3) := by decide +kernel
theorem dX8_lesson_33 : decode cX8_lesson 33 = .ok (.iconst (-1), 1) := by decide +kernel
theorem dX8_lesson_34 : decode cX8_lesson 34 = .ok (.goto 13, 3) := by decide +kernel
theorem dX8_lesson_37 : decode cX8_lesson 37 = .ok (.aload_n 0, 1) := by decide +kernel
theorem dX8_lesson_38 : decode cX8_lesson 38 = .ok (.getfield 19, 3) := by decide +kernel
theorem dX8_lesson_41 : decode cX8_lesson 41 = .ok (.iload_n 1, 1) := by decide +kernel
theorem dX8_lesson_42 : decode cX8_lesson 42 = .ok (.aload 4, 2) := by decide +kernel
theorem dX8_lesson_44 : decode cX8_lesson 44 = .ok (.invokevirtual 173, 3) := by decide +kernel
theorem dX8_lesson_47 : decode cX8_lesson 47 = .ok (.istore 5, 2) := by decide +kernel
theorem dX8_lesson_49 : decode cX8_lesson 49 = .ok (.iload 5, 2) := by decide +kernel
theorem dX8_lesson_51 : decode cX8_lesson 51 = .ok (.ifCond .ge 13, 3) := by decide +kernel
theorem dX8_lesson_54 : decode cX8_lesson 54 = .ok (.new 31, 3) := by decide +kernel
theorem dX8_lesson_57 : decode cX8_lesson 57 = .ok (.dup, 1) := by decide +kernel
theorem dX8_lesson_58 : decode cX8_lesson 58 = .ok (.ldc 176, 2) := by decide +kernel
theorem dX8_lesson_60 : decode cX8_lesson 60 = .ok (.invokespecial 35, 3) := by decide +kernel
theorem dX8_lesson_63 : decode cX8_lesson 63 = .ok (.athrow, 1) := by decide +kernel
theorem dX8_lesson_64 : decode cX8_lesson 64 = .ok (.iload 5, 2) := by decide +kernel
theorem dX8_lesson_66 : decode cX8_lesson 66 = .ok (.ireturn, 1) := by decide +kernel
theorem dX8_branch_0 : decode cX8_branch 0 = .ok (.aload_n 0, 1) := by decide +kernel
theorem dX8_branch_1 : decode cX8_branch 1 = .ok (.iload_n 1, 1) := by decide +kernel
theorem dX8_branch_2 : decode cX8_branch 2 = .ok (.invokevirtual 178, 3) := by decide +kernel
theorem dX8_branch_5 : decode cX8_branch 5 = .ok (.astore_n 3, 1) := by decide +kernel
theorem dX8_branch_6 : decode cX8_branch 6 = .ok (.iload_n 2, 1) := by decide +kernel
theorem dX8_branch_7 : decode cX8_branch 7 = .ok (.iconst (-1), 1) := by decide +kernel
theorem dX8_branch_8 : decode cX8_branch 8 = .ok (.if_icmp .eq 7, 3) := by decide +kernel
theorem dX8_branch_11 : decode cX8_branch 11 = .ok (.iload_n 2, 1) := by decide +kernel
theorem dX8_branch_12 : decode cX8_branch 12 = .ok (.invokestatic 69, 3) := by decide +kernel
theorem dX8_branch_15 : decode cX8_branch 15 = .ok (.aload_n 0, 1) := by decide +kernel
theorem dX8_branch_16 : decode cX8_branch 16 = .ok (.getfield 19, 3) := by decide +kernel
theorem dX8_branch_19 : decode cX8_branch 19 = .ok (.aload_n 3, 1) := by decide +kernel
theorem dX8_branch_20 : decode cX8_branch 20 = .ok (.iload_n 2, 1) := by decide +kernel
theorem dX8_branch_21 : decode cX8_branch 21 = .ok (.invokevirtual 182, 3) := by decide +kernel
theorem dX8_branch_24 : decode cX8_branch 24 = .ok (.istore 4, 2) := by decide +kernel
theorem dX8_branch_26 : decode cX8_branch 26 = .ok (.iload 4, 2) := by decide +kernel
theorem dX8_branch_28 : decode cX8_branch 28 = .ok (.ifCond .ge 13, 3) := by decide +kernel
theorem dX8_branch_31 : decode cX8_branch 31 = .ok (.new 31, 3) := by decide +kernel
theorem dX8_branch_34 : decode cX8_branch 34 = .ok (.dup, 1) := by decide +kernel
theorem dX8_branch_35 : decode cX8_branch 35 = .ok (.ldc 186, 2) := by decide +kernel
theorem dX8_branch_37 : decode cX8_branch 37 = .ok (.invokespecial 35, 3) := by decide +kernel
theorem dX8_branch_40 : decode cX8_branch 40 = .ok (.athrow, 1) := by decide +kernel
theorem dX8_branch_41 : decode cX8_branch 41 = .ok (.iload 4, 2) := by decide +kernel
theorem dX8_branch_43 : decode cX8_branch 43 = .ok (.ireturn, 1) := by decide +kernel
theorem dX8_mark_0 : decode cX8_mark 0 = .ok (.aload_n 0, 1) := by decide +kernel
theorem dX8_mark_1 : decode cX8_mark 1 = .ok (.iload_n 1, 1) := by decide +kernel
theorem dX8_mark_2 : decode cX8_mark 2 = .ok (.invokevirtual 178, 3) := by decide +kernel
theorem dX8_mark_5 : decode cX8_mark 5 = .ok (.astore 4, 2) := by decide +kernel
theorem dX8_mark_7 : decode cX8_mark 7 = .ok (.iload_n 2, 1) := by decide +kernel
theorem dX8_mark_8 : decode cX8_mark 8 = .ok (.ifCond .lt 8, 3) := by decide +kernel
theorem dX8_mark_11 : decode cX8_mark 11 = .ok (.iload_n 2, 1) := by decide +kernel
theorem dX8_mark_12 : decode cX8_mark 12 = .ok (.iconst 4, 1) := by decide +kernel
theorem dX8_mark_13 : decode cX8_mark 13 = .ok (.if_icmp .lt 13, 3) := by decide +kernel
theorem dX8_mark_16 : decode cX8_mark 16 = .ok (.new 123, 3) := by decide +kernel
theorem dX8_mark_19 : decode cX8_mark 19 = .ok (.dup, 1) := by decide +kernel
theorem dX8_mark_20 : decode cX8_mark 20 = .ok (.ldc 188, 2) := by decide +kernel
theorem dX8_mark_22 : decode cX8_mark 22 = .ok (.invokespecial 127, 3) := by decide +kernel
theorem dX8_mark_25 : decode cX8_mark 25 = .ok (.athrow, 1) := by decide +kernel
theorem dX8_mark_26 : decode cX8_mark 26 = .ok (.iload_n 3, 1) := by decide +kernel
theorem dX8_mark_27 : decode cX8_mark 27 = .ok (.iconst 0, 1) := by decide +kernel
theorem dX8_mark_28 : decode cX8_mark 28 = .ok (.iconst 3, 1) := by decide +kernel
theorem dX8_mark_29 : decode cX8_mark 29 = .ok (.invokestatic 23, 3) := by decide +kernel
theorem dX8_mark_32 : decode cX8_mark 32 = .ok (.aload 4, 2) := by decide +kernel
theorem dX8_mark_34 : decode cX8_mark 34 = .ok (.iload_n 2, 1) := by decide +kernel
theorem dX8_mark_35 : decode cX8_mark 35 = .ok (.iload_n 3, 1) := by decide +kernel
theorem dX8_mark_36 : decode cX8_mark 36 = .ok (.invokevirtual 190, 3) := by decide +kernel
theorem dX8_mark_39 : decode cX8_mark 39 = .ok (.ireturn, 1) := by decide +kernel
theorem dX8_node_0 : decode cX8_node 0 = .ok (.aload_n 0, 1) := by decide +kernel
theorem dX8_node_1 : decode cX8_node 1 = .ok (.iload_n 1, 1) := by decide +kernel
theorem dX8_node_2 : decode cX8_node 2 = .ok (.invokevirtual 178, 3) := by decide +kernel
theorem dX8_node_5 : decode cX8_node 5 = .ok (.invokevirtual 195, 3) := by decide +kernel
theorem dX8_node_8 : decode cX8_node 8 = .ok (.ireturn, 1) := by decide +kernel
theorem dX8_merge_0 : decode cX8_merge 0 = .ok (.aload_n 0, 1) := by decide +kernel
theorem dX8_merge_1 : decode cX8_merge 1 = .ok (.iload_n 1, 1) := by decide +kernel
theorem dX8_merge_2 : decode cX8_merge 2 = .ok (.invokevirtual 178, 3) := by decide +kernel
theorem dX8_merge_5 : decode cX8_merge 5 = .ok (.astore_n 3, 1) := by decide +kernel
theorem dX8_merge_6 : decode cX8_merge 6 = .ok (.aload_n 0, 1) := by decide +kernel
theorem dX8_merge_7 : decode cX8_merge 7 = .ok (.iload_n 2, 1) := by decide +kernel
theorem dX8_merge_8 : decode cX8_merge 8 = .ok (.invokevirtual 178, 3) := by decide +kernel
theorem dX8_merge_11 : decode cX8_merge 11 = .ok (.astore 4, 2) := by decide +kernel
theorem dX8_merge_13 : decode cX8_merge 13 = .ok (.iload_n 1, 1) := by decide +kernel
theorem dX8_merge_14 : decode cX8_merge 14 = .ok (.iload_n 2, 1) := by decide +kernel
theorem dX8_merge_15 : decode cX8_merge 15 = .ok (.if_icmp .eq 12, 3) := by decide +kernel
theorem dX8_merge_18 : decode cX8_merge 18 = .ok (.aload_n 3, 1) := by decide +kernel
theorem dX8_merge_19 : decode cX8_merge 19 = .ok (.aload 4, 2) := by decide +kernel
theorem dX8_merge_21 : decode cX8_merge 21 = .ok (.invokevirtual 196, 3) := by decide +kernel
theorem dX8_merge_24 : decode cX8_merge 24 = .ok (.ifCond .ne 13, 3) := by decide +kernel
theorem dX8_merge_27 : decode cX8_merge 27 = .ok (.new 50, 3) := by decide +kernel
theorem dX8_merge_30 : decode cX8_merge 30 = .ok (.dup, 1) := by decide +kernel
theorem dX8_merge_31 : decode cX8_merge 31 = .ok (.ldc 200, 2) := by decide +kernel
theorem dX8_merge_33 : decode cX8_merge 33 = .ok (.invokespecial 54, 3) := by decide +kernel
theorem dX8_merge_36 : decode cX8_merge 36 = .ok (.athrow, 1) := by decide +kernel
theorem dX8_merge_37 : decode cX8_merge 37 = .ok (.aload_n 0, 1) := by decide +kernel
theorem dX8_merge_38 : decode cX8_merge 38 = .ok (.getfield 19, 3) := by decide +kernel
theorem dX8_merge_41 : decode cX8_merge 41 = .ok (.aload_n 3, 1) := by decide +kernel
theorem dX8_merge_42 : decode cX8_merge 42 = .ok (.aload 4, 2) := by decide +kernel
theorem dX8_merge_44 : decode cX8_merge 44 = .ok (.invokevirtual 202, 3) := by decide +kernel
theorem dX8_merge_47 : decode cX8_merge 47 = .ok (.istore 5, 2) := by decide +kernel
theorem dX8_merge_49 : decode cX8_merge 49 = .ok (.iload 5, 2) := by decide +kernel
theorem dX8_merge_51 : decode cX8_merge 51 = .ok (.ifCond .ge 13, 3) := by decide +kernel
theorem dX8_merge_54 : decode cX8_merge 54 = .ok (.new 31, 3) := by decide +kernel
theorem dX8_merge_57 : decode cX8_merge 57 = .ok (.dup, 1) := by decide +kernel
theorem dX8_merge_58 : decode cX8_merge 58 = .ok (.ldc 206, 2) := by decide +kernel
theorem dX8_merge_60 : decode cX8_merge 60 = .ok (.invokespecial 35, 3) := by decide +kernel
theorem dX8_merge_63 : decode cX8_merge 63 = .ok (.athrow, 1) := by decide +kernel
theorem dX8_merge_64 : decode cX8_merge 64 = .ok (.iload 5, 2) := by decide +kernel
theorem dX8_merge_66 : decode cX8_merge 66 = .ok (.ireturn, 1) := by decide +kernel
theorem dX8_requireRange_0 : decode cX8_requireRange 0 = .ok (.iload_n 0, 1) := by decide +kernel
theorem dX8_requireRange_1 : decode cX8_requireRange 1 = .ok (.iload_n 1, 1) := by decide +kernel
theorem dX8_requireRange_2 : decode cX8_requireRange 2 = .ok (.if_icmp .lt 8, 3) := by decide +kernel
theorem dX8_requireRange_5 : decode cX8_requireRange 5 = .ok (.iload_n 0, 1) := by decide +kernel
theorem dX8_requireRange_6 : decode cX8_requireRange 6 = .ok (.iload_n 2, 1) := by decide +kernel
theorem dX8_requireRange_7 : decode cX8_requireRange 7 = .ok (.if_icmp .le 13, 3) := by decide +kernel
theorem dX8_requireRange_10 : decode cX8_requireRange 10 = .ok (.new 50, 3) := by decide +kernel
theorem dX8_requireRange_13 : decode cX8_requireRange 13 = .ok (.dup, 1) := by decide +kernel
theorem dX8_requireRange_14 : decode cX8_requireRange 14 = .ok (.ldc 208, 2) := by decide +kernel
theorem dX8_requireRange_16 : decode cX8_requireRange 16 = .ok (.invokespecial 54, 3) := by decide +kernel
theorem dX8_requireRange_19 : decode cX8_requireRange 19 = .ok (.athrow, 1) := by decide +kernel
theorem dX8_requireRange_20 : decode cX8_requireRange 20 = .ok (.return_, 1) := by decide +kernel
theorem dX8_requirePoint_0 : decode cX8_requirePoint 0 = .ok (.iload_n 0, 1) := by decide +kernel
theorem dX8_requirePoint_1 : decode cX8_requirePoint 1 = .ok (.ifCond .lt 9, 3) := by decide +kernel
theorem dX8_requirePoint_4 : decode cX8_requirePoint 4 = .ok (.iload_n 0, 1) := by decide +kernel
theorem dX8_requirePoint_5 : decode cX8_requirePoint 5 = .ok (.bipush 49, 2) := by decide +kernel
theorem dX8_requirePoint_7 : decode cX8_requirePoint 7 = .ok (.if_icmp .lt 13, 3) := by decide +kernel
theorem dX8_requirePoint_10 : decode cX8_requirePoint 10 = .ok (.new 123, 3) := by decide +kernel
theorem dX8_requirePoint_13 : decode cX8_requirePoint 13 = .ok (.dup, 1) := by decide +kernel
theorem dX8_requirePoint_14 : decode cX8_requirePoint 14 = .ok (.ldc 210, 2) := by decide +kernel
theorem dX8_requirePoint_16 : decode cX8_requirePoint 16 = .ok (.invokespecial 127, 3) := by decide +kernel
theorem dX8_requirePoint_19 : decode cX8_requirePoint 19 = .ok (.athrow, 1) := by decide +kernel
theorem dX8_requirePoint_20 : decode cX8_requirePoint 20 = .ok (.return_, 1) := by decide +kernel
theorem dX8_requirePlayer_0 : decode cX8_requirePlayer 0 = .ok (.aload_n 0, 1) := by decide +kernel
theorem dX8_requirePlayer_1 : decode cX8_requirePlayer 1 = .ok (.getfield 10, 3) := by decide +kernel
theorem dX8_requirePlayer_4 : decode cX8_requirePlayer 4 = .ok (.iload_n 1, 1) := by decide +kernel
theorem dX8_requirePlayer_5 : decode cX8_requirePlayer 5 = .ok (.invokevirtual 212, 3) := by decide +kernel
theorem dX8_requirePlayer_8 : decode cX8_requirePlayer 8 = .ok (.ifCond .ne 13, 3) := by decide +kernel
theorem dX8_requirePlayer_11 : decode cX8_requirePlayer 11 = .ok (.new 123, 3) := by decide +kernel
theorem dX8_requirePlayer_14 : decode cX8_requirePlayer 14 = .ok (.dup, 1) := by decide +kernel
theorem dX8_requirePlayer_15 : decode cX8_requirePlayer 15 = .ok (.ldc 216, 2) := by decide +kernel
theorem dX8_requirePlayer_17 : decode cX8_requirePlayer 17 = .ok (.invokespecial 127, 3) := by decide +kernel
theorem dX8_requirePlayer_20 : decode cX8_requirePlayer 20 = .ok (.athrow, 1) := by decide +kernel
theorem dX8_requirePlayer_21 : decode cX8_requirePlayer 21 = .ok (.return_, 1) := by decide +kernel
theorem dX8_requireGoesOn_0 : decode cX8_requireGoesOn 0 = .ok (.aload_n 0, 1) := by decide +kernel
theorem dX8_requireGoesOn_1 : decode cX8_requireGoesOn 1 = .ok (.invokevirtual 72, 3) := by decide +kernel
theorem dX8_requireGoesOn_4 : decode cX8_requireGoesOn 4 = .ok (.ifCond .ne 13, 3) := by decide +kernel
theorem dX8_requireGoesOn_7 : decode cX8_requireGoesOn 7 = .ok (.new 31, 3) := by decide +kernel
theorem dX8_requireGoesOn_10 : decode cX8_requireGoesOn 10 = .ok (.dup, 1) := by decide +kernel
theorem dX8_requireGoesOn_11 : decode cX8_requireGoesOn 11 = .ok (.ldc 218, 2) := by decide +kernel
theorem dX8_requireGoesOn_13 : decode cX8_requireGoesOn 13 = .ok (.invokespecial 35, 3) := by decide +kernel
theorem dX8_requireGoesOn_16 : decode cX8_requireGoesOn 16 = .ok (.athrow, 1) := by decide +kernel
theorem dX8_requireGoesOn_17 : decode cX8_requireGoesOn 17 = .ok (.return_, 1) := by decide +kernel
theorem dX8_matchOf_0 : decode cX8_matchOf 0 = .ok (.aload_n 0, 1) := by decide +kernel
theorem dX8_matchOf_1 : decode cX8_matchOf 1 = .ok (.getfield 10, 3) := by decide +kernel
theorem dX8_matchOf_4 : decode cX8_matchOf 4 = .ok (.iload_n 1, 1) := by decide +kernel
theorem dX8_matchOf_5 : decode cX8_matchOf 5 = .ok (.invokevirtual 220, 3) := by decide +kernel
theorem dX8_matchOf_8 : decode cX8_matchOf 8 = .ok (.astore_n 2, 1) := by decide +kernel
theorem dX8_matchOf_9 : decode cX8_matchOf 9 = .ok (.aload_n 2, 1) := by decide +kernel
theorem dX8_matchOf_10 : decode cX8_matchOf 10 = .ok (.ifnonnull 13, 3) := by decide +kernel
theorem dX8_matchOf_13 : decode cX8_matchOf 13 = .ok (.new 123, 3) := by decide +kernel
theorem dX8_matchOf_16 : decode cX8_matchOf 16 = .ok (.dup, 1) := by decide +kernel
theorem dX8_matchOf_17 : decode cX8_matchOf 17 = .ok (.ldc 223, 2) := by decide +kernel
theorem dX8_matchOf_19 : decode cX8_matchOf 19 = .ok (.invokespecial 127, 3) := by decide +kernel
theorem dX8_matchOf_22 : decode cX8_matchOf 22 = .ok (.athrow, 1) := by decide +kernel
theorem dX8_matchOf_23 : decode cX8_matchOf 23 = .ok (.aload_n 2, 1) := by decide +kernel
theorem dX8_matchOf_24 : decode cX8_matchOf 24 = .ok (.areturn, 1) := by decide +kernel
theorem dX8_twigOf_0 : decode cX8_twigOf 0 = .ok (.aload_n 0, 1) := by decide +kernel
theorem dX8_twigOf_1 : decode cX8_twigOf 1 = .ok (.getfield 19, 3) := by decide +kernel
theorem dX8_twigOf_4 : decode cX8_twigOf 4 = .ok (.iload_n 1, 1) := by decide +kernel
theorem dX8_twigOf_5 : decode cX8_twigOf 5 = .ok (.invokevirtual 225, 3) := by decide +kernel
theorem dX8_twigOf_8 : decode cX8_twigOf 8 = .ok (.astore_n 2, 1) := by decide +kernel
theorem dX8_twigOf_9 : decode cX8_twigOf 9 = .ok (.aload_n 2, 1) := by decide +kernel
theorem dX8_twigOf_10 : decode cX8_twigOf 10 = .ok (.ifnonnull 13, 3) := by decide +kernel
theorem dX8_twigOf_13 : decode cX8_twigOf 13 = .ok (.new 123, 3) := by decide +kernel
theorem dX8_twigOf_16 : decode cX8_twigOf 16 = .ok (.dup, 1) := by decide +kernel
theorem dX8_twigOf_17 : decode cX8_twigOf 17 = .ok (.ldc 228, 2) := by decide +kernel
theorem dX8_twigOf_19 : decode cX8_twigOf 19 = .ok (.invokespecial 127, 3) := by decide +kernel
theorem dX8_twigOf_22 : decode cX8_twigOf 22 = .ok (.athrow, 1) := by decide +kernel
theorem dX8_twigOf_23 : decode cX8_twigOf 23 = .ok (.aload_n 2, 1) := by decide +kernel
theorem dX8_twigOf_24 : decode cX8_twigOf 24 = .ok (.areturn, 1) := by decide +kernel
theorem dX9_init_0 : decode cX9_init 0 = .ok (.aload_n 0, 1) := by decide +kernel
theorem dX9_init_1 : decode cX9_init 1 = .ok (.invokespecial 3, 3) := by decide +kernel
theorem dX9_init_4 : decode cX9_init 4 = .ok (.aload_n 0, 1) := by decide +kernel
theorem dX9_init_5 : decode cX9_init 5 = .ok (.bipush 8, 2) := by decide +kernel
theorem dX9_init_7 : decode cX9_init 7 = .ok (.newarray .int, 2) := by decide +kernel
theorem dX9_init_9 : decode cX9_init 9 = .ok (.putfield 9, 3) := by decide +kernel
theorem dX9_init_12 : decode cX9_init 12 = .ok (.aload_n 0, 1) := by decide +kernel
theorem dX9_init_13 : decode cX9_init 13 = .ok (.bipush 8, 2) := by decide +kernel
theorem dX9_init_15 : decode cX9_init 15 = .ok (.newarray .int, 2) := by decide +kernel
theorem dX9_init_17 : decode cX9_init 17 = .ok (.putfield 13, 3) := by decide +kernel
theorem dX9_init_20 : decode cX9_init 20 = .ok (.aload_n 0, 1) := by decide +kernel
theorem dX9_init_21 : decode cX9_init 21 = .ok (.bipush 8, 2) := by decide +kernel
theorem dX9_init_23 : decode cX9_init 23 = .ok (.newarray .int, 2) := by decide +kernel
theorem dX9_init_25 : decode cX9_init 25 = .ok (.putfield 16, 3) := by decide +kernel
theorem dX9_init_28 : decode cX9_init 28 = .ok (.aload_n 0, 1) := by decide +kernel
theorem dX9_init_29 : decode cX9_init 29 = .ok (.bipush 16, 2) := by decide +kernel
theorem dX9_init_31 : decode cX9_init 31 = .ok (.newarray .int, 2) := by decide +kernel
theorem dX9_init_33 : decode cX9_init 33 = .ok (.putfield 19, 3) := by decide +kernel
theorem dX9_init_36 : decode cX9_init 36 = .ok (.aload_n 0, 1) := by decide +kernel
theorem dX9_init_37 : decode cX9_init 37 = .ok (.bipush 16, 2) := by decide +kernel
theorem dX9_init_39 : decode cX9_init 39 = .ok (.newarray .int, 2) := by decide +kernel
theorem dX9_init_41 : decode cX9_init 41 = .ok (.putfield 22, 3) := by decide +kernel
theorem dX9_init_44 : decode cX9_init 44 = .ok (.aload_n 0, 1) := by decide +kernel
theorem dX9_init_45 : decode cX9_init 45 = .ok (.bipush 16, 2) := by decide +kernel
theorem dX9_init_47 : decode cX9_init 47 = .ok (.newarray .int, 2) := by decide +kernel
theorem dX9_init_49 : decode cX9_init 49 = .ok (.putfield 25, 3) := by decide +kernel
theorem dX9_init_52 : decode cX9_init 52 = .ok (.aload_n 0, 1) := by decide +kernel
theorem dX9_init_53 : decode cX9_init 53 = .ok (.bipush 16, 2) := by decide +kernel
theorem dX9_init_55 : decode cX9_init 55 = .ok (.newarray .int, 2) := by decide +kernel
theorem dX9_init_57 : decode cX9_init 57 = .ok (.putfield 28, 3) := by decide +kernel
theorem dX9_init_60 : decode cX9_init 60 = .ok (.aload_n 0, 1) := by decide +kernel
theorem dX9_init_61 : decode cX9_init 61 = .ok (.bipush 16, 2) := by decide +kernel
theorem dX9_init_63 : decode cX9_init 63 = .ok (.newarray .int, 2) := by decide +kernel
theorem dX9_init_65 : decode cX9_init 65 = .ok (.putfield 31, 3) := by decide +kernel
theorem dX9_init_68 : decode cX9_init 68 = .ok (.aload_n 0, 1) := by decide +kernel
theorem dX9_init_69 : decode cX9_init 69 = .ok (.bipush 16, 2) := by decide +kernel
theorem dX9_init_71 : decode cX9_init 71 = .ok (.newarray .int, 2) := by decide +kernel
theorem dX9_init_73 : decode cX9_init 73 = .ok (.putfield 34, 3) := by decide +kernel
theorem dX9_init_76 : decode cX9_init 76 = .ok (.aload_n 0, 1) := by decide +kernel
theorem dX9_init_77 : decode cX9_init 77 = .ok (.bipush 16, 2) := by decide +kernel
theorem dX9_init_79 : decode cX9_init 79 = .ok (.newarray .boolean, 2) := by decide +kernel
theorem dX9_init_81 : decode cX9_init 81 = .ok (.putfield 37, 3) := by decide +kernel
theorem dX9_init_84 : decode cX9_init 84 = .ok (.aload_n 0, 1) := by decide +kernel
theorem dX9_init_85 : decode cX9_init 85 = .ok (.bipush 16, 2) := by decide +kernel
theorem dX9_init_87 : decode cX9_init 87 = .ok (.newarray .int, 2) := by decide +kernel
theorem dX9_init_89 : decode cX9_init 89 = .ok (.putfield 41, 3) := by decide +kernel
theorem dX9_init_92 : decode cX9_init 92 = .ok (.aload_n 0, 1) := by decide +kernel
theorem dX9_init_93 : decode cX9_init 93 = .ok (.bipush 16, 2) := by decide +kernel
theorem dX9_init_95 : decode cX9_init 95 = .ok (.newarray .int, 2) := by decide +kernel
theorem dX9_init_97 : decode cX9_init 97 = .ok (.putfield 44, 3) := by decide +kernel
theorem dX9_init_100 : decode cX9_init 100 = .ok (.aload_n 0, 1) := by decide +kernel
theorem dX9_init_101 : decode cX9_init 101 = .ok (.bipush 16, 2) := by decide +kernel
theorem dX9_init_103 : decode cX9_init 103 = .ok (.newarray .int, 2) := by decide +kernel
theorem dX9_init_105 : decode cX9_init 105 = .ok (.putfield 47, 3) := by decide +kernel
theorem dX9_init_108 : decode cX9_init 108 = .ok (.aload_n 0, 1) := by decide +kernel
theorem dX9_init_109 : decode cX9_init 109 = .ok (.bipush 16, 2) := by decide +kernel
theorem dX9_init_111 : decode cX9_init 111 = .ok (.newarray .int, 2) := by decide +kernel
theorem dX9_init_113 : decode cX9_init 113 = .ok (.putfield 50, 3) := by decide +kernel
theorem dX9_init_116 : decode cX9_init 116 = .ok (.aload_n 0, 1) := by decide +kernel
theorem dX9_init_117 : decode cX9_init 117 = .ok (.bipush 32, 2) := by decide +kernel
theorem dX9_init_119 : decode cX9_init 119 = .ok (.newarray .int, 2) := by decide +kernel
theorem dX9_init_121 : decode cX9_init 121 = .ok (.putfield 53, 3) := by decide +kernel
theorem dX9_init_124 : decode cX9_init 124 = .ok (.aload_n 0, 1) := by decide +kernel
theorem dX9_init_125 : decode cX9_init 125 = .ok (.bipush 32, 2) := by decide +kernel
theorem dX9_init_127 : decode cX9_init 127 = .ok (.newarray .int, 2) := by decide +kernel
theorem dX9_init_129 : decode cX9_init 129 = .ok (.putfield 56, 3) := by decide +kernel
theorem dX9_init_132 : decode cX9_init 132 = .ok (.aload_n 0, 1) := by decide +kernel
theorem dX9_init_133 : decode cX9_init 133 = .ok (.bipush 16, 2) := by decide +kernel
theorem dX9_init_135 : decode cX9_init 135 = .ok (.newarray .int, 2) := by decide +kernel
theorem dX9_init_137 : decode cX9_init 137 = .ok (.putfield 59, 3) := by decide +kernel
theorem dX9_init_140 : decode cX9_init 140 = .ok (.aload_n 0, 1) := by decide +kernel
theorem dX9_init_141 : decode cX9_init 141 = .ok (.bipush 16, 2) := by decide +kernel
theorem dX9_init_143 : decode cX9_init 143 = .ok (.newarray .int, 2) := by decide +kernel
theorem dX9_init_145 : decode cX9_init 145 = .ok (.putfield 62, 3) := by decide +kernel
theorem dX9_init_148 : decode cX9_init 148 = .ok (.aload_n 0, 1) := by decide +kernel
theorem dX9_init_149 : decode cX9_init 149 = .ok (.sipush 4096, 3) := by decide +kernel
theorem dX9_init_152 : decode cX9_init 152 = .ok (.newarray .long, 2) := by decide +kernel
theorem dX9_init_154 : decode cX9_init 154 = .ok (.putfield 65, 3) := by decide +kernel
theorem dX9_init_157 : decode cX9_init 157 = .ok (.aload_n 0, 1) := by decide +kernel
theorem dX9_init_158 : decode cX9_init 158 = .ok (.sipush 4096, 3) := by decide +kernel
theorem dX9_init_161 : decode cX9_init 161 = .ok (.newarray .long, 2) := by decide +kernel
theorem dX9_init_163 : decode cX9_init 163 = .ok (.putfield 69, 3) := by decide +kernel
theorem dX9_init_166 : decode cX9_init 166 = .ok (.aload_n 0, 1) := by decide +kernel
theorem dX9_init_167 : decode cX9_init 167 = .ok (.sipush 4096, 3) := by decide +kernel
theorem dX9_init_170 : decode cX9_init 170 = .ok (.newarray .int, 2) := by decide +kernel
theorem dX9_init_172 : decode cX9_init 172 = .ok (.putfield 72, 3) := by decide +kernel
theorem dX9_init_175 : decode cX9_init 175 = .ok (.aload_n 0, 1) := by decide +kernel
theorem dX9_init_176 : decode cX9_init 176 = .ok (.bipush 10, 2) := by decide +kernel
theorem dX9_init_178 : decode cX9_init 178 = .ok (.newarray .long, 2) := by decide +kernel
theorem dX9_init_180 : decode cX9_init 180 = .ok (.putfield 75, 3) := by decide +kernel
theorem dX9_init_183 : decode cX9_init 183 = .ok (.aload_n 0, 1) := by decide +kernel
theorem dX9_init_184 : decode cX9_init 184 = .ok (.bipush 10, 2) := by decide +kernel
theorem dX9_init_186 : decode cX9_init 186 = .ok (.newarray .long, 2) := by decide +kernel
theorem dX9_init_188 : decode cX9_init 188 = .ok (.putfield 78, 3) := by decide +kernel
theorem dX9_init_191 : decode cX9_init 191 = .ok (.aload_n 0, 1) := by decide +kernel
theorem dX9_init_192 : decode cX9_init 192 = .ok (.bipush 10, 2) := by decide +kernel
theorem dX9_init_194 : decode cX9_init 194 = .ok (.newarray .long, 2) := by decide +kernel
theorem dX9_init_196 : decode cX9_init 196 = .ok (.putfield 81, 3) := by decide +kernel
theorem dX9_init_199 : decode cX9_init 199 = .ok (.aload_n 0, 1) := by decide +kernel
theorem dX9_init_200 : decode cX9_init 200 = .ok (.bipush 10, 2) := by decide +kernel
theorem dX9_init_202 : decode cX9_init 202 = .ok (.newarray .long, 2) := by decide +kernel
theorem dX9_init_204 : decode cX9_init 204 = .ok (.putfield 84, 3) := by decide +kernel
theorem dX9_init_207 : decode cX9_init 207 = .ok (.aload_n 0, 1) := by decide +kernel
theorem dX9_init_208 : decode cX9_init 208 = .ok (.bipush 10, 2) := by decide +kernel
theorem dX9_init_210 : decode cX9_init 210 = .ok (.newarray .long, 2) := by decide +kernel
theorem dX9_init_212 : decode cX9_init 212 = .ok (.putfield 87, 3) := by decide +kernel
theorem dX9_init_215 : decode cX9_init 215 = .ok (.aload_n 0, 1) := by decide +kernel
theorem dX9_init_216 : decode cX9_init 216 = .ok (.bipush 10, 2) := by decide +kernel
theorem dX9_init_218 : decode cX9_init 218 = .ok (.newarray .long, 2) := by decide +kernel
theorem dX9_init_220 : decode cX9_init 220 = .ok (.putfield 90, 3) := by decide +kernel
theorem dX9_init_223 : decode cX9_init 223 = .ok (.aload_n 0, 1) := by decide +kernel
theorem dX9_init_224 : decode cX9_init 224 = .ok (.bipush 10, 2) := by decide +kernel
theorem dX9_init_226 : decode cX9_init 226 = .ok (.newarray .boolean, 2) := by decide +kernel
theorem dX9_init_228 : decode cX9_init 228 = .ok (.putfield 93, 3) := by decide +kernel
theorem dX9_init_231 : decode cX9_init 231 = .ok (.aload_n 0, 1) := by decide +kernel
theorem dX9_init_232 : decode cX9_init 232 = .ok (.bipush 60, 2) := by decide +kernel
theorem dX9_init_234 : decode cX9_init 234 = .ok (.newarray .int, 2) := by decide +kernel
theorem dX9_init_236 : decode cX9_init 236 = .ok (.putfield 96, 3) := by decide +kernel
theorem dX9_init_239 : decode cX9_init 239 = .ok (.aload_n 0, 1) := by decide +kernel
theorem dX9_init_240 : decode cX9_init 240 = .ok (.bipush 60, 2) := by decide +kernel
theorem dX9_init_242 : decode cX9_init 242 = .ok (.newarray .int, 2) := by decide +kernel
theorem dX9_init_244 : decode cX9_init 244 = .ok (.putfield 99, 3) := by decide +kernel
theorem dX9_init_247 : decode cX9_init 247 = .ok (.aload_n 0, 1) := by decide +kernel
theorem dX9_init_248 : decode cX9_init 248 = .ok (.bipush 60, 2) := by decide +kernel
theorem dX9_init_250 : decode cX9_init 250 = .ok (.newarray .int, 2) := by decide +kernel
theorem dX9_init_252 : decode cX9_init 252 = .ok (.putfield 102, 3) := by decide +kernel
theorem dX9_init_255 : decode cX9_init 255 = .ok (.aload_n 0, 1) := by decide +kernel
theorem dX9_init_256 : decode cX9_init 256 = .ok (.bipush 60, 2) := by decide +kernel
theorem dX9_init_258 : decode cX9_init 258 = .ok (.newarray .int, 2) := by decide +kernel
theorem dX9_init_260 : decode cX9_init 260 = .ok (.putfield 105, 3) := by decide +kernel
theorem dX9_init_263 : decode cX9_init 263 = .ok (.aload_n 0, 1) := by decide +kernel
theorem dX9_init_264 : decode cX9_init 264 = .ok (.bipush 60, 2) := by decide +kernel
theorem dX9_init_266 : decode cX9_init 266 = .ok (.newarray .int, 2) := by decide +kernel
theorem dX9_init_268 : decode cX9_init 268 = .ok (.putfield 108, 3) := by decide +kernel
theorem dX9_init_271 : decode cX9_init 271 = .ok (.aload_n 0, 1) := by decide +kernel
theorem dX9_init_272 : decode cX9_init 272 = .ok (.bipush 60, 2) := by decide +kernel
theorem dX9_init_274 : decode cX9_init 274 = .ok (.newarray .int, 2) := by decide +kernel
theorem dX9_init_276 : decode cX9_init 276 = .ok (.putfield 111, 3) := by decide +kernel
theorem dX9_init_279 : decode cX9_init 279 = .ok (.aload_n 0, 1) := by decide +kernel
theorem dX9_init_280 : decode cX9_init 280 = .ok (.bipush 60, 2) := by decide +kernel
theorem dX9_init_282 : decode cX9_init 282 = .ok (.newarray .long, 2) := by decide +kernel
theorem dX9_init_284 : decode cX9_init 284 = .ok (.putfield 114, 3) := by decide +kernel
theorem dX9_init_287 : decode cX9_init 287 = .ok (.aload_n 0, 1) := by decide +kernel
theorem dX9_init_288 : decode cX9_init 288 = .ok (.bipush 60, 2) := by decide +kernel
theorem dX9_init_290 : decode cX9_init 290 = .ok (.newarray .long, 2) := by decide +kernel
theorem dX9_init_292 : decode cX9_init 292 = .ok (.putfield 117, 3) := by decide +kernel
theorem dX9_init_295 : decode cX9_init 295 = .ok (.aload_n 0, 1) := by decide +kernel
theorem dX9_init_296 : decode cX9_init 296 = .ok (.sipush 240, 3) := by decide +kernel
theorem dX9_init_299 : decode cX9_init 299 = .ok (.newarray .int, 2) := by decide +kernel
theorem dX9_init_301 : decode cX9_init 301 = .ok (.putfield 120, 3) := by decide +kernel
theorem dX9_init_304 : decode cX9_init 304 = .ok (.aload_n 0, 1) := by decide +kernel
theorem dX9_init_305 : decode cX9_init 305 = .ok (.bipush 60, 2) := by decide +kernel
theorem dX9_init_307 : decode cX9_init 307 = .ok (.newarray .int, 2) := by decide +kernel
theorem dX9_init_309 : decode cX9_init 309 = .ok (.putfield 123, 3) := by decide +kernel
theorem dX9_init_312 : decode cX9_init 312 = .ok (.return_, 1) := by decide +kernel
theorem dX9_thrown_0 : decode cX9_thrown 0 = .ok (.aload_n 0, 1) := by decide +kernel
theorem dX9_thrown_1 : decode cX9_thrown 1 = .ok (.getfield 126, 3) := by decide +kernel
theorem dX9_thrown_4 : decode cX9_thrown 4 = .ok (.ireturn, 1) := by decide +kernel
theorem dX9_fails_0 : decode cX9_fails 0 = .ok (.aload_n 0, 1) := by decide +kernel
theorem dX9_fails_1 : decode cX9_fails 1 = .ok (.iload_n 1, 1) := by decide +kernel
theorem dX9_fails_2 : decode cX9_fails 2 = .ok (.putfield 126, 3) := by decide +kernel
theorem dX9_fails_5 : decode cX9_fails 5 = .ok (.iload_n 1, 1) := by decide +kernel
theorem dX9_fails_6 : decode cX9_fails 6 = .ok (.ifCond .le 7, 3) := by decide +kernel
theorem dX9_fails_9 : decode cX9_fails 9 = .ok (.iconst 1, 1) := by decide +kernel
theorem dX9_fails_10 : decode cX9_fails 10 = .ok (.goto 4, 3) := by decide +kernel
theorem dX9_fails_13 : decode cX9_fails 13 = .ok (.iconst 0, 1) := by decide +kernel
theorem dX9_fails_14 : decode cX9_fails 14 = .ok (.ireturn, 1) := by decide +kernel
theorem dX9_isIn_0 : decode cX9_isIn 0 = .ok (.iload_n 0, 1) := by decide +kernel
theorem dX9_isIn_1 : decode cX9_isIn 1 = .ok (.iload_n 1, 1) := by decide +kernel
theorem dX9_isIn_2 : decode cX9_isIn 2 = .ok (.if_icmp .lt 12, 3) := by decide +kernel
theorem dX9_isIn_5 : decode cX9_isIn 5 = .ok (.iload_n 0, 1) := by decide +kernel
theorem dX9_isIn_6 : decode cX9_isIn 6 = .ok (.iload_n 2, 1) := by decide +kernel
theorem dX9_isIn_7 : decode cX9_isIn 7 = .ok (.if_icmp .gt 7, 3) := by decide +kernel
theorem dX9_isIn_10 : decode cX9_isIn 10 = .ok (.iconst 1, 1) := by decide +kernel
theorem dX9_isIn_11 : decode cX9_isIn 11 = .ok (.goto 4, 3) := by decide +kernel
theorem dX9_isIn_14 : decode cX9_isIn 14 = .ok (.iconst 0, 1) := by decide +kernel
theorem dX9_isIn_15 : decode cX9_isIn 15 = .ok (.ireturn, 1) := by decide +kernel
theorem dX9_isPlayer_0 : decode cX9_isPlayer 0 = .ok (.iload_n 1, 1) := by decide +kernel
theorem dX9_isPlayer_1 : decode cX9_isPlayer 1 = .ok (.iconst 0, 1) := by decide +kernel
theorem dX9_isPlayer_2 : decode cX9_isPlayer 2 = .ok (.aload_n 0, 1) := by decide +kernel
theorem dX9_isPlayer_3 : decode cX9_isPlayer 3 = .ok (.getfield 130, 3) := by decide +kernel
theorem dX9_isPlayer_6 : decode cX9_isPlayer 6 = .ok (.iconst 1, 1) := by decide +kernel
theorem dX9_isPlayer_7 : decode cX9_isPlayer 7 = .ok (.isub, 1) := by decide +kernel
theorem dX9_isPlayer_8 : decode cX9_isPlayer 8 = .ok (.invokestatic 133, 3) := by decide +kernel
theorem dX9_isPlayer_11 : decode cX9_isPlayer 11 = .ok (.ireturn, 1) := by decide +kernel
theorem dX9_isGame_0 : decode cX9_isGame 0 = .ok (.iload_n 1, 1) := by decide +kernel
theorem dX9_isGame_1 : decode cX9_isGame 1 = .ok (.iconst 0, 1) := by decide +kernel
theorem dX9_isGame_2 : decode cX9_isGame 2 = .ok (.aload_n 0, 1) := by decide +kernel
theorem dX9_isGame_3 : decode cX9_isGame 3 = .ok (.getfield 137, 3) := by decide +kernel
theorem dX9_isGame_6 : decode cX9_isGame 6 = .ok (.iconst 1, 1) := by decide +kernel
theorem dX9_isGame_7 : decode cX9_isGame 7 = .ok (.isub, 1) := by decide +kernel
theorem dX9_isGame_8 : decode cX9_isGame 8 = .ok (.invokestatic 133, 3) := by decide +kernel
theorem dX9_isGame_11 : decode cX9_isGame 11 = .ok (.ireturn, 1) := by decide +kernel
theorem dX9_isPoint_0 : decode cX9_isPoint 0 = .ok (.iload_n 0, 1) := by decide +kernel
theorem dX9_isPoint_1 : decode cX9_isPoint 1 = .ok (.iconst 0, 1) := by decide +kernel
theorem dX9_isPoint_2 : decode cX9_isPoint 2 = .ok (.bipush 48, 2) := by decide +kernel
theorem dX9_isPoint_4 : decode cX9_isPoint 4 = .ok (.invokestatic 133, 3) := by decide +kernel
theorem dX9_isPoint_7 : decode cX9_isPoint 7 = .ok (.ireturn, 1) := by decide +kernel
theorem dX9_around_0 : decode cX9_around 0 = .ok (.lload_n 0, 1) := by decide +kernel
theorem dX9_around_1 : decode cX9_around 1 = .ok (.bipush 7, 2) := by decide +kernel
theorem dX9_around_3 : decode cX9_around 3 = .ok (.lshl, 1) := by decide +kernel
theorem dX9_around_4 : decode cX9_around 4 = .ok (.lload_n 0, 1) := by decide +kernel
theorem dX9_around_5 : decode cX9_around 5 = .ok (.bipush 7, 2) := by decide +kernel
theorem dX9_around_7 : decode cX9_around 7 = .ok (.lushr, 1) := by decide +kernel
theorem dX9_around_8 : decode cX9_around 8 = .ok (.lor, 1) := by decide +kernel
theorem dX9_around_9 : decode cX9_around 9 = .ok (.lload_n 0, 1) := by decide +kernel
theorem dX9_around_10 : decode cX9_around 10 = .ok (.ldc2_w 140, 3) := by decide +kernel
theorem dX9_around_13 : decode cX9_around 13 = .ok (.land, 1) := by decide +kernel
theorem dX9_around_14 : decode cX9_around 14 = .ok (.iconst 1, 1) := by decide +kernel
theorem dX9_around_15 : decode cX9_around 15 = .ok (.lshl, 1) := by decide +kernel
theorem dX9_around_16 : decode cX9_around 16 = .ok (.lor, 1) := by decide +kernel
theorem dX9_around_17 : decode cX9_around 17 = .ok (.lload_n 0, 1) := by decide +kernel
theorem dX9_around_18 : decode cX9_around 18 = .ok (.ldc2_w 142, 3) := by decide +kernel
theorem dX9_around_21 : decode cX9_around 21 = .ok (.land, 1) := by decide +kernel
theorem dX9_around_22 : decode cX9_around 22 = .ok (.iconst 1, 1) := by decide +kernel
theorem dX9_around_23 : decode cX9_around 23 = .ok (.lushr, 1) := by decide +kernel
theorem dX9_around_24 : decode cX9_around 24 = .ok (.lor, 1) := by decide +kernel
theorem dX9_around_25 : decode cX9_around 25 = .ok (.ldc2_w 144, 3) := by decide +kernel
theorem dX9_around_28 : decode cX9_around 28 = .ok (.land, 1) := by decide +kernel
theorem dX9_around_29 : decode cX9_around 29 = .ok (.lreturn, 1) := by decide +kernel
theorem dX9_flood_0 : decode cX9_flood 0 = .ok (.lload_n 0, 1) := by decide +kernel
theorem dX9_flood_1 : decode cX9_flood 1 = .ok (.lload_n 2, 1) := by decide +kernel
theorem dX9_flood_2 : decode cX9_flood 2 = .ok (.land, 1) := by decide +kernel
theorem dX9_flood_3 : decode cX9_flood 3 = .ok (.lstore 4, 2) := by decide +kernel
theorem dX9_flood_5 : decode cX9_flood 5 = .ok (.lconst 0, 1) := by decide +kernel
theorem dX9_flood_6 : decode cX9_flood 6 = .ok (.lstore 6, 2) := by decide +kernel
theorem dX9_flood_8 : decode cX9_flood 8 = .ok (.lload 4, 2) := by decide +kernel
theorem dX9_flood_10 : decode cX9_flood 10 = .ok (.lload 6, 2) := by decide +kernel
theorem dX9_flood_12 : decode cX9_flood 12 = .ok (.lcmp, 1) := by decide +kernel
theorem dX9_flood_13 : decode cX9_flood 13 = .ok (.ifCond .eq 22, 3) := by decide +kernel
theorem dX9_flood_16 : decode cX9_flood 16 = .ok (.lload 4, 2) := by decide +kernel
theorem dX9_flood_18 : decode cX9_flood 18 = .ok (.lstore 6, 2) := by decide +kernel
theorem dX9_flood_20 : decode cX9_flood 20 = .ok (.lload 4, 2) := by decide +kernel
theorem dX9_flood_22 : decode cX9_flood 22 = .ok (.lload 4, 2) := by decide +kernel
theorem dX9_flood_24 : decode cX9_flood 24 = .ok (.invokestatic 146, 3) := by decide +kernel
theorem dX9_flood_27 : decode cX9_flood 27 = .ok (.lload_n 2, 1) := by decide +kernel
theorem dX9_flood_28 : decode cX9_flood 28 = .ok (.land, 1) := by decide +kernel
theorem dX9_flood_29 : decode cX9_flood 29 = .ok (.lor, 1) := by decide +kernel
theorem dX9_flood_30 : decode cX9_flood 30 = .ok (.lstore 4, 2) := by decide +kernel
theorem dX9_flood_32 : decode cX9_flood 32 = .ok (.goto (-24), 3) := by decide +kernel
theorem dX9_flood_35 : decode cX9_flood 35 = .ok (.lload 4, 2) := by decide +kernel
theorem dX9_flood_37 : decode cX9_flood 37 = .ok (.lreturn, 1) := by decide +kernel
theorem dX9_bit_0 : decode cX9_bit 0 = .ok (.lconst 1, 1) := by decide +kernel
theorem dX9_bit_1 : decode cX9_bit 1 = .ok (.iload_n 0, 1) := by decide +kernel
theorem dX9_bit_2 : decode cX9_bit 2 = .ok (.lshl, 1) := by decide +kernel
theorem dX9_bit_3 : decode cX9_bit 3 = .ok (.lreturn, 1) := by decide +kernel
theorem dX9_bits_0 : decode cX9_bits 0 = .ok (.iconst 0, 1) := by decide +kernel
theorem dX9_bits_1 : decode cX9_bits 1 = .ok (.istore_n 2, 1) := by decide +kernel
theorem dX9_bits_2 : decode cX9_bits 2 = .ok (.lload_n 0, 1) := by decide +kernel
theorem dX9_bits_3 : decode cX9_bits 3 = .ok (.lstore_n 3, 1) := by decide +kernel
theorem dX9_bits_4 : decode cX9_bits 4 = .ok (.lload_n 3, 1) := by decide +kernel
theorem dX9_bits_5 : decode cX9_bits 5 = .ok (.lconst 0, 1) := by decide +kernel
theorem dX9_bits_6 : decode cX9_bits 6 = .ok (.lcmp, 1) := by decide +kernel
theorem dX9_bits_7 : decode cX9_bits 7 = .ok (.ifCond .eq 15, 3) := by decide +kernel
theorem dX9_bits_10 : decode cX9_bits 10 = .ok (.iinc 2 1, 3) := by decide +kernel
theorem dX9_bits_13 : decode cX9_bits 13 = .ok (.lload_n 3, 1) := by decide +kernel
theorem dX9_bits_14 : decode cX9_bits 14 = .ok (.lload_n 3, 1) := by decide +kernel
theorem dX9_bits_15 : decode cX9_bits 15 = .ok (.lconst 1, 1) := by decide +kernel
theorem dX9_bits_16 : decode cX9_bits 16 = .ok (.lsub, 1) := by decide +kernel
theorem dX9_bits_17 : decode cX9_bits 17 = .ok (.land, 1) := by decide +kernel
theorem dX9_bits_18 : decode cX9_bits 18 = .ok (.lstore_n 3, 1) := by decide +kernel
theorem dX9_bits_19 : decode cX9_bits 19 = .ok (.goto (-15), 3) := by decide +kernel
theorem dX9_bits_22 : decode cX9_bits 22 = .ok (.iload_n 2, 1) := by decide +kernel
theorem dX9_bits_23 : decode cX9_bits 23 = .ok (.ireturn, 1) := by decide +kernel
theorem dX9_free_0 : decode cX9_free 0 = .ok (.lload_n 0, 1) := by decide +kernel
theorem dX9_free_1 : decode cX9_free 1 = .ok (.invokestatic 146, 3) := by decide +kernel
theorem dX9_free_4 : decode cX9_free 4 = .ok (.lload_n 2, 1) := by decide +kernel
theorem dX9_free_5 : decode cX9_free 5 = .ok (.lload 4, 2) := by decide +kernel
theorem dX9_free_7 : decode cX9_free 7 = .ok (.lor, 1) := by decide +kernel
theorem dX9_free_8 : decode cX9_free 8 = .ok (.ldc2_w 150, 3) := by decide +kernel
theorem dX9_free_11 : decode cX9_free 11 = .ok (.lxor, 1) := by decide +kernel
theorem dX9_free_12 : decode cX9_free 12 = .ok (.land, 1) := by decide +kernel
theorem dX9_free_13 : decode cX9_free 13 = .ok (.lreturn, 1) := by decide +kernel
theorem dX9_dead_0 : decode cX9_dead 0 = .ok (.lload_n 0, 1) := by decide +kernel
theorem dX9_dead_1 : decode cX9_dead 1 = .ok (.lstore 6, 2) := by decide +kernel
theorem dX9_dead_3 : decode cX9_dead 3 = .ok (.lconst 0, 1) := by decide +kernel
theorem dX9_dead_4 : decode cX9_dead 4 = .ok (.lstore 8, 2) := by decide +kernel
theorem dX9_dead_6 : decode cX9_dead 6 = .ok (.lload 6, 2) := by decide +kernel
theorem dX9_dead_8 : decode cX9_dead 8 = .ok (.lconst 0, 1) := by decide +kernel
theorem dX9_dead_9 : decode cX9_dead 9 = .ok (.lcmp, 1) := by decide +kernel
theorem dX9_dead_10 : decode cX9_dead 10 = .ok (.ifCond .eq 53, 3) := by decide +kernel
theorem dX9_dead_13 : decode cX9_dead 13 = .ok (.lload 6, 2) := by decide +kernel
theorem dX9_dead_15 : decode cX9_dead 15 = .ok (.lload 6, 2) := by decide +kernel
theorem dX9_dead_17 : decode cX9_dead 17 = .ok (.lneg, 1) := by decide +kernel
theorem dX9_dead_18 : decode cX9_dead 18 = .ok (.land, 1) := by decide +kernel
theorem dX9_dead_19 : decode cX9_dead 19 = .ok (.lload_n 0, 1) := by decide +kernel
theorem dX9_dead_20 : decode cX9_dead 20 = .ok (.invokestatic 152, 3) := by decide +kernel
theorem dX9_dead_23 : decode cX9_dead 23 = .ok (.lstore 10, 2) := by decide +kernel
theorem dX9_dead_25 : decode cX9_dead 25 = .ok (.lload 6, 2) := by decide +kernel
theorem dX9_dead_27 : decode cX9_dead 27 = .ok (.lload 10, 2) := by decide +kernel
theorem dX9_dead_29 : decode cX9_dead 29 = .ok (.ldc2_w 150, 3) := by decide +kernel
theorem dX9_dead_32 : decode cX9_dead 32 = .ok (.lxor, 1) := by decide +kernel
theorem dX9_dead_33 : decode cX9_dead 33 = .ok (.land, 1) := by decide +kernel
theorem dX9_dead_34 : decode cX9_dead 34 = .ok (.lstore 6, 2) := by decide +kernel
theorem dX9_dead_36 : decode cX9_dead 36 = .ok (.lload 8, 2) := by decide +kernel
theorem dX9_dead_38 : decode cX9_dead 38 = .ok (.lload 10, 2) := by decide +kernel
theorem dX9_dead_40 : decode cX9_dead 40 = .ok (.lload_n 2, 1) := by decide +kernel
theorem dX9_dead_41 : decode cX9_dead 41 = .ok (.lload 4, 2) := by decide +kernel
theorem dX9_dead_43 : decode cX9_dead 43 = .ok (.invokestatic 156, 3) := by decide +kernel
theorem dX9_dead_46 : decode cX9_dead 46 = .ok (.lconst 0, 1) := by decide +kernel
theorem dX9_dead_47 : decode cX9_dead 47 = .ok (.lcmp, 1) := by decide +kernel
theorem dX9_dead_48 : decode cX9_dead 48 = .ok (.ifCond .ne 8, 3) := by decide +kernel
theorem dX9_dead_51 : decode cX9_dead 51 = .ok (.lload 10, 2) := by decide +kernel
theorem dX9_dead_53 : decode cX9_dead 53 = .ok (.goto 4, 3) := by decide +kernel
theorem dX9_dead_56 : decode cX9_dead 56 = .ok (.lconst 0, 1) := by decide +kernel
theorem dX9_dead_57 : decode cX9_dead 57 = .ok (.lor, 1) := by decide +kernel
theorem dX9_dead_58 : decode cX9_dead 58 = .ok (.lstore 8, 2) := by decide +kernel
theorem dX9_dead_60 : decode cX9_dead 60 = .ok (.goto (-54), 3) := by decide +kernel
theorem dX9_dead_63 : decode cX9_dead 63 = .ok (.lload 8, 2) := by decide +kernel
theorem dX9_dead_65 : decode cX9_dead 65 = .ok (.lreturn, 1) := by decide +kernel
theorem dX9_puts_0 : decode cX9_puts 0 = .ok (.iload 5, 2) := by decide +kernel
theorem dX9_puts_2 : decode cX9_puts 2 = .ok (.ifCond .ne 7, 3) := by decide +kernel
theorem dX9_puts_5 : decode cX9_puts 5 = .ok (.lload_n 1, 1) := by decide +kernel
theorem dX9_puts_6 : decode cX9_puts 6 = .ok (.goto 4, 3) := by decide +kernel
theorem dX9_puts_9 : decode cX9_puts 9 = .ok (.lload_n 3, 1) := by decide +kernel
theorem dX9_puts_10 : decode cX9_puts 10 = .ok (.iload 6, 2) := by decide +kernel
theorem dX9_puts_12 : decode cX9_puts 12 = .ok (.invokestatic 160, 3) := by decide +kernel
theorem dX9_puts_15 : decode cX9_puts 15 = .ok (.lor, 1) := by decide +kernel
theorem dX9_puts_16 : decode cX9_puts 16 = .ok (.lstore 7, 2) := by decide +kernel
theorem dX9_puts_18 : decode cX9_puts 18 = .ok (.iload 5, 2) := by decide +kernel
theorem dX9_puts_20 : decode cX9_puts 20 = .ok (.ifCond .ne 7, 3) := by decide +kernel
theorem dX9_puts_23 : decode cX9_puts 23 = .ok (.lload_n 3, 1) := by decide +kernel
theorem dX9_puts_24 : decode cX9_puts 24 = .ok (.goto 4, 3) := by decide +kernel
theorem dX9_puts_27 : decode cX9_puts 27 = .ok (.lload_n 1, 1) := by decide +kernel
theorem dX9_puts_28 : decode cX9_puts 28 = .ok (.lstore 9, 2) := by decide +kernel
theorem dX9_puts_30 : decode cX9_puts 30 = .ok (.lload 9, 2) := by decide +kernel
theorem dX9_puts_32 : decode cX9_puts 32 = .ok (.lload 7, 2) := by decide +kernel
theorem dX9_puts_34 : decode cX9_puts 34 = .ok (.lload 9, 2) := by decide +kernel
theorem dX9_puts_36 : decode cX9_puts 36 = .ok (.invokestatic 164, 3) := by decide +kernel
theorem dX9_puts_39 : decode cX9_puts 39 = .ok (.lstore 11, 2) := by decide +kernel
theorem dX9_puts_41 : decode cX9_puts 41 = .ok (.lload 9, 2) := by decide +kernel
theorem dX9_puts_43 : decode cX9_puts 43 = .ok (.lload 11, 2) := by decide +kernel
theorem dX9_puts_45 : decode cX9_puts 45 = .ok (.ldc2_w 150, 3) := by decide +kernel
theorem dX9_puts_48 : decode cX9_puts 48 = .ok (.lxor, 1) := by decide +kernel
theorem dX9_puts_49 : decode cX9_puts 49 = .ok (.land, 1) := by decide +kernel
theorem dX9_puts_50 : decode cX9_puts 50 = .ok (.lstore 9, 2) := by decide +kernel
theorem dX9_puts_52 : decode cX9_puts 52 = .ok (.aload_n 0, 1) := by decide +kernel
theorem dX9_puts_53 : decode cX9_puts 53 = .ok (.lload 11, 2) := by decide +kernel
theorem dX9_puts_55 : decode cX9_puts 55 = .ok (.invokestatic 167, 3) := by decide +kernel
theorem dX9_puts_58 : decode cX9_puts 58 = .ok (.putfield 171, 3) := by decide +kernel
theorem dX9_puts_61 : decode cX9_puts 61 = .ok (.aload_n 0, 1) := by decide +kernel
theorem dX9_puts_62 : decode cX9_puts 62 = .ok (.iload 6, 2) := by decide +kernel
theorem dX9_puts_64 : decode cX9_puts 64 = .ok (.invokestatic 160, 3) := by decide +kernel
theorem dX9_puts_67 : decode cX9_puts 67 = .ok (.lload 7, 2) := by decide +kernel
theorem dX9_puts_69 : decode cX9_puts 69 = .ok (.invokestatic 152, 3) := by decide +kernel
theorem dX9_puts_72 : decode cX9_puts 72 = .ok (.lload 7, 2) := by decide +kernel
theorem dX9_puts_74 : decode cX9_puts 74 = .ok (.lload 9, 2) := by decide +kernel
theorem dX9_puts_76 : decode cX9_puts 76 = .ok (.invokestatic 156, 3) := by decide +kernel
theorem dX9_puts_79 : decode cX9_puts 79 = .ok (.lconst 0, 1) := by decide +kernel
theorem dX9_puts_80 : decode cX9_puts 80 = .ok (.lcmp, 1) := by decide +kernel
theorem dX9_puts_81 : decode cX9_puts 81 = .ok (.ifCond .ne 7, 3) := by decide +kernel
theorem dX9_puts_84 : decode cX9_puts 84 = .ok (.iconst 1, 1) := by decide +kernel
theorem dX9_puts_85 : decode cX9_puts 85 = .ok (.goto 4, 3) := by decide +kernel
theorem dX9_puts_88 : decode cX9_puts 88 = .ok (.iconst 0, 1) := by decide +kernel
theorem dX9_puts_89 : decode cX9_puts 89 = .ok (.putfield 174, 3) := by decide +kernel
theorem dX9_puts_92 : decode cX9_puts 92 = .ok (.aload_n 0, 1) := by decide +kernel
theorem dX9_puts_93 : decode cX9_puts 93 = .ok (.iload 5, 2) := by decide +kernel
theorem dX9_puts_95 : decode cX9_puts 95 = .ok (.ifCond .ne 8, 3) := by decide +kernel
theorem dX9_puts_98 : decode cX9_puts 98 = .ok (.lload 7, 2) := by decide +kernel
theorem dX9_puts_100 : decode cX9_puts 100 = .ok (.goto 5, 3) := by decide +kernel
theorem dX9_puts_103 : decode cX9_puts 103 = .ok (.lload 9, 2) := by decide +kernel
theorem dX9_puts_105 : decode cX9_puts 105 = .ok (.putfield 178, 3) := by decide +kernel
theorem dX9_puts_108 : decode cX9_puts 108 = .ok (.aload_n 0, 1) := by decide +kernel
theorem dX9_puts_109 : decode cX9_puts 109 = .ok (.iload 5, 2) := by decide +kernel
theorem dX9_puts_111 : decode cX9_puts 111 = .ok (.ifCond .ne 8, 3) := by decide +kernel
theorem dX9_puts_114 : decode cX9_puts 114 = .ok (.lload 9, 2) := by decide +kernel
theorem dX9_puts_116 : decode cX9_puts 116 = .ok (.goto 5, 3) := by decide +kernel
theorem dX9_puts_119 : decode cX9_puts 119 = .ok (.lload 7, 2) := by decide +kernel
theorem dX9_puts_121 : decode cX9_puts 121 = .ok (.putfield 182, 3) := by decide +kernel
theorem dX9_puts_124 : decode cX9_puts 124 = .ok (.return_, 1) := by decide +kernel
theorem dX9_player_0 : decode cX9_player 0 = .ok (.aload_n 0, 1) := by decide +kernel
theorem dX9_player_1 : decode cX9_player 1 = .ok (.iload_n 1, 1) := by decide +kernel
theorem dX9_player_2 : decode cX9_player 2 = .ok (.iconst 0, 1) := by decide +kernel
theorem dX9_player_3 : decode cX9_player 3 = .ok (.bipush 20, 2) := by decide +kernel
theorem dX9_player_5 : decode cX9_player 5 = .ok (.invokestatic 133, 3) := by decide +kernel
theorem dX9_player_8 : decode cX9_player 8 = .ok (.ifCond .ne 7, 3) := by decide +kernel
theorem dX9_player_11 : decode cX9_player 11 = .ok (.iconst 1, 1) := by decide +kernel
theorem dX9_player_12 : decode cX9_player 12 = .ok (.goto 17, 3) := by decide +kernel
theorem dX9_player_15 : decode cX9_player 15 = .ok (.aload_n 0, 1) := by decide +kernel
theorem dX9_player_16 : decode cX9_player 16 = .ok (.getfield 130, 3) := by decide +kernel
theorem dX9_player_19 : decode cX9_player 19 = .ok (.bipush 8, 2) := by decide +kernel
theorem dX9_player_21 : decode cX9_player 21 = .ok (.if_icmp .ne 7, 3) := by decide +kernel
theorem dX9_player_24 : decode cX9_player 24 = .ok (.iconst 2, 1) := by decide +kernel
theorem dX9_player_25 : decode cX9_player 25 = .ok (.goto 4, 3) := by decide +kernel
theorem dX9_player_28 : decode cX9_player 28 = .ok (.iconst 0, 1) := by decide +kernel
theorem dX9_player_29 : decode cX9_player 29 = .ok (.invokevirtual 185, 3) := by decide +kernel
theorem dX9_player_32 : decode cX9_player 32 = .ok (.ifCond .eq 5, 3) := by decide +kernel
theorem dX9_player_35 : decode cX9_player 35 = .ok (.iconst 0, 1) := by decide +kernel
theorem dX9_player_36 : decode cX9_player 36 = .ok (.ireturn, 1) := by decide +kernel
theorem dX9_player_37 : decode cX9_player 37 = .ok (.aload_n 0, 1) := by decide +kernel
theorem dX9_player_38 : decode cX9_player 38 = .ok (.getfield 9, 3) := by decide +kernel
theorem dX9_player_41 : decode cX9_player 41 = .ok (.aload_n 0, 1) := by decide +kernel
theorem dX9_player_42 : decode cX9_player 42 = .ok (.getfield 130, 3) := by decide +kernel
theorem dX9_player_45 : decode cX9_player 45 = .ok (.iload_n 1, 1) := by decide +kernel
theorem dX9_player_46 : decode cX9_player 46 = .ok (.iastore, 1) := by decide +kernel
theorem dX9_player_47 : decode cX9_player 47 = .ok (.aload_n 0, 1) := by decide +kernel
theorem dX9_player_48 : decode cX9_player 48 = .ok (.getfield 13, 3) := by decide +kernel
theorem dX9_player_51 : decode cX9_player 51 = .ok (.aload_n 0, 1) := by decide +kernel
theorem dX9_player_52 : decode cX9_player 52 = .ok (.getfield 130, 3) := by decide +kernel
theorem dX9_player_55 : decode cX9_player 55 = .ok (.iload_n 1, 1) := by decide +kernel
theorem dX9_player_56 : decode cX9_player 56 = .ok (.iastore, 1) := by decide +kernel
theorem dX9_player_57 : decode cX9_player 57 = .ok (.aload_n 0, 1) := by decide +kernel
theorem dX9_player_58 : decode cX9_player 58 = .ok (.dup, 1) := by decide +kernel
theorem dX9_player_59 : decode cX9_player 59 = .ok (.getfield 130, 3) := by decide +kernel
theorem dX9_player_62 : decode cX9_player 62 = .ok (.iconst 1, 1) := by decide +kernel
theorem dX9_player_63 : decode cX9_player 63 = .ok (.iadd, 1) := by decide +kernel
theorem dX9_player_64 : decode cX9_player 64 = .ok (.putfield 130, 3) := by decide +kernel
theorem dX9_player_67 : decode cX9_player 67 = .ok (.aload_n 0, 1) := by decide +kernel
theorem dX9_player_68 : decode cX9_player 68 = .ok (.getfield 130, 3) := by decide +kernel
theorem dX9_player_71 : decode cX9_player 71 = .ok (.iconst 1, 1) := by decide +kernel
theorem dX9_player_72 : decode cX9_player 72 = .ok (.isub, 1) := by decide +kernel
theorem dX9_player_73 : decode cX9_player 73 = .ok (.ireturn, 1) := by decide +kernel
theorem dX9_rank_0 : decode cX9_rank 0 = .ok (.aload_n 0, 1) := by decide +kernel
theorem dX9_rank_1 : decode cX9_rank 1 = .ok (.aload_n 0, 1) := by decide +kernel
theorem dX9_rank_2 : decode cX9_rank 2 = .ok (.iload_n 1, 1) := by decide +kernel
theorem dX9_rank_3 : decode cX9_rank 3 = .ok (.invokevirtual 189, 3) := by decide +kernel
theorem dX9_rank_6 : decode cX9_rank 6 = .ok (.ifCond .eq 7, 3) := by decide +kernel
theorem dX9_rank_9 : decode cX9_rank 9 = .ok (.iconst 0, 1) := by decide +kernel
theorem dX9_rank_10 : decode cX9_rank 10 = .ok (.goto 4, 3) := by decide +kernel
theorem dX9_rank_13 : decode cX9_rank 13 = .ok (.iconst 1, 1) := by decide +kernel
theorem dX9_rank_14 : decode cX9_rank 14 = .ok (.invokevirtual 185, 3) := by decide +kernel
theorem dX9_rank_17 : decode cX9_rank 17 = .ok (.ifCond .eq 5, 3) := by decide +kernel
theorem dX9_rank_20 : decode cX9_rank 20 = .ok (.iconst 0, 1) := by decide +kernel
theorem dX9_rank_21 : decode cX9_rank 21 = .ok (.ireturn, 1) := by decide +kernel
theorem dX9_rank_22 : decode cX9_rank 22 = .ok (.bipush 10, 2) := by decide +kernel
theorem dX9_rank_24 : decode cX9_rank 24 = .ok (.aload_n 0, 1) := by decide +kernel
theorem dX9_rank_25 : decode cX9_rank 25 = .ok (.getfield 13, 3) := by decide +kernel
theorem dX9_rank_28 : decode cX9_rank 28 = .ok (.iload_n 1, 1) := by decide +kernel
theorem dX9_rank_29 : decode cX9_rank 29 = .ok (.iaload, 1) := by decide +kernel
theorem dX9_rank_30 : decode cX9_rank 30 = .ok (.imul, 1) := by decide +kernel
theorem dX9_rank_31 : decode cX9_rank 31 = .ok (.aload_n 0, 1) := by decide +kernel
theorem dX9_rank_32 : decode cX9_rank 32 = .ok (.getfield 16, 3) := by decide +kernel
theorem dX9_rank_35 : decode cX9_rank 35 = .ok (.iload_n 1, 1) := by decide +kernel
theorem dX9_rank_36 : decode cX9_rank 36 = .ok (.iaload, 1) := by decide +kernel
theorem dX9_rank_37 : decode cX9_rank 37 = .ok (.ifCond .ge 14, 3) := by decide +kernel
theorem dX9_rank_40 : decode cX9_rank 40 = .ok (.iconst 5, 1) := by decide +kernel
theorem dX9_rank_41 : decode cX9_rank 41 = .ok (.aload_n 0, 1) := by decide +kernel
theorem dX9_rank_42 : decode cX9_rank 42 = .ok (.getfield 16, 3) := by decide +kernel
theorem dX9_rank_45 : decode cX9_rank 45 = .ok (.iload_n 1, 1) := by decide +kernel
theorem dX9_rank_46 : decode cX9_rank 46 = .ok (.iaload, 1) := by decide +kernel
theorem dX9_rank_47 : decode cX9_rank 47 = .ok (.isub, 1) := by decide +kernel
theorem dX9_rank_48 : decode cX9_rank 48 = .ok (.goto 9, 3) := by decide +kernel
theorem dX9_rank_51 : decode cX9_rank 51 = .ok (.aload_n 0, 1) := by decide +kernel
theorem dX9_rank_52 : decode cX9_rank 52 = .ok (.getfield 16, 3) := by decide +kernel
theorem dX9_rank_55 : decode cX9_rank 55 = .ok (.iload_n 1, 1) := by decide +kernel
theorem dX9_rank_56 : decode cX9_rank 56 = .ok (.iaload, 1) := by decide +kernel
theorem dX9_rank_57 : decode cX9_rank 57 = .ok (.iadd, 1) := by decide +kernel
theorem dX9_rank_58 : decode cX9_rank 58 = .ok (.ireturn, 1) := by decide +kernel
theorem dX9_plays_0 : decode cX9_plays 0 = .ok (.iconst 0, 1) := by decide +kernel
theorem dX9_plays_1 : decode cX9_plays 1 = .ok (.istore_n 2, 1) := by decide +kernel
theorem dX9_plays_2 : decode cX9_plays 2 = .ok (.iconst 0, 1) := by decide +kernel
theorem dX9_plays_3 : decode cX9_plays 3 = .ok (.istore_n 3, 1) := by decide +kernel
theorem dX9_plays_4 : decode cX9_plays 4 = .ok (.iload_n 3, 1) := by decide +kernel
theorem dX9_plays_5 : decode cX9_plays 5 = .ok (.aload_n 0, 1) := by decide +kernel
theorem dX9_plays_6 : decode cX9_plays 6 = .ok (.getfield 137, 3) := by decide +kernel
theorem dX9_plays_9 : decode cX9_plays 9 = .ok (.if_icmp .ge 48, 3) := by decide +kernel
theorem dX9_plays_12 : decode cX9_plays 12 = .ok (.iload_n 2, 1) := by decide +kernel
theorem dX9_plays_13 : decode cX9_plays 13 = .ok (.ifCond .ne 32, 3) := by decide +kernel
theorem dX9_plays_16 : decode cX9_plays 16 = .ok (.aload_n 0, 1) := by decide +kernel
theorem dX9_plays_17 : decode cX9_plays 17 = .ok (.getfield 34, 3) := by decide +kernel
theorem dX9_plays_20 : decode cX9_plays 20 = .ok (.iload_n 3, 1) := by decide +kernel
theorem dX9_plays_21 : decode cX9_plays 21 = .ok (.iaload, 1) := by decide +kernel
theorem dX9_plays_22 : decode cX9_plays 22 = .ok (.ifCond .ne 27, 3) := by decide +kernel
theorem dX9_plays_25 : decode cX9_plays 25 = .ok (.aload_n 0, 1) := by decide +kernel
theorem dX9_plays_26 : decode cX9_plays 26 = .ok (.getfield 19, 3) := by decide +kernel
theorem dX9_plays_29 : decode cX9_plays 29 = .ok (.iload_n 3, 1) := by decide +kernel
theorem dX9_plays_30 : decode cX9_plays 30 = .ok (.iaload, 1) := by decide +kernel
theorem dX9_plays_31 : decode cX9_plays 31 = .ok (.iload_n 1, 1) := by decide +kernel
theorem dX9_plays_32 : decode cX9_plays 32 = .ok (.if_icmp .eq 13, 3) := by decide +kernel
theorem dX9_plays_35 : decode cX9_plays 35 = .ok (.aload_n 0, 1) := by decide +kernel
theorem dX9_plays_36 : decode cX9_plays 36 = .ok (.getfield 22, 3) := by decide +kernel
theorem dX9_plays_39 : decode cX9_plays 39 = .ok (.iload_n 3, 1) := by decide +kernel
theorem dX9_plays_40 : decode cX9_plays 40 = .ok (.iaload, 1) := by decide +kernel
theorem dX9_plays_41 : decode cX9_plays 41 = .ok (.iload_n 1, 1) := by decide +kernel
theorem dX9_plays_42 : decode cX9_plays 42 = .ok (.if_icmp .ne 7, 3) := by decide +kernel
theorem dX9_plays_45 : decode cX9_plays 45 = .ok (.iconst 1, 1) := by decide +kernel
theorem dX9_plays_46 : decode cX9_plays 46 = .ok (.goto 4, 3) := by decide +kernel
theorem dX9_plays_49 : decode cX9_plays 49 = .ok (.iconst 0, 1) := by decide +kernel
theorem dX9_plays_50 : decode cX9_plays 50 = .ok (.istore_n 2, 1) := by decide +kernel
theorem dX9_plays_51 : decode cX9_plays 51 = .ok (.iinc 3 1, 3) := by decide +kernel
theorem dX9_plays_54 : decode cX9_plays 54 = .ok (.goto (-50), 3) := by decide +kernel
theorem dX9_plays_57 : decode cX9_plays 57 = .ok (.iload_n 2, 1) := by decide +kernel
theorem dX9_plays_58 : decode cX9_plays 58 = .ok (.ireturn, 1) := by decide +kernel
theorem dX9_apart_0 : decode cX9_apart 0 = .ok (.aload_n 0, 1) := by decide +kernel
theorem dX9_apart_1 : decode cX9_apart 1 = .ok (.getfield 13, 3) := by decide +kernel
theorem dX9_apart_4 : decode cX9_apart 4 = .ok (.iload_n 1, 1) := by decide +kernel
theorem dX9_apart_5 : decode cX9_apart 5 = .ok (.iaload, 1) := by decide +kernel
theorem dX9_apart_6 : decode cX9_apart 6 = .ok (.aload_n 0, 1) := by decide +kernel
theorem dX9_apart_7 : decode cX9_apart 7 = .ok (.getfield 13, 3) := by decide +kernel
theorem dX9_apart_10 : decode cX9_apart 10 = .ok (.iload_n 2, 1) := by decide +kernel
theorem dX9_apart_11 : decode cX9_apart 11 = .ok (.iaload, 1) := by decide +kernel
theorem dX9_apart_12 : decode cX9_apart 12 = .ok (.if_icmp .ge 19, 3) := by decide +kernel
theorem dX9_apart_15 : decode cX9_apart 15 = .ok (.aload_n 0, 1) := by decide +kernel
theorem dX9_apart_16 : decode cX9_apart 16 = .ok (.getfield 13, 3) := by decide +kernel
theorem dX9_apart_19 : decode cX9_apart 19 = .ok (.iload_n 2, 1) := by decide +kernel
theorem dX9_apart_20 : decode cX9_apart 20 = .ok (.iaload, 1) := by decide +kernel
theorem dX9_apart_21 : decode cX9_apart 21 = .ok (.aload_n 0, 1) := by decide +kernel
theorem dX9_apart_22 : decode cX9_apart 22 = .ok (.getfield 13, 3) := by decide +kernel
theorem dX9_apart_25 : decode cX9_apart 25 = .ok (.iload_n 1, 1) := by decide +kernel
theorem dX9_apart_26 : decode cX9_apart 26 = .ok (.iaload, 1) := by decide +kernel
theorem dX9_apart_27 : decode cX9_apart 27 = .ok (.isub, 1) := by decide +kernel
theorem dX9_apart_28 : decode cX9_apart 28 = .ok (.goto 16, 3) := by decide +kernel
theorem dX9_apart_31 : decode cX9_apart 31 = .ok (.aload_n 0, 1) := by decide +kernel
theorem dX9_apart_32 : decode cX9_apart 32 = .ok (.getfield 13, 3) := by decide +kernel
theorem dX9_apart_35 : decode cX9_apart 35 = .ok (.iload_n 1, 1) := by decide +kernel
theorem dX9_apart_36 : decode cX9_apart 36 = .ok (.iaload, 1) := by decide +kernel
theorem dX9_apart_37 : decode cX9_apart 37 = .ok (.aload_n 0, 1) := by decide +kernel
theorem dX9_apart_38 : decode cX9_apart 38 = .ok (.getfield 13, 3) := by decide +kernel
theorem dX9_apart_41 : decode cX9_apart 41 = .ok (.iload_n 2, 1) := by decide +kernel
theorem dX9_apart_42 : decode cX9_apart 42 = .ok (.iaload, 1) := by decide +kernel
theorem dX9_apart_43 : decode cX9_apart 43 = .ok (.isub, 1) := by decide +kernel
theorem dX9_apart_44 : decode cX9_apart 44 = .ok (.ireturn, 1) := by decide +kernel
theorem dX9_handicapOf_0 : decode cX9_handicapOf 0 = .ok (.aload_n 0, 1) := by decide +kernel
theorem dX9_handicapOf_1 : decode cX9_handicapOf 1 = .ok (.iload_n 1, 1) := by decide +kernel
theorem dX9_handicapOf_2 : decode cX9_handicapOf 2 = .ok (.iload_n 2, 1) := by decide +kernel
theorem dX9_handicapOf_3 : decode cX9_handicapOf 3 = .ok (.invokevirtual 192, 3) := by decide +kernel
theorem dX9_handicapOf_6 : decode cX9_handicapOf 6 = .ok (.iconst 4, 1) := by decide +kernel
theorem dX9_handicapOf_7 : decode cX9_handicapOf 7 = .ok (.if_icmp .le 7, 3) := by decide +kernel
theorem dX9_handicapOf_10 : decode cX9_handicapOf 10 = .ok (.iconst 4, 1) := by decide +kernel
theorem dX9_handicapOf_11 : decode cX9_handicapOf 11 = .ok (.goto 9, 3) := by decide +kernel
theorem dX9_handicapOf_14 : decode cX9_handicapOf 14 = .ok (.aload_n 0, 1) := by decide +kernel
theorem dX9_handicapOf_15 : decode cX9_handicapOf 15 = .ok (.iload_n 1, 1) := by decide +kernel
theorem dX9_handicapOf_16 : decode cX9_handicapOf 16 = .ok (.iload_n 2, 1) := by decide +kernel
theorem dX9_handicapOf_17 : decode cX9_handicapOf 17 = .ok (.invokevirtual 192, 3) := by decide +kernel
theorem dX9_handicapOf_20 : decode cX9_handicapOf 20 = .ok (.ireturn, 1) := by decide +kernel
theorem dX9_blackOf_0 : decode cX9_blackOf 0 = .ok (.aload_n 0, 1) := by decide +kernel
theorem dX9_blackOf_1 : decode cX9_blackOf 1 = .ok (.getfield 13, 3) := by decide +kernel
theorem dX9_blackOf_4 : decode cX9_blackOf 4 = .ok (.iload_n 2, 1) := by decide +kernel
theorem dX9_blackOf_5 : decode cX9_blackOf 5 = .ok (.iaload, 1) := by decide +kernel
theorem dX9_blackOf_6 : decode cX9_blackOf 6 = .ok (.aload_n 0, 1) := by decide +kernel
theorem dX9_blackOf_7 : decode cX9_blackOf 7 = .ok (.getfield 13, 3) := by decide +kernel
theorem dX9_blackOf_10 : decode cX9_blackOf 10 = .ok (.iload_n 1, 1) := by decide +kernel
theorem dX9_blackOf_11 : decode cX9_blackOf 11 = .ok (.iaload, 1) := by decide +kernel
theorem dX9_blackOf_12 : decode cX9_blackOf 12 = .ok (.if_icmp .ge 7, 3) := by decide +kernel
theorem dX9_blackOf_15 : decode cX9_blackOf 15 = .ok (.iload_n 2, 1) := by decide +kernel
theorem dX9_blackOf_16 : decode cX9_blackOf 16 = .ok (.goto 4, 3) := by decide +kernel
theorem dX9_blackOf_19 : decode cX9_blackOf 19 = .ok (.iload_n 1, 1) := by decide +kernel
theorem dX9_blackOf_20 : decode cX9_blackOf 20 = .ok (.ireturn, 1) := by decide +kernel
theorem dX9_stones_0 : decode cX9_stones 0 = .ok (.iload_n 0, 1) := by decide +kernel
theorem dX9_stones_1 : decode cX9_stones 1 = .ok (.ifCond .le 11, 3) := by decide +kernel
theorem dX9_stones_4 : decode cX9_stones 4 = .ok (.bipush 16, 2) := by decide +kernel
theorem dX9_stones_6 : decode cX9_stones 6 = .ok (.invokestatic 160, 3) := by decide +kernel
theorem dX9_stones_9 : decode cX9_stones 9 = .ok (.goto 4, 3) := by decide +kernel
theorem dX9_stones_12 : decode cX9_stones 12 = .ok (.lconst 0, 1) := by decide +kernel
theorem dX9_stones_13 : decode cX9_stones 13 = .ok (.lstore_n 1, 1) := by decide +kernel
theorem dX9_stones_14 : decode cX9_stones 14 = .ok (.lload_n 1, 1) := by decide +kernel
theorem dX9_stones_15 : decode cX9_stones 15 = .ok (.iload_n 0, 1) := by decide +kernel
theorem dX9_stones_16 : decode cX9_stones 16 = .ok (.iconst 1, 1) := by decide +kernel
theorem dX9_stones_17 : decode cX9_stones 17 = .ok (.if_icmp .le 11, 3) := by decide +kernel
theorem dX9_stones_20 : decode cX9_stones 20 = .ok (.bipush 32, 2) := by decide +kernel
theorem dX9_stones_22 : decode cX9_stones 22 = .ok (.invokestatic 160, 3) := by decide +kernel
theorem dX9_stones_25 : decode cX9_stones 25 = .ok (.goto 4, 3) := by decide +kernel
theorem dX9_stones_28 : decode cX9_stones 28 = .ok (.lconst 0, 1) := by decide +kernel
theorem dX9_stones_29 : decode cX9_stones 29 = .ok (.lor, 1) := by decide +kernel
theorem dX9_stones_30 : decode cX9_stones 30 = .ok (.lstore_n 1, 1) := by decide +kernel
theorem dX9_stones_31 : decode cX9_stones 31 = .ok (.lload_n 1, 1) := by decide +kernel
theorem dX9_stones_32 : decode cX9_stones 32 = .ok (.iload_n 0, 1) := by decide +kernel
theorem dX9_stones_33 : decode cX9_stones 33 = .ok (.iconst 2, 1) := by decide +kernel
theorem dX9_stones_34 : decode cX9_stones 34 = .ok (.if_icmp .le 11, 3) := by decide +kernel
theorem dX9_stones_37 : decode cX9_stones 37 = .ok (.bipush 18, 2) := by decide +kernel
theorem dX9_stones_39 : decode cX9_stones 39 = .ok (.invokestatic 160, 3) := by decide +kernel
theorem dX9_stones_42 : decode cX9_stones 42 = .ok (.goto 4, 3) := by decide +kernel
theorem dX9_stones_45 : decode cX9_stones 45 = .ok (.lconst 0, 1) := by decide +kernel
theorem dX9_stones_46 : decode cX9_stones 46 = .ok (.lor, 1) := by decide +kernel
theorem dX9_stones_47 : decode cX9_stones 47 = .ok (.lstore_n 1, 1) := by decide +kernel
theorem dX9_stones_48 : decode cX9_stones 48 = .ok (.iload_n 0, 1) := by decide +kernel
theorem dX9_stones_49 : decode cX9_stones 49 = .ok (.iconst 2, 1) := by decide +kernel
theorem dX9_stones_50 : decode cX9_stones 50 = .ok (.if_icmp .ge 7, 3) := by decide +kernel
theorem dX9_stones_53 : decode cX9_stones 53 = .ok (.lconst 0, 1) := by decide +kernel
theorem dX9_stones_54 : decode cX9_stones 54 = .ok (.goto 19, 3) := by decide +kernel
theorem dX9_stones_57 : decode cX9_stones 57 = .ok (.iload_n 0, 1) := by decide +kernel
theorem dX9_stones_58 : decode cX9_stones 58 = .ok (.iconst 3, 1) := by decide +kernel
theorem dX9_stones_59 : decode cX9_stones 59 = .ok (.if_icmp .le 13, 3) := by decide +kernel
theorem dX9_stones_62 : decode cX9_stones 62 = .ok (.lload_n 1, 1) := by decide +kernel
theorem dX9_stones_63 : decode cX9_stones 63 = .ok (.bipush 30, 2) := by decide +kernel
theorem dX9_stones_65 : decode cX9_stones 65 = .ok (.invokestatic 160, 3) := by decide +kernel
theorem dX9_stones_68 : decode cX9_stones 68 = .ok (.lor, 1) := by decide +kernel
theorem dX9_stones_69 : decode cX9_stones 69 = .ok (.goto 4, 3) := by decide +kernel
theorem dX9_stones_72 : decode cX9_stones 72 = .ok (.lload_n 1, 1) := by decide +kernel
theorem dX9_stones_73 : decode cX9_stones 73 = .ok (.lreturn, 1) := by decide +kernel
theorem dX9_keeps_0 : decode cX9_keeps 0 = .ok (.aload_n 0, 1) := by decide +kernel
theorem dX9_keeps_1 : decode cX9_keeps 1 = .ok (.getfield 65, 3) := by decide +kernel
theorem dX9_keeps_4 : decode cX9_keeps 4 = .ok (.aload_n 0, 1) := by decide +kernel
theorem dX9_keeps_5 : decode cX9_keeps 5 = .ok (.getfield 196, 3) := by decide +kernel
theorem dX9_keeps_8 : decode cX9_keeps 8 = .ok (.lload_n 1, 1) := by decide +kernel
theorem dX9_keeps_9 : decode cX9_keeps 9 = .ok (.lastore, 1) := by decide +kernel
theorem dX9_keeps_10 : decode cX9_keeps 10 = .ok (.aload_n 0, 1) := by decide +kernel
theorem dX9_keeps_11 : decode cX9_keeps 11 = .ok (.getfield 69, 3) := by decide +kernel
theorem dX9_keeps_14 : decode cX9_keeps 14 = .ok (.aload_n 0, 1) := by decide +kernel
theorem dX9_keeps_15 : decode cX9_keeps 15 = .ok (.getfield 196, 3) := by decide +kernel
theorem dX9_keeps_18 : decode cX9_keeps 18 = .ok (.lload_n 3, 1) := by decide +kernel
theorem dX9_keeps_19 : decode cX9_keeps 19 = .ok (.lastore, 1) := by decide +kernel
theorem dX9_keeps_20 : decode cX9_keeps 20 = .ok (.aload_n 0, 1) := by decide +kernel
theorem dX9_keeps_21 : decode cX9_keeps 21 = .ok (.getfield 72, 3) := by decide +kernel
theorem dX9_keeps_24 : decode cX9_keeps 24 = .ok (.aload_n 0, 1) := by decide +kernel
theorem dX9_keeps_25 : decode cX9_keeps 25 = .ok (.getfield 196, 3) := by decide +kernel
theorem dX9_keeps_28 : decode cX9_keeps 28 = .ok (.iload 5, 2) := by decide +kernel
theorem dX9_keeps_30 : decode cX9_keeps 30 = .ok (.iastore, 1) := by decide +kernel
theorem dX9_keeps_31 : decode cX9_keeps 31 = .ok (.aload_n 0, 1) := by decide +kernel
theorem dX9_keeps_32 : decode cX9_keeps 32 = .ok (.dup, 1) := by decide +kernel
theorem dX9_keeps_33 : decode cX9_keeps 33 = .ok (.getfield 196, 3) := by decide +kernel
theorem dX9_keeps_36 : decode cX9_keeps 36 = .ok (.iconst 1, 1) := by decide +kernel
theorem dX9_keeps_37 : decode cX9_keeps 37 = .ok (.iadd, 1) := by decide +kernel
theorem dX9_keeps_38 : decode cX9_keeps 38 = .ok (.putfield 196, 3) := by decide +kernel
theorem dX9_keeps_41 : decode cX9_keeps 41 = .ok (.aload_n 0, 1) := by decide +kernel
theorem dX9_keeps_42 : decode cX9_keeps 42 = .ok (.getfield 196, 3) := by decide +kernel
theorem dX9_keeps_45 : decode cX9_keeps 45 = .ok (.iconst 1, 1) := by decide +kernel
theorem dX9_keeps_46 : decode cX9_keeps 46 = .ok (.isub, 1) := by decide +kernel
theorem dX9_keeps_47 : decode cX9_keeps 47 = .ok (.ireturn, 1) := by decide +kernel
theorem dX9_game_0 : decode cX9_game 0 = .ok (.aload_n 0, 1) := by decide +kernel
theorem dX9_game_1 : decode cX9_game 1 = .ok (.iload_n 1, 1) := by decide +kernel
theorem dX9_game_2 : decode cX9_game 2 = .ok (.invokevirtual 189, 3) := by decide +kernel
theorem dX9_game_5 : decode cX9_game 5 = .ok (.ifCond .eq 15, 3) := by decide +kernel
theorem dX9_game_8 : decode cX9_game 8 = .ok (.aload_n 0, 1) := by decide +kernel
theorem dX9_game_9 : decode cX9_game 9 = .ok (.iload_n 2, 1) := by decide +kernel
theorem dX9_game_10 : decode cX9_game 10 = .ok (.invokevirtual 189, 3) := by decide +kernel
theorem dX9_game_13 : decode cX9_game 13 = .ok (.ifCond .eq 7, 3) := by decide +kernel
theorem dX9_game_16 : decode cX9_game 16 = .ok (.iconst 1, 1) := by decide +kernel
theorem dX9_game_17 : decode cX9_game 17 = .ok (.goto 4, 3) := by decide +kernel
theorem dX9_game_20 : decode cX9_game 20 = .ok (.iconst 0, 1) := by decide +kernel
theorem dX9_game_21 : decode cX9_game 21 = .ok (.istore 6, 2) := by decide +kernel
theorem dX9_game_23 : decode cX9_game 23 = .ok (.iload_n 1, 1) := by decide +kernel
theorem dX9_game_24 : decode cX9_game 24 = .ok (.iload_n 2, 1) := by decide +kernel
theorem dX9_game_25 : decode cX9_game 25 = .ok (.if_icmp .eq 39, 3) := by decide +kernel
theorem dX9_game_28 : decode cX9_game 28 = .ok (.iload_n 3, 1) := by decide +kernel
theorem dX9_game_29 : decode cX9_game 29 = .ok (.iconst 0, 1) := by decide +kernel
theorem dX9_game_30 : decode cX9_game 30 = .ok (.sipush 3600, 3) := by decide +kernel
theorem dX9_game_33 : decode cX9_game 33 = .ok (.invokestatic 133, 3) := by decide +kernel
theorem dX9_game_36 : decode cX9_game 36 = .ok (.ifCond .eq 28, 3) := by decide +kernel
theorem dX9_game_39 : decode cX9_game 39 = .ok (.iload 4, 2) := by decide +kernel
theorem dX9_game_41 : decode cX9_game 41 = .ok (.iconst 0, 1) := by decide +kernel
theorem dX9_game_42 : decode cX9_game 42 = .ok (.iconst 5, 1) := by decide +kernel
theorem dX9_game_43 : decode cX9_game 43 = .ok (.invokestatic 133, 3) := by decide +kernel
theorem dX9_game_46 : decode cX9_game 46 = .ok (.ifCond .eq 18, 3) := by decide +kernel
theorem dX9_game_49 : decode cX9_game 49 = .ok (.iload 5, 2) := by decide +kernel
theorem dX9_game_51 : decode cX9_game 51 = .ok (.iconst 1, 1) := by decide +kernel
theorem dX9_game_52 : decode cX9_game 52 = .ok (.bipush 60, 2) := by decide +kernel
theorem dX9_game_54 : decode cX9_game 54 = .ok (.invokestatic 133, 3) := by decide +kernel
theorem dX9_game_57 : decode cX9_game 57 = .ok (.ifCond .eq 7, 3) := by decide +kernel
theorem dX9_game_60 : decode cX9_game 60 = .ok (.iconst 1, 1) := by decide +kernel
theorem dX9_game_61 : decode cX9_game 61 = .ok (.goto 4, 3) := by decide +kernel
theorem dX9_game_64 : decode cX9_game 64 = .ok (.iconst 0, 1) := by decide +kernel
theorem dX9_game_65 : decode cX9_game 65 = .ok (.istore 7, 2) := by decide +kernel
theorem dX9_game_67 : decode cX9_game 67 = .ok (.aload_n 0, 1) := by decide +kernel
theorem dX9_game_68 : decode cX9_game 68 = .ok (.iload 6, 2) := by decide +kernel
theorem dX9_game_70 : decode cX9_game 70 = .ok (.ifCond .ne 7, 3) := by decide +kernel
theorem dX9_game_73 : decode cX9_game 73 = .ok (.iconst 1, 1) := by decide +kernel
theorem dX9_game_74 : decode cX9_game 74 = .ok (.goto 42, 3) := by decide +kernel
theorem dX9_game_77 : decode cX9_game 77 = .ok (.iload 7, 2) := by decide +kernel
theorem dX9_game_79 : decode cX9_game 79 = .ok (.ifCond .ne 7, 3) := by decide +kernel
theorem dX9_game_82 : decode cX9_game 82 = .ok (.iconst 2, 1) := by decide +kernel
theorem dX9_game_83 : decode cX9_game 83 = .ok (.goto 33, 3) := by decide +kernel
theorem dX9_game_86 : decode cX9_game 86 = .ok (.aload_n 0, 1) := by decide +kernel
theorem dX9_game_87 : decode cX9_game 87 = .ok (.iload_n 1, 1) := by decide +kernel
theorem dX9_game_88 : decode cX9_game 88 = .ok (.invokevirtual 199, 3) := by decide +kernel
theorem dX9_game_91 : decode cX9_game 91 = .ok (.ifCond .ne 20, 3) := by decide +kernel
theorem dX9_game_94 : decode cX9_game 94 = .ok (.aload_n 0, 1) := by decide +kernel
theorem dX9_game_95 : decode cX9_game 95 = .ok (.iload_n 2, 1) := by decide +kernel
theorem dX9_game_96 : decode cX9_game 96 = .ok (.invokevirtual 199, 3) := by decide +kernel
theorem dX9_game_99 : decode cX9_game 99 = .ok (.ifCond .ne 12, 3) := by decide +kernel
theorem dX9_game_102 : decode cX9_game 102 = .ok (.aload_n 0, 1) := by decide +kernel
theorem dX9_game_103 : decode cX9_game 103 = .ok (.getfield 137, 3) := by decide +kernel
theorem dX9_game_106 : decode cX9_game 106 = .ok (.bipush 16, 2) := by decide +kernel
theorem dX9_game_108 : decode cX9_game 108 = .ok (.if_icmp .ne 7, 3) := by decide +kernel
theorem dX9_game_111 : decode cX9_game 111 = .ok (.iconst 3, 1) := by decide +kernel
theorem dX9_game_112 : decode cX9_game 112 = .ok (.goto 4, 3) := by decide +kernel
theorem dX9_game_115 : decode cX9_game 115 = .ok (.iconst 0, 1) := by decide +kernel
theorem dX9_game_116 : decode cX9_game 116 = .ok (.invokevirtual 185, 3) := by decide +kernel
theorem dX9_game_119 : decode cX9_game 119 = .ok (.ifCond .eq 5, 3) := by decide +kernel
theorem dX9_game_122 : decode cX9_game 122 = .ok (.iconst 0, 1) := by decide +kernel
theorem dX9_game_123 : decode cX9_game 123 = .ok (.ireturn, 1) := by decide +kernel
theorem dX9_game_124 : decode cX9_game 124 = .ok (.aload_n 0, 1) := by decide +kernel
theorem dX9_game_125 : decode cX9_game 125 = .ok (.getfield 19, 3) := by decide +kernel
theorem dX9_game_128 : decode cX9_game 128 = .ok (.aload_n 0, 1) := by decide +kernel
theorem dX9_game_129 : decode cX9_game 129 = .ok (.getfield 137, 3) := by decide +kernel
theorem dX9_game_132 : decode cX9_game 132 = .ok (.iload_n 1, 1) := by decide +kernel
theorem dX9_game_133 : decode cX9_game 133 = .ok (.iastore, 1) := by decide +kernel
theorem dX9_game_134 : decode cX9_game 134 = .ok (.aload_n 0, 1) := by decide +kernel
theorem dX9_game_135 : decode cX9_game 135 = .ok (.getfield 22, 3) := by decide +kernel
theorem dX9_game_138 : decode cX9_game 138 = .ok (.aload_n 0, 1) := by decide +kernel
theorem dX9_game_139 : decode cX9_game 139 = .ok (.getfield 137, 3) := by decide +kernel
theorem dX9_game_142 : decode cX9_game 142 = .ok (.iload_n 2, 1) := by decide +kernel
theorem dX9_game_143 : decode cX9_game 143 = .ok (.iastore, 1) := by decide +kernel
theorem dX9_game_144 : decode cX9_game 144 = .ok (.aload_n 0, 1) := by decide +kernel
theorem dX9_game_145 : decode cX9_game 145 = .ok (.getfield 25, 3) := by decide +kernel
theorem dX9_game_148 : decode cX9_game 148 = .ok (.aload_n 0, 1) := by decide +kernel
theorem dX9_game_149 : decode cX9_game 149 = .ok (.getfield 137, 3) := by decide +kernel
theorem dX9_game_152 : decode cX9_game 152 = .ok (.aload_n 0, 1) := by decide +kernel
theorem dX9_game_153 : decode cX9_game 153 = .ok (.iload_n 1, 1) := by decide +kernel
theorem dX9_game_154 : decode cX9_game 154 = .ok (.iload_n 2, 1) := by decide +kernel
theorem dX9_game_155 : decode cX9_game 155 = .ok (.invokevirtual 202, 3) := by decide +kernel
theorem dX9_game_158 : decode cX9_game 158 = .ok (.iastore, 1) := by decide +kernel
theorem dX9_game_159 : decode cX9_game 159 = .ok (.aload_n 0, 1) := by decide +kernel
theorem dX9_game_160 : decode cX9_game 160 = .ok (.getfield 28, 3) := by decide +kernel
theorem dX9_game_163 : decode cX9_game 163 = .ok (.aload_n 0, 1) := by decide +kernel
theorem dX9_game_164 : decode cX9_game 164 = .ok (.getfield 137, 3) := by decide +kernel
theorem dX9_game_167 : decode cX9_game 167 = .ok (.iload_n 1, 1) := by decide +kernel
theorem dX9_game_168 : decode cX9_game 168 = .ok (.iload_n 2, 1) := by decide +kernel
theorem dX9_game_169 : decode cX9_game 169 = .ok (.iadd, 1) := by decide +kernel
theorem dX9_game_170 : decode cX9_game 170 = .ok (.aload_n 0, 1) := by decide +kernel
theorem dX9_game_171 : decode cX9_game 171 = .ok (.getfield 25, 3) := by decide +kernel
theorem dX9_game_174 : decode cX9_game 174 = .ok (.aload_n 0, 1) := by decide +kernel
theorem dX9_game_175 : decode cX9_game 175 = .ok (.getfield 137, 3) := by decide +kernel
theorem dX9_game_178 : decode cX9_game 178 = .ok (.iaload, 1) := by decide +kernel
theorem dX9_game_179 : decode cX9_game 179 = .ok (.isub, 1) := by decide +kernel
theorem dX9_game_180 : decode cX9_game 180 = .ok (.iastore, 1) := by decide +kernel
theorem dX9_game_181 : decode cX9_game 181 = .ok (.aload_n 0, 1) := by decide +kernel
theorem dX9_game_182 : decode cX9_game 182 = .ok (.getfield 31, 3) := by decide +kernel
theorem dX9_game_185 : decode cX9_game 185 = .ok (.aload_n 0, 1) := by decide +kernel
theorem dX9_game_186 : decode cX9_game 186 = .ok (.getfield 137, 3) := by decide +kernel
theorem dX9_game_189 : decode cX9_game 189 = .ok (.aload_n 0, 1) := by decide +kernel
theorem dX9_game_190 : decode cX9_game 190 = .ok (.iload_n 1, 1) := by decide +kernel
theorem dX9_game_191 : decode cX9_game 191 = .ok (.iload_n 2, 1) := by decide +kernel
theorem dX9_game_192 : decode cX9_game 192 = .ok (.invokevirtual 205, 3) := by decide +kernel
theorem dX9_game_195 : decode cX9_game 195 = .ok (.iastore, 1) := by decide +kernel
theorem dX9_game_196 : decode cX9_game 196 = .ok (.aload_n 0, 1) := by decide +kernel
theorem dX9_game_197 : decode cX9_game 197 = .ok (.getfield 41, 3) := by decide +kernel
theorem dX9_game_200 : decode cX9_game 200 = .ok (.aload_n 0, 1) := by decide +kernel
theorem dX9_game_201 : decode cX9_game 201 = .ok (.getfield 137, 3) := by decide +kernel
theorem dX9_game_204 : decode cX9_game 204 = .ok (.aload_n 0, 1) := by decide +kernel
theorem dX9_game_205 : decode cX9_game 205 = .ok (.getfield 208, 3) := by decide +kernel
theorem dX9_game_208 : decode cX9_game 208 = .ok (.iastore, 1) := by decide +kernel
theorem dX9_game_209 : decode cX9_game 209 = .ok (.aload_n 0, 1) := by decide +kernel
theorem dX9_game_210 : decode cX9_game 210 = .ok (.getfield 44, 3) := by decide +kernel
theorem dX9_game_213 : decode cX9_game 213 = .ok (.aload_n 0, 1) := by decide +kernel
theorem dX9_game_214 : decode cX9_game 214 = .ok (.getfield 137, 3) := by decide +kernel
theorem dX9_game_217 : decode cX9_game 217 = .ok (.aload_n 0, 1) := by decide +kernel
theorem dX9_game_218 : decode cX9_game 218 = .ok (.aload_n 0, 1) := by decide +kernel
theorem dX9_game_219 : decode cX9_game 219 = .ok (.getfield 31, 3) := by decide +kernel
theorem dX9_game_222 : decode cX9_game 222 = .ok (.aload_n 0, 1) := by decide +kernel
theorem dX9_game_223 : decode cX9_game 223 = .ok (.getfield 137, 3) := by decide +kernel
theorem dX9_game_226 : decode cX9_game 226 = .ok (.iaload, 1) := by decide +kernel
theorem dX9_game_227 : decode cX9_game 227 = .ok (.invokestatic 211, 3) := by decide +kernel
theorem dX9_game_230 : decode cX9_game 230 = .ok (.lconst 0, 1) := by decide +kernel
theorem dX9_game_231 : decode cX9_game 231 = .ok (.iconst (-1), 1) := by decide +kernel
theorem dX9_game_232 : decode cX9_game 232 = .ok (.invokevirtual 214, 3) := by decide +kernel
theorem dX9_game_235 : decode cX9_game 235 = .ok (.iastore, 1) := by decide +kernel
theorem dX9_game_236 : decode cX9_game 236 = .ok (.aload_n 0, 1) := by decide +kernel
theorem dX9_game_237 : decode cX9_game 237 = .ok (.getfield 59, 3) := by decide +kernel
theorem dX9_game_240 : decode cX9_game 240 = .ok (.aload_n 0, 1) := by decide +kernel
theorem dX9_game_241 : decode cX9_game 241 = .ok (.getfield 137, 3) := by decide +kernel
theorem dX9_game_244 : decode cX9_game 244 = .ok (.iload 5, 2) := by decide +kernel
theorem dX9_game_246 : decode cX9_game 246 = .ok (.iastore, 1) := by decide +kernel
theorem dX9_game_247 : decode cX9_game 247 = .ok (.iconst 0, 1) := by decide +kernel
theorem dX9_game_248 : decode cX9_game 248 = .ok (.istore 8, 2) := by decide +kernel
theorem dX9_game_250 : decode cX9_game 250 = .ok (.iload 8, 2) := by decide +kernel
theorem dX9_game_252 : decode cX9_game 252 = .ok (.iconst 2, 1) := by decide +kernel
theorem dX9_game_253 : decode cX9_game 253 = .ok (.if_icmp .ge 40, 3) := by decide +kernel
theorem dX9_game_256 : decode cX9_game 256 = .ok (.aload_n 0, 1) := by decide +kernel
theorem dX9_game_257 : decode cX9_game 257 = .ok (.getfield 53, 3) := by decide +kernel
theorem dX9_game_260 : decode cX9_game 260 = .ok (.iconst 2, 1) := by decide +kernel
theorem dX9_game_261 : decode cX9_game 261 = .ok (.aload_n 0, 1) := by decide +kernel
theorem dX9_game_262 : decode cX9_game 262 = .ok (.getfield 137, 3) := by decide +kernel
theorem dX9_game_265 : decode cX9_game 265 = .ok (.imul, 1) := by decide +kernel
theorem dX9_game_266 : decode cX9_game 266 = .ok (.iload 8, 2) := by decide +kernel
theorem dX9_game_268 : decode cX9_game 268 = .ok (.iadd, 1) := by decide +kernel
theorem dX9_game_269 : decode cX9_game 269 = .ok (.iload_n 3, 1) := by decide +kernel
theorem dX9_game_270 : decode cX9_game 270 = .ok (.iastore, 1) := by decide +kernel
theorem dX9_game_271 : decode cX9_game 271 = .ok (.aload_n 0, 1) := by decide +kernel
theorem dX9_game_272 : decode cX9_game 272 = .ok (.getfield 56, 3) := by decide +kernel
theorem dX9_game_275 : decode cX9_game 275 = .ok (.iconst 2, 1) := by decide +kernel
theorem dX9_game_276 : decode cX9_game 276 = .ok (.aload_n 0, 1) := by decide +kernel
theorem dX9_game_277 : decode cX9_game 277 = .ok (.getfield 137, 3) := by decide +kernel
theorem dX9_game_280 : decode cX9_game 280 = .ok (.imul, 1) := by decide +kernel
theorem dX9_game_281 : decode cX9_game 281 = .ok (.iload 8, 2) := by decide +kernel
theorem dX9_game_283 : decode cX9_game 283 = .ok (.iadd, 1) := by decide +kernel
theorem dX9_game_284 : decode cX9_game 284 = .ok (.iload 4, 2) := by decide +kernel
theorem dX9_game_286 : decode cX9_game 286 = .ok (.iastore, 1) := by decide +kernel
theorem dX9_game_287 : decode cX9_game 287 = .ok (.iinc 8 1, 3) := by decide +kernel
theorem dX9_game_290 : decode cX9_game 290 = .ok (.goto (-40), 3) := by decide +kernel
theorem dX9_game_293 : decode cX9_game 293 = .ok (.aload_n 0, 1) := by decide +kernel
theorem dX9_game_294 : decode cX9_game 294 = .ok (.dup, 1) := by decide +kernel
theorem dX9_game_295 : decode cX9_game 295 = .ok (.getfield 137, 3) := by decide +kernel
theorem dX9_game_298 : decode cX9_game 298 = .ok (.iconst 1, 1) := by decide +kernel
theorem dX9_game_299 : decode cX9_game 299 = .ok (.iadd, 1) := by decide +kernel
theorem dX9_game_300 : decode cX9_game 300 = .ok (.putfield 137, 3) := by decide +kernel
theorem dX9_game_303 : decode cX9_game 303 = .ok (.aload_n 0, 1) := by decide +kernel
theorem dX9_game_304 : decode cX9_game 304 = .ok (.getfield 137, 3) := by decide +kernel
theorem dX9_game_307 : decode cX9_game 307 = .ok (.iconst 1, 1) := by decide +kernel
theorem dX9_game_308 : decode cX9_game 308 = .ok (.isub, 1) := by decide +kernel
theorem dX9_game_309 : decode cX9_game 309 = .ok (.ireturn, 1) := by decide +kernel
theorem dX9_sideOf_0 : decode cX9_sideOf 0 = .ok (.aload_n 0, 1) := by decide +kernel
theorem dX9_sideOf_1 : decode cX9_sideOf 1 = .ok (.getfield 31, 3) := by decide +kernel
theorem dX9_sideOf_4 : decode cX9_sideOf 4 = .ok (.iload_n 1, 1) := by decide +kernel
theorem dX9_sideOf_5 : decode cX9_sideOf 5 = .ok (.iaload, 1) := by decide +kernel
theorem dX9_sideOf_6 : decode cX9_sideOf 6 = .ok (.iconst 1, 1) := by decide +kernel
theorem dX9_sideOf_7 : decode cX9_sideOf 7 = .ok (.if_icmp .le 7, 3) := by decide +kernel
theorem dX9_sideOf_10 : decode cX9_sideOf 10 = .ok (.iconst 1, 1) := by decide +kernel
theorem dX9_sideOf_11 : decode cX9_sideOf 11 = .ok (.goto 4, 3) := by decide +kernel
theorem dX9_sideOf_14 : decode cX9_sideOf 14 = .ok (.iconst 0, 1) := by decide +kernel
theorem dX9_sideOf_15 : decode cX9_sideOf 15 = .ok (.istore_n 3, 1) := by decide +kernel
theorem dX9_sideOf_16 : decode cX9_sideOf 16 = .ok (.iload_n 3, 1) := by decide +kernel
theorem dX9_sideOf_17 : decode cX9_sideOf 17 = .ok (.iload_n 2, 1) := by decide +kernel
theorem dX9_sideOf_18 : decode cX9_sideOf 18 = .ok (.iadd, 1) := by decide +kernel
theorem dX9_sideOf_19 : decode cX9_sideOf 19 = .ok (.iconst 2, 1) := by decide +kernel
theorem dX9_sideOf_20 : decode cX9_sideOf 20 = .ok (.irem, 1) := by decide +kernel
theorem dX9_sideOf_21 : decode cX9_sideOf 21 = .ok (.ireturn, 1) := by decide +kernel
theorem dX9_grows_0 : decode cX9_grows 0 = .ok (.aload_n 0, 1) := by decide +kernel
theorem dX9_grows_1 : decode cX9_grows 1 = .ok (.getfield 16, 3) := by decide +kernel
theorem dX9_grows_4 : decode cX9_grows 4 = .ok (.iload_n 1, 1) := by decide +kernel
theorem dX9_grows_5 : decode cX9_grows 5 = .ok (.iload_n 2, 1) := by decide +kernel
theorem dX9_grows_6 : decode cX9_grows 6 = .ok (.ifCond .eq 27, 3) := by decide +kernel
theorem dX9_grows_9 : decode cX9_grows 9 = .ok (.aload_n 0, 1) := by decide +kernel
theorem dX9_grows_10 : decode cX9_grows 10 = .ok (.getfield 16, 3) := by decide +kernel
theorem dX9_grows_13 : decode cX9_grows 13 = .ok (.iload_n 1, 1) := by decide +kernel
theorem dX9_grows_14 : decode cX9_grows 14 = .ok (.iaload, 1) := by decide +kernel
theorem dX9_grows_15 : decode cX9_grows 15 = .ok (.ifCond .le 14, 3) := by decide +kernel
theorem dX9_grows_18 : decode cX9_grows 18 = .ok (.aload_n 0, 1) := by decide +kernel
theorem dX9_grows_19 : decode cX9_grows 19 = .ok (.getfield 16, 3) := by decide +kernel
theorem dX9_grows_22 : decode cX9_grows 22 = .ok (.iload_n 1, 1) := by decide +kernel
theorem dX9_grows_23 : decode cX9_grows 23 = .ok (.iaload, 1) := by decide +kernel
theorem dX9_grows_24 : decode cX9_grows 24 = .ok (.iconst 1, 1) := by decide +kernel
theorem dX9_grows_25 : decode cX9_grows 25 = .ok (.iadd, 1) := by decide +kernel
theorem dX9_grows_26 : decode cX9_grows 26 = .ok (.goto 28, 3) := by decide +kernel
theorem dX9_grows_29 : decode cX9_grows 29 = .ok (.iconst 1, 1) := by decide +kernel
theorem dX9_grows_30 : decode cX9_grows 30 = .ok (.goto 24, 3) := by decide +kernel
theorem dX9_grows_33 : decode cX9_grows 33 = .ok (.aload_n 0, 1) := by decide +kernel
theorem dX9_grows_34 : decode cX9_grows 34 = .ok (.getfield 16, 3) := by decide +kernel
theorem dX9_grows_37 : decode cX9_grows 37 = .ok (.iload_n 1, 1) := by decide +kernel
theorem dX9_grows_38 : decode cX9_grows 38 = .ok (.iaload, 1) := by decide +kernel
theorem dX9_grows_39 : decode cX9_grows 39 = .ok (.ifCond .ge 14, 3) := by decide +kernel
theorem dX9_grows_42 : decode cX9_grows 42 = .ok (.aload_n 0, 1) := by decide +kernel
theorem dX9_grows_43 : decode cX9_grows 43 = .ok (.getfield 16, 3) := by decide +kernel
theorem dX9_grows_46 : decode cX9_grows 46 = .ok (.iload_n 1, 1) := by decide +kernel
theorem dX9_grows_47 : decode cX9_grows 47 = .ok (.iaload, 1) := by decide +kernel
theorem dX9_grows_48 : decode cX9_grows 48 = .ok (.iconst 1, 1) := by decide +kernel
theorem dX9_grows_49 : decode cX9_grows 49 = .ok (.isub, 1) := by decide +kernel
theorem dX9_grows_50 : decode cX9_grows 50 = .ok (.goto 4, 3) := by decide +kernel
theorem dX9_grows_53 : decode cX9_grows 53 = .ok (.iconst (-1), 1) := by decide +kernel
theorem dX9_grows_54 : decode cX9_grows 54 = .ok (.iastore, 1) := by decide +kernel
theorem dX9_grows_55 : decode cX9_grows 55 = .ok (.aload_n 0, 1) := by decide +kernel
theorem dX9_grows_56 : decode cX9_grows 56 = .ok (.getfield 16, 3) := by decide +kernel
theorem dX9_grows_59 : decode cX9_grows 59 = .ok (.iload_n 1, 1) := by decide +kernel
theorem dX9_grows_60 : decode cX9_grows 60 = .ok (.iaload, 1) := by decide +kernel
theorem dX9_grows_61 : decode cX9_grows 61 = .ok (.iconst 3, 1) := by decide +kernel
theorem dX9_grows_62 : decode cX9_grows 62 = .ok (.if_icmp .ne 38, 3) := by decide +kernel
theorem dX9_grows_65 : decode cX9_grows 65 = .ok (.aload_n 0, 1) := by decide +kernel
theorem dX9_grows_66 : decode cX9_grows 66 = .ok (.getfield 13, 3) := by decide +kernel
theorem dX9_grows_69 : decode cX9_grows 69 = .ok (.iload_n 1, 1) := by decide +kernel
theorem dX9_grows_70 : decode cX9_grows 70 = .ok (.dup2, 1) := by decide +kernel
theorem dX9_grows_71 : decode cX9_grows 71 = .ok (.iaload, 1) := by decide +kernel
theorem dX9_grows_72 : decode cX9_grows 72 = .ok (.aload_n 0, 1) := by decide +kernel
theorem dX9_grows_73 : decode cX9_grows 73 = .ok (.getfield 13, 3) := by decide +kernel
theorem dX9_grows_76 : decode cX9_grows 76 = .ok (.iload_n 1, 1) := by decide +kernel
theorem dX9_grows_77 : decode cX9_grows 77 = .ok (.iaload, 1) := by decide +kernel
theorem dX9_grows_78 : decode cX9_grows 78 = .ok (.bipush 20, 2) := by decide +kernel
theorem dX9_grows_80 : decode cX9_grows 80 = .ok (.if_icmp .ge 7, 3) := by decide +kernel
theorem dX9_grows_83 : decode cX9_grows 83 = .ok (.iconst 1, 1) := by decide +kernel
theorem dX9_grows_84 : decode cX9_grows 84 = .ok (.goto 4, 3) := by decide +kernel
theorem dX9_grows_87 : decode cX9_grows 87 = .ok (.iconst 0, 1) := by decide +kernel
theorem dX9_grows_88 : decode cX9_grows 88 = .ok (.iadd, 1) := by decide +kernel
theorem dX9_grows_89 : decode cX9_grows 89 = .ok (.iastore, 1) := by decide +kernel
theorem dX9_grows_90 : decode cX9_grows 90 = .ok (.aload_n 0, 1) := by decide +kernel
theorem dX9_grows_91 : decode cX9_grows 91 = .ok (.getfield 16, 3) := by decide +kernel
theorem dX9_grows_94 : decode cX9_grows 94 = .ok (.iload_n 1, 1) := by decide +kernel
theorem dX9_grows_95 : decode cX9_grows 95 = .ok (.iconst 0, 1) := by decide +kernel
theorem dX9_grows_96 : decode cX9_grows 96 = .ok (.iastore, 1) := by decide +kernel
theorem dX9_grows_97 : decode cX9_grows 97 = .ok (.goto 44, 3) := by decide +kernel
theorem dX9_grows_100 : decode cX9_grows 100 = .ok (.aload_n 0, 1) := by decide +kernel
theorem dX9_grows_101 : decode cX9_grows 101 = .ok (.getfield 16, 3) := by decide +kernel
theorem dX9_grows_104 : decode cX9_grows 104 = .ok (.iload_n 1, 1) := by decide +kernel
theorem dX9_grows_105 : decode cX9_grows 105 = .ok (.iaload, 1) := by decide +kernel
theorem dX9_grows_106 : decode cX9_grows 106 = .ok (.bipush (-3), 2) := by decide +kernel
theorem dX9_grows_108 : decode cX9_grows 108 = .ok (.if_icmp .ne 33, 3) := by decide +kernel
theorem dX9_grows_111 : decode cX9_grows 111 = .ok (.aload_n 0, 1) := by decide +kernel
theorem dX9_grows_112 : decode cX9_grows 112 = .ok (.getfield 13, 3) := by decide +kernel
theorem dX9_grows_115 : decode cX9_grows 115 = .ok (.iload_n 1, 1) := by decide +kernel
theorem dX9_grows_116 : decode cX9_grows 116 = .ok (.dup2, 1) := by decide +kernel
theorem dX9_grows_117 : decode cX9_grows 117 = .ok (.iaload, 1) := by decide +kernel
theorem dX9_grows_118 : decode cX9_grows 118 = .ok (.aload_n 0, 1) := by decide +kernel
theorem dX9_grows_119 : decode cX9_grows 119 = .ok (.getfield 13, 3) := by decide +kernel
theorem dX9_grows_122 : decode cX9_grows 122 = .ok (.iload_n 1, 1) := by decide +kernel
theorem dX9_grows_123 : decode cX9_grows 123 = .ok (.iaload, 1) := by decide +kernel
theorem dX9_grows_124 : decode cX9_grows 124 = .ok (.ifCond .le 7, 3) := by decide +kernel
theorem dX9_grows_127 : decode cX9_grows 127 = .ok (.iconst 1, 1) := by decide +kernel
theorem dX9_grows_128 : decode cX9_grows 128 = .ok (.goto 4, 3) := by decide +kernel
theorem dX9_grows_131 : decode cX9_grows 131 = .ok (.iconst 0, 1) := by decide +kernel
theorem dX9_grows_132 : decode cX9_grows 132 = .ok (.isub, 1) := by decide +kernel
theorem dX9_grows_133 : decode cX9_grows 133 = .ok (.iastore, 1) := by decide +kernel
theorem dX9_grows_134 : decode cX9_grows 134 = .ok (.aload_n 0, 1) := by decide +kernel
theorem dX9_grows_135 : decode cX9_grows 135 = .ok (.getfield 16, 3) := by decide +kernel
theorem dX9_grows_138 : decode cX9_grows 138 = .ok (.iload_n 1, 1) := by decide +kernel
theorem dX9_grows_139 : decode cX9_grows 139 = .ok (.iconst 0, 1) := by decide +kernel
theorem dX9_grows_140 : decode cX9_grows 140 = .ok (.iastore, 1) := by decide +kernel
theorem dX9_grows_141 : decode cX9_grows 141 = .ok (.return_, 1) := by decide +kernel
theorem dX9_counts_0 : decode cX9_counts 0 = .ok (.aload_n 0, 1) := by decide +kernel
theorem dX9_counts_1 : decode cX9_counts 1 = .ok (.aload_n 0, 1) := by decide +kernel
theorem dX9_counts_2 : decode cX9_counts 2 = .ok (.getfield 25, 3) := by decide +kernel
theorem dX9_counts_5 : decode cX9_counts 5 = .ok (.iload_n 1, 1) := by decide +kernel
theorem dX9_counts_6 : decode cX9_counts 6 = .ok (.iaload, 1) := by decide +kernel
theorem dX9_counts_7 : decode cX9_counts 7 = .ok (.aload_n 0, 1) := by decide +kernel
theorem dX9_counts_8 : decode cX9_counts 8 = .ok (.getfield 34, 3) := by decide +kernel
theorem dX9_counts_11 : decode cX9_counts 11 = .ok (.iload_n 1, 1) := by decide +kernel
theorem dX9_counts_12 : decode cX9_counts 12 = .ok (.iaload, 1) := by decide +kernel
theorem dX9_counts_13 : decode cX9_counts 13 = .ok (.iconst 1, 1) := by decide +kernel
theorem dX9_counts_14 : decode cX9_counts 14 = .ok (.if_icmp .ne 7, 3) := by decide +kernel
theorem dX9_counts_17 : decode cX9_counts 17 = .ok (.iconst 1, 1) := by decide +kernel
theorem dX9_counts_18 : decode cX9_counts 18 = .ok (.goto 4, 3) := by decide +kernel
theorem dX9_counts_21 : decode cX9_counts 21 = .ok (.iconst 0, 1) := by decide +kernel
theorem dX9_counts_22 : decode cX9_counts 22 = .ok (.invokevirtual 218, 3) := by decide +kernel
theorem dX9_counts_25 : decode cX9_counts 25 = .ok (.aload_n 0, 1) := by decide +kernel
theorem dX9_counts_26 : decode cX9_counts 26 = .ok (.aload_n 0, 1) := by decide +kernel
theorem dX9_counts_27 : decode cX9_counts 27 = .ok (.getfield 28, 3) := by decide +kernel
theorem dX9_counts_30 : decode cX9_counts 30 = .ok (.iload_n 1, 1) := by decide +kernel
theorem dX9_counts_31 : decode cX9_counts 31 = .ok (.iaload, 1) := by decide +kernel
theorem dX9_counts_32 : decode cX9_counts 32 = .ok (.aload_n 0, 1) := by decide +kernel
theorem dX9_counts_33 : decode cX9_counts 33 = .ok (.getfield 34, 3) := by decide +kernel
theorem dX9_counts_36 : decode cX9_counts 36 = .ok (.iload_n 1, 1) := by decide +kernel
theorem dX9_counts_37 : decode cX9_counts 37 = .ok (.iaload, 1) := by decide +kernel
theorem dX9_counts_38 : decode cX9_counts 38 = .ok (.iconst 2, 1) := by decide +kernel
theorem dX9_counts_39 : decode cX9_counts 39 = .ok (.if_icmp .ne 7, 3) := by decide +kernel
theorem dX9_counts_42 : decode cX9_counts 42 = .ok (.iconst 1, 1) := by decide +kernel
theorem dX9_counts_43 : decode cX9_counts 43 = .ok (.goto 4, 3) := by decide +kernel
theorem dX9_counts_46 : decode cX9_counts 46 = .ok (.iconst 0, 1) := by decide +kernel
theorem dX9_counts_47 : decode cX9_counts 47 = .ok (.invokevirtual 218, 3) := by decide +kernel
theorem dX9_counts_50 : decode cX9_counts 50 = .ok (.return_, 1) := by decide +kernel
theorem dX9_ends_0 : decode cX9_ends 0 = .ok (.aload_n 0, 1) := by decide +kernel
theorem dX9_ends_1 : decode cX9_ends 1 = .ok (.getfield 34, 3) := by decide +kernel
theorem dX9_ends_4 : decode cX9_ends 4 = .ok (.iload_n 1, 1) := by decide +kernel
theorem dX9_ends_5 : decode cX9_ends 5 = .ok (.iload_n 2, 1) := by decide +kernel
theorem dX9_ends_6 : decode cX9_ends 6 = .ok (.iconst 1, 1) := by decide +kernel
theorem dX9_ends_7 : decode cX9_ends 7 = .ok (.iadd, 1) := by decide +kernel
theorem dX9_ends_8 : decode cX9_ends 8 = .ok (.iastore, 1) := by decide +kernel
theorem dX9_ends_9 : decode cX9_ends 9 = .ok (.aload_n 0, 1) := by decide +kernel
theorem dX9_ends_10 : decode cX9_ends 10 = .ok (.getfield 62, 3) := by decide +kernel
theorem dX9_ends_13 : decode cX9_ends 13 = .ok (.aload_n 0, 1) := by decide +kernel
theorem dX9_ends_14 : decode cX9_ends 14 = .ok (.getfield 208, 3) := by decide +kernel
theorem dX9_ends_17 : decode cX9_ends 17 = .ok (.iload_n 1, 1) := by decide +kernel
theorem dX9_ends_18 : decode cX9_ends 18 = .ok (.iastore, 1) := by decide +kernel
theorem dX9_ends_19 : decode cX9_ends 19 = .ok (.aload_n 0, 1) := by decide +kernel
theorem dX9_ends_20 : decode cX9_ends 20 = .ok (.dup, 1) := by decide +kernel
theorem dX9_ends_21 : decode cX9_ends 21 = .ok (.getfield 208, 3) := by decide +kernel
theorem dX9_ends_24 : decode cX9_ends 24 = .ok (.iconst 1, 1) := by decide +kernel
theorem dX9_ends_25 : decode cX9_ends 25 = .ok (.iadd, 1) := by decide +kernel
theorem dX9_ends_26 : decode cX9_ends 26 = .ok (.putfield 208, 3) := by decide +kernel
theorem dX9_ends_29 : decode cX9_ends 29 = .ok (.aload_n 0, 1) := by decide +kernel
theorem dX9_ends_30 : decode cX9_ends 30 = .ok (.iload_n 1, 1) := by decide +kernel
theorem dX9_ends_31 : decode cX9_ends 31 = .ok (.invokevirtual 222, 3) := by decide +kernel
theorem dX9_ends_34 : decode cX9_ends 34 = .ok (.return_, 1) := by decide +kernel
theorem dX9_runsOut_0 : decode cX9_runsOut 0 = .ok (.iconst 2, 1) := by decide +kernel
theorem dX9_runsOut_1 : decode cX9_runsOut 1 = .ok (.iload_n 1, 1) := by decide +kernel
theorem dX9_runsOut_2 : decode cX9_runsOut 2 = .ok (.imul, 1) := by decide +kernel
theorem dX9_runsOut_3 : decode cX9_runsOut 3 = .ok (.aload_n 0, 1) := by decide +kernel
theorem dX9_runsOut_4 : decode cX9_runsOut 4 = .ok (.iload_n 1, 1) := by decide +kernel
theorem dX9_runsOut_5 : decode cX9_runsOut 5 = .ok (.aload_n 0, 1) := by decide +kernel
theorem dX9_runsOut_6 : decode cX9_runsOut 6 = .ok (.getfield 47, 3) := by decide +kernel
theorem dX9_runsOut_9 : decode cX9_runsOut 9 = .ok (.iload_n 1, 1) := by decide +kernel
theorem dX9_runsOut_10 : decode cX9_runsOut 10 = .ok (.iaload, 1) := by decide +kernel
theorem dX9_runsOut_11 : decode cX9_runsOut 11 = .ok (.invokevirtual 226, 3) := by decide +kernel
theorem dX9_runsOut_14 : decode cX9_runsOut 14 = .ok (.iadd, 1) := by decide +kernel
theorem dX9_runsOut_15 : decode cX9_runsOut 15 = .ok (.istore_n 3, 1) := by decide +kernel
theorem dX9_runsOut_16 : decode cX9_runsOut 16 = .ok (.iload_n 2, 1) := by decide +kernel
theorem dX9_runsOut_17 : decode cX9_runsOut 17 = .ok (.aload_n 0, 1) := by decide +kernel
theorem dX9_runsOut_18 : decode cX9_runsOut 18 = .ok (.getfield 53, 3) := by decide +kernel
theorem dX9_runsOut_21 : decode cX9_runsOut 21 = .ok (.iload_n 3, 1) := by decide +kernel
theorem dX9_runsOut_22 : decode cX9_runsOut 22 = .ok (.iaload, 1) := by decide +kernel
theorem dX9_runsOut_23 : decode cX9_runsOut 23 = .ok (.if_icmp .gt 15, 3) := by decide +kernel
theorem dX9_runsOut_26 : decode cX9_runsOut 26 = .ok (.aload_n 0, 1) := by decide +kernel
theorem dX9_runsOut_27 : decode cX9_runsOut 27 = .ok (.getfield 53, 3) := by decide +kernel
theorem dX9_runsOut_30 : decode cX9_runsOut 30 = .ok (.iload_n 3, 1) := by decide +kernel
theorem dX9_runsOut_31 : decode cX9_runsOut 31 = .ok (.dup2, 1) := by decide +kernel
theorem dX9_runsOut_32 : decode cX9_runsOut 32 = .ok (.iaload, 1) := by decide +kernel
theorem dX9_runsOut_33 : decode cX9_runsOut 33 = .ok (.iload_n 2, 1) := by decide +kernel
theorem dX9_runsOut_34 : decode cX9_runsOut 34 = .ok (.isub, 1) := by decide +kernel
theorem dX9_runsOut_35 : decode cX9_runsOut 35 = .ok (.iastore, 1) := by decide +kernel
theorem dX9_runsOut_36 : decode cX9_runsOut 36 = .ok (.iconst 0, 1) := by decide +kernel
theorem dX9_runsOut_37 : decode cX9_runsOut 37 = .ok (.ireturn, 1) := by decide +kernel
theorem dX9_runsOut_38 : decode cX9_runsOut 38 = .ok (.iload_n 2, 1) := by decide +kernel
theorem dX9_runsOut_39 : decode cX9_runsOut 39 = .ok (.aload_n 0, 1) := by decide +kernel
theorem dX9_runsOut_40 : decode cX9_runsOut 40 = .ok (.getfield 53, 3) := by decide +kernel
theorem dX9_runsOut_43 : decode cX9_runsOut 43 = .ok (.iload_n 3, 1) := by decide +kernel
theorem dX9_runsOut_44 : decode cX9_runsOut 44 = .ok (.iaload, 1) := by decide +kernel
theorem dX9_runsOut_45 : decode cX9_runsOut 45 = .ok (.isub, 1) := by decide +kernel
theorem dX9_runsOut_46 : decode cX9_runsOut 46 = .ok (.istore 4, 2) := by decide +kernel
theorem dX9_runsOut_48 : decode cX9_runsOut 48 = .ok (.iload 4, 2) := by decide +kernel
theorem dX9_runsOut_50 : decode cX9_runsOut 50 = .ok (.iconst 1, 1) := by decide +kernel
theorem dX9_runsOut_51 : decode cX9_runsOut 51 = .ok (.isub, 1) := by decide +kernel
theorem dX9_runsOut_52 : decode cX9_runsOut 52 = .ok (.aload_n 0, 1) := by decide +kernel
theorem dX9_runsOut_53 : decode cX9_runsOut 53 = .ok (.getfield 59, 3) := by decide +kernel
theorem dX9_runsOut_56 : decode cX9_runsOut 56 = .ok (.iload_n 1, 1) := by decide +kernel
theorem dX9_runsOut_57 : decode cX9_runsOut 57 = .ok (.iaload, 1) := by decide +kernel
theorem dX9_runsOut_58 : decode cX9_runsOut 58 = .ok (.idiv, 1) := by decide +kernel
theorem dX9_runsOut_59 : decode cX9_runsOut 59 = .ok (.istore 5, 2) := by decide +kernel
theorem dX9_runsOut_61 : decode cX9_runsOut 61 = .ok (.aload_n 0, 1) := by decide +kernel
theorem dX9_runsOut_62 : decode cX9_runsOut 62 = .ok (.getfield 53, 3) := by decide +kernel
theorem dX9_runsOut_65 : decode cX9_runsOut 65 = .ok (.iload_n 3, 1) := by decide +kernel
theorem dX9_runsOut_66 : decode cX9_runsOut 66 = .ok (.iconst 0, 1) := by decide +kernel
theorem dX9_runsOut_67 : decode cX9_runsOut 67 = .ok (.iastore, 1) := by decide +kernel
theorem dX9_runsOut_68 : decode cX9_runsOut 68 = .ok (.aload_n 0, 1) := by decide +kernel
theorem dX9_runsOut_69 : decode cX9_runsOut 69 = .ok (.getfield 56, 3) := by decide +kernel
theorem dX9_runsOut_72 : decode cX9_runsOut 72 = .ok (.iload_n 3, 1) := by decide +kernel
theorem dX9_runsOut_73 : decode cX9_runsOut 73 = .ok (.iload 5, 2) := by decide +kernel
theorem dX9_runsOut_75 : decode cX9_runsOut 75 = .ok (.aload_n 0, 1) := by decide +kernel
theorem dX9_runsOut_76 : decode cX9_runsOut 76 = .ok (.getfield 56, 3) := by decide +kernel
theorem dX9_runsOut_79 : decode cX9_runsOut 79 = .ok (.iload_n 3, 1) := by decide +kernel
theorem dX9_runsOut_80 : decode cX9_runsOut 80 = .ok (.iaload, 1) := by decide +kernel
theorem dX9_runsOut_81 : decode cX9_runsOut 81 = .ok (.if_icmp .ge 15, 3) := by decide +kernel
theorem dX9_runsOut_84 : decode cX9_runsOut 84 = .ok (.aload_n 0, 1) := by decide +kernel
theorem dX9_runsOut_85 : decode cX9_runsOut 85 = .ok (.getfield 56, 3) := by decide +kernel
theorem dX9_runsOut_88 : decode cX9_runsOut 88 = .ok (.iload_n 3, 1) := by decide +kernel
theorem dX9_runsOut_89 : decode cX9_runsOut 89 = .ok (.iaload, 1) := by decide +kernel
theorem dX9_runsOut_90 : decode cX9_runsOut 90 = .ok (.iload 5, 2) := by decide +kernel
theorem dX9_runsOut_92 : decode cX9_runsOut 92 = .ok (.isub, 1) := by decide +kernel
theorem dX9_runsOut_93 : decode cX9_runsOut 93 = .ok (.goto 4, 3) := by decide +kernel
theorem dX9_runsOut_96 : decode cX9_runsOut 96 = .ok (.iconst 0, 1) := by decide +kernel
theorem dX9_runsOut_97 : decode cX9_runsOut 97 = .ok (.iastore, 1) := by decide +kernel
theorem dX9_runsOut_98 : decode cX9_runsOut 98 = .ok (.aload_n 0, 1) := by decide +kernel
theorem dX9_runsOut_99 : decode cX9_runsOut 99 = .ok (.getfield 56, 3) := by decide +kernel
theorem dX9_runsOut_102 : decode cX9_runsOut 102 = .ok (.iload_n 3, 1) := by decide +kernel
theorem dX9_runsOut_103 : decode cX9_runsOut 103 = .ok (.iaload, 1) := by decide +kernel
theorem dX9_runsOut_104 : decode cX9_runsOut 104 = .ok (.ifCond .ne 7, 3) := by decide +kernel
theorem dX9_runsOut_107 : decode cX9_runsOut 107 = .ok (.iconst 1, 1) := by decide +kernel
theorem dX9_runsOut_108 : decode cX9_runsOut 108 = .ok (.goto 4, 3) := by decide +kernel
theorem dX9_runsOut_111 : decode cX9_runsOut 111 = .ok (.iconst 0, 1) := by decide +kernel
theorem dX9_runsOut_112 : decode cX9_runsOut 112 = .ok (.ireturn, 1) := by decide +kernel
theorem dX9_wasThere_0 : decode cX9_wasThere 0 = .ok (.iconst 0, 1) := by decide +kernel
theorem dX9_wasThere_1 : decode cX9_wasThere 1 = .ok (.istore 6, 2) := by decide +kernel
theorem dX9_wasThere_3 : decode cX9_wasThere 3 = .ok (.iload_n 1, 1) := by decide +kernel
theorem dX9_wasThere_4 : decode cX9_wasThere 4 = .ok (.istore 7, 2) := by decide +kernel
theorem dX9_wasThere_6 : decode cX9_wasThere 6 = .ok (.iload 7, 2) := by decide +kernel
theorem dX9_wasThere_8 : decode cX9_wasThere 8 = .ok (.iconst (-1), 1) := by decide +kernel
theorem dX9_wasThere_9 : decode cX9_wasThere 9 = .ok (.if_icmp .eq 52, 3) := by decide +kernel
theorem dX9_wasThere_12 : decode cX9_wasThere 12 = .ok (.iload 6, 2) := by decide +kernel
theorem dX9_wasThere_14 : decode cX9_wasThere 14 = .ok (.ifCond .ne 28, 3) := by decide +kernel
theorem dX9_wasThere_17 : decode cX9_wasThere 17 = .ok (.aload_n 0, 1) := by decide +kernel
theorem dX9_wasThere_18 : decode cX9_wasThere 18 = .ok (.getfield 65, 3) := by decide +kernel
theorem dX9_wasThere_21 : decode cX9_wasThere 21 = .ok (.iload 7, 2) := by decide +kernel
theorem dX9_wasThere_23 : decode cX9_wasThere 23 = .ok (.laload, 1) := by decide +kernel
theorem dX9_wasThere_24 : decode cX9_wasThere 24 = .ok (.lload_n 2, 1) := by decide +kernel
theorem dX9_wasThere_25 : decode cX9_wasThere 25 = .ok (.lcmp, 1) := by decide +kernel
theorem dX9_wasThere_26 : decode cX9_wasThere 26 = .ok (.ifCond .ne 20, 3) := by decide +kernel
theorem dX9_wasThere_29 : decode cX9_wasThere 29 = .ok (.aload_n 0, 1) := by decide +kernel
theorem dX9_wasThere_30 : decode cX9_wasThere 30 = .ok (.getfield 69, 3) := by decide +kernel
theorem dX9_wasThere_33 : decode cX9_wasThere 33 = .ok (.iload 7, 2) := by decide +kernel
theorem dX9_wasThere_35 : decode cX9_wasThere 35 = .ok (.laload, 1) := by decide +kernel
theorem dX9_wasThere_36 : decode cX9_wasThere 36 = .ok (.lload 4, 2) := by decide +kernel
theorem dX9_wasThere_38 : decode cX9_wasThere 38 = .ok (.lcmp, 1) := by decide +kernel
theorem dX9_wasThere_39 : decode cX9_wasThere 39 = .ok (.ifCond .ne 7, 3) := by decide +kernel
theorem dX9_wasThere_42 : decode cX9_wasThere 42 = .ok (.iconst 1, 1) := by decide +kernel
theorem dX9_wasThere_43 : decode cX9_wasThere 43 = .ok (.goto 4, 3) := by decide +kernel
theorem dX9_wasThere_46 : decode cX9_wasThere 46 = .ok (.iconst 0, 1) := by decide +kernel
theorem dX9_wasThere_47 : decode cX9_wasThere 47 = .ok (.istore 6, 2) := by decide +kernel
theorem dX9_wasThere_49 : decode cX9_wasThere 49 = .ok (.aload_n 0, 1) := by decide +kernel
theorem dX9_wasThere_50 : decode cX9_wasThere 50 = .ok (.getfield 72, 3) := by decide +kernel
theorem dX9_wasThere_53 : decode cX9_wasThere 53 = .ok (.iload 7, 2) := by decide +kernel
theorem dX9_wasThere_55 : decode cX9_wasThere 55 = .ok (.iaload, 1) := by decide +kernel
theorem dX9_wasThere_56 : decode cX9_wasThere 56 = .ok (.istore 7, 2) := by decide +kernel
theorem dX9_wasThere_58 : decode cX9_wasThere 58 = .ok (.goto (-52), 3) := by decide +kernel
theorem dX9_wasThere_61 : decode cX9_wasThere 61 = .ok (.iload 6, 2) := by decide +kernel
theorem dX9_wasThere_63 : decode cX9_wasThere 63 = .ok (.ireturn, 1) := by decide +kernel
theorem dX9_isEmpty_0 : decode cX9_isEmpty 0 = .ok (.lload_n 1, 1) := by decide +kernel
theorem dX9_isEmpty_1 : decode cX9_isEmpty 1 = .ok (.lload_n 3, 1) := by decide +kernel
theorem dX9_isEmpty_2 : decode cX9_isEmpty 2 = .ok (.lor, 1) := by decide +kernel
theorem dX9_isEmpty_3 : decode cX9_isEmpty 3 = .ok (.iload 5, 2) := by decide +kernel
theorem dX9_isEmpty_5 : decode cX9_isEmpty 5 = .ok (.invokestatic 160, 3) := by decide +kernel
theorem dX9_isEmpty_8 : decode cX9_isEmpty 8 = .ok (.land, 1) := by decide +kernel
theorem dX9_isEmpty_9 : decode cX9_isEmpty 9 = .ok (.lconst 0, 1) := by decide +kernel
theorem dX9_isEmpty_10 : decode cX9_isEmpty 10 = .ok (.lcmp, 1) := by decide +kernel
theorem dX9_isEmpty_11 : decode cX9_isEmpty 11 = .ok (.ifCond .ne 7, 3) := by decide +kernel
theorem dX9_isEmpty_14 : decode cX9_isEmpty 14 = .ok (.iconst 1, 1) := by decide +kernel
theorem dX9_isEmpty_15 : decode cX9_isEmpty 15 = .ok (.goto 4, 3) := by decide +kernel
theorem dX9_isEmpty_18 : decode cX9_isEmpty 18 = .ok (.iconst 0, 1) := by decide +kernel
theorem dX9_isEmpty_19 : decode cX9_isEmpty 19 = .ok (.ireturn, 1) := by decide +kernel
theorem dX9_canPlay_0 : decode cX9_canPlay 0 = .ok (.aload_n 0, 1) := by decide +kernel
theorem dX9_canPlay_1 : decode cX9_canPlay 1 = .ok (.getfield 65, 3) := by decide +kernel
theorem dX9_canPlay_4 : decode cX9_canPlay 4 = .ok (.aload_n 0, 1) := by decide +kernel
theorem dX9_canPlay_5 : decode cX9_canPlay 5 = .ok (.getfield 44, 3) := by decide +kernel
theorem dX9_canPlay_8 : decode cX9_canPlay 8 = .ok (.iload_n 1, 1) := by decide +kernel
theorem dX9_canPlay_9 : decode cX9_canPlay 9 = .ok (.iaload, 1) := by decide +kernel
theorem dX9_canPlay_10 : decode cX9_canPlay 10 = .ok (.laload, 1) := by decide +kernel
theorem dX9_canPlay_11 : decode cX9_canPlay 11 = .ok (.lstore_n 3, 1) := by decide +kernel
theorem dX9_canPlay_12 : decode cX9_canPlay 12 = .ok (.aload_n 0, 1) := by decide +kernel
theorem dX9_canPlay_13 : decode cX9_canPlay 13 = .ok (.getfield 69, 3) := by decide +kernel
theorem dX9_canPlay_16 : decode cX9_canPlay 16 = .ok (.aload_n 0, 1) := by decide +kernel
theorem dX9_canPlay_17 : decode cX9_canPlay 17 = .ok (.getfield 44, 3) := by decide +kernel
theorem dX9_canPlay_20 : decode cX9_canPlay 20 = .ok (.iload_n 1, 1) := by decide +kernel
theorem dX9_canPlay_21 : decode cX9_canPlay 21 = .ok (.iaload, 1) := by decide +kernel
theorem dX9_canPlay_22 : decode cX9_canPlay 22 = .ok (.laload, 1) := by decide +kernel
theorem dX9_canPlay_23 : decode cX9_canPlay 23 = .ok (.lstore 5, 2) := by decide +kernel
theorem dX9_canPlay_25 : decode cX9_canPlay 25 = .ok (.aload_n 0, 1) := by decide +kernel
theorem dX9_canPlay_26 : decode cX9_canPlay 26 = .ok (.getfield 34, 3) := by decide +kernel
theorem dX9_canPlay_29 : decode cX9_canPlay 29 = .ok (.iload_n 1, 1) := by decide +kernel
theorem dX9_canPlay_30 : decode cX9_canPlay 30 = .ok (.iaload, 1) := by decide +kernel
theorem dX9_canPlay_31 : decode cX9_canPlay 31 = .ok (.ifCond .ne 14, 3) := by decide +kernel
theorem dX9_canPlay_34 : decode cX9_canPlay 34 = .ok (.aload_n 0, 1) := by decide +kernel
theorem dX9_canPlay_35 : decode cX9_canPlay 35 = .ok (.lload_n 3, 1) := by decide +kernel
theorem dX9_canPlay_36 : decode cX9_canPlay 36 = .ok (.lload 5, 2) := by decide +kernel
theorem dX9_canPlay_38 : decode cX9_canPlay 38 = .ok (.iload_n 2, 1) := by decide +kernel
theorem dX9_canPlay_39 : decode cX9_canPlay 39 = .ok (.invokevirtual 229, 3) := by decide +kernel
theorem dX9_canPlay_42 : decode cX9_canPlay 42 = .ok (.ifCond .ne 5, 3) := by decide +kernel
theorem dX9_canPlay_45 : decode cX9_canPlay 45 = .ok (.iconst 0, 1) := by decide +kernel
theorem dX9_canPlay_46 : decode cX9_canPlay 46 = .ok (.ireturn, 1) := by decide +kernel
theorem dX9_canPlay_47 : decode cX9_canPlay 47 = .ok (.aload_n 0, 1) := by decide +kernel
theorem dX9_canPlay_48 : decode cX9_canPlay 48 = .ok (.lload_n 3, 1) := by decide +kernel
theorem dX9_canPlay_49 : decode cX9_canPlay 49 = .ok (.lload 5, 2) := by decide +kernel
theorem dX9_canPlay_51 : decode cX9_canPlay 51 = .ok (.aload_n 0, 1) := by decide +kernel
theorem dX9_canPlay_52 : decode cX9_canPlay 52 = .ok (.iload_n 1, 1) := by decide +kernel
theorem dX9_canPlay_53 : decode cX9_canPlay 53 = .ok (.aload_n 0, 1) := by decide +kernel
theorem dX9_canPlay_54 : decode cX9_canPlay 54 = .ok (.getfield 47, 3) := by decide +kernel
theorem dX9_canPlay_57 : decode cX9_canPlay 57 = .ok (.iload_n 1, 1) := by decide +kernel
theorem dX9_canPlay_58 : decode cX9_canPlay 58 = .ok (.iaload, 1) := by decide +kernel
theorem dX9_canPlay_59 : decode cX9_canPlay 59 = .ok (.invokevirtual 226, 3) := by decide +kernel
theorem dX9_canPlay_62 : decode cX9_canPlay 62 = .ok (.iload_n 2, 1) := by decide +kernel
theorem dX9_canPlay_63 : decode cX9_canPlay 63 = .ok (.invokevirtual 233, 3) := by decide +kernel
theorem dX9_canPlay_66 : decode cX9_canPlay 66 = .ok (.aload_n 0, 1) := by decide +kernel
theorem dX9_canPlay_67 : decode cX9_canPlay 67 = .ok (.getfield 174, 3) := by decide +kernel
theorem dX9_canPlay_70 : decode cX9_canPlay 70 = .ok (.ifCond .ne 28, 3) := by decide +kernel
theorem dX9_canPlay_73 : decode cX9_canPlay 73 = .ok (.aload_n 0, 1) := by decide +kernel
end
section
theorem dX9_canPlay_74 : decode cX9_canPlay 74 = .ok (.aload_n 0, 1) := by decide +kernel
theorem dX9_canPlay_75 : decode cX9_canPlay 75 = .ok (.getfield 44, 3) := by decide +kernel
theorem dX9_canPlay_78 : decode cX9_canPlay 78 = .ok (.iload_n 1, 1) := by decide +kernel
theorem dX9_canPlay_79 : decode cX9_canPlay 79 = .ok (.iaload, 1) := by decide +kernel
theorem dX9_canPlay_80 : decode cX9_canPlay 80 = .ok (.aload_n 0, 1) := by decide +kernel
theorem dX9_canPlay_81 : decode cX9_canPlay 81 = .ok (.getfield 178, 3) := by decide +kernel
theorem dX9_canPlay_84 : decode cX9_canPlay 84 = .ok (.aload_n 0, 1) := by decide +kernel
theorem dX9_canPlay_85 : decode cX9_canPlay 85 = .ok (.getfield 182, 3) := by decide +kernel
theorem dX9_canPlay_88 : decode cX9_canPlay 88 = .ok (.invokevirtual 237, 3) := by decide +kernel
theorem dX9_canPlay_91 : decode cX9_canPlay 91 = .ok (.ifCond .ne 7, 3) := by decide +kernel
theorem dX9_canPlay_94 : decode cX9_canPlay 94 = .ok (.iconst 1, 1) := by decide +kernel
theorem dX9_canPlay_95 : decode cX9_canPlay 95 = .ok (.goto 4, 3) := by decide +kernel
theorem dX9_canPlay_98 : decode cX9_canPlay 98 = .ok (.iconst 0, 1) := by decide +kernel
theorem dX9_canPlay_99 : decode cX9_canPlay 99 = .ok (.ireturn, 1) := by decide +kernel
theorem dX9_play_0 : decode cX9_play 0 = .ok (.aload_n 0, 1) := by decide +kernel
theorem dX9_play_1 : decode cX9_play 1 = .ok (.iload_n 1, 1) := by decide +kernel
theorem dX9_play_2 : decode cX9_play 2 = .ok (.invokevirtual 241, 3) := by decide +kernel
theorem dX9_play_5 : decode cX9_play 5 = .ok (.ifCond .eq 14, 3) := by decide +kernel
theorem dX9_play_8 : decode cX9_play 8 = .ok (.iload_n 2, 1) := by decide +kernel
theorem dX9_play_9 : decode cX9_play 9 = .ok (.invokestatic 244, 3) := by decide +kernel
theorem dX9_play_12 : decode cX9_play 12 = .ok (.ifCond .eq 7, 3) := by decide +kernel
theorem dX9_play_15 : decode cX9_play 15 = .ok (.iconst 1, 1) := by decide +kernel
theorem dX9_play_16 : decode cX9_play 16 = .ok (.goto 4, 3) := by decide +kernel
theorem dX9_play_19 : decode cX9_play 19 = .ok (.iconst 0, 1) := by decide +kernel
theorem dX9_play_20 : decode cX9_play 20 = .ok (.istore 4, 2) := by decide +kernel
theorem dX9_play_22 : decode cX9_play 22 = .ok (.aload_n 0, 1) := by decide +kernel
theorem dX9_play_23 : decode cX9_play 23 = .ok (.iload 4, 2) := by decide +kernel
theorem dX9_play_25 : decode cX9_play 25 = .ok (.ifCond .ne 7, 3) := by decide +kernel
theorem dX9_play_28 : decode cX9_play 28 = .ok (.iconst 1, 1) := by decide +kernel
theorem dX9_play_29 : decode cX9_play 29 = .ok (.goto 32, 3) := by decide +kernel
theorem dX9_play_32 : decode cX9_play 32 = .ok (.iload_n 3, 1) := by decide +kernel
theorem dX9_play_33 : decode cX9_play 33 = .ok (.iconst 0, 1) := by decide +kernel
theorem dX9_play_34 : decode cX9_play 34 = .ok (.sipush 1000, 3) := by decide +kernel
theorem dX9_play_37 : decode cX9_play 37 = .ok (.invokestatic 133, 3) := by decide +kernel
theorem dX9_play_40 : decode cX9_play 40 = .ok (.ifCond .ne 7, 3) := by decide +kernel
theorem dX9_play_43 : decode cX9_play 43 = .ok (.iconst 2, 1) := by decide +kernel
theorem dX9_play_44 : decode cX9_play 44 = .ok (.goto 17, 3) := by decide +kernel
theorem dX9_play_47 : decode cX9_play 47 = .ok (.aload_n 0, 1) := by decide +kernel
theorem dX9_play_48 : decode cX9_play 48 = .ok (.iload_n 1, 1) := by decide +kernel
theorem dX9_play_49 : decode cX9_play 49 = .ok (.iload_n 2, 1) := by decide +kernel
theorem dX9_play_50 : decode cX9_play 50 = .ok (.invokevirtual 247, 3) := by decide +kernel
theorem dX9_play_53 : decode cX9_play 53 = .ok (.ifCond .eq 7, 3) := by decide +kernel
theorem dX9_play_56 : decode cX9_play 56 = .ok (.iconst 0, 1) := by decide +kernel
theorem dX9_play_57 : decode cX9_play 57 = .ok (.goto 4, 3) := by decide +kernel
theorem dX9_play_60 : decode cX9_play 60 = .ok (.iconst 3, 1) := by decide +kernel
theorem dX9_play_61 : decode cX9_play 61 = .ok (.invokevirtual 185, 3) := by decide +kernel
theorem dX9_play_64 : decode cX9_play 64 = .ok (.ifCond .eq 5, 3) := by decide +kernel
theorem dX9_play_67 : decode cX9_play 67 = .ok (.iconst 0, 1) := by decide +kernel
theorem dX9_play_68 : decode cX9_play 68 = .ok (.ireturn, 1) := by decide +kernel
theorem dX9_play_69 : decode cX9_play 69 = .ok (.aload_n 0, 1) := by decide +kernel
theorem dX9_play_70 : decode cX9_play 70 = .ok (.iload_n 1, 1) := by decide +kernel
theorem dX9_play_71 : decode cX9_play 71 = .ok (.aload_n 0, 1) := by decide +kernel
theorem dX9_play_72 : decode cX9_play 72 = .ok (.getfield 47, 3) := by decide +kernel
theorem dX9_play_75 : decode cX9_play 75 = .ok (.iload_n 1, 1) := by decide +kernel
theorem dX9_play_76 : decode cX9_play 76 = .ok (.iaload, 1) := by decide +kernel
theorem dX9_play_77 : decode cX9_play 77 = .ok (.invokevirtual 226, 3) := by decide +kernel
theorem dX9_play_80 : decode cX9_play 80 = .ok (.istore 5, 2) := by decide +kernel
theorem dX9_play_82 : decode cX9_play 82 = .ok (.aload_n 0, 1) := by decide +kernel
theorem dX9_play_83 : decode cX9_play 83 = .ok (.iload_n 1, 1) := by decide +kernel
theorem dX9_play_84 : decode cX9_play 84 = .ok (.iload_n 3, 1) := by decide +kernel
theorem dX9_play_85 : decode cX9_play 85 = .ok (.invokevirtual 251, 3) := by decide +kernel
theorem dX9_play_88 : decode cX9_play 88 = .ok (.ifCond .eq 14, 3) := by decide +kernel
theorem dX9_play_91 : decode cX9_play 91 = .ok (.aload_n 0, 1) := by decide +kernel
theorem dX9_play_92 : decode cX9_play 92 = .ok (.iload_n 1, 1) := by decide +kernel
theorem dX9_play_93 : decode cX9_play 93 = .ok (.iconst 1, 1) := by decide +kernel
theorem dX9_play_94 : decode cX9_play 94 = .ok (.iload 5, 2) := by decide +kernel
theorem dX9_play_96 : decode cX9_play 96 = .ok (.isub, 1) := by decide +kernel
theorem dX9_play_97 : decode cX9_play 97 = .ok (.invokevirtual 254, 3) := by decide +kernel
theorem dX9_play_100 : decode cX9_play 100 = .ok (.iconst (-1), 1) := by decide +kernel
theorem dX9_play_101 : decode cX9_play 101 = .ok (.ireturn, 1) := by decide +kernel
theorem dX9_play_102 : decode cX9_play 102 = .ok (.aload_n 0, 1) := by decide +kernel
theorem dX9_play_103 : decode cX9_play 103 = .ok (.getfield 44, 3) := by decide +kernel
theorem dX9_play_106 : decode cX9_play 106 = .ok (.iload_n 1, 1) := by decide +kernel
theorem dX9_play_107 : decode cX9_play 107 = .ok (.aload_n 0, 1) := by decide +kernel
theorem dX9_play_108 : decode cX9_play 108 = .ok (.aload_n 0, 1) := by decide +kernel
theorem dX9_play_109 : decode cX9_play 109 = .ok (.getfield 178, 3) := by decide +kernel
theorem dX9_play_112 : decode cX9_play 112 = .ok (.aload_n 0, 1) := by decide +kernel
theorem dX9_play_113 : decode cX9_play 113 = .ok (.getfield 182, 3) := by decide +kernel
theorem dX9_play_116 : decode cX9_play 116 = .ok (.aload_n 0, 1) := by decide +kernel
theorem dX9_play_117 : decode cX9_play 117 = .ok (.getfield 44, 3) := by decide +kernel
theorem dX9_play_120 : decode cX9_play 120 = .ok (.iload_n 1, 1) := by decide +kernel
theorem dX9_play_121 : decode cX9_play 121 = .ok (.iaload, 1) := by decide +kernel
theorem dX9_play_122 : decode cX9_play 122 = .ok (.invokevirtual 214, 3) := by decide +kernel
theorem dX9_play_125 : decode cX9_play 125 = .ok (.iastore, 1) := by decide +kernel
theorem dX9_play_126 : decode cX9_play 126 = .ok (.aload_n 0, 1) := by decide +kernel
theorem dX9_play_127 : decode cX9_play 127 = .ok (.getfield 47, 3) := by decide +kernel
theorem dX9_play_130 : decode cX9_play 130 = .ok (.iload_n 1, 1) := by decide +kernel
theorem dX9_play_131 : decode cX9_play 131 = .ok (.dup2, 1) := by decide +kernel
theorem dX9_play_132 : decode cX9_play 132 = .ok (.iaload, 1) := by decide +kernel
theorem dX9_play_133 : decode cX9_play 133 = .ok (.iconst 1, 1) := by decide +kernel
theorem dX9_play_134 : decode cX9_play 134 = .ok (.iadd, 1) := by decide +kernel
theorem dX9_play_135 : decode cX9_play 135 = .ok (.iastore, 1) := by decide +kernel
theorem dX9_play_136 : decode cX9_play 136 = .ok (.aload_n 0, 1) := by decide +kernel
theorem dX9_play_137 : decode cX9_play 137 = .ok (.getfield 50, 3) := by decide +kernel
theorem dX9_play_140 : decode cX9_play 140 = .ok (.iload_n 1, 1) := by decide +kernel
theorem dX9_play_141 : decode cX9_play 141 = .ok (.iconst 0, 1) := by decide +kernel
theorem dX9_play_142 : decode cX9_play 142 = .ok (.iastore, 1) := by decide +kernel
theorem dX9_play_143 : decode cX9_play 143 = .ok (.aload_n 0, 1) := by decide +kernel
theorem dX9_play_144 : decode cX9_play 144 = .ok (.getfield 171, 3) := by decide +kernel
theorem dX9_play_147 : decode cX9_play 147 = .ok (.ireturn, 1) := by decide +kernel
theorem dX9_pass_0 : decode cX9_pass 0 = .ok (.aload_n 0, 1) := by decide +kernel
theorem dX9_pass_1 : decode cX9_pass 1 = .ok (.iload_n 1, 1) := by decide +kernel
theorem dX9_pass_2 : decode cX9_pass 2 = .ok (.invokevirtual 241, 3) := by decide +kernel
theorem dX9_pass_5 : decode cX9_pass 5 = .ok (.istore_n 3, 1) := by decide +kernel
theorem dX9_pass_6 : decode cX9_pass 6 = .ok (.aload_n 0, 1) := by decide +kernel
theorem dX9_pass_7 : decode cX9_pass 7 = .ok (.iload_n 3, 1) := by decide +kernel
theorem dX9_pass_8 : decode cX9_pass 8 = .ok (.ifCond .ne 7, 3) := by decide +kernel
theorem dX9_pass_11 : decode cX9_pass 11 = .ok (.iconst 1, 1) := by decide +kernel
theorem dX9_pass_12 : decode cX9_pass 12 = .ok (.goto 32, 3) := by decide +kernel
theorem dX9_pass_15 : decode cX9_pass 15 = .ok (.iload_n 2, 1) := by decide +kernel
theorem dX9_pass_16 : decode cX9_pass 16 = .ok (.iconst 0, 1) := by decide +kernel
theorem dX9_pass_17 : decode cX9_pass 17 = .ok (.sipush 1000, 3) := by decide +kernel
theorem dX9_pass_20 : decode cX9_pass 20 = .ok (.invokestatic 133, 3) := by decide +kernel
theorem dX9_pass_23 : decode cX9_pass 23 = .ok (.ifCond .ne 7, 3) := by decide +kernel
theorem dX9_pass_26 : decode cX9_pass 26 = .ok (.iconst 2, 1) := by decide +kernel
theorem dX9_pass_27 : decode cX9_pass 27 = .ok (.goto 17, 3) := by decide +kernel
theorem dX9_pass_30 : decode cX9_pass 30 = .ok (.aload_n 0, 1) := by decide +kernel
theorem dX9_pass_31 : decode cX9_pass 31 = .ok (.getfield 34, 3) := by decide +kernel
theorem dX9_pass_34 : decode cX9_pass 34 = .ok (.iload_n 1, 1) := by decide +kernel
theorem dX9_pass_35 : decode cX9_pass 35 = .ok (.iaload, 1) := by decide +kernel
theorem dX9_pass_36 : decode cX9_pass 36 = .ok (.ifCond .ne 7, 3) := by decide +kernel
theorem dX9_pass_39 : decode cX9_pass 39 = .ok (.iconst 0, 1) := by decide +kernel
theorem dX9_pass_40 : decode cX9_pass 40 = .ok (.goto 4, 3) := by decide +kernel
theorem dX9_pass_43 : decode cX9_pass 43 = .ok (.iconst 3, 1) := by decide +kernel
theorem dX9_pass_44 : decode cX9_pass 44 = .ok (.invokevirtual 185, 3) := by decide +kernel
theorem dX9_pass_47 : decode cX9_pass 47 = .ok (.ifCond .eq 5, 3) := by decide +kernel
theorem dX9_pass_50 : decode cX9_pass 50 = .ok (.iconst 0, 1) := by decide +kernel
theorem dX9_pass_51 : decode cX9_pass 51 = .ok (.ireturn, 1) := by decide +kernel
theorem dX9_pass_52 : decode cX9_pass 52 = .ok (.aload_n 0, 1) := by decide +kernel
theorem dX9_pass_53 : decode cX9_pass 53 = .ok (.iload_n 1, 1) := by decide +kernel
theorem dX9_pass_54 : decode cX9_pass 54 = .ok (.aload_n 0, 1) := by decide +kernel
theorem dX9_pass_55 : decode cX9_pass 55 = .ok (.getfield 47, 3) := by decide +kernel
theorem dX9_pass_58 : decode cX9_pass 58 = .ok (.iload_n 1, 1) := by decide +kernel
theorem dX9_pass_59 : decode cX9_pass 59 = .ok (.iaload, 1) := by decide +kernel
theorem dX9_pass_60 : decode cX9_pass 60 = .ok (.invokevirtual 226, 3) := by decide +kernel
theorem dX9_pass_63 : decode cX9_pass 63 = .ok (.istore 4, 2) := by decide +kernel
theorem dX9_pass_65 : decode cX9_pass 65 = .ok (.aload_n 0, 1) := by decide +kernel
theorem dX9_pass_66 : decode cX9_pass 66 = .ok (.iload_n 1, 1) := by decide +kernel
theorem dX9_pass_67 : decode cX9_pass 67 = .ok (.iload_n 2, 1) := by decide +kernel
theorem dX9_pass_68 : decode cX9_pass 68 = .ok (.invokevirtual 251, 3) := by decide +kernel
theorem dX9_pass_71 : decode cX9_pass 71 = .ok (.ifCond .eq 19, 3) := by decide +kernel
theorem dX9_pass_74 : decode cX9_pass 74 = .ok (.aload_n 0, 1) := by decide +kernel
theorem dX9_pass_75 : decode cX9_pass 75 = .ok (.iload_n 1, 1) := by decide +kernel
theorem dX9_pass_76 : decode cX9_pass 76 = .ok (.iconst 1, 1) := by decide +kernel
theorem dX9_pass_77 : decode cX9_pass 77 = .ok (.iload 4, 2) := by decide +kernel
theorem dX9_pass_79 : decode cX9_pass 79 = .ok (.isub, 1) := by decide +kernel
theorem dX9_pass_80 : decode cX9_pass 80 = .ok (.invokevirtual 254, 3) := by decide +kernel
theorem dX9_pass_83 : decode cX9_pass 83 = .ok (.aload_n 0, 1) := by decide +kernel
theorem dX9_pass_84 : decode cX9_pass 84 = .ok (.getfield 34, 3) := by decide +kernel
theorem dX9_pass_87 : decode cX9_pass 87 = .ok (.iload_n 1, 1) := by decide +kernel
theorem dX9_pass_88 : decode cX9_pass 88 = .ok (.iaload, 1) := by decide +kernel
theorem dX9_pass_89 : decode cX9_pass 89 = .ok (.ireturn, 1) := by decide +kernel
theorem dX9_pass_90 : decode cX9_pass 90 = .ok (.aload_n 0, 1) := by decide +kernel
theorem dX9_pass_91 : decode cX9_pass 91 = .ok (.getfield 44, 3) := by decide +kernel
theorem dX9_pass_94 : decode cX9_pass 94 = .ok (.iload_n 1, 1) := by decide +kernel
theorem dX9_pass_95 : decode cX9_pass 95 = .ok (.aload_n 0, 1) := by decide +kernel
theorem dX9_pass_96 : decode cX9_pass 96 = .ok (.aload_n 0, 1) := by decide +kernel
theorem dX9_pass_97 : decode cX9_pass 97 = .ok (.getfield 65, 3) := by decide +kernel
theorem dX9_pass_100 : decode cX9_pass 100 = .ok (.aload_n 0, 1) := by decide +kernel
theorem dX9_pass_101 : decode cX9_pass 101 = .ok (.getfield 44, 3) := by decide +kernel
theorem dX9_pass_104 : decode cX9_pass 104 = .ok (.iload_n 1, 1) := by decide +kernel
theorem dX9_pass_105 : decode cX9_pass 105 = .ok (.iaload, 1) := by decide +kernel
theorem dX9_pass_106 : decode cX9_pass 106 = .ok (.laload, 1) := by decide +kernel
theorem dX9_pass_107 : decode cX9_pass 107 = .ok (.aload_n 0, 1) := by decide +kernel
theorem dX9_pass_108 : decode cX9_pass 108 = .ok (.getfield 69, 3) := by decide +kernel
theorem dX9_pass_111 : decode cX9_pass 111 = .ok (.aload_n 0, 1) := by decide +kernel
theorem dX9_pass_112 : decode cX9_pass 112 = .ok (.getfield 44, 3) := by decide +kernel
theorem dX9_pass_115 : decode cX9_pass 115 = .ok (.iload_n 1, 1) := by decide +kernel
theorem dX9_pass_116 : decode cX9_pass 116 = .ok (.iaload, 1) := by decide +kernel
theorem dX9_pass_117 : decode cX9_pass 117 = .ok (.laload, 1) := by decide +kernel
theorem dX9_pass_118 : decode cX9_pass 118 = .ok (.aload_n 0, 1) := by decide +kernel
theorem dX9_pass_119 : decode cX9_pass 119 = .ok (.getfield 44, 3) := by decide +kernel
theorem dX9_pass_122 : decode cX9_pass 122 = .ok (.iload_n 1, 1) := by decide +kernel
theorem dX9_pass_123 : decode cX9_pass 123 = .ok (.iaload, 1) := by decide +kernel
theorem dX9_pass_124 : decode cX9_pass 124 = .ok (.invokevirtual 214, 3) := by decide +kernel
theorem dX9_pass_127 : decode cX9_pass 127 = .ok (.iastore, 1) := by decide +kernel
theorem dX9_pass_128 : decode cX9_pass 128 = .ok (.aload_n 0, 1) := by decide +kernel
theorem dX9_pass_129 : decode cX9_pass 129 = .ok (.getfield 47, 3) := by decide +kernel
theorem dX9_pass_132 : decode cX9_pass 132 = .ok (.iload_n 1, 1) := by decide +kernel
theorem dX9_pass_133 : decode cX9_pass 133 = .ok (.dup2, 1) := by decide +kernel
theorem dX9_pass_134 : decode cX9_pass 134 = .ok (.iaload, 1) := by decide +kernel
theorem dX9_pass_135 : decode cX9_pass 135 = .ok (.iconst 1, 1) := by decide +kernel
theorem dX9_pass_136 : decode cX9_pass 136 = .ok (.iadd, 1) := by decide +kernel
theorem dX9_pass_137 : decode cX9_pass 137 = .ok (.iastore, 1) := by decide +kernel
theorem dX9_pass_138 : decode cX9_pass 138 = .ok (.aload_n 0, 1) := by decide +kernel
theorem dX9_pass_139 : decode cX9_pass 139 = .ok (.getfield 50, 3) := by decide +kernel
theorem dX9_pass_142 : decode cX9_pass 142 = .ok (.iload_n 1, 1) := by decide +kernel
theorem dX9_pass_143 : decode cX9_pass 143 = .ok (.dup2, 1) := by decide +kernel
theorem dX9_pass_144 : decode cX9_pass 144 = .ok (.iaload, 1) := by decide +kernel
theorem dX9_pass_145 : decode cX9_pass 145 = .ok (.iconst 1, 1) := by decide +kernel
theorem dX9_pass_146 : decode cX9_pass 146 = .ok (.iadd, 1) := by decide +kernel
theorem dX9_pass_147 : decode cX9_pass 147 = .ok (.iastore, 1) := by decide +kernel
theorem dX9_pass_148 : decode cX9_pass 148 = .ok (.aload_n 0, 1) := by decide +kernel
theorem dX9_pass_149 : decode cX9_pass 149 = .ok (.getfield 50, 3) := by decide +kernel
theorem dX9_pass_152 : decode cX9_pass 152 = .ok (.iload_n 1, 1) := by decide +kernel
theorem dX9_pass_153 : decode cX9_pass 153 = .ok (.iaload, 1) := by decide +kernel
theorem dX9_pass_154 : decode cX9_pass 154 = .ok (.iconst 2, 1) := by decide +kernel
theorem dX9_pass_155 : decode cX9_pass 155 = .ok (.if_icmp .ne 21, 3) := by decide +kernel
theorem dX9_pass_158 : decode cX9_pass 158 = .ok (.aload_n 0, 1) := by decide +kernel
theorem dX9_pass_159 : decode cX9_pass 159 = .ok (.iload_n 1, 1) := by decide +kernel
theorem dX9_pass_160 : decode cX9_pass 160 = .ok (.aload_n 0, 1) := by decide +kernel
theorem dX9_pass_161 : decode cX9_pass 161 = .ok (.iload_n 1, 1) := by decide +kernel
theorem dX9_pass_162 : decode cX9_pass 162 = .ok (.invokevirtual 258, 3) := by decide +kernel
theorem dX9_pass_165 : decode cX9_pass 165 = .ok (.ifCond .le 7, 3) := by decide +kernel
theorem dX9_pass_168 : decode cX9_pass 168 = .ok (.iconst 0, 1) := by decide +kernel
theorem dX9_pass_169 : decode cX9_pass 169 = .ok (.goto 4, 3) := by decide +kernel
theorem dX9_pass_172 : decode cX9_pass 172 = .ok (.iconst 1, 1) := by decide +kernel
theorem dX9_pass_173 : decode cX9_pass 173 = .ok (.invokevirtual 254, 3) := by decide +kernel
theorem dX9_pass_176 : decode cX9_pass 176 = .ok (.aload_n 0, 1) := by decide +kernel
theorem dX9_pass_177 : decode cX9_pass 177 = .ok (.getfield 34, 3) := by decide +kernel
theorem dX9_pass_180 : decode cX9_pass 180 = .ok (.iload_n 1, 1) := by decide +kernel
theorem dX9_pass_181 : decode cX9_pass 181 = .ok (.iaload, 1) := by decide +kernel
theorem dX9_pass_182 : decode cX9_pass 182 = .ok (.ireturn, 1) := by decide +kernel
theorem dX9_resign_0 : decode cX9_resign 0 = .ok (.aload_n 0, 1) := by decide +kernel
theorem dX9_resign_1 : decode cX9_resign 1 = .ok (.iload_n 1, 1) := by decide +kernel
theorem dX9_resign_2 : decode cX9_resign 2 = .ok (.invokevirtual 241, 3) := by decide +kernel
theorem dX9_resign_5 : decode cX9_resign 5 = .ok (.istore_n 2, 1) := by decide +kernel
theorem dX9_resign_6 : decode cX9_resign 6 = .ok (.aload_n 0, 1) := by decide +kernel
theorem dX9_resign_7 : decode cX9_resign 7 = .ok (.iload_n 2, 1) := by decide +kernel
theorem dX9_resign_8 : decode cX9_resign 8 = .ok (.ifCond .ne 7, 3) := by decide +kernel
theorem dX9_resign_11 : decode cX9_resign 11 = .ok (.iconst 1, 1) := by decide +kernel
theorem dX9_resign_12 : decode cX9_resign 12 = .ok (.goto 17, 3) := by decide +kernel
theorem dX9_resign_15 : decode cX9_resign 15 = .ok (.aload_n 0, 1) := by decide +kernel
theorem dX9_resign_16 : decode cX9_resign 16 = .ok (.getfield 34, 3) := by decide +kernel
theorem dX9_resign_19 : decode cX9_resign 19 = .ok (.iload_n 1, 1) := by decide +kernel
theorem dX9_resign_20 : decode cX9_resign 20 = .ok (.iaload, 1) := by decide +kernel
theorem dX9_resign_21 : decode cX9_resign 21 = .ok (.ifCond .ne 7, 3) := by decide +kernel
theorem dX9_resign_24 : decode cX9_resign 24 = .ok (.iconst 0, 1) := by decide +kernel
theorem dX9_resign_25 : decode cX9_resign 25 = .ok (.goto 4, 3) := by decide +kernel
theorem dX9_resign_28 : decode cX9_resign 28 = .ok (.iconst 2, 1) := by decide +kernel
theorem dX9_resign_29 : decode cX9_resign 29 = .ok (.invokevirtual 185, 3) := by decide +kernel
theorem dX9_resign_32 : decode cX9_resign 32 = .ok (.ifCond .eq 5, 3) := by decide +kernel
theorem dX9_resign_35 : decode cX9_resign 35 = .ok (.iconst 0, 1) := by decide +kernel
theorem dX9_resign_36 : decode cX9_resign 36 = .ok (.ireturn, 1) := by decide +kernel
theorem dX9_resign_37 : decode cX9_resign 37 = .ok (.aload_n 0, 1) := by decide +kernel
theorem dX9_resign_38 : decode cX9_resign 38 = .ok (.iload_n 1, 1) := by decide +kernel
theorem dX9_resign_39 : decode cX9_resign 39 = .ok (.iconst 1, 1) := by decide +kernel
theorem dX9_resign_40 : decode cX9_resign 40 = .ok (.aload_n 0, 1) := by decide +kernel
theorem dX9_resign_41 : decode cX9_resign 41 = .ok (.iload_n 1, 1) := by decide +kernel
theorem dX9_resign_42 : decode cX9_resign 42 = .ok (.aload_n 0, 1) := by decide +kernel
theorem dX9_resign_43 : decode cX9_resign 43 = .ok (.getfield 47, 3) := by decide +kernel
theorem dX9_resign_46 : decode cX9_resign 46 = .ok (.iload_n 1, 1) := by decide +kernel
theorem dX9_resign_47 : decode cX9_resign 47 = .ok (.iaload, 1) := by decide +kernel
theorem dX9_resign_48 : decode cX9_resign 48 = .ok (.invokevirtual 226, 3) := by decide +kernel
theorem dX9_resign_51 : decode cX9_resign 51 = .ok (.isub, 1) := by decide +kernel
theorem dX9_resign_52 : decode cX9_resign 52 = .ok (.invokevirtual 254, 3) := by decide +kernel
theorem dX9_resign_55 : decode cX9_resign 55 = .ok (.aload_n 0, 1) := by decide +kernel
theorem dX9_resign_56 : decode cX9_resign 56 = .ok (.getfield 34, 3) := by decide +kernel
theorem dX9_resign_59 : decode cX9_resign 59 = .ok (.iload_n 1, 1) := by decide +kernel
theorem dX9_resign_60 : decode cX9_resign 60 = .ok (.iaload, 1) := by decide +kernel
theorem dX9_resign_61 : decode cX9_resign 61 = .ok (.ireturn, 1) := by decide +kernel
theorem dX9_stateOf_0 : decode cX9_stateOf 0 = .ok (.aload_n 0, 1) := by decide +kernel
theorem dX9_stateOf_1 : decode cX9_stateOf 1 = .ok (.getfield 34, 3) := by decide +kernel
theorem dX9_stateOf_4 : decode cX9_stateOf 4 = .ok (.iload_n 1, 1) := by decide +kernel
theorem dX9_stateOf_5 : decode cX9_stateOf 5 = .ok (.iaload, 1) := by decide +kernel
theorem dX9_stateOf_6 : decode cX9_stateOf 6 = .ok (.aload_n 0, 1) := by decide +kernel
theorem dX9_stateOf_7 : decode cX9_stateOf 7 = .ok (.getfield 37, 3) := by decide +kernel
theorem dX9_stateOf_10 : decode cX9_stateOf 10 = .ok (.iload_n 1, 1) := by decide +kernel
theorem dX9_stateOf_11 : decode cX9_stateOf 11 = .ok (.baload, 1) := by decide +kernel
theorem dX9_stateOf_12 : decode cX9_stateOf 12 = .ok (.ifCond .eq 8, 3) := by decide +kernel
theorem dX9_stateOf_15 : decode cX9_stateOf 15 = .ok (.bipush 10, 2) := by decide +kernel
theorem dX9_stateOf_17 : decode cX9_stateOf 17 = .ok (.goto 4, 3) := by decide +kernel
theorem dX9_stateOf_20 : decode cX9_stateOf 20 = .ok (.iconst 0, 1) := by decide +kernel
theorem dX9_stateOf_21 : decode cX9_stateOf 21 = .ok (.iadd, 1) := by decide +kernel
theorem dX9_stateOf_22 : decode cX9_stateOf 22 = .ok (.ireturn, 1) := by decide +kernel
theorem dX9_state_0 : decode cX9_state 0 = .ok (.aload_n 0, 1) := by decide +kernel
theorem dX9_state_1 : decode cX9_state 1 = .ok (.aload_n 0, 1) := by decide +kernel
theorem dX9_state_2 : decode cX9_state 2 = .ok (.iload_n 1, 1) := by decide +kernel
theorem dX9_state_3 : decode cX9_state 3 = .ok (.invokevirtual 241, 3) := by decide +kernel
theorem dX9_state_6 : decode cX9_state 6 = .ok (.ifCond .eq 7, 3) := by decide +kernel
theorem dX9_state_9 : decode cX9_state 9 = .ok (.iconst 0, 1) := by decide +kernel
theorem dX9_state_10 : decode cX9_state 10 = .ok (.goto 4, 3) := by decide +kernel
theorem dX9_state_13 : decode cX9_state 13 = .ok (.iconst 1, 1) := by decide +kernel
theorem dX9_state_14 : decode cX9_state 14 = .ok (.invokevirtual 185, 3) := by decide +kernel
theorem dX9_state_17 : decode cX9_state 17 = .ok (.ifCond .eq 7, 3) := by decide +kernel
theorem dX9_state_20 : decode cX9_state 20 = .ok (.iconst 0, 1) := by decide +kernel
theorem dX9_state_21 : decode cX9_state 21 = .ok (.goto 8, 3) := by decide +kernel
theorem dX9_state_24 : decode cX9_state 24 = .ok (.aload_n 0, 1) := by decide +kernel
theorem dX9_state_25 : decode cX9_state 25 = .ok (.iload_n 1, 1) := by decide +kernel
theorem dX9_state_26 : decode cX9_state 26 = .ok (.invokevirtual 262, 3) := by decide +kernel
theorem dX9_state_29 : decode cX9_state 29 = .ok (.ireturn, 1) := by decide +kernel
theorem dX9_handicap_0 : decode cX9_handicap 0 = .ok (.aload_n 0, 1) := by decide +kernel
theorem dX9_handicap_1 : decode cX9_handicap 1 = .ok (.aload_n 0, 1) := by decide +kernel
theorem dX9_handicap_2 : decode cX9_handicap 2 = .ok (.iload_n 1, 1) := by decide +kernel
theorem dX9_handicap_3 : decode cX9_handicap 3 = .ok (.invokevirtual 241, 3) := by decide +kernel
theorem dX9_handicap_6 : decode cX9_handicap 6 = .ok (.ifCond .eq 7, 3) := by decide +kernel
theorem dX9_handicap_9 : decode cX9_handicap 9 = .ok (.iconst 0, 1) := by decide +kernel
theorem dX9_handicap_10 : decode cX9_handicap 10 = .ok (.goto 4, 3) := by decide +kernel
theorem dX9_handicap_13 : decode cX9_handicap 13 = .ok (.iconst 1, 1) := by decide +kernel
theorem dX9_handicap_14 : decode cX9_handicap 14 = .ok (.invokevirtual 185, 3) := by decide +kernel
theorem dX9_handicap_17 : decode cX9_handicap 17 = .ok (.ifCond .eq 7, 3) := by decide +kernel
theorem dX9_handicap_20 : decode cX9_handicap 20 = .ok (.iconst 0, 1) := by decide +kernel
theorem dX9_handicap_21 : decode cX9_handicap 21 = .ok (.goto 29, 3) := by decide +kernel
theorem dX9_handicap_24 : decode cX9_handicap 24 = .ok (.bipush 100, 2) := by decide +kernel
theorem dX9_handicap_26 : decode cX9_handicap 26 = .ok (.aload_n 0, 1) := by decide +kernel
theorem dX9_handicap_27 : decode cX9_handicap 27 = .ok (.getfield 25, 3) := by decide +kernel
theorem dX9_handicap_30 : decode cX9_handicap 30 = .ok (.iload_n 1, 1) := by decide +kernel
theorem dX9_handicap_31 : decode cX9_handicap 31 = .ok (.iaload, 1) := by decide +kernel
theorem dX9_handicap_32 : decode cX9_handicap 32 = .ok (.imul, 1) := by decide +kernel
theorem dX9_handicap_33 : decode cX9_handicap 33 = .ok (.bipush 10, 2) := by decide +kernel
theorem dX9_handicap_35 : decode cX9_handicap 35 = .ok (.aload_n 0, 1) := by decide +kernel
theorem dX9_handicap_36 : decode cX9_handicap 36 = .ok (.getfield 28, 3) := by decide +kernel
theorem dX9_handicap_39 : decode cX9_handicap 39 = .ok (.iload_n 1, 1) := by decide +kernel
theorem dX9_handicap_40 : decode cX9_handicap 40 = .ok (.iaload, 1) := by decide +kernel
theorem dX9_handicap_41 : decode cX9_handicap 41 = .ok (.imul, 1) := by decide +kernel
theorem dX9_handicap_42 : decode cX9_handicap 42 = .ok (.iadd, 1) := by decide +kernel
theorem dX9_handicap_43 : decode cX9_handicap 43 = .ok (.aload_n 0, 1) := by decide +kernel
theorem dX9_handicap_44 : decode cX9_handicap 44 = .ok (.getfield 31, 3) := by decide +kernel
theorem dX9_handicap_47 : decode cX9_handicap 47 = .ok (.iload_n 1, 1) := by decide +kernel
theorem dX9_handicap_48 : decode cX9_handicap 48 = .ok (.iaload, 1) := by decide +kernel
theorem dX9_handicap_49 : decode cX9_handicap 49 = .ok (.iadd, 1) := by decide +kernel
theorem dX9_handicap_50 : decode cX9_handicap 50 = .ok (.ireturn, 1) := by decide +kernel
theorem dX9_sign_0 : decode cX9_sign 0 = .ok (.aload_n 0, 1) := by decide +kernel
theorem dX9_sign_1 : decode cX9_sign 1 = .ok (.aload_n 0, 1) := by decide +kernel
theorem dX9_sign_2 : decode cX9_sign 2 = .ok (.iload_n 1, 1) := by decide +kernel
theorem dX9_sign_3 : decode cX9_sign 3 = .ok (.invokevirtual 241, 3) := by decide +kernel
theorem dX9_sign_6 : decode cX9_sign 6 = .ok (.ifCond .eq 14, 3) := by decide +kernel
theorem dX9_sign_9 : decode cX9_sign 9 = .ok (.iload_n 2, 1) := by decide +kernel
theorem dX9_sign_10 : decode cX9_sign 10 = .ok (.invokestatic 244, 3) := by decide +kernel
theorem dX9_sign_13 : decode cX9_sign 13 = .ok (.ifCond .eq 7, 3) := by decide +kernel
theorem dX9_sign_16 : decode cX9_sign 16 = .ok (.iconst 0, 1) := by decide +kernel
theorem dX9_sign_17 : decode cX9_sign 17 = .ok (.goto 4, 3) := by decide +kernel
theorem dX9_sign_20 : decode cX9_sign 20 = .ok (.iconst 1, 1) := by decide +kernel
theorem dX9_sign_21 : decode cX9_sign 21 = .ok (.invokevirtual 185, 3) := by decide +kernel
theorem dX9_sign_24 : decode cX9_sign 24 = .ok (.ifCond .eq 6, 3) := by decide +kernel
theorem dX9_sign_27 : decode cX9_sign 27 = .ok (.bipush 32, 2) := by decide +kernel
theorem dX9_sign_29 : decode cX9_sign 29 = .ok (.ireturn, 1) := by decide +kernel
theorem dX9_sign_30 : decode cX9_sign 30 = .ok (.aload_n 0, 1) := by decide +kernel
theorem dX9_sign_31 : decode cX9_sign 31 = .ok (.getfield 65, 3) := by decide +kernel
theorem dX9_sign_34 : decode cX9_sign 34 = .ok (.aload_n 0, 1) := by decide +kernel
theorem dX9_sign_35 : decode cX9_sign 35 = .ok (.getfield 44, 3) := by decide +kernel
theorem dX9_sign_38 : decode cX9_sign 38 = .ok (.iload_n 1, 1) := by decide +kernel
theorem dX9_sign_39 : decode cX9_sign 39 = .ok (.iaload, 1) := by decide +kernel
theorem dX9_sign_40 : decode cX9_sign 40 = .ok (.laload, 1) := by decide +kernel
theorem dX9_sign_41 : decode cX9_sign 41 = .ok (.iload_n 2, 1) := by decide +kernel
theorem dX9_sign_42 : decode cX9_sign 42 = .ok (.invokestatic 160, 3) := by decide +kernel
theorem dX9_sign_45 : decode cX9_sign 45 = .ok (.land, 1) := by decide +kernel
theorem dX9_sign_46 : decode cX9_sign 46 = .ok (.lconst 0, 1) := by decide +kernel
theorem dX9_sign_47 : decode cX9_sign 47 = .ok (.lcmp, 1) := by decide +kernel
theorem dX9_sign_48 : decode cX9_sign 48 = .ok (.ifCond .eq 8, 3) := by decide +kernel
theorem dX9_sign_51 : decode cX9_sign 51 = .ok (.bipush 88, 2) := by decide +kernel
theorem dX9_sign_53 : decode cX9_sign 53 = .ok (.goto 31, 3) := by decide +kernel
theorem dX9_sign_56 : decode cX9_sign 56 = .ok (.aload_n 0, 1) := by decide +kernel
theorem dX9_sign_57 : decode cX9_sign 57 = .ok (.getfield 69, 3) := by decide +kernel
theorem dX9_sign_60 : decode cX9_sign 60 = .ok (.aload_n 0, 1) := by decide +kernel
theorem dX9_sign_61 : decode cX9_sign 61 = .ok (.getfield 44, 3) := by decide +kernel
theorem dX9_sign_64 : decode cX9_sign 64 = .ok (.iload_n 1, 1) := by decide +kernel
theorem dX9_sign_65 : decode cX9_sign 65 = .ok (.iaload, 1) := by decide +kernel
theorem dX9_sign_66 : decode cX9_sign 66 = .ok (.laload, 1) := by decide +kernel
theorem dX9_sign_67 : decode cX9_sign 67 = .ok (.iload_n 2, 1) := by decide +kernel
theorem dX9_sign_68 : decode cX9_sign 68 = .ok (.invokestatic 160, 3) := by decide +kernel
theorem dX9_sign_71 : decode cX9_sign 71 = .ok (.land, 1) := by decide +kernel
theorem dX9_sign_72 : decode cX9_sign 72 = .ok (.lconst 0, 1) := by decide +kernel
theorem dX9_sign_73 : decode cX9_sign 73 = .ok (.lcmp, 1) := by decide +kernel
theorem dX9_sign_74 : decode cX9_sign 74 = .ok (.ifCond .eq 8, 3) := by decide +kernel
theorem dX9_sign_77 : decode cX9_sign 77 = .ok (.bipush 79, 2) := by decide +kernel
theorem dX9_sign_79 : decode cX9_sign 79 = .ok (.goto 5, 3) := by decide +kernel
theorem dX9_sign_82 : decode cX9_sign 82 = .ok (.bipush 46, 2) := by decide +kernel
theorem dX9_sign_84 : decode cX9_sign 84 = .ok (.ireturn, 1) := by decide +kernel
theorem dX9_clock_0 : decode cX9_clock 0 = .ok (.aload_n 0, 1) := by decide +kernel
theorem dX9_clock_1 : decode cX9_clock 1 = .ok (.iload_n 1, 1) := by decide +kernel
theorem dX9_clock_2 : decode cX9_clock 2 = .ok (.invokevirtual 241, 3) := by decide +kernel
theorem dX9_clock_5 : decode cX9_clock 5 = .ok (.ifCond .eq 16, 3) := by decide +kernel
theorem dX9_clock_8 : decode cX9_clock 8 = .ok (.iload_n 2, 1) := by decide +kernel
theorem dX9_clock_9 : decode cX9_clock 9 = .ok (.iconst 0, 1) := by decide +kernel
theorem dX9_clock_10 : decode cX9_clock 10 = .ok (.iconst 1, 1) := by decide +kernel
theorem dX9_clock_11 : decode cX9_clock 11 = .ok (.invokestatic 133, 3) := by decide +kernel
theorem dX9_clock_14 : decode cX9_clock 14 = .ok (.ifCond .eq 7, 3) := by decide +kernel
theorem dX9_clock_17 : decode cX9_clock 17 = .ok (.iconst 1, 1) := by decide +kernel
theorem dX9_clock_18 : decode cX9_clock 18 = .ok (.goto 4, 3) := by decide +kernel
theorem dX9_clock_21 : decode cX9_clock 21 = .ok (.iconst 0, 1) := by decide +kernel
theorem dX9_clock_22 : decode cX9_clock 22 = .ok (.istore_n 3, 1) := by decide +kernel
theorem dX9_clock_23 : decode cX9_clock 23 = .ok (.aload_n 0, 1) := by decide +kernel
theorem dX9_clock_24 : decode cX9_clock 24 = .ok (.iload_n 3, 1) := by decide +kernel
theorem dX9_clock_25 : decode cX9_clock 25 = .ok (.ifCond .eq 7, 3) := by decide +kernel
theorem dX9_clock_28 : decode cX9_clock 28 = .ok (.iconst 0, 1) := by decide +kernel
theorem dX9_clock_29 : decode cX9_clock 29 = .ok (.goto 4, 3) := by decide +kernel
theorem dX9_clock_32 : decode cX9_clock 32 = .ok (.iconst 1, 1) := by decide +kernel
theorem dX9_clock_33 : decode cX9_clock 33 = .ok (.invokevirtual 185, 3) := by decide +kernel
theorem dX9_clock_36 : decode cX9_clock 36 = .ok (.ifCond .eq 7, 3) := by decide +kernel
theorem dX9_clock_39 : decode cX9_clock 39 = .ok (.iconst 0, 1) := by decide +kernel
theorem dX9_clock_40 : decode cX9_clock 40 = .ok (.goto 27, 3) := by decide +kernel
theorem dX9_clock_43 : decode cX9_clock 43 = .ok (.bipush 10, 2) := by decide +kernel
theorem dX9_clock_45 : decode cX9_clock 45 = .ok (.aload_n 0, 1) := by decide +kernel
theorem dX9_clock_46 : decode cX9_clock 46 = .ok (.getfield 53, 3) := by decide +kernel
theorem dX9_clock_49 : decode cX9_clock 49 = .ok (.iconst 2, 1) := by decide +kernel
theorem dX9_clock_50 : decode cX9_clock 50 = .ok (.iload_n 1, 1) := by decide +kernel
theorem dX9_clock_51 : decode cX9_clock 51 = .ok (.imul, 1) := by decide +kernel
theorem dX9_clock_52 : decode cX9_clock 52 = .ok (.iload_n 2, 1) := by decide +kernel
theorem dX9_clock_53 : decode cX9_clock 53 = .ok (.iadd, 1) := by decide +kernel
theorem dX9_clock_54 : decode cX9_clock 54 = .ok (.iaload, 1) := by decide +kernel
theorem dX9_clock_55 : decode cX9_clock 55 = .ok (.imul, 1) := by decide +kernel
theorem dX9_clock_56 : decode cX9_clock 56 = .ok (.aload_n 0, 1) := by decide +kernel
theorem dX9_clock_57 : decode cX9_clock 57 = .ok (.getfield 56, 3) := by decide +kernel
theorem dX9_clock_60 : decode cX9_clock 60 = .ok (.iconst 2, 1) := by decide +kernel
theorem dX9_clock_61 : decode cX9_clock 61 = .ok (.iload_n 1, 1) := by decide +kernel
theorem dX9_clock_62 : decode cX9_clock 62 = .ok (.imul, 1) := by decide +kernel
theorem dX9_clock_63 : decode cX9_clock 63 = .ok (.iload_n 2, 1) := by decide +kernel
theorem dX9_clock_64 : decode cX9_clock 64 = .ok (.iadd, 1) := by decide +kernel
theorem dX9_clock_65 : decode cX9_clock 65 = .ok (.iaload, 1) := by decide +kernel
theorem dX9_clock_66 : decode cX9_clock 66 = .ok (.iadd, 1) := by decide +kernel
theorem dX9_clock_67 : decode cX9_clock 67 = .ok (.ireturn, 1) := by decide +kernel
theorem dX9_scoreOf_0 : decode cX9_scoreOf 0 = .ok (.aload_n 0, 1) := by decide +kernel
theorem dX9_scoreOf_1 : decode cX9_scoreOf 1 = .ok (.getfield 65, 3) := by decide +kernel
theorem dX9_scoreOf_4 : decode cX9_scoreOf 4 = .ok (.aload_n 0, 1) := by decide +kernel
theorem dX9_scoreOf_5 : decode cX9_scoreOf 5 = .ok (.getfield 44, 3) := by decide +kernel
theorem dX9_scoreOf_8 : decode cX9_scoreOf 8 = .ok (.iload_n 1, 1) := by decide +kernel
theorem dX9_scoreOf_9 : decode cX9_scoreOf 9 = .ok (.iaload, 1) := by decide +kernel
theorem dX9_scoreOf_10 : decode cX9_scoreOf 10 = .ok (.laload, 1) := by decide +kernel
theorem dX9_scoreOf_11 : decode cX9_scoreOf 11 = .ok (.lstore_n 2, 1) := by decide +kernel
theorem dX9_scoreOf_12 : decode cX9_scoreOf 12 = .ok (.aload_n 0, 1) := by decide +kernel
theorem dX9_scoreOf_13 : decode cX9_scoreOf 13 = .ok (.getfield 69, 3) := by decide +kernel
theorem dX9_scoreOf_16 : decode cX9_scoreOf 16 = .ok (.aload_n 0, 1) := by decide +kernel
theorem dX9_scoreOf_17 : decode cX9_scoreOf 17 = .ok (.getfield 44, 3) := by decide +kernel
theorem dX9_scoreOf_20 : decode cX9_scoreOf 20 = .ok (.iload_n 1, 1) := by decide +kernel
theorem dX9_scoreOf_21 : decode cX9_scoreOf 21 = .ok (.iaload, 1) := by decide +kernel
theorem dX9_scoreOf_22 : decode cX9_scoreOf 22 = .ok (.laload, 1) := by decide +kernel
theorem dX9_scoreOf_23 : decode cX9_scoreOf 23 = .ok (.lstore 4, 2) := by decide +kernel
theorem dX9_scoreOf_25 : decode cX9_scoreOf 25 = .ok (.ldc2_w 144, 3) := by decide +kernel
theorem dX9_scoreOf_28 : decode cX9_scoreOf 28 = .ok (.lload_n 2, 1) := by decide +kernel
theorem dX9_scoreOf_29 : decode cX9_scoreOf 29 = .ok (.lload 4, 2) := by decide +kernel
theorem dX9_scoreOf_31 : decode cX9_scoreOf 31 = .ok (.lor, 1) := by decide +kernel
theorem dX9_scoreOf_32 : decode cX9_scoreOf 32 = .ok (.ldc2_w 150, 3) := by decide +kernel
theorem dX9_scoreOf_35 : decode cX9_scoreOf 35 = .ok (.lxor, 1) := by decide +kernel
theorem dX9_scoreOf_36 : decode cX9_scoreOf 36 = .ok (.land, 1) := by decide +kernel
theorem dX9_scoreOf_37 : decode cX9_scoreOf 37 = .ok (.lstore 6, 2) := by decide +kernel
theorem dX9_scoreOf_39 : decode cX9_scoreOf 39 = .ok (.lload_n 2, 1) := by decide +kernel
theorem dX9_scoreOf_40 : decode cX9_scoreOf 40 = .ok (.invokestatic 167, 3) := by decide +kernel
theorem dX9_scoreOf_43 : decode cX9_scoreOf 43 = .ok (.lload 4, 2) := by decide +kernel
theorem dX9_scoreOf_45 : decode cX9_scoreOf 45 = .ok (.invokestatic 167, 3) := by decide +kernel
theorem dX9_scoreOf_48 : decode cX9_scoreOf 48 = .ok (.isub, 1) := by decide +kernel
theorem dX9_scoreOf_49 : decode cX9_scoreOf 49 = .ok (.aload_n 0, 1) := by decide +kernel
theorem dX9_scoreOf_50 : decode cX9_scoreOf 50 = .ok (.getfield 31, 3) := by decide +kernel
theorem dX9_scoreOf_53 : decode cX9_scoreOf 53 = .ok (.iload_n 1, 1) := by decide +kernel
theorem dX9_scoreOf_54 : decode cX9_scoreOf 54 = .ok (.iaload, 1) := by decide +kernel
theorem dX9_scoreOf_55 : decode cX9_scoreOf 55 = .ok (.ifCond .ne 8, 3) := by decide +kernel
theorem dX9_scoreOf_58 : decode cX9_scoreOf 58 = .ok (.bipush 6, 2) := by decide +kernel
theorem dX9_scoreOf_60 : decode cX9_scoreOf 60 = .ok (.goto 4, 3) := by decide +kernel
theorem dX9_scoreOf_63 : decode cX9_scoreOf 63 = .ok (.iconst 0, 1) := by decide +kernel
theorem dX9_scoreOf_64 : decode cX9_scoreOf 64 = .ok (.isub, 1) := by decide +kernel
theorem dX9_scoreOf_65 : decode cX9_scoreOf 65 = .ok (.istore 8, 2) := by decide +kernel
theorem dX9_scoreOf_67 : decode cX9_scoreOf 67 = .ok (.lload 6, 2) := by decide +kernel
theorem dX9_scoreOf_69 : decode cX9_scoreOf 69 = .ok (.lstore 9, 2) := by decide +kernel
theorem dX9_scoreOf_71 : decode cX9_scoreOf 71 = .ok (.lload 9, 2) := by decide +kernel
theorem dX9_scoreOf_73 : decode cX9_scoreOf 73 = .ok (.lconst 0, 1) := by decide +kernel
theorem dX9_scoreOf_74 : decode cX9_scoreOf 74 = .ok (.lcmp, 1) := by decide +kernel
theorem dX9_scoreOf_75 : decode cX9_scoreOf 75 = .ok (.ifCond .eq 112, 3) := by decide +kernel
theorem dX9_scoreOf_78 : decode cX9_scoreOf 78 = .ok (.lload 9, 2) := by decide +kernel
theorem dX9_scoreOf_80 : decode cX9_scoreOf 80 = .ok (.lload 9, 2) := by decide +kernel
theorem dX9_scoreOf_82 : decode cX9_scoreOf 82 = .ok (.lneg, 1) := by decide +kernel
theorem dX9_scoreOf_83 : decode cX9_scoreOf 83 = .ok (.land, 1) := by decide +kernel
theorem dX9_scoreOf_84 : decode cX9_scoreOf 84 = .ok (.lload 6, 2) := by decide +kernel
theorem dX9_scoreOf_86 : decode cX9_scoreOf 86 = .ok (.invokestatic 152, 3) := by decide +kernel
theorem dX9_scoreOf_89 : decode cX9_scoreOf 89 = .ok (.lstore 11, 2) := by decide +kernel
theorem dX9_scoreOf_91 : decode cX9_scoreOf 91 = .ok (.lload 9, 2) := by decide +kernel
theorem dX9_scoreOf_93 : decode cX9_scoreOf 93 = .ok (.lload 11, 2) := by decide +kernel
theorem dX9_scoreOf_95 : decode cX9_scoreOf 95 = .ok (.ldc2_w 150, 3) := by decide +kernel
theorem dX9_scoreOf_98 : decode cX9_scoreOf 98 = .ok (.lxor, 1) := by decide +kernel
theorem dX9_scoreOf_99 : decode cX9_scoreOf 99 = .ok (.land, 1) := by decide +kernel
theorem dX9_scoreOf_100 : decode cX9_scoreOf 100 = .ok (.lstore 9, 2) := by decide +kernel
theorem dX9_scoreOf_102 : decode cX9_scoreOf 102 = .ok (.lload 11, 2) := by decide +kernel
theorem dX9_scoreOf_104 : decode cX9_scoreOf 104 = .ok (.invokestatic 146, 3) := by decide +kernel
theorem dX9_scoreOf_107 : decode cX9_scoreOf 107 = .ok (.lload_n 2, 1) := by decide +kernel
theorem dX9_scoreOf_108 : decode cX9_scoreOf 108 = .ok (.land, 1) := by decide +kernel
theorem dX9_scoreOf_109 : decode cX9_scoreOf 109 = .ok (.lconst 0, 1) := by decide +kernel
theorem dX9_scoreOf_110 : decode cX9_scoreOf 110 = .ok (.lcmp, 1) := by decide +kernel
theorem dX9_scoreOf_111 : decode cX9_scoreOf 111 = .ok (.ifCond .eq 7, 3) := by decide +kernel
theorem dX9_scoreOf_114 : decode cX9_scoreOf 114 = .ok (.iconst 1, 1) := by decide +kernel
theorem dX9_scoreOf_115 : decode cX9_scoreOf 115 = .ok (.goto 4, 3) := by decide +kernel
theorem dX9_scoreOf_118 : decode cX9_scoreOf 118 = .ok (.iconst 0, 1) := by decide +kernel
theorem dX9_scoreOf_119 : decode cX9_scoreOf 119 = .ok (.istore 13, 2) := by decide +kernel
theorem dX9_scoreOf_121 : decode cX9_scoreOf 121 = .ok (.lload 11, 2) := by decide +kernel
theorem dX9_scoreOf_123 : decode cX9_scoreOf 123 = .ok (.invokestatic 146, 3) := by decide +kernel
theorem dX9_scoreOf_126 : decode cX9_scoreOf 126 = .ok (.lload 4, 2) := by decide +kernel
theorem dX9_scoreOf_128 : decode cX9_scoreOf 128 = .ok (.land, 1) := by decide +kernel
theorem dX9_scoreOf_129 : decode cX9_scoreOf 129 = .ok (.lconst 0, 1) := by decide +kernel
theorem dX9_scoreOf_130 : decode cX9_scoreOf 130 = .ok (.lcmp, 1) := by decide +kernel
theorem dX9_scoreOf_131 : decode cX9_scoreOf 131 = .ok (.ifCond .eq 7, 3) := by decide +kernel
theorem dX9_scoreOf_134 : decode cX9_scoreOf 134 = .ok (.iconst 1, 1) := by decide +kernel
theorem dX9_scoreOf_135 : decode cX9_scoreOf 135 = .ok (.goto 4, 3) := by decide +kernel
theorem dX9_scoreOf_138 : decode cX9_scoreOf 138 = .ok (.iconst 0, 1) := by decide +kernel
theorem dX9_scoreOf_139 : decode cX9_scoreOf 139 = .ok (.istore 14, 2) := by decide +kernel
theorem dX9_scoreOf_141 : decode cX9_scoreOf 141 = .ok (.iload 8, 2) := by decide +kernel
theorem dX9_scoreOf_143 : decode cX9_scoreOf 143 = .ok (.iload 13, 2) := by decide +kernel
theorem dX9_scoreOf_145 : decode cX9_scoreOf 145 = .ok (.ifCond .eq 16, 3) := by decide +kernel
theorem dX9_scoreOf_148 : decode cX9_scoreOf 148 = .ok (.iload 14, 2) := by decide +kernel
theorem dX9_scoreOf_150 : decode cX9_scoreOf 150 = .ok (.ifCond .ne 11, 3) := by decide +kernel
theorem dX9_scoreOf_153 : decode cX9_scoreOf 153 = .ok (.lload 11, 2) := by decide +kernel
theorem dX9_scoreOf_155 : decode cX9_scoreOf 155 = .ok (.invokestatic 167, 3) := by decide +kernel
theorem dX9_scoreOf_158 : decode cX9_scoreOf 158 = .ok (.goto 23, 3) := by decide +kernel
theorem dX9_scoreOf_161 : decode cX9_scoreOf 161 = .ok (.iload 14, 2) := by decide +kernel
theorem dX9_scoreOf_163 : decode cX9_scoreOf 163 = .ok (.ifCond .eq 17, 3) := by decide +kernel
theorem dX9_scoreOf_166 : decode cX9_scoreOf 166 = .ok (.iload 13, 2) := by decide +kernel
theorem dX9_scoreOf_168 : decode cX9_scoreOf 168 = .ok (.ifCond .ne 12, 3) := by decide +kernel
theorem dX9_scoreOf_171 : decode cX9_scoreOf 171 = .ok (.lload 11, 2) := by decide +kernel
theorem dX9_scoreOf_173 : decode cX9_scoreOf 173 = .ok (.invokestatic 167, 3) := by decide +kernel
theorem dX9_scoreOf_176 : decode cX9_scoreOf 176 = .ok (.ineg, 1) := by decide +kernel
theorem dX9_scoreOf_177 : decode cX9_scoreOf 177 = .ok (.goto 4, 3) := by decide +kernel
theorem dX9_scoreOf_180 : decode cX9_scoreOf 180 = .ok (.iconst 0, 1) := by decide +kernel
theorem dX9_scoreOf_181 : decode cX9_scoreOf 181 = .ok (.iadd, 1) := by decide +kernel
theorem dX9_scoreOf_182 : decode cX9_scoreOf 182 = .ok (.istore 8, 2) := by decide +kernel
theorem dX9_scoreOf_184 : decode cX9_scoreOf 184 = .ok (.goto (-113), 3) := by decide +kernel
theorem dX9_scoreOf_187 : decode cX9_scoreOf 187 = .ok (.iload 8, 2) := by decide +kernel
theorem dX9_scoreOf_189 : decode cX9_scoreOf 189 = .ok (.ireturn, 1) := by decide +kernel
theorem dX9_score_0 : decode cX9_score 0 = .ok (.aload_n 0, 1) := by decide +kernel
theorem dX9_score_1 : decode cX9_score 1 = .ok (.aload_n 0, 1) := by decide +kernel
theorem dX9_score_2 : decode cX9_score 2 = .ok (.iload_n 1, 1) := by decide +kernel
theorem dX9_score_3 : decode cX9_score 3 = .ok (.invokevirtual 241, 3) := by decide +kernel
theorem dX9_score_6 : decode cX9_score 6 = .ok (.ifCond .eq 7, 3) := by decide +kernel
theorem dX9_score_9 : decode cX9_score 9 = .ok (.iconst 0, 1) := by decide +kernel
theorem dX9_score_10 : decode cX9_score 10 = .ok (.goto 4, 3) := by decide +kernel
theorem dX9_score_13 : decode cX9_score 13 = .ok (.iconst 1, 1) := by decide +kernel
theorem dX9_score_14 : decode cX9_score 14 = .ok (.invokevirtual 185, 3) := by decide +kernel
theorem dX9_score_17 : decode cX9_score 17 = .ok (.ifCond .eq 7, 3) := by decide +kernel
theorem dX9_score_20 : decode cX9_score 20 = .ok (.iconst 0, 1) := by decide +kernel
theorem dX9_score_21 : decode cX9_score 21 = .ok (.goto 8, 3) := by decide +kernel
theorem dX9_score_24 : decode cX9_score 24 = .ok (.aload_n 0, 1) := by decide +kernel
theorem dX9_score_25 : decode cX9_score 25 = .ok (.iload_n 1, 1) := by decide +kernel
theorem dX9_score_26 : decode cX9_score 26 = .ok (.invokevirtual 258, 3) := by decide +kernel
theorem dX9_score_29 : decode cX9_score 29 = .ok (.ireturn, 1) := by decide +kernel
theorem dX9_libertiesOf_0 : decode cX9_libertiesOf 0 = .ok (.aload_n 0, 1) := by decide +kernel
theorem dX9_libertiesOf_1 : decode cX9_libertiesOf 1 = .ok (.aload_n 0, 1) := by decide +kernel
theorem dX9_libertiesOf_2 : decode cX9_libertiesOf 2 = .ok (.iload_n 1, 1) := by decide +kernel
theorem dX9_libertiesOf_3 : decode cX9_libertiesOf 3 = .ok (.invokevirtual 241, 3) := by decide +kernel
theorem dX9_libertiesOf_6 : decode cX9_libertiesOf 6 = .ok (.ifCond .eq 14, 3) := by decide +kernel
theorem dX9_libertiesOf_9 : decode cX9_libertiesOf 9 = .ok (.iload_n 2, 1) := by decide +kernel
theorem dX9_libertiesOf_10 : decode cX9_libertiesOf 10 = .ok (.invokestatic 244, 3) := by decide +kernel
theorem dX9_libertiesOf_13 : decode cX9_libertiesOf 13 = .ok (.ifCond .eq 7, 3) := by decide +kernel
theorem dX9_libertiesOf_16 : decode cX9_libertiesOf 16 = .ok (.iconst 0, 1) := by decide +kernel
theorem dX9_libertiesOf_17 : decode cX9_libertiesOf 17 = .ok (.goto 4, 3) := by decide +kernel
theorem dX9_libertiesOf_20 : decode cX9_libertiesOf 20 = .ok (.iconst 1, 1) := by decide +kernel
theorem dX9_libertiesOf_21 : decode cX9_libertiesOf 21 = .ok (.invokevirtual 185, 3) := by decide +kernel
theorem dX9_libertiesOf_24 : decode cX9_libertiesOf 24 = .ok (.ifCond .eq 5, 3) := by decide +kernel
theorem dX9_libertiesOf_27 : decode cX9_libertiesOf 27 = .ok (.iconst 0, 1) := by decide +kernel
theorem dX9_libertiesOf_28 : decode cX9_libertiesOf 28 = .ok (.ireturn, 1) := by decide +kernel
theorem dX9_libertiesOf_29 : decode cX9_libertiesOf 29 = .ok (.aload_n 0, 1) := by decide +kernel
theorem dX9_libertiesOf_30 : decode cX9_libertiesOf 30 = .ok (.getfield 65, 3) := by decide +kernel
theorem dX9_libertiesOf_33 : decode cX9_libertiesOf 33 = .ok (.aload_n 0, 1) := by decide +kernel
theorem dX9_libertiesOf_34 : decode cX9_libertiesOf 34 = .ok (.getfield 44, 3) := by decide +kernel
theorem dX9_libertiesOf_37 : decode cX9_libertiesOf 37 = .ok (.iload_n 1, 1) := by decide +kernel
theorem dX9_libertiesOf_38 : decode cX9_libertiesOf 38 = .ok (.iaload, 1) := by decide +kernel
theorem dX9_libertiesOf_39 : decode cX9_libertiesOf 39 = .ok (.laload, 1) := by decide +kernel
theorem dX9_libertiesOf_40 : decode cX9_libertiesOf 40 = .ok (.lstore_n 3, 1) := by decide +kernel
theorem dX9_libertiesOf_41 : decode cX9_libertiesOf 41 = .ok (.aload_n 0, 1) := by decide +kernel
theorem dX9_libertiesOf_42 : decode cX9_libertiesOf 42 = .ok (.getfield 69, 3) := by decide +kernel
theorem dX9_libertiesOf_45 : decode cX9_libertiesOf 45 = .ok (.aload_n 0, 1) := by decide +kernel
theorem dX9_libertiesOf_46 : decode cX9_libertiesOf 46 = .ok (.getfield 44, 3) := by decide +kernel
theorem dX9_libertiesOf_49 : decode cX9_libertiesOf 49 = .ok (.iload_n 1, 1) := by decide +kernel
theorem dX9_libertiesOf_50 : decode cX9_libertiesOf 50 = .ok (.iaload, 1) := by decide +kernel
theorem dX9_libertiesOf_51 : decode cX9_libertiesOf 51 = .ok (.laload, 1) := by decide +kernel
theorem dX9_libertiesOf_52 : decode cX9_libertiesOf 52 = .ok (.lstore 5, 2) := by decide +kernel
theorem dX9_libertiesOf_54 : decode cX9_libertiesOf 54 = .ok (.lload_n 3, 1) := by decide +kernel
theorem dX9_libertiesOf_55 : decode cX9_libertiesOf 55 = .ok (.lload 5, 2) := by decide +kernel
theorem dX9_libertiesOf_57 : decode cX9_libertiesOf 57 = .ok (.iload_n 2, 1) := by decide +kernel
theorem dX9_libertiesOf_58 : decode cX9_libertiesOf 58 = .ok (.invokestatic 265, 3) := by decide +kernel
theorem dX9_libertiesOf_61 : decode cX9_libertiesOf 61 = .ok (.lload_n 3, 1) := by decide +kernel
theorem dX9_libertiesOf_62 : decode cX9_libertiesOf 62 = .ok (.lload 5, 2) := by decide +kernel
theorem dX9_libertiesOf_64 : decode cX9_libertiesOf 64 = .ok (.invokestatic 156, 3) := by decide +kernel
theorem dX9_libertiesOf_67 : decode cX9_libertiesOf 67 = .ok (.invokestatic 167, 3) := by decide +kernel
theorem dX9_libertiesOf_70 : decode cX9_libertiesOf 70 = .ok (.ireturn, 1) := by decide +kernel
theorem dX9_chainAt_0 : decode cX9_chainAt 0 = .ok (.iload 4, 2) := by decide +kernel
theorem dX9_chainAt_2 : decode cX9_chainAt 2 = .ok (.invokestatic 160, 3) := by decide +kernel
theorem dX9_chainAt_5 : decode cX9_chainAt 5 = .ok (.lload_n 0, 1) := by decide +kernel
theorem dX9_chainAt_6 : decode cX9_chainAt 6 = .ok (.iload 4, 2) := by decide +kernel
theorem dX9_chainAt_8 : decode cX9_chainAt 8 = .ok (.invokestatic 160, 3) := by decide +kernel
theorem dX9_chainAt_11 : decode cX9_chainAt 11 = .ok (.land, 1) := by decide +kernel
theorem dX9_chainAt_12 : decode cX9_chainAt 12 = .ok (.lconst 0, 1) := by decide +kernel
theorem dX9_chainAt_13 : decode cX9_chainAt 13 = .ok (.lcmp, 1) := by decide +kernel
theorem dX9_chainAt_14 : decode cX9_chainAt 14 = .ok (.ifCond .eq 7, 3) := by decide +kernel
theorem dX9_chainAt_17 : decode cX9_chainAt 17 = .ok (.lload_n 0, 1) := by decide +kernel
theorem dX9_chainAt_18 : decode cX9_chainAt 18 = .ok (.goto 4, 3) := by decide +kernel
theorem dX9_chainAt_21 : decode cX9_chainAt 21 = .ok (.lload_n 2, 1) := by decide +kernel
theorem dX9_chainAt_22 : decode cX9_chainAt 22 = .ok (.invokestatic 152, 3) := by decide +kernel
theorem dX9_chainAt_25 : decode cX9_chainAt 25 = .ok (.lreturn, 1) := by decide +kernel
theorem dX9_liberties_0 : decode cX9_liberties 0 = .ok (.aload_n 0, 1) := by decide +kernel
theorem dX9_liberties_1 : decode cX9_liberties 1 = .ok (.iload_n 1, 1) := by decide +kernel
theorem dX9_liberties_2 : decode cX9_liberties 2 = .ok (.iload_n 2, 1) := by decide +kernel
theorem dX9_liberties_3 : decode cX9_liberties 3 = .ok (.invokevirtual 269, 3) := by decide +kernel
theorem dX9_liberties_6 : decode cX9_liberties 6 = .ok (.ireturn, 1) := by decide +kernel
theorem dX9_flooded_0 : decode cX9_flooded 0 = .ok (.aload_n 0, 1) := by decide +kernel
theorem dX9_flooded_1 : decode cX9_flooded 1 = .ok (.iload_n 1, 1) := by decide +kernel
theorem dX9_flooded_2 : decode cX9_flooded 2 = .ok (.iload_n 2, 1) := by decide +kernel
theorem dX9_flooded_3 : decode cX9_flooded 3 = .ok (.invokevirtual 269, 3) := by decide +kernel
theorem dX9_flooded_6 : decode cX9_flooded 6 = .ok (.ireturn, 1) := by decide +kernel
theorem dX9_finds_0 : decode cX9_finds 0 = .ok (.iconst 0, 1) := by decide +kernel
theorem dX9_finds_1 : decode cX9_finds 1 = .ok (.istore_n 2, 1) := by decide +kernel
theorem dX9_finds_2 : decode cX9_finds 2 = .ok (.iload_n 2, 1) := by decide +kernel
theorem dX9_finds_3 : decode cX9_finds 3 = .ok (.aload_n 0, 1) := by decide +kernel
theorem dX9_finds_4 : decode cX9_finds 4 = .ok (.getfield 130, 3) := by decide +kernel
theorem dX9_finds_7 : decode cX9_finds 7 = .ok (.if_icmp .ge 28, 3) := by decide +kernel
theorem dX9_finds_10 : decode cX9_finds 10 = .ok (.aload_n 0, 1) := by decide +kernel
theorem dX9_finds_11 : decode cX9_finds 11 = .ok (.getfield 13, 3) := by decide +kernel
theorem dX9_finds_14 : decode cX9_finds 14 = .ok (.iload_n 2, 1) := by decide +kernel
theorem dX9_finds_15 : decode cX9_finds 15 = .ok (.aload_n 0, 1) := by decide +kernel
theorem dX9_finds_16 : decode cX9_finds 16 = .ok (.getfield 9, 3) := by decide +kernel
theorem dX9_finds_19 : decode cX9_finds 19 = .ok (.iload_n 2, 1) := by decide +kernel
theorem dX9_finds_20 : decode cX9_finds 20 = .ok (.iaload, 1) := by decide +kernel
theorem dX9_finds_21 : decode cX9_finds 21 = .ok (.iastore, 1) := by decide +kernel
theorem dX9_finds_22 : decode cX9_finds 22 = .ok (.aload_n 0, 1) := by decide +kernel
theorem dX9_finds_23 : decode cX9_finds 23 = .ok (.getfield 16, 3) := by decide +kernel
theorem dX9_finds_26 : decode cX9_finds 26 = .ok (.iload_n 2, 1) := by decide +kernel
theorem dX9_finds_27 : decode cX9_finds 27 = .ok (.iconst 0, 1) := by decide +kernel
theorem dX9_finds_28 : decode cX9_finds 28 = .ok (.iastore, 1) := by decide +kernel
theorem dX9_finds_29 : decode cX9_finds 29 = .ok (.iinc 2 1, 3) := by decide +kernel
theorem dX9_finds_32 : decode cX9_finds 32 = .ok (.goto (-30), 3) := by decide +kernel
theorem dX9_finds_35 : decode cX9_finds 35 = .ok (.iconst 0, 1) := by decide +kernel
theorem dX9_finds_36 : decode cX9_finds 36 = .ok (.istore_n 2, 1) := by decide +kernel
theorem dX9_finds_37 : decode cX9_finds 37 = .ok (.iload_n 2, 1) := by decide +kernel
theorem dX9_finds_38 : decode cX9_finds 38 = .ok (.iload_n 1, 1) := by decide +kernel
theorem dX9_finds_39 : decode cX9_finds 39 = .ok (.if_icmp .ge 33, 3) := by decide +kernel
theorem dX9_finds_42 : decode cX9_finds 42 = .ok (.aload_n 0, 1) := by decide +kernel
theorem dX9_finds_43 : decode cX9_finds 43 = .ok (.getfield 37, 3) := by decide +kernel
theorem dX9_finds_46 : decode cX9_finds 46 = .ok (.aload_n 0, 1) := by decide +kernel
theorem dX9_finds_47 : decode cX9_finds 47 = .ok (.getfield 62, 3) := by decide +kernel
theorem dX9_finds_50 : decode cX9_finds 50 = .ok (.iload_n 2, 1) := by decide +kernel
theorem dX9_finds_51 : decode cX9_finds 51 = .ok (.iaload, 1) := by decide +kernel
theorem dX9_finds_52 : decode cX9_finds 52 = .ok (.baload, 1) := by decide +kernel
theorem dX9_finds_53 : decode cX9_finds 53 = .ok (.ifCond .ne 13, 3) := by decide +kernel
theorem dX9_finds_56 : decode cX9_finds 56 = .ok (.aload_n 0, 1) := by decide +kernel
theorem dX9_finds_57 : decode cX9_finds 57 = .ok (.aload_n 0, 1) := by decide +kernel
theorem dX9_finds_58 : decode cX9_finds 58 = .ok (.getfield 62, 3) := by decide +kernel
theorem dX9_finds_61 : decode cX9_finds 61 = .ok (.iload_n 2, 1) := by decide +kernel
theorem dX9_finds_62 : decode cX9_finds 62 = .ok (.iaload, 1) := by decide +kernel
theorem dX9_finds_63 : decode cX9_finds 63 = .ok (.invokevirtual 222, 3) := by decide +kernel
theorem dX9_finds_66 : decode cX9_finds 66 = .ok (.iinc 2 1, 3) := by decide +kernel
theorem dX9_finds_69 : decode cX9_finds 69 = .ok (.goto (-32), 3) := by decide +kernel
theorem dX9_finds_72 : decode cX9_finds 72 = .ok (.return_, 1) := by decide +kernel
theorem dX9_dueOf_0 : decode cX9_dueOf 0 = .ok (.aload_n 0, 1) := by decide +kernel
theorem dX9_dueOf_1 : decode cX9_dueOf 1 = .ok (.aload_n 0, 1) := by decide +kernel
theorem dX9_dueOf_2 : decode cX9_dueOf 2 = .ok (.getfield 41, 3) := by decide +kernel
theorem dX9_dueOf_5 : decode cX9_dueOf 5 = .ok (.iload_n 1, 1) := by decide +kernel
theorem dX9_dueOf_6 : decode cX9_dueOf 6 = .ok (.iaload, 1) := by decide +kernel
theorem dX9_dueOf_7 : decode cX9_dueOf 7 = .ok (.invokevirtual 272, 3) := by decide +kernel
theorem dX9_dueOf_10 : decode cX9_dueOf 10 = .ok (.aload_n 0, 1) := by decide +kernel
theorem dX9_dueOf_11 : decode cX9_dueOf 11 = .ok (.getfield 19, 3) := by decide +kernel
theorem dX9_dueOf_14 : decode cX9_dueOf 14 = .ok (.iload_n 1, 1) := by decide +kernel
theorem dX9_dueOf_15 : decode cX9_dueOf 15 = .ok (.iaload, 1) := by decide +kernel
theorem dX9_dueOf_16 : decode cX9_dueOf 16 = .ok (.istore_n 2, 1) := by decide +kernel
theorem dX9_dueOf_17 : decode cX9_dueOf 17 = .ok (.aload_n 0, 1) := by decide +kernel
theorem dX9_dueOf_18 : decode cX9_dueOf 18 = .ok (.getfield 22, 3) := by decide +kernel
theorem dX9_dueOf_21 : decode cX9_dueOf 21 = .ok (.iload_n 1, 1) := by decide +kernel
theorem dX9_dueOf_22 : decode cX9_dueOf 22 = .ok (.iaload, 1) := by decide +kernel
theorem dX9_dueOf_23 : decode cX9_dueOf 23 = .ok (.istore_n 3, 1) := by decide +kernel
theorem dX9_dueOf_24 : decode cX9_dueOf 24 = .ok (.bipush 100, 2) := by decide +kernel
theorem dX9_dueOf_26 : decode cX9_dueOf 26 = .ok (.aload_n 0, 1) := by decide +kernel
theorem dX9_dueOf_27 : decode cX9_dueOf 27 = .ok (.iload_n 2, 1) := by decide +kernel
theorem dX9_dueOf_28 : decode cX9_dueOf 28 = .ok (.iload_n 3, 1) := by decide +kernel
theorem dX9_dueOf_29 : decode cX9_dueOf 29 = .ok (.invokevirtual 202, 3) := by decide +kernel
theorem dX9_dueOf_32 : decode cX9_dueOf 32 = .ok (.imul, 1) := by decide +kernel
theorem dX9_dueOf_33 : decode cX9_dueOf 33 = .ok (.bipush 10, 2) := by decide +kernel
theorem dX9_dueOf_35 : decode cX9_dueOf 35 = .ok (.iload_n 2, 1) := by decide +kernel
theorem dX9_dueOf_36 : decode cX9_dueOf 36 = .ok (.iload_n 3, 1) := by decide +kernel
theorem dX9_dueOf_37 : decode cX9_dueOf 37 = .ok (.iadd, 1) := by decide +kernel
theorem dX9_dueOf_38 : decode cX9_dueOf 38 = .ok (.aload_n 0, 1) := by decide +kernel
theorem dX9_dueOf_39 : decode cX9_dueOf 39 = .ok (.iload_n 2, 1) := by decide +kernel
theorem dX9_dueOf_40 : decode cX9_dueOf 40 = .ok (.iload_n 3, 1) := by decide +kernel
theorem dX9_dueOf_41 : decode cX9_dueOf 41 = .ok (.invokevirtual 202, 3) := by decide +kernel
theorem dX9_dueOf_44 : decode cX9_dueOf 44 = .ok (.isub, 1) := by decide +kernel
theorem dX9_dueOf_45 : decode cX9_dueOf 45 = .ok (.imul, 1) := by decide +kernel
theorem dX9_dueOf_46 : decode cX9_dueOf 46 = .ok (.iadd, 1) := by decide +kernel
theorem dX9_dueOf_47 : decode cX9_dueOf 47 = .ok (.aload_n 0, 1) := by decide +kernel
theorem dX9_dueOf_48 : decode cX9_dueOf 48 = .ok (.iload_n 2, 1) := by decide +kernel
theorem dX9_dueOf_49 : decode cX9_dueOf 49 = .ok (.iload_n 3, 1) := by decide +kernel
theorem dX9_dueOf_50 : decode cX9_dueOf 50 = .ok (.invokevirtual 205, 3) := by decide +kernel
theorem dX9_dueOf_53 : decode cX9_dueOf 53 = .ok (.iadd, 1) := by decide +kernel
theorem dX9_dueOf_54 : decode cX9_dueOf 54 = .ok (.istore 4, 2) := by decide +kernel
theorem dX9_dueOf_56 : decode cX9_dueOf 56 = .ok (.aload_n 0, 1) := by decide +kernel
theorem dX9_dueOf_57 : decode cX9_dueOf 57 = .ok (.aload_n 0, 1) := by decide +kernel
theorem dX9_dueOf_58 : decode cX9_dueOf 58 = .ok (.getfield 208, 3) := by decide +kernel
theorem dX9_dueOf_61 : decode cX9_dueOf 61 = .ok (.invokevirtual 272, 3) := by decide +kernel
theorem dX9_dueOf_64 : decode cX9_dueOf 64 = .ok (.iload 4, 2) := by decide +kernel
theorem dX9_dueOf_66 : decode cX9_dueOf 66 = .ok (.ireturn, 1) := by decide +kernel
theorem dX9_isOff_0 : decode cX9_isOff 0 = .ok (.aload_n 0, 1) := by decide +kernel
theorem dX9_isOff_1 : decode cX9_isOff 1 = .ok (.getfield 37, 3) := by decide +kernel
theorem dX9_isOff_4 : decode cX9_isOff 4 = .ok (.iload_n 1, 1) := by decide +kernel
theorem dX9_isOff_5 : decode cX9_isOff 5 = .ok (.baload, 1) := by decide +kernel
theorem dX9_isOff_6 : decode cX9_isOff 6 = .ok (.ifCond .ne 41, 3) := by decide +kernel
theorem dX9_isOff_9 : decode cX9_isOff 9 = .ok (.aload_n 0, 1) := by decide +kernel
theorem dX9_isOff_10 : decode cX9_isOff 10 = .ok (.iload_n 1, 1) := by decide +kernel
theorem dX9_isOff_11 : decode cX9_isOff 11 = .ok (.invokevirtual 275, 3) := by decide +kernel
theorem dX9_isOff_14 : decode cX9_isOff 14 = .ok (.bipush 100, 2) := by decide +kernel
theorem dX9_isOff_16 : decode cX9_isOff 16 = .ok (.aload_n 0, 1) := by decide +kernel
theorem dX9_isOff_17 : decode cX9_isOff 17 = .ok (.getfield 25, 3) := by decide +kernel
theorem dX9_isOff_20 : decode cX9_isOff 20 = .ok (.iload_n 1, 1) := by decide +kernel
theorem dX9_isOff_21 : decode cX9_isOff 21 = .ok (.iaload, 1) := by decide +kernel
theorem dX9_isOff_22 : decode cX9_isOff 22 = .ok (.imul, 1) := by decide +kernel
theorem dX9_isOff_23 : decode cX9_isOff 23 = .ok (.bipush 10, 2) := by decide +kernel
theorem dX9_isOff_25 : decode cX9_isOff 25 = .ok (.aload_n 0, 1) := by decide +kernel
theorem dX9_isOff_26 : decode cX9_isOff 26 = .ok (.getfield 28, 3) := by decide +kernel
theorem dX9_isOff_29 : decode cX9_isOff 29 = .ok (.iload_n 1, 1) := by decide +kernel
theorem dX9_isOff_30 : decode cX9_isOff 30 = .ok (.iaload, 1) := by decide +kernel
theorem dX9_isOff_31 : decode cX9_isOff 31 = .ok (.imul, 1) := by decide +kernel
theorem dX9_isOff_32 : decode cX9_isOff 32 = .ok (.iadd, 1) := by decide +kernel
theorem dX9_isOff_33 : decode cX9_isOff 33 = .ok (.aload_n 0, 1) := by decide +kernel
theorem dX9_isOff_34 : decode cX9_isOff 34 = .ok (.getfield 31, 3) := by decide +kernel
theorem dX9_isOff_37 : decode cX9_isOff 37 = .ok (.iload_n 1, 1) := by decide +kernel
theorem dX9_isOff_38 : decode cX9_isOff 38 = .ok (.iaload, 1) := by decide +kernel
theorem dX9_isOff_39 : decode cX9_isOff 39 = .ok (.iadd, 1) := by decide +kernel
theorem dX9_isOff_40 : decode cX9_isOff 40 = .ok (.if_icmp .eq 7, 3) := by decide +kernel
theorem dX9_isOff_43 : decode cX9_isOff 43 = .ok (.iconst 1, 1) := by decide +kernel
theorem dX9_isOff_44 : decode cX9_isOff 44 = .ok (.goto 4, 3) := by decide +kernel
theorem dX9_isOff_47 : decode cX9_isOff 47 = .ok (.iconst 0, 1) := by decide +kernel
theorem dX9_isOff_48 : decode cX9_isOff 48 = .ok (.ireturn, 1) := by decide +kernel
theorem dX9_off_0 : decode cX9_off 0 = .ok (.iconst 0, 1) := by decide +kernel
theorem dX9_off_1 : decode cX9_off 1 = .ok (.istore_n 1, 1) := by decide +kernel
theorem dX9_off_2 : decode cX9_off 2 = .ok (.iconst 0, 1) := by decide +kernel
theorem dX9_off_3 : decode cX9_off 3 = .ok (.istore_n 2, 1) := by decide +kernel
theorem dX9_off_4 : decode cX9_off 4 = .ok (.iload_n 2, 1) := by decide +kernel
theorem dX9_off_5 : decode cX9_off 5 = .ok (.aload_n 0, 1) := by decide +kernel
theorem dX9_off_6 : decode cX9_off 6 = .ok (.getfield 137, 3) := by decide +kernel
theorem dX9_off_9 : decode cX9_off 9 = .ok (.if_icmp .ge 27, 3) := by decide +kernel
theorem dX9_off_12 : decode cX9_off 12 = .ok (.iload_n 1, 1) := by decide +kernel
theorem dX9_off_13 : decode cX9_off 13 = .ok (.aload_n 0, 1) := by decide +kernel
theorem dX9_off_14 : decode cX9_off 14 = .ok (.iload_n 2, 1) := by decide +kernel
theorem dX9_off_15 : decode cX9_off 15 = .ok (.invokevirtual 278, 3) := by decide +kernel
theorem dX9_off_18 : decode cX9_off 18 = .ok (.ifCond .eq 9, 3) := by decide +kernel
theorem dX9_off_21 : decode cX9_off 21 = .ok (.iconst 1, 1) := by decide +kernel
theorem dX9_off_22 : decode cX9_off 22 = .ok (.iload_n 2, 1) := by decide +kernel
theorem dX9_off_23 : decode cX9_off 23 = .ok (.ishl, 1) := by decide +kernel
theorem dX9_off_24 : decode cX9_off 24 = .ok (.goto 4, 3) := by decide +kernel
theorem dX9_off_27 : decode cX9_off 27 = .ok (.iconst 0, 1) := by decide +kernel
theorem dX9_off_28 : decode cX9_off 28 = .ok (.ior, 1) := by decide +kernel
theorem dX9_off_29 : decode cX9_off 29 = .ok (.istore_n 1, 1) := by decide +kernel
theorem dX9_off_30 : decode cX9_off 30 = .ok (.iinc 2 1, 3) := by decide +kernel
theorem dX9_off_33 : decode cX9_off 33 = .ok (.goto (-29), 3) := by decide +kernel
theorem dX9_off_36 : decode cX9_off 36 = .ok (.iload_n 1, 1) := by decide +kernel
theorem dX9_off_37 : decode cX9_off 37 = .ok (.ireturn, 1) := by decide +kernel
theorem dX9_judge_0 : decode cX9_judge 0 = .ok (.aload_n 0, 1) := by decide +kernel
theorem dX9_judge_1 : decode cX9_judge 1 = .ok (.iload_n 1, 1) := by decide +kernel
theorem dX9_judge_2 : decode cX9_judge 2 = .ok (.invokevirtual 241, 3) := by decide +kernel
theorem dX9_judge_5 : decode cX9_judge 5 = .ok (.istore_n 2, 1) := by decide +kernel
theorem dX9_judge_6 : decode cX9_judge 6 = .ok (.aload_n 0, 1) := by decide +kernel
theorem dX9_judge_7 : decode cX9_judge 7 = .ok (.iload_n 2, 1) := by decide +kernel
theorem dX9_judge_8 : decode cX9_judge 8 = .ok (.ifCond .ne 7, 3) := by decide +kernel
theorem dX9_judge_11 : decode cX9_judge 11 = .ok (.iconst 1, 1) := by decide +kernel
theorem dX9_judge_12 : decode cX9_judge 12 = .ok (.goto 26, 3) := by decide +kernel
theorem dX9_judge_15 : decode cX9_judge 15 = .ok (.aload_n 0, 1) := by decide +kernel
theorem dX9_judge_16 : decode cX9_judge 16 = .ok (.getfield 34, 3) := by decide +kernel
theorem dX9_judge_19 : decode cX9_judge 19 = .ok (.iload_n 1, 1) := by decide +kernel
theorem dX9_judge_20 : decode cX9_judge 20 = .ok (.iaload, 1) := by decide +kernel
theorem dX9_judge_21 : decode cX9_judge 21 = .ok (.ifCond .eq 12, 3) := by decide +kernel
theorem dX9_judge_24 : decode cX9_judge 24 = .ok (.aload_n 0, 1) := by decide +kernel
theorem dX9_judge_25 : decode cX9_judge 25 = .ok (.getfield 37, 3) := by decide +kernel
theorem dX9_judge_28 : decode cX9_judge 28 = .ok (.iload_n 1, 1) := by decide +kernel
theorem dX9_judge_29 : decode cX9_judge 29 = .ok (.baload, 1) := by decide +kernel
theorem dX9_judge_30 : decode cX9_judge 30 = .ok (.ifCond .eq 7, 3) := by decide +kernel
theorem dX9_judge_33 : decode cX9_judge 33 = .ok (.iconst 2, 1) := by decide +kernel
theorem dX9_judge_34 : decode cX9_judge 34 = .ok (.goto 4, 3) := by decide +kernel
theorem dX9_judge_37 : decode cX9_judge 37 = .ok (.iconst 0, 1) := by decide +kernel
theorem dX9_judge_38 : decode cX9_judge 38 = .ok (.invokevirtual 185, 3) := by decide +kernel
theorem dX9_judge_41 : decode cX9_judge 41 = .ok (.ifCond .eq 5, 3) := by decide +kernel
theorem dX9_judge_44 : decode cX9_judge 44 = .ok (.iconst 0, 1) := by decide +kernel
theorem dX9_judge_45 : decode cX9_judge 45 = .ok (.ireturn, 1) := by decide +kernel
theorem dX9_judge_46 : decode cX9_judge 46 = .ok (.aload_n 0, 1) := by decide +kernel
theorem dX9_judge_47 : decode cX9_judge 47 = .ok (.getfield 37, 3) := by decide +kernel
theorem dX9_judge_50 : decode cX9_judge 50 = .ok (.iload_n 1, 1) := by decide +kernel
theorem dX9_judge_51 : decode cX9_judge 51 = .ok (.iconst 1, 1) := by decide +kernel
theorem dX9_judge_52 : decode cX9_judge 52 = .ok (.bastore, 1) := by decide +kernel
theorem dX9_judge_53 : decode cX9_judge 53 = .ok (.aload_n 0, 1) := by decide +kernel
theorem dX9_judge_54 : decode cX9_judge 54 = .ok (.aload_n 0, 1) := by decide +kernel
theorem dX9_judge_55 : decode cX9_judge 55 = .ok (.getfield 208, 3) := by decide +kernel
theorem dX9_judge_58 : decode cX9_judge 58 = .ok (.invokevirtual 272, 3) := by decide +kernel
theorem dX9_judge_61 : decode cX9_judge 61 = .ok (.aload_n 0, 1) := by decide +kernel
theorem dX9_judge_62 : decode cX9_judge 62 = .ok (.invokevirtual 281, 3) := by decide +kernel
theorem dX9_judge_65 : decode cX9_judge 65 = .ok (.ireturn, 1) := by decide +kernel
theorem dX9_due_0 : decode cX9_due 0 = .ok (.aload_n 0, 1) := by decide +kernel
theorem dX9_due_1 : decode cX9_due 1 = .ok (.aload_n 0, 1) := by decide +kernel
theorem dX9_due_2 : decode cX9_due 2 = .ok (.iload_n 1, 1) := by decide +kernel
theorem dX9_due_3 : decode cX9_due 3 = .ok (.invokevirtual 241, 3) := by decide +kernel
theorem dX9_due_6 : decode cX9_due 6 = .ok (.ifCond .eq 7, 3) := by decide +kernel
theorem dX9_due_9 : decode cX9_due 9 = .ok (.iconst 0, 1) := by decide +kernel
theorem dX9_due_10 : decode cX9_due 10 = .ok (.goto 4, 3) := by decide +kernel
theorem dX9_due_13 : decode cX9_due 13 = .ok (.iconst 1, 1) := by decide +kernel
theorem dX9_due_14 : decode cX9_due 14 = .ok (.invokevirtual 185, 3) := by decide +kernel
theorem dX9_due_17 : decode cX9_due 17 = .ok (.ifCond .eq 7, 3) := by decide +kernel
theorem dX9_due_20 : decode cX9_due 20 = .ok (.iconst 0, 1) := by decide +kernel
theorem dX9_due_21 : decode cX9_due 21 = .ok (.goto 8, 3) := by decide +kernel
theorem dX9_due_24 : decode cX9_due 24 = .ok (.aload_n 0, 1) := by decide +kernel
theorem dX9_due_25 : decode cX9_due 25 = .ok (.iload_n 1, 1) := by decide +kernel
theorem dX9_due_26 : decode cX9_due 26 = .ok (.invokevirtual 275, 3) := by decide +kernel
theorem dX9_due_29 : decode cX9_due 29 = .ok (.ireturn, 1) := by decide +kernel
theorem dX9_settle_0 : decode cX9_settle 0 = .ok (.aload_n 0, 1) := by decide +kernel
theorem dX9_settle_1 : decode cX9_settle 1 = .ok (.iconst 0, 1) := by decide +kernel
theorem dX9_settle_2 : decode cX9_settle 2 = .ok (.putfield 126, 3) := by decide +kernel
theorem dX9_settle_5 : decode cX9_settle 5 = .ok (.iconst 0, 1) := by decide +kernel
theorem dX9_settle_6 : decode cX9_settle 6 = .ok (.istore_n 1, 1) := by decide +kernel
theorem dX9_settle_7 : decode cX9_settle 7 = .ok (.aload_n 0, 1) := by decide +kernel
theorem dX9_settle_8 : decode cX9_settle 8 = .ok (.invokevirtual 281, 3) := by decide +kernel
theorem dX9_settle_11 : decode cX9_settle 11 = .ok (.istore_n 2, 1) := by decide +kernel
theorem dX9_settle_12 : decode cX9_settle 12 = .ok (.iload_n 2, 1) := by decide +kernel
theorem dX9_settle_13 : decode cX9_settle 13 = .ok (.ifCond .eq 81, 3) := by decide +kernel
theorem dX9_settle_16 : decode cX9_settle 16 = .ok (.iconst 0, 1) := by decide +kernel
theorem dX9_settle_17 : decode cX9_settle 17 = .ok (.istore_n 3, 1) := by decide +kernel
theorem dX9_settle_18 : decode cX9_settle 18 = .ok (.iload_n 2, 1) := by decide +kernel
theorem dX9_settle_19 : decode cX9_settle 19 = .ok (.iload_n 3, 1) := by decide +kernel
theorem dX9_settle_20 : decode cX9_settle 20 = .ok (.ishr, 1) := by decide +kernel
theorem dX9_settle_21 : decode cX9_settle 21 = .ok (.iconst 1, 1) := by decide +kernel
theorem dX9_settle_22 : decode cX9_settle 22 = .ok (.iand, 1) := by decide +kernel
theorem dX9_settle_23 : decode cX9_settle 23 = .ok (.ifCond .ne 9, 3) := by decide +kernel
theorem dX9_settle_26 : decode cX9_settle 26 = .ok (.iinc 3 1, 3) := by decide +kernel
theorem dX9_settle_29 : decode cX9_settle 29 = .ok (.goto (-11), 3) := by decide +kernel
theorem dX9_settle_32 : decode cX9_settle 32 = .ok (.aload_n 0, 1) := by decide +kernel
theorem dX9_settle_33 : decode cX9_settle 33 = .ok (.getfield 37, 3) := by decide +kernel
theorem dX9_settle_36 : decode cX9_settle 36 = .ok (.iload_n 3, 1) := by decide +kernel
theorem dX9_settle_37 : decode cX9_settle 37 = .ok (.iconst 1, 1) := by decide +kernel
theorem dX9_settle_38 : decode cX9_settle 38 = .ok (.bastore, 1) := by decide +kernel
theorem dX9_settle_39 : decode cX9_settle 39 = .ok (.aload_n 0, 1) := by decide +kernel
theorem dX9_settle_40 : decode cX9_settle 40 = .ok (.getfield 34, 3) := by decide +kernel
theorem dX9_settle_43 : decode cX9_settle 43 = .ok (.iload_n 3, 1) := by decide +kernel
theorem dX9_settle_44 : decode cX9_settle 44 = .ok (.iaload, 1) := by decide +kernel
theorem dX9_settle_45 : decode cX9_settle 45 = .ok (.ifCond .ne 30, 3) := by decide +kernel
theorem dX9_settle_48 : decode cX9_settle 48 = .ok (.aload_n 0, 1) := by decide +kernel
theorem dX9_settle_49 : decode cX9_settle 49 = .ok (.getfield 34, 3) := by decide +kernel
theorem dX9_settle_52 : decode cX9_settle 52 = .ok (.iload_n 3, 1) := by decide +kernel
theorem dX9_settle_53 : decode cX9_settle 53 = .ok (.iconst 2, 1) := by decide +kernel
theorem dX9_settle_54 : decode cX9_settle 54 = .ok (.iastore, 1) := by decide +kernel
theorem dX9_settle_55 : decode cX9_settle 55 = .ok (.aload_n 0, 1) := by decide +kernel
theorem dX9_settle_56 : decode cX9_settle 56 = .ok (.getfield 62, 3) := by decide +kernel
theorem dX9_settle_59 : decode cX9_settle 59 = .ok (.aload_n 0, 1) := by decide +kernel
theorem dX9_settle_60 : decode cX9_settle 60 = .ok (.getfield 208, 3) := by decide +kernel
theorem dX9_settle_63 : decode cX9_settle 63 = .ok (.iload_n 3, 1) := by decide +kernel
theorem dX9_settle_64 : decode cX9_settle 64 = .ok (.iastore, 1) := by decide +kernel
theorem dX9_settle_65 : decode cX9_settle 65 = .ok (.aload_n 0, 1) := by decide +kernel
theorem dX9_settle_66 : decode cX9_settle 66 = .ok (.dup, 1) := by decide +kernel
theorem dX9_settle_67 : decode cX9_settle 67 = .ok (.getfield 208, 3) := by decide +kernel
theorem dX9_settle_70 : decode cX9_settle 70 = .ok (.iconst 1, 1) := by decide +kernel
theorem dX9_settle_71 : decode cX9_settle 71 = .ok (.iadd, 1) := by decide +kernel
theorem dX9_settle_72 : decode cX9_settle 72 = .ok (.putfield 208, 3) := by decide +kernel
theorem dX9_settle_75 : decode cX9_settle 75 = .ok (.aload_n 0, 1) := by decide +kernel
theorem dX9_settle_76 : decode cX9_settle 76 = .ok (.aload_n 0, 1) := by decide +kernel
theorem dX9_settle_77 : decode cX9_settle 77 = .ok (.getfield 208, 3) := by decide +kernel
theorem dX9_settle_80 : decode cX9_settle 80 = .ok (.invokevirtual 272, 3) := by decide +kernel
theorem dX9_settle_83 : decode cX9_settle 83 = .ok (.iinc 1 1, 3) := by decide +kernel
theorem dX9_settle_86 : decode cX9_settle 86 = .ok (.aload_n 0, 1) := by decide +kernel
theorem dX9_settle_87 : decode cX9_settle 87 = .ok (.invokevirtual 281, 3) := by decide +kernel
theorem dX9_settle_90 : decode cX9_settle 90 = .ok (.istore_n 2, 1) := by decide +kernel
theorem dX9_settle_91 : decode cX9_settle 91 = .ok (.goto (-79), 3) := by decide +kernel
theorem dX9_settle_94 : decode cX9_settle 94 = .ok (.iload_n 1, 1) := by decide +kernel
theorem dX9_settle_95 : decode cX9_settle 95 = .ok (.ireturn, 1) := by decide +kernel
theorem dX9_attacks_0 : decode cX9_attacks 0 = .ok (.lload_n 1, 1) := by decide +kernel
theorem dX9_attacks_1 : decode cX9_attacks 1 = .ok (.lload_n 3, 1) := by decide +kernel
theorem dX9_attacks_2 : decode cX9_attacks 2 = .ok (.iload 5, 2) := by decide +kernel
theorem dX9_attacks_4 : decode cX9_attacks 4 = .ok (.invokestatic 265, 3) := by decide +kernel
theorem dX9_attacks_7 : decode cX9_attacks 7 = .ok (.lstore 7, 2) := by decide +kernel
theorem dX9_attacks_9 : decode cX9_attacks 9 = .ok (.lload 7, 2) := by decide +kernel
theorem dX9_attacks_11 : decode cX9_attacks 11 = .ok (.lload_n 1, 1) := by decide +kernel
theorem dX9_attacks_12 : decode cX9_attacks 12 = .ok (.lload_n 3, 1) := by decide +kernel
theorem dX9_attacks_13 : decode cX9_attacks 13 = .ok (.invokestatic 156, 3) := by decide +kernel
theorem dX9_attacks_16 : decode cX9_attacks 16 = .ok (.lstore 9, 2) := by decide +kernel
theorem dX9_attacks_18 : decode cX9_attacks 18 = .ok (.lload 9, 2) := by decide +kernel
theorem dX9_attacks_20 : decode cX9_attacks 20 = .ok (.invokestatic 167, 3) := by decide +kernel
theorem dX9_attacks_23 : decode cX9_attacks 23 = .ok (.iload 6, 2) := by decide +kernel
theorem dX9_attacks_25 : decode cX9_attacks 25 = .ok (.if_icmp .le 5, 3) := by decide +kernel
theorem dX9_attacks_28 : decode cX9_attacks 28 = .ok (.lconst 0, 1) := by decide +kernel
theorem dX9_attacks_29 : decode cX9_attacks 29 = .ok (.lreturn, 1) := by decide +kernel
theorem dX9_attacks_30 : decode cX9_attacks 30 = .ok (.iload 6, 2) := by decide +kernel
theorem dX9_attacks_32 : decode cX9_attacks 32 = .ok (.iconst 2, 1) := by decide +kernel
theorem dX9_attacks_33 : decode cX9_attacks 33 = .ok (.if_icmp .ne 8, 3) := by decide +kernel
theorem dX9_attacks_36 : decode cX9_attacks 36 = .ok (.lload 9, 2) := by decide +kernel
theorem dX9_attacks_38 : decode cX9_attacks 38 = .ok (.goto 19, 3) := by decide +kernel
theorem dX9_attacks_41 : decode cX9_attacks 41 = .ok (.lload 9, 2) := by decide +kernel
theorem dX9_attacks_43 : decode cX9_attacks 43 = .ok (.lload 9, 2) := by decide +kernel
theorem dX9_attacks_45 : decode cX9_attacks 45 = .ok (.invokestatic 146, 3) := by decide +kernel
theorem dX9_attacks_48 : decode cX9_attacks 48 = .ok (.lload_n 1, 1) := by decide +kernel
theorem dX9_attacks_49 : decode cX9_attacks 49 = .ok (.lload_n 3, 1) := by decide +kernel
theorem dX9_attacks_50 : decode cX9_attacks 50 = .ok (.lor, 1) := by decide +kernel
theorem dX9_attacks_51 : decode cX9_attacks 51 = .ok (.ldc2_w 150, 3) := by decide +kernel
theorem dX9_attacks_54 : decode cX9_attacks 54 = .ok (.lxor, 1) := by decide +kernel
theorem dX9_attacks_55 : decode cX9_attacks 55 = .ok (.land, 1) := by decide +kernel
theorem dX9_attacks_56 : decode cX9_attacks 56 = .ok (.lor, 1) := by decide +kernel
theorem dX9_attacks_57 : decode cX9_attacks 57 = .ok (.lreturn, 1) := by decide +kernel
theorem dX9_replies_0 : decode cX9_replies 0 = .ok (.lload_n 1, 1) := by decide +kernel
theorem dX9_replies_1 : decode cX9_replies 1 = .ok (.lload_n 3, 1) := by decide +kernel
theorem dX9_replies_2 : decode cX9_replies 2 = .ok (.iload 5, 2) := by decide +kernel
theorem dX9_replies_4 : decode cX9_replies 4 = .ok (.invokestatic 265, 3) := by decide +kernel
theorem dX9_replies_7 : decode cX9_replies 7 = .ok (.lstore 7, 2) := by decide +kernel
theorem dX9_replies_9 : decode cX9_replies 9 = .ok (.iload 6, 2) := by decide +kernel
theorem dX9_replies_11 : decode cX9_replies 11 = .ok (.ifCond .ne 7, 3) := by decide +kernel
theorem dX9_replies_14 : decode cX9_replies 14 = .ok (.lload_n 3, 1) := by decide +kernel
theorem dX9_replies_15 : decode cX9_replies 15 = .ok (.goto 4, 3) := by decide +kernel
theorem dX9_replies_18 : decode cX9_replies 18 = .ok (.lload_n 1, 1) := by decide +kernel
theorem dX9_replies_19 : decode cX9_replies 19 = .ok (.lstore 9, 2) := by decide +kernel
theorem dX9_replies_21 : decode cX9_replies 21 = .ok (.lload 7, 2) := by decide +kernel
theorem dX9_replies_23 : decode cX9_replies 23 = .ok (.lload_n 1, 1) := by decide +kernel
theorem dX9_replies_24 : decode cX9_replies 24 = .ok (.lload_n 3, 1) := by decide +kernel
theorem dX9_replies_25 : decode cX9_replies 25 = .ok (.invokestatic 156, 3) := by decide +kernel
theorem dX9_replies_28 : decode cX9_replies 28 = .ok (.lstore 11, 2) := by decide +kernel
theorem dX9_replies_30 : decode cX9_replies 30 = .ok (.lload 7, 2) := by decide +kernel
theorem dX9_replies_32 : decode cX9_replies 32 = .ok (.invokestatic 146, 3) := by decide +kernel
theorem dX9_replies_35 : decode cX9_replies 35 = .ok (.lload 9, 2) := by decide +kernel
theorem dX9_replies_37 : decode cX9_replies 37 = .ok (.land, 1) := by decide +kernel
theorem dX9_replies_38 : decode cX9_replies 38 = .ok (.lstore 13, 2) := by decide +kernel
theorem dX9_replies_40 : decode cX9_replies 40 = .ok (.lload 13, 2) := by decide +kernel
theorem dX9_replies_42 : decode cX9_replies 42 = .ok (.lconst 0, 1) := by decide +kernel
theorem dX9_replies_43 : decode cX9_replies 43 = .ok (.lcmp, 1) := by decide +kernel
theorem dX9_replies_44 : decode cX9_replies 44 = .ok (.ifCond .eq 59, 3) := by decide +kernel
theorem dX9_replies_47 : decode cX9_replies 47 = .ok (.lload 13, 2) := by decide +kernel
theorem dX9_replies_49 : decode cX9_replies 49 = .ok (.lload 13, 2) := by decide +kernel
theorem dX9_replies_51 : decode cX9_replies 51 = .ok (.lneg, 1) := by decide +kernel
theorem dX9_replies_52 : decode cX9_replies 52 = .ok (.land, 1) := by decide +kernel
theorem dX9_replies_53 : decode cX9_replies 53 = .ok (.lload 9, 2) := by decide +kernel
theorem dX9_replies_55 : decode cX9_replies 55 = .ok (.invokestatic 152, 3) := by decide +kernel
theorem dX9_replies_58 : decode cX9_replies 58 = .ok (.lstore 15, 2) := by decide +kernel
theorem dX9_replies_60 : decode cX9_replies 60 = .ok (.lload 13, 2) := by decide +kernel
theorem dX9_replies_62 : decode cX9_replies 62 = .ok (.lload 15, 2) := by decide +kernel
theorem dX9_replies_64 : decode cX9_replies 64 = .ok (.ldc2_w 150, 3) := by decide +kernel
theorem dX9_replies_67 : decode cX9_replies 67 = .ok (.lxor, 1) := by decide +kernel
theorem dX9_replies_68 : decode cX9_replies 68 = .ok (.land, 1) := by decide +kernel
theorem dX9_replies_69 : decode cX9_replies 69 = .ok (.lstore 13, 2) := by decide +kernel
theorem dX9_replies_71 : decode cX9_replies 71 = .ok (.lload 15, 2) := by decide +kernel
theorem dX9_replies_73 : decode cX9_replies 73 = .ok (.lload_n 1, 1) := by decide +kernel
theorem dX9_replies_74 : decode cX9_replies 74 = .ok (.lload_n 3, 1) := by decide +kernel
theorem dX9_replies_75 : decode cX9_replies 75 = .ok (.invokestatic 156, 3) := by decide +kernel
theorem dX9_replies_78 : decode cX9_replies 78 = .ok (.lstore 17, 2) := by decide +kernel
theorem dX9_replies_80 : decode cX9_replies 80 = .ok (.lload 11, 2) := by decide +kernel
theorem dX9_replies_82 : decode cX9_replies 82 = .ok (.lload 17, 2) := by decide +kernel
theorem dX9_replies_84 : decode cX9_replies 84 = .ok (.invokestatic 167, 3) := by decide +kernel
theorem dX9_replies_87 : decode cX9_replies 87 = .ok (.iconst 1, 1) := by decide +kernel
theorem dX9_replies_88 : decode cX9_replies 88 = .ok (.if_icmp .ne 8, 3) := by decide +kernel
theorem dX9_replies_91 : decode cX9_replies 91 = .ok (.lload 17, 2) := by decide +kernel
theorem dX9_replies_93 : decode cX9_replies 93 = .ok (.goto 4, 3) := by decide +kernel
theorem dX9_replies_96 : decode cX9_replies 96 = .ok (.lconst 0, 1) := by decide +kernel
theorem dX9_replies_97 : decode cX9_replies 97 = .ok (.lor, 1) := by decide +kernel
theorem dX9_replies_98 : decode cX9_replies 98 = .ok (.lstore 11, 2) := by decide +kernel
theorem dX9_replies_100 : decode cX9_replies 100 = .ok (.goto (-60), 3) := by decide +kernel
theorem dX9_replies_103 : decode cX9_replies 103 = .ok (.lload 11, 2) := by decide +kernel
theorem dX9_replies_105 : decode cX9_replies 105 = .ok (.lreturn, 1) := by decide +kernel
theorem dX9_lowest_0 : decode cX9_lowest 0 = .ok (.lload_n 0, 1) := by decide +kernel
theorem dX9_lowest_1 : decode cX9_lowest 1 = .ok (.lload_n 0, 1) := by decide +kernel
theorem dX9_lowest_2 : decode cX9_lowest 2 = .ok (.lneg, 1) := by decide +kernel
theorem dX9_lowest_3 : decode cX9_lowest 3 = .ok (.land, 1) := by decide +kernel
theorem dX9_lowest_4 : decode cX9_lowest 4 = .ok (.lconst 1, 1) := by decide +kernel
theorem dX9_lowest_5 : decode cX9_lowest 5 = .ok (.lsub, 1) := by decide +kernel
theorem dX9_lowest_6 : decode cX9_lowest 6 = .ok (.invokestatic 167, 3) := by decide +kernel
theorem dX9_lowest_9 : decode cX9_lowest 9 = .ok (.ireturn, 1) := by decide +kernel
theorem dX9_libertiesAt_0 : decode cX9_libertiesAt 0 = .ok (.lload_n 1, 1) := by decide +kernel
theorem dX9_libertiesAt_1 : decode cX9_libertiesAt 1 = .ok (.lload_n 3, 1) := by decide +kernel
theorem dX9_libertiesAt_2 : decode cX9_libertiesAt 2 = .ok (.iload 5, 2) := by decide +kernel
theorem dX9_libertiesAt_4 : decode cX9_libertiesAt 4 = .ok (.invokestatic 265, 3) := by decide +kernel
theorem dX9_libertiesAt_7 : decode cX9_libertiesAt 7 = .ok (.lload_n 1, 1) := by decide +kernel
theorem dX9_libertiesAt_8 : decode cX9_libertiesAt 8 = .ok (.lload_n 3, 1) := by decide +kernel
theorem dX9_libertiesAt_9 : decode cX9_libertiesAt 9 = .ok (.invokestatic 156, 3) := by decide +kernel
theorem dX9_libertiesAt_12 : decode cX9_libertiesAt 12 = .ok (.invokestatic 167, 3) := by decide +kernel
theorem dX9_libertiesAt_15 : decode cX9_libertiesAt 15 = .ok (.ireturn, 1) := by decide +kernel
theorem dX9_allowed_0 : decode cX9_allowed 0 = .ok (.lconst 0, 1) := by decide +kernel
theorem dX9_allowed_1 : decode cX9_allowed 1 = .ok (.lstore 8, 2) := by decide +kernel
theorem dX9_allowed_3 : decode cX9_allowed 3 = .ok (.lload 6, 2) := by decide +kernel
theorem dX9_allowed_5 : decode cX9_allowed 5 = .ok (.lstore 10, 2) := by decide +kernel
theorem dX9_allowed_7 : decode cX9_allowed 7 = .ok (.lload 10, 2) := by decide +kernel
theorem dX9_allowed_9 : decode cX9_allowed 9 = .ok (.lconst 0, 1) := by decide +kernel
theorem dX9_allowed_10 : decode cX9_allowed 10 = .ok (.lcmp, 1) := by decide +kernel
theorem dX9_allowed_11 : decode cX9_allowed 11 = .ok (.ifCond .eq 53, 3) := by decide +kernel
theorem dX9_allowed_14 : decode cX9_allowed 14 = .ok (.lload 10, 2) := by decide +kernel
theorem dX9_allowed_16 : decode cX9_allowed 16 = .ok (.invokestatic 285, 3) := by decide +kernel
theorem dX9_allowed_19 : decode cX9_allowed 19 = .ok (.istore 12, 2) := by decide +kernel
theorem dX9_allowed_21 : decode cX9_allowed 21 = .ok (.aload_n 0, 1) := by decide +kernel
theorem dX9_allowed_22 : decode cX9_allowed 22 = .ok (.lload_n 1, 1) := by decide +kernel
theorem dX9_allowed_23 : decode cX9_allowed 23 = .ok (.lload_n 3, 1) := by decide +kernel
theorem dX9_allowed_24 : decode cX9_allowed 24 = .ok (.iload 5, 2) := by decide +kernel
theorem dX9_allowed_26 : decode cX9_allowed 26 = .ok (.iload 12, 2) := by decide +kernel
theorem dX9_allowed_28 : decode cX9_allowed 28 = .ok (.invokevirtual 233, 3) := by decide +kernel
theorem dX9_allowed_31 : decode cX9_allowed 31 = .ok (.lload 8, 2) := by decide +kernel
theorem dX9_allowed_33 : decode cX9_allowed 33 = .ok (.aload_n 0, 1) := by decide +kernel
theorem dX9_allowed_34 : decode cX9_allowed 34 = .ok (.getfield 174, 3) := by decide +kernel
theorem dX9_allowed_37 : decode cX9_allowed 37 = .ok (.ifCond .eq 7, 3) := by decide +kernel
theorem dX9_allowed_40 : decode cX9_allowed 40 = .ok (.lconst 0, 1) := by decide +kernel
theorem dX9_allowed_41 : decode cX9_allowed 41 = .ok (.goto 8, 3) := by decide +kernel
theorem dX9_allowed_44 : decode cX9_allowed 44 = .ok (.iload 12, 2) := by decide +kernel
theorem dX9_allowed_46 : decode cX9_allowed 46 = .ok (.invokestatic 160, 3) := by decide +kernel
theorem dX9_allowed_49 : decode cX9_allowed 49 = .ok (.lor, 1) := by decide +kernel
theorem dX9_allowed_50 : decode cX9_allowed 50 = .ok (.lstore 8, 2) := by decide +kernel
theorem dX9_allowed_52 : decode cX9_allowed 52 = .ok (.lload 10, 2) := by decide +kernel
theorem dX9_allowed_54 : decode cX9_allowed 54 = .ok (.lload 10, 2) := by decide +kernel
theorem dX9_allowed_56 : decode cX9_allowed 56 = .ok (.lconst 1, 1) := by decide +kernel
theorem dX9_allowed_57 : decode cX9_allowed 57 = .ok (.lsub, 1) := by decide +kernel
theorem dX9_allowed_58 : decode cX9_allowed 58 = .ok (.land, 1) := by decide +kernel
theorem dX9_allowed_59 : decode cX9_allowed 59 = .ok (.lstore 10, 2) := by decide +kernel
theorem dX9_allowed_61 : decode cX9_allowed 61 = .ok (.goto (-54), 3) := by decide +kernel
theorem dX9_allowed_64 : decode cX9_allowed 64 = .ok (.lload 8, 2) := by decide +kernel
theorem dX9_allowed_66 : decode cX9_allowed 66 = .ok (.lreturn, 1) := by decide +kernel
theorem dX9_catches_0 : decode cX9_catches 0 = .ok (.lload_n 1, 1) := by decide +kernel
theorem dX9_catches_1 : decode cX9_catches 1 = .ok (.iload 5, 2) := by decide +kernel
theorem dX9_catches_3 : decode cX9_catches 3 = .ok (.invokestatic 160, 3) := by decide +kernel
theorem dX9_catches_6 : decode cX9_catches 6 = .ok (.land, 1) := by decide +kernel
theorem dX9_catches_7 : decode cX9_catches 7 = .ok (.lconst 0, 1) := by decide +kernel
theorem dX9_catches_8 : decode cX9_catches 8 = .ok (.lcmp, 1) := by decide +kernel
theorem dX9_catches_9 : decode cX9_catches 9 = .ok (.ifCond .eq 7, 3) := by decide +kernel
theorem dX9_catches_12 : decode cX9_catches 12 = .ok (.iconst 0, 1) := by decide +kernel
theorem dX9_catches_13 : decode cX9_catches 13 = .ok (.goto 4, 3) := by decide +kernel
theorem dX9_catches_16 : decode cX9_catches 16 = .ok (.iconst 1, 1) := by decide +kernel
theorem dX9_catches_17 : decode cX9_catches 17 = .ok (.istore 8, 2) := by decide +kernel
theorem dX9_catches_19 : decode cX9_catches 19 = .ok (.iconst 0, 1) := by decide +kernel
theorem dX9_catches_20 : decode cX9_catches 20 = .ok (.istore 9, 2) := by decide +kernel
theorem dX9_catches_22 : decode cX9_catches 22 = .ok (.aload_n 0, 1) := by decide +kernel
theorem dX9_catches_23 : decode cX9_catches 23 = .ok (.getfield 75, 3) := by decide +kernel
theorem dX9_catches_26 : decode cX9_catches 26 = .ok (.iconst 0, 1) := by decide +kernel
theorem dX9_catches_27 : decode cX9_catches 27 = .ok (.lload_n 1, 1) := by decide +kernel
theorem dX9_catches_28 : decode cX9_catches 28 = .ok (.lastore, 1) := by decide +kernel
theorem dX9_catches_29 : decode cX9_catches 29 = .ok (.aload_n 0, 1) := by decide +kernel
theorem dX9_catches_30 : decode cX9_catches 30 = .ok (.getfield 78, 3) := by decide +kernel
theorem dX9_catches_33 : decode cX9_catches 33 = .ok (.iconst 0, 1) := by decide +kernel
theorem dX9_catches_34 : decode cX9_catches 34 = .ok (.lload_n 3, 1) := by decide +kernel
theorem dX9_catches_35 : decode cX9_catches 35 = .ok (.lastore, 1) := by decide +kernel
theorem dX9_catches_36 : decode cX9_catches 36 = .ok (.iconst 0, 1) := by decide +kernel
theorem dX9_catches_37 : decode cX9_catches 37 = .ok (.istore 10, 2) := by decide +kernel
theorem dX9_catches_39 : decode cX9_catches 39 = .ok (.iload 6, 2) := by decide +kernel
theorem dX9_catches_41 : decode cX9_catches 41 = .ok (.iload 9, 2) := by decide +kernel
theorem dX9_catches_43 : decode cX9_catches 43 = .ok (.isub, 1) := by decide +kernel
theorem dX9_catches_44 : decode cX9_catches 44 = .ok (.istore 11, 2) := by decide +kernel
theorem dX9_catches_46 : decode cX9_catches 46 = .ok (.iload 10, 2) := by decide +kernel
theorem dX9_catches_48 : decode cX9_catches 48 = .ok (.ifCond .ne 80, 3) := by decide +kernel
theorem dX9_catches_51 : decode cX9_catches 51 = .ok (.aload_n 0, 1) := by decide +kernel
theorem dX9_catches_52 : decode cX9_catches 52 = .ok (.aload_n 0, 1) := by decide +kernel
theorem dX9_catches_53 : decode cX9_catches 53 = .ok (.getfield 75, 3) := by decide +kernel
theorem dX9_catches_56 : decode cX9_catches 56 = .ok (.iload 9, 2) := by decide +kernel
theorem dX9_catches_58 : decode cX9_catches 58 = .ok (.laload, 1) := by decide +kernel
theorem dX9_catches_59 : decode cX9_catches 59 = .ok (.aload_n 0, 1) := by decide +kernel
theorem dX9_catches_60 : decode cX9_catches 60 = .ok (.getfield 78, 3) := by decide +kernel
theorem dX9_catches_63 : decode cX9_catches 63 = .ok (.iload 9, 2) := by decide +kernel
theorem dX9_catches_65 : decode cX9_catches 65 = .ok (.laload, 1) := by decide +kernel
theorem dX9_catches_66 : decode cX9_catches 66 = .ok (.iload 5, 2) := by decide +kernel
theorem dX9_catches_68 : decode cX9_catches 68 = .ok (.invokevirtual 288, 3) := by decide +kernel
theorem dX9_catches_71 : decode cX9_catches 71 = .ok (.istore 12, 2) := by decide +kernel
theorem dX9_catches_73 : decode cX9_catches 73 = .ok (.aload_n 0, 1) := by decide +kernel
theorem dX9_catches_74 : decode cX9_catches 74 = .ok (.getfield 81, 3) := by decide +kernel
theorem dX9_catches_77 : decode cX9_catches 77 = .ok (.iload 9, 2) := by decide +kernel
theorem dX9_catches_79 : decode cX9_catches 79 = .ok (.iload 11, 2) := by decide +kernel
theorem dX9_catches_81 : decode cX9_catches 81 = .ok (.iconst 1, 1) := by decide +kernel
theorem dX9_catches_82 : decode cX9_catches 82 = .ok (.if_icmp .le 28, 3) := by decide +kernel
theorem dX9_catches_85 : decode cX9_catches 85 = .ok (.aload_n 0, 1) := by decide +kernel
theorem dX9_catches_86 : decode cX9_catches 86 = .ok (.aload_n 0, 1) := by decide +kernel
theorem dX9_catches_87 : decode cX9_catches 87 = .ok (.getfield 75, 3) := by decide +kernel
theorem dX9_catches_90 : decode cX9_catches 90 = .ok (.iload 9, 2) := by decide +kernel
theorem dX9_catches_92 : decode cX9_catches 92 = .ok (.laload, 1) := by decide +kernel
theorem dX9_catches_93 : decode cX9_catches 93 = .ok (.aload_n 0, 1) := by decide +kernel
theorem dX9_catches_94 : decode cX9_catches 94 = .ok (.getfield 78, 3) := by decide +kernel
theorem dX9_catches_97 : decode cX9_catches 97 = .ok (.iload 9, 2) := by decide +kernel
theorem dX9_catches_99 : decode cX9_catches 99 = .ok (.laload, 1) := by decide +kernel
theorem dX9_catches_100 : decode cX9_catches 100 = .ok (.iload 5, 2) := by decide +kernel
theorem dX9_catches_102 : decode cX9_catches 102 = .ok (.iload 7, 2) := by decide +kernel
theorem dX9_catches_104 : decode cX9_catches 104 = .ok (.invokevirtual 291, 3) := by decide +kernel
theorem dX9_catches_107 : decode cX9_catches 107 = .ok (.goto 4, 3) := by decide +kernel
theorem dX9_catches_110 : decode cX9_catches 110 = .ok (.lconst 0, 1) := by decide +kernel
theorem dX9_catches_111 : decode cX9_catches 111 = .ok (.lastore, 1) := by decide +kernel
theorem dX9_catches_112 : decode cX9_catches 112 = .ok (.iload 12, 2) := by decide +kernel
theorem dX9_catches_114 : decode cX9_catches 114 = .ok (.iconst 1, 1) := by decide +kernel
theorem dX9_catches_115 : decode cX9_catches 115 = .ok (.if_icmp .ne 7, 3) := by decide +kernel
theorem dX9_catches_118 : decode cX9_catches 118 = .ok (.iconst 3, 1) := by decide +kernel
theorem dX9_catches_119 : decode cX9_catches 119 = .ok (.goto 4, 3) := by decide +kernel
theorem dX9_catches_122 : decode cX9_catches 122 = .ok (.iconst 1, 1) := by decide +kernel
theorem dX9_catches_123 : decode cX9_catches 123 = .ok (.istore 10, 2) := by decide +kernel
theorem dX9_catches_125 : decode cX9_catches 125 = .ok (.goto 403, 3) := by decide +kernel
theorem dX9_catches_128 : decode cX9_catches 128 = .ok (.iload 10, 2) := by decide +kernel
theorem dX9_catches_130 : decode cX9_catches 130 = .ok (.iconst 1, 1) := by decide +kernel
theorem dX9_catches_131 : decode cX9_catches 131 = .ok (.if_icmp .ne 210, 3) := by decide +kernel
theorem dX9_catches_134 : decode cX9_catches 134 = .ok (.aload_n 0, 1) := by decide +kernel
theorem dX9_catches_135 : decode cX9_catches 135 = .ok (.getfield 81, 3) := by decide +kernel
theorem dX9_catches_138 : decode cX9_catches 138 = .ok (.iload 9, 2) := by decide +kernel
theorem dX9_catches_140 : decode cX9_catches 140 = .ok (.laload, 1) := by decide +kernel
theorem dX9_catches_141 : decode cX9_catches 141 = .ok (.lconst 0, 1) := by decide +kernel
theorem dX9_catches_142 : decode cX9_catches 142 = .ok (.lcmp, 1) := by decide +kernel
theorem dX9_catches_143 : decode cX9_catches 143 = .ok (.ifCond .ne 9, 3) := by decide +kernel
theorem dX9_catches_146 : decode cX9_catches 146 = .ok (.iconst 4, 1) := by decide +kernel
theorem dX9_catches_147 : decode cX9_catches 147 = .ok (.istore 10, 2) := by decide +kernel
theorem dX9_catches_149 : decode cX9_catches 149 = .ok (.goto 379, 3) := by decide +kernel
theorem dX9_catches_152 : decode cX9_catches 152 = .ok (.aload_n 0, 1) := by decide +kernel
theorem dX9_catches_153 : decode cX9_catches 153 = .ok (.getfield 81, 3) := by decide +kernel
theorem dX9_catches_156 : decode cX9_catches 156 = .ok (.iload 9, 2) := by decide +kernel
theorem dX9_catches_158 : decode cX9_catches 158 = .ok (.laload, 1) := by decide +kernel
theorem dX9_catches_159 : decode cX9_catches 159 = .ok (.invokestatic 285, 3) := by decide +kernel
theorem dX9_catches_162 : decode cX9_catches 162 = .ok (.istore 12, 2) := by decide +kernel
theorem dX9_catches_164 : decode cX9_catches 164 = .ok (.aload_n 0, 1) := by decide +kernel
theorem dX9_catches_165 : decode cX9_catches 165 = .ok (.getfield 81, 3) := by decide +kernel
theorem dX9_catches_168 : decode cX9_catches 168 = .ok (.iload 9, 2) := by decide +kernel
theorem dX9_catches_170 : decode cX9_catches 170 = .ok (.dup2, 1) := by decide +kernel
theorem dX9_catches_171 : decode cX9_catches 171 = .ok (.laload, 1) := by decide +kernel
theorem dX9_catches_172 : decode cX9_catches 172 = .ok (.aload_n 0, 1) := by decide +kernel
theorem dX9_catches_173 : decode cX9_catches 173 = .ok (.getfield 81, 3) := by decide +kernel
theorem dX9_catches_176 : decode cX9_catches 176 = .ok (.iload 9, 2) := by decide +kernel
theorem dX9_catches_178 : decode cX9_catches 178 = .ok (.laload, 1) := by decide +kernel
theorem dX9_catches_179 : decode cX9_catches 179 = .ok (.lconst 1, 1) := by decide +kernel
theorem dX9_catches_180 : decode cX9_catches 180 = .ok (.lsub, 1) := by decide +kernel
theorem dX9_catches_181 : decode cX9_catches 181 = .ok (.land, 1) := by decide +kernel
theorem dX9_catches_182 : decode cX9_catches 182 = .ok (.lastore, 1) := by decide +kernel
theorem dX9_catches_183 : decode cX9_catches 183 = .ok (.aload_n 0, 1) := by decide +kernel
theorem dX9_catches_184 : decode cX9_catches 184 = .ok (.aload_n 0, 1) := by decide +kernel
theorem dX9_catches_185 : decode cX9_catches 185 = .ok (.getfield 75, 3) := by decide +kernel
theorem dX9_catches_188 : decode cX9_catches 188 = .ok (.iload 9, 2) := by decide +kernel
theorem dX9_catches_190 : decode cX9_catches 190 = .ok (.laload, 1) := by decide +kernel
theorem dX9_catches_191 : decode cX9_catches 191 = .ok (.aload_n 0, 1) := by decide +kernel
theorem dX9_catches_192 : decode cX9_catches 192 = .ok (.getfield 78, 3) := by decide +kernel
theorem dX9_catches_195 : decode cX9_catches 195 = .ok (.iload 9, 2) := by decide +kernel
theorem dX9_catches_197 : decode cX9_catches 197 = .ok (.laload, 1) := by decide +kernel
theorem dX9_catches_198 : decode cX9_catches 198 = .ok (.iconst 1, 1) := by decide +kernel
theorem dX9_catches_199 : decode cX9_catches 199 = .ok (.iload 8, 2) := by decide +kernel
theorem dX9_catches_201 : decode cX9_catches 201 = .ok (.isub, 1) := by decide +kernel
theorem dX9_catches_202 : decode cX9_catches 202 = .ok (.iload 12, 2) := by decide +kernel
theorem dX9_catches_204 : decode cX9_catches 204 = .ok (.invokevirtual 233, 3) := by decide +kernel
theorem dX9_catches_207 : decode cX9_catches 207 = .ok (.aload_n 0, 1) := by decide +kernel
theorem dX9_catches_208 : decode cX9_catches 208 = .ok (.getfield 174, 3) := by decide +kernel
theorem dX9_catches_211 : decode cX9_catches 211 = .ok (.ifCond .eq 7, 3) := by decide +kernel
theorem dX9_catches_214 : decode cX9_catches 214 = .ok (.iconst 0, 1) := by decide +kernel
theorem dX9_catches_215 : decode cX9_catches 215 = .ok (.goto 17, 3) := by decide +kernel
theorem dX9_catches_218 : decode cX9_catches 218 = .ok (.aload_n 0, 1) := by decide +kernel
theorem dX9_catches_219 : decode cX9_catches 219 = .ok (.aload_n 0, 1) := by decide +kernel
theorem dX9_catches_220 : decode cX9_catches 220 = .ok (.getfield 178, 3) := by decide +kernel
theorem dX9_catches_223 : decode cX9_catches 223 = .ok (.aload_n 0, 1) := by decide +kernel
theorem dX9_catches_224 : decode cX9_catches 224 = .ok (.getfield 182, 3) := by decide +kernel
theorem dX9_catches_227 : decode cX9_catches 227 = .ok (.iload 5, 2) := by decide +kernel
theorem dX9_catches_229 : decode cX9_catches 229 = .ok (.invokevirtual 288, 3) := by decide +kernel
theorem dX9_catches_232 : decode cX9_catches 232 = .ok (.istore 13, 2) := by decide +kernel
theorem dX9_catches_234 : decode cX9_catches 234 = .ok (.iload 13, 2) := by decide +kernel
theorem dX9_catches_236 : decode cX9_catches 236 = .ok (.iconst 1, 1) := by decide +kernel
theorem dX9_catches_237 : decode cX9_catches 237 = .ok (.if_icmp .eq 15, 3) := by decide +kernel
theorem dX9_catches_240 : decode cX9_catches 240 = .ok (.iload 13, 2) := by decide +kernel
theorem dX9_catches_242 : decode cX9_catches 242 = .ok (.iconst 1, 1) := by decide +kernel
theorem dX9_catches_243 : decode cX9_catches 243 = .ok (.if_icmp .le 95, 3) := by decide +kernel
theorem dX9_catches_246 : decode cX9_catches 246 = .ok (.iload 7, 2) := by decide +kernel
theorem dX9_catches_248 : decode cX9_catches 248 = .ok (.iconst 2, 1) := by decide +kernel
theorem dX9_catches_249 : decode cX9_catches 249 = .ok (.if_icmp .le 89, 3) := by decide +kernel
theorem dX9_catches_252 : decode cX9_catches 252 = .ok (.aload_n 0, 1) := by decide +kernel
theorem dX9_catches_253 : decode cX9_catches 253 = .ok (.getfield 84, 3) := by decide +kernel
theorem dX9_catches_256 : decode cX9_catches 256 = .ok (.iload 9, 2) := by decide +kernel
theorem dX9_catches_258 : decode cX9_catches 258 = .ok (.aload_n 0, 1) := by decide +kernel
theorem dX9_catches_259 : decode cX9_catches 259 = .ok (.getfield 178, 3) := by decide +kernel
theorem dX9_catches_262 : decode cX9_catches 262 = .ok (.lastore, 1) := by decide +kernel
theorem dX9_catches_263 : decode cX9_catches 263 = .ok (.aload_n 0, 1) := by decide +kernel
theorem dX9_catches_264 : decode cX9_catches 264 = .ok (.getfield 87, 3) := by decide +kernel
theorem dX9_catches_267 : decode cX9_catches 267 = .ok (.iload 9, 2) := by decide +kernel
theorem dX9_catches_269 : decode cX9_catches 269 = .ok (.aload_n 0, 1) := by decide +kernel
theorem dX9_catches_270 : decode cX9_catches 270 = .ok (.getfield 182, 3) := by decide +kernel
theorem dX9_catches_273 : decode cX9_catches 273 = .ok (.lastore, 1) := by decide +kernel
theorem dX9_catches_274 : decode cX9_catches 274 = .ok (.aload_n 0, 1) := by decide +kernel
theorem dX9_catches_275 : decode cX9_catches 275 = .ok (.getfield 90, 3) := by decide +kernel
theorem dX9_catches_278 : decode cX9_catches 278 = .ok (.iload 9, 2) := by decide +kernel
theorem dX9_catches_280 : decode cX9_catches 280 = .ok (.aload_n 0, 1) := by decide +kernel
theorem dX9_catches_281 : decode cX9_catches 281 = .ok (.aload_n 0, 1) := by decide +kernel
theorem dX9_catches_282 : decode cX9_catches 282 = .ok (.getfield 178, 3) := by decide +kernel
theorem dX9_catches_285 : decode cX9_catches 285 = .ok (.aload_n 0, 1) := by decide +kernel
theorem dX9_catches_286 : decode cX9_catches 286 = .ok (.getfield 182, 3) := by decide +kernel
theorem dX9_catches_289 : decode cX9_catches 289 = .ok (.iload 8, 2) := by decide +kernel
theorem dX9_catches_291 : decode cX9_catches 291 = .ok (.aload_n 0, 1) := by decide +kernel
theorem dX9_catches_292 : decode cX9_catches 292 = .ok (.aload_n 0, 1) := by decide +kernel
theorem dX9_catches_293 : decode cX9_catches 293 = .ok (.getfield 178, 3) := by decide +kernel
theorem dX9_catches_296 : decode cX9_catches 296 = .ok (.aload_n 0, 1) := by decide +kernel
theorem dX9_catches_297 : decode cX9_catches 297 = .ok (.getfield 182, 3) := by decide +kernel
theorem dX9_catches_300 : decode cX9_catches 300 = .ok (.iload 5, 2) := by decide +kernel
theorem dX9_catches_302 : decode cX9_catches 302 = .ok (.iload 8, 2) := by decide +kernel
theorem dX9_catches_304 : decode cX9_catches 304 = .ok (.invokevirtual 295, 3) := by decide +kernel
theorem dX9_catches_307 : decode cX9_catches 307 = .ok (.invokevirtual 298, 3) := by decide +kernel
theorem dX9_catches_310 : decode cX9_catches 310 = .ok (.lastore, 1) := by decide +kernel
theorem dX9_catches_311 : decode cX9_catches 311 = .ok (.aload_n 0, 1) := by decide +kernel
theorem dX9_catches_312 : decode cX9_catches 312 = .ok (.getfield 93, 3) := by decide +kernel
theorem dX9_catches_315 : decode cX9_catches 315 = .ok (.iload 9, 2) := by decide +kernel
theorem dX9_catches_317 : decode cX9_catches 317 = .ok (.aload_n 0, 1) := by decide +kernel
theorem dX9_catches_318 : decode cX9_catches 318 = .ok (.getfield 90, 3) := by decide +kernel
theorem dX9_catches_321 : decode cX9_catches 321 = .ok (.iload 9, 2) := by decide +kernel
theorem dX9_catches_323 : decode cX9_catches 323 = .ok (.laload, 1) := by decide +kernel
theorem dX9_catches_324 : decode cX9_catches 324 = .ok (.lconst 0, 1) := by decide +kernel
theorem dX9_catches_325 : decode cX9_catches 325 = .ok (.lcmp, 1) := by decide +kernel
theorem dX9_catches_326 : decode cX9_catches 326 = .ok (.ifCond .ne 7, 3) := by decide +kernel
theorem dX9_catches_329 : decode cX9_catches 329 = .ok (.iconst 1, 1) := by decide +kernel
theorem dX9_catches_330 : decode cX9_catches 330 = .ok (.goto 4, 3) := by decide +kernel
theorem dX9_catches_333 : decode cX9_catches 333 = .ok (.iconst 0, 1) := by decide +kernel
theorem dX9_catches_334 : decode cX9_catches 334 = .ok (.bastore, 1) := by decide +kernel
theorem dX9_catches_335 : decode cX9_catches 335 = .ok (.iconst 2, 1) := by decide +kernel
theorem dX9_catches_336 : decode cX9_catches 336 = .ok (.istore 10, 2) := by decide +kernel
theorem dX9_catches_338 : decode cX9_catches 338 = .ok (.goto 190, 3) := by decide +kernel
theorem dX9_catches_341 : decode cX9_catches 341 = .ok (.iload 10, 2) := by decide +kernel
theorem dX9_catches_343 : decode cX9_catches 343 = .ok (.iconst 2, 1) := by decide +kernel
theorem dX9_catches_344 : decode cX9_catches 344 = .ok (.if_icmp .ne 151, 3) := by decide +kernel
theorem dX9_catches_347 : decode cX9_catches 347 = .ok (.aload_n 0, 1) := by decide +kernel
theorem dX9_catches_348 : decode cX9_catches 348 = .ok (.getfield 90, 3) := by decide +kernel
theorem dX9_catches_351 : decode cX9_catches 351 = .ok (.iload 9, 2) := by decide +kernel
theorem dX9_catches_353 : decode cX9_catches 353 = .ok (.laload, 1) := by decide +kernel
theorem dX9_catches_354 : decode cX9_catches 354 = .ok (.lconst 0, 1) := by decide +kernel
theorem dX9_catches_355 : decode cX9_catches 355 = .ok (.lcmp, 1) := by decide +kernel
theorem dX9_catches_356 : decode cX9_catches 356 = .ok (.ifCond .ne 19, 3) := by decide +kernel
theorem dX9_catches_359 : decode cX9_catches 359 = .ok (.aload_n 0, 1) := by decide +kernel
theorem dX9_catches_360 : decode cX9_catches 360 = .ok (.getfield 93, 3) := by decide +kernel
theorem dX9_catches_363 : decode cX9_catches 363 = .ok (.iload 9, 2) := by decide +kernel
theorem dX9_catches_365 : decode cX9_catches 365 = .ok (.baload, 1) := by decide +kernel
theorem dX9_catches_366 : decode cX9_catches 366 = .ok (.ifCond .ne 9, 3) := by decide +kernel
theorem dX9_catches_369 : decode cX9_catches 369 = .ok (.iconst 3, 1) := by decide +kernel
theorem dX9_catches_370 : decode cX9_catches 370 = .ok (.istore 10, 2) := by decide +kernel
theorem dX9_catches_372 : decode cX9_catches 372 = .ok (.goto 156, 3) := by decide +kernel
theorem dX9_catches_375 : decode cX9_catches 375 = .ok (.aload_n 0, 1) := by decide +kernel
theorem dX9_catches_376 : decode cX9_catches 376 = .ok (.aload_n 0, 1) := by decide +kernel
theorem dX9_catches_377 : decode cX9_catches 377 = .ok (.getfield 84, 3) := by decide +kernel
theorem dX9_catches_380 : decode cX9_catches 380 = .ok (.iload 9, 2) := by decide +kernel
theorem dX9_catches_382 : decode cX9_catches 382 = .ok (.laload, 1) := by decide +kernel
theorem dX9_catches_383 : decode cX9_catches 383 = .ok (.putfield 178, 3) := by decide +kernel
theorem dX9_catches_386 : decode cX9_catches 386 = .ok (.aload_n 0, 1) := by decide +kernel
theorem dX9_catches_387 : decode cX9_catches 387 = .ok (.aload_n 0, 1) := by decide +kernel
theorem dX9_catches_388 : decode cX9_catches 388 = .ok (.getfield 87, 3) := by decide +kernel
theorem dX9_catches_391 : decode cX9_catches 391 = .ok (.iload 9, 2) := by decide +kernel
theorem dX9_catches_393 : decode cX9_catches 393 = .ok (.laload, 1) := by decide +kernel
theorem dX9_catches_394 : decode cX9_catches 394 = .ok (.putfield 182, 3) := by decide +kernel
theorem dX9_catches_397 : decode cX9_catches 397 = .ok (.aload_n 0, 1) := by decide +kernel
theorem dX9_catches_398 : decode cX9_catches 398 = .ok (.getfield 93, 3) := by decide +kernel
theorem dX9_catches_401 : decode cX9_catches 401 = .ok (.iload 9, 2) := by decide +kernel
theorem dX9_catches_403 : decode cX9_catches 403 = .ok (.baload, 1) := by decide +kernel
theorem dX9_catches_404 : decode cX9_catches 404 = .ok (.ifCond .ne 52, 3) := by decide +kernel
theorem dX9_catches_407 : decode cX9_catches 407 = .ok (.aload_n 0, 1) := by decide +kernel
theorem dX9_catches_408 : decode cX9_catches 408 = .ok (.aload_n 0, 1) := by decide +kernel
theorem dX9_catches_409 : decode cX9_catches 409 = .ok (.getfield 84, 3) := by decide +kernel
theorem dX9_catches_412 : decode cX9_catches 412 = .ok (.iload 9, 2) := by decide +kernel
theorem dX9_catches_414 : decode cX9_catches 414 = .ok (.laload, 1) := by decide +kernel
theorem dX9_catches_415 : decode cX9_catches 415 = .ok (.aload_n 0, 1) := by decide +kernel
theorem dX9_catches_416 : decode cX9_catches 416 = .ok (.getfield 87, 3) := by decide +kernel
theorem dX9_catches_419 : decode cX9_catches 419 = .ok (.iload 9, 2) := by decide +kernel
theorem dX9_catches_421 : decode cX9_catches 421 = .ok (.laload, 1) := by decide +kernel
theorem dX9_catches_422 : decode cX9_catches 422 = .ok (.iload 8, 2) := by decide +kernel
theorem dX9_catches_424 : decode cX9_catches 424 = .ok (.aload_n 0, 1) := by decide +kernel
theorem dX9_catches_425 : decode cX9_catches 425 = .ok (.getfield 90, 3) := by decide +kernel
theorem dX9_catches_428 : decode cX9_catches 428 = .ok (.iload 9, 2) := by decide +kernel
theorem dX9_catches_430 : decode cX9_catches 430 = .ok (.laload, 1) := by decide +kernel
theorem dX9_catches_431 : decode cX9_catches 431 = .ok (.invokestatic 285, 3) := by decide +kernel
theorem dX9_catches_434 : decode cX9_catches 434 = .ok (.invokevirtual 233, 3) := by decide +kernel
theorem dX9_catches_437 : decode cX9_catches 437 = .ok (.aload_n 0, 1) := by decide +kernel
theorem dX9_catches_438 : decode cX9_catches 438 = .ok (.getfield 90, 3) := by decide +kernel
theorem dX9_catches_441 : decode cX9_catches 441 = .ok (.iload 9, 2) := by decide +kernel
theorem dX9_catches_443 : decode cX9_catches 443 = .ok (.dup2, 1) := by decide +kernel
theorem dX9_catches_444 : decode cX9_catches 444 = .ok (.laload, 1) := by decide +kernel
theorem dX9_catches_445 : decode cX9_catches 445 = .ok (.aload_n 0, 1) := by decide +kernel
theorem dX9_catches_446 : decode cX9_catches 446 = .ok (.getfield 90, 3) := by decide +kernel
theorem dX9_catches_449 : decode cX9_catches 449 = .ok (.iload 9, 2) := by decide +kernel
theorem dX9_catches_451 : decode cX9_catches 451 = .ok (.laload, 1) := by decide +kernel
theorem dX9_catches_452 : decode cX9_catches 452 = .ok (.lconst 1, 1) := by decide +kernel
theorem dX9_catches_453 : decode cX9_catches 453 = .ok (.lsub, 1) := by decide +kernel
theorem dX9_catches_454 : decode cX9_catches 454 = .ok (.land, 1) := by decide +kernel
theorem dX9_catches_455 : decode cX9_catches 455 = .ok (.lastore, 1) := by decide +kernel
theorem dX9_catches_456 : decode cX9_catches 456 = .ok (.aload_n 0, 1) := by decide +kernel
theorem dX9_catches_457 : decode cX9_catches 457 = .ok (.getfield 93, 3) := by decide +kernel
theorem dX9_catches_460 : decode cX9_catches 460 = .ok (.iload 9, 2) := by decide +kernel
theorem dX9_catches_462 : decode cX9_catches 462 = .ok (.iconst 0, 1) := by decide +kernel
theorem dX9_catches_463 : decode cX9_catches 463 = .ok (.bastore, 1) := by decide +kernel
theorem dX9_catches_464 : decode cX9_catches 464 = .ok (.iinc 9 1, 3) := by decide +kernel
theorem dX9_catches_467 : decode cX9_catches 467 = .ok (.aload_n 0, 1) := by decide +kernel
theorem dX9_catches_468 : decode cX9_catches 468 = .ok (.getfield 75, 3) := by decide +kernel
theorem dX9_catches_471 : decode cX9_catches 471 = .ok (.iload 9, 2) := by decide +kernel
theorem dX9_catches_473 : decode cX9_catches 473 = .ok (.aload_n 0, 1) := by decide +kernel
theorem dX9_catches_474 : decode cX9_catches 474 = .ok (.getfield 178, 3) := by decide +kernel
theorem dX9_catches_477 : decode cX9_catches 477 = .ok (.lastore, 1) := by decide +kernel
theorem dX9_catches_478 : decode cX9_catches 478 = .ok (.aload_n 0, 1) := by decide +kernel
theorem dX9_catches_479 : decode cX9_catches 479 = .ok (.getfield 78, 3) := by decide +kernel
theorem dX9_catches_482 : decode cX9_catches 482 = .ok (.iload 9, 2) := by decide +kernel
theorem dX9_catches_484 : decode cX9_catches 484 = .ok (.aload_n 0, 1) := by decide +kernel
theorem dX9_catches_485 : decode cX9_catches 485 = .ok (.getfield 182, 3) := by decide +kernel
theorem dX9_catches_488 : decode cX9_catches 488 = .ok (.lastore, 1) := by decide +kernel
theorem dX9_catches_489 : decode cX9_catches 489 = .ok (.iconst 0, 1) := by decide +kernel
theorem dX9_catches_490 : decode cX9_catches 490 = .ok (.istore 10, 2) := by decide +kernel
theorem dX9_catches_492 : decode cX9_catches 492 = .ok (.goto 36, 3) := by decide +kernel
theorem dX9_catches_495 : decode cX9_catches 495 = .ok (.iload 9, 2) := by decide +kernel
theorem dX9_catches_497 : decode cX9_catches 497 = .ok (.ifCond .ne 15, 3) := by decide +kernel
theorem dX9_catches_500 : decode cX9_catches 500 = .ok (.iload 10, 2) := by decide +kernel
theorem dX9_catches_502 : decode cX9_catches 502 = .ok (.iconst 3, 1) := by decide +kernel
theorem dX9_catches_503 : decode cX9_catches 503 = .ok (.if_icmp .ne 7, 3) := by decide +kernel
theorem dX9_catches_506 : decode cX9_catches 506 = .ok (.iconst 1, 1) := by decide +kernel
theorem dX9_catches_507 : decode cX9_catches 507 = .ok (.goto 4, 3) := by decide +kernel
theorem dX9_catches_510 : decode cX9_catches 510 = .ok (.iconst 0, 1) := by decide +kernel
theorem dX9_catches_511 : decode cX9_catches 511 = .ok (.ireturn, 1) := by decide +kernel
theorem dX9_catches_512 : decode cX9_catches 512 = .ok (.iinc 9 (-1), 3) := by decide +kernel
theorem dX9_catches_515 : decode cX9_catches 515 = .ok (.iload 10, 2) := by decide +kernel
theorem dX9_catches_517 : decode cX9_catches 517 = .ok (.iconst 3, 1) := by decide +kernel
theorem dX9_catches_518 : decode cX9_catches 518 = .ok (.if_icmp .ne 7, 3) := by decide +kernel
theorem dX9_catches_521 : decode cX9_catches 521 = .ok (.iconst 2, 1) := by decide +kernel
theorem dX9_catches_522 : decode cX9_catches 522 = .ok (.goto 4, 3) := by decide +kernel
theorem dX9_catches_525 : decode cX9_catches 525 = .ok (.iconst 1, 1) := by decide +kernel
theorem dX9_catches_526 : decode cX9_catches 526 = .ok (.istore 10, 2) := by decide +kernel
theorem dX9_catches_528 : decode cX9_catches 528 = .ok (.goto (-489), 3) := by decide +kernel
theorem dX9_reads_0 : decode cX9_reads 0 = .ok (.aload_n 0, 1) := by decide +kernel
theorem dX9_reads_1 : decode cX9_reads 1 = .ok (.getfield 65, 3) := by decide +kernel
theorem dX9_reads_4 : decode cX9_reads 4 = .ok (.aload_n 0, 1) := by decide +kernel
theorem dX9_reads_5 : decode cX9_reads 5 = .ok (.getfield 44, 3) := by decide +kernel
theorem dX9_reads_8 : decode cX9_reads 8 = .ok (.iload_n 1, 1) := by decide +kernel
theorem dX9_reads_9 : decode cX9_reads 9 = .ok (.iaload, 1) := by decide +kernel
theorem dX9_reads_10 : decode cX9_reads 10 = .ok (.laload, 1) := by decide +kernel
theorem dX9_reads_11 : decode cX9_reads 11 = .ok (.lstore 5, 2) := by decide +kernel
theorem dX9_reads_13 : decode cX9_reads 13 = .ok (.aload_n 0, 1) := by decide +kernel
theorem dX9_reads_14 : decode cX9_reads 14 = .ok (.getfield 69, 3) := by decide +kernel
theorem dX9_reads_17 : decode cX9_reads 17 = .ok (.aload_n 0, 1) := by decide +kernel
theorem dX9_reads_18 : decode cX9_reads 18 = .ok (.getfield 44, 3) := by decide +kernel
theorem dX9_reads_21 : decode cX9_reads 21 = .ok (.iload_n 1, 1) := by decide +kernel
theorem dX9_reads_22 : decode cX9_reads 22 = .ok (.iaload, 1) := by decide +kernel
theorem dX9_reads_23 : decode cX9_reads 23 = .ok (.laload, 1) := by decide +kernel
theorem dX9_reads_24 : decode cX9_reads 24 = .ok (.lstore 7, 2) := by decide +kernel
theorem dX9_reads_26 : decode cX9_reads 26 = .ok (.aload_n 0, 1) := by decide +kernel
theorem dX9_reads_27 : decode cX9_reads 27 = .ok (.lload 5, 2) := by decide +kernel
theorem dX9_reads_29 : decode cX9_reads 29 = .ok (.lload 7, 2) := by decide +kernel
theorem dX9_reads_31 : decode cX9_reads 31 = .ok (.iload_n 2, 1) := by decide +kernel
theorem dX9_reads_32 : decode cX9_reads 32 = .ok (.invokevirtual 229, 3) := by decide +kernel
theorem dX9_reads_35 : decode cX9_reads 35 = .ok (.ifCond .ne 22, 3) := by decide +kernel
theorem dX9_reads_38 : decode cX9_reads 38 = .ok (.aload_n 0, 1) := by decide +kernel
theorem dX9_reads_39 : decode cX9_reads 39 = .ok (.lload 5, 2) := by decide +kernel
theorem dX9_reads_41 : decode cX9_reads 41 = .ok (.lload 7, 2) := by decide +kernel
theorem dX9_reads_43 : decode cX9_reads 43 = .ok (.iload_n 2, 1) := by decide +kernel
theorem dX9_reads_44 : decode cX9_reads 44 = .ok (.iload_n 3, 1) := by decide +kernel
theorem dX9_reads_45 : decode cX9_reads 45 = .ok (.iload 4, 2) := by decide +kernel
theorem dX9_reads_47 : decode cX9_reads 47 = .ok (.invokevirtual 302, 3) := by decide +kernel
theorem dX9_reads_50 : decode cX9_reads 50 = .ok (.ifCond .eq 7, 3) := by decide +kernel
theorem dX9_reads_53 : decode cX9_reads 53 = .ok (.iconst 1, 1) := by decide +kernel
theorem dX9_reads_54 : decode cX9_reads 54 = .ok (.goto 4, 3) := by decide +kernel
theorem dX9_reads_57 : decode cX9_reads 57 = .ok (.iconst 0, 1) := by decide +kernel
theorem dX9_reads_58 : decode cX9_reads 58 = .ok (.ireturn, 1) := by decide +kernel
theorem dX9_ladder_0 : decode cX9_ladder 0 = .ok (.aload_n 0, 1) := by decide +kernel
theorem dX9_ladder_1 : decode cX9_ladder 1 = .ok (.iload_n 1, 1) := by decide +kernel
theorem dX9_ladder_2 : decode cX9_ladder 2 = .ok (.invokevirtual 241, 3) := by decide +kernel
theorem dX9_ladder_5 : decode cX9_ladder 5 = .ok (.ifCond .eq 14, 3) := by decide +kernel
theorem dX9_ladder_8 : decode cX9_ladder 8 = .ok (.iload_n 2, 1) := by decide +kernel
theorem dX9_ladder_9 : decode cX9_ladder 9 = .ok (.invokestatic 244, 3) := by decide +kernel
theorem dX9_ladder_12 : decode cX9_ladder 12 = .ok (.ifCond .eq 7, 3) := by decide +kernel
theorem dX9_ladder_15 : decode cX9_ladder 15 = .ok (.iconst 1, 1) := by decide +kernel
theorem dX9_ladder_16 : decode cX9_ladder 16 = .ok (.goto 4, 3) := by decide +kernel
theorem dX9_ladder_19 : decode cX9_ladder 19 = .ok (.iconst 0, 1) := by decide +kernel
theorem dX9_ladder_20 : decode cX9_ladder 20 = .ok (.istore 4, 2) := by decide +kernel
theorem dX9_ladder_22 : decode cX9_ladder 22 = .ok (.aload_n 0, 1) := by decide +kernel
theorem dX9_ladder_23 : decode cX9_ladder 23 = .ok (.iload 4, 2) := by decide +kernel
theorem dX9_ladder_25 : decode cX9_ladder 25 = .ok (.ifCond .ne 7, 3) := by decide +kernel
theorem dX9_ladder_28 : decode cX9_ladder 28 = .ok (.iconst 1, 1) := by decide +kernel
theorem dX9_ladder_29 : decode cX9_ladder 29 = .ok (.goto 18, 3) := by decide +kernel
theorem dX9_ladder_32 : decode cX9_ladder 32 = .ok (.iload_n 3, 1) := by decide +kernel
theorem dX9_ladder_33 : decode cX9_ladder 33 = .ok (.iconst 1, 1) := by decide +kernel
theorem dX9_ladder_34 : decode cX9_ladder 34 = .ok (.bipush 8, 2) := by decide +kernel
theorem dX9_ladder_36 : decode cX9_ladder 36 = .ok (.invokestatic 133, 3) := by decide +kernel
theorem dX9_ladder_39 : decode cX9_ladder 39 = .ok (.ifCond .eq 7, 3) := by decide +kernel
theorem dX9_ladder_42 : decode cX9_ladder 42 = .ok (.iconst 0, 1) := by decide +kernel
theorem dX9_ladder_43 : decode cX9_ladder 43 = .ok (.goto 4, 3) := by decide +kernel
theorem dX9_ladder_46 : decode cX9_ladder 46 = .ok (.iconst 2, 1) := by decide +kernel
theorem dX9_ladder_47 : decode cX9_ladder 47 = .ok (.invokevirtual 185, 3) := by decide +kernel
theorem dX9_ladder_50 : decode cX9_ladder 50 = .ok (.ifCond .ne 18, 3) := by decide +kernel
theorem dX9_ladder_53 : decode cX9_ladder 53 = .ok (.aload_n 0, 1) := by decide +kernel
theorem dX9_ladder_54 : decode cX9_ladder 54 = .ok (.iload_n 1, 1) := by decide +kernel
theorem dX9_ladder_55 : decode cX9_ladder 55 = .ok (.iload_n 2, 1) := by decide +kernel
theorem dX9_ladder_56 : decode cX9_ladder 56 = .ok (.iload_n 3, 1) := by decide +kernel
theorem dX9_ladder_57 : decode cX9_ladder 57 = .ok (.iconst 2, 1) := by decide +kernel
theorem dX9_ladder_58 : decode cX9_ladder 58 = .ok (.invokevirtual 306, 3) := by decide +kernel
theorem dX9_ladder_61 : decode cX9_ladder 61 = .ok (.ifCond .eq 7, 3) := by decide +kernel
theorem dX9_ladder_64 : decode cX9_ladder 64 = .ok (.iconst 1, 1) := by decide +kernel
theorem dX9_ladder_65 : decode cX9_ladder 65 = .ok (.goto 4, 3) := by decide +kernel
theorem dX9_ladder_68 : decode cX9_ladder 68 = .ok (.iconst 0, 1) := by decide +kernel
theorem dX9_ladder_69 : decode cX9_ladder 69 = .ok (.ireturn, 1) := by decide +kernel
theorem dX9_net_0 : decode cX9_net 0 = .ok (.aload_n 0, 1) := by decide +kernel
theorem dX9_net_1 : decode cX9_net 1 = .ok (.iload_n 1, 1) := by decide +kernel
theorem dX9_net_2 : decode cX9_net 2 = .ok (.invokevirtual 241, 3) := by decide +kernel
theorem dX9_net_5 : decode cX9_net 5 = .ok (.ifCond .eq 14, 3) := by decide +kernel
theorem dX9_net_8 : decode cX9_net 8 = .ok (.iload_n 2, 1) := by decide +kernel
theorem dX9_net_9 : decode cX9_net 9 = .ok (.invokestatic 244, 3) := by decide +kernel
theorem dX9_net_12 : decode cX9_net 12 = .ok (.ifCond .eq 7, 3) := by decide +kernel
theorem dX9_net_15 : decode cX9_net 15 = .ok (.iconst 1, 1) := by decide +kernel
theorem dX9_net_16 : decode cX9_net 16 = .ok (.goto 4, 3) := by decide +kernel
theorem dX9_net_19 : decode cX9_net 19 = .ok (.iconst 0, 1) := by decide +kernel
theorem dX9_net_20 : decode cX9_net 20 = .ok (.istore 4, 2) := by decide +kernel
theorem dX9_net_22 : decode cX9_net 22 = .ok (.aload_n 0, 1) := by decide +kernel
theorem dX9_net_23 : decode cX9_net 23 = .ok (.iload 4, 2) := by decide +kernel
theorem dX9_net_25 : decode cX9_net 25 = .ok (.ifCond .ne 7, 3) := by decide +kernel
theorem dX9_net_28 : decode cX9_net 28 = .ok (.iconst 1, 1) := by decide +kernel
theorem dX9_net_29 : decode cX9_net 29 = .ok (.goto 17, 3) := by decide +kernel
theorem dX9_net_32 : decode cX9_net 32 = .ok (.iload_n 3, 1) := by decide +kernel
theorem dX9_net_33 : decode cX9_net 33 = .ok (.iconst 1, 1) := by decide +kernel
theorem dX9_net_34 : decode cX9_net 34 = .ok (.iconst 3, 1) := by decide +kernel
theorem dX9_net_35 : decode cX9_net 35 = .ok (.invokestatic 133, 3) := by decide +kernel
theorem dX9_net_38 : decode cX9_net 38 = .ok (.ifCond .eq 7, 3) := by decide +kernel
theorem dX9_net_41 : decode cX9_net 41 = .ok (.iconst 0, 1) := by decide +kernel
theorem dX9_net_42 : decode cX9_net 42 = .ok (.goto 4, 3) := by decide +kernel
theorem dX9_net_45 : decode cX9_net 45 = .ok (.iconst 2, 1) := by decide +kernel
theorem dX9_net_46 : decode cX9_net 46 = .ok (.invokevirtual 185, 3) := by decide +kernel
theorem dX9_net_49 : decode cX9_net 49 = .ok (.ifCond .ne 18, 3) := by decide +kernel
theorem dX9_net_52 : decode cX9_net 52 = .ok (.aload_n 0, 1) := by decide +kernel
theorem dX9_net_53 : decode cX9_net 53 = .ok (.iload_n 1, 1) := by decide +kernel
theorem dX9_net_54 : decode cX9_net 54 = .ok (.iload_n 2, 1) := by decide +kernel
theorem dX9_net_55 : decode cX9_net 55 = .ok (.iload_n 3, 1) := by decide +kernel
theorem dX9_net_56 : decode cX9_net 56 = .ok (.iconst 3, 1) := by decide +kernel
theorem dX9_net_57 : decode cX9_net 57 = .ok (.invokevirtual 306, 3) := by decide +kernel
theorem dX9_net_60 : decode cX9_net 60 = .ok (.ifCond .eq 7, 3) := by decide +kernel
theorem dX9_net_63 : decode cX9_net 63 = .ok (.iconst 1, 1) := by decide +kernel
theorem dX9_net_64 : decode cX9_net 64 = .ok (.goto 4, 3) := by decide +kernel
theorem dX9_net_67 : decode cX9_net 67 = .ok (.iconst 0, 1) := by decide +kernel
theorem dX9_net_68 : decode cX9_net 68 = .ok (.ireturn, 1) := by decide +kernel
theorem dX9_isNode_0 : decode cX9_isNode 0 = .ok (.iload_n 1, 1) := by decide +kernel
theorem dX9_isNode_1 : decode cX9_isNode 1 = .ok (.iconst 0, 1) := by decide +kernel
theorem dX9_isNode_2 : decode cX9_isNode 2 = .ok (.aload_n 0, 1) := by decide +kernel
theorem dX9_isNode_3 : decode cX9_isNode 3 = .ok (.getfield 310, 3) := by decide +kernel
theorem dX9_isNode_6 : decode cX9_isNode 6 = .ok (.iconst 1, 1) := by decide +kernel
theorem dX9_isNode_7 : decode cX9_isNode 7 = .ok (.isub, 1) := by decide +kernel
theorem dX9_isNode_8 : decode cX9_isNode 8 = .ok (.invokestatic 133, 3) := by decide +kernel
theorem dX9_isNode_11 : decode cX9_isNode 11 = .ok (.ireturn, 1) := by decide +kernel
theorem dX9_position_0 : decode cX9_position 0 = .ok (.aload_n 0, 1) := by decide +kernel
theorem dX9_position_1 : decode cX9_position 1 = .ok (.getfield 44, 3) := by decide +kernel
theorem dX9_position_4 : decode cX9_position 4 = .ok (.iload_n 1, 1) := by decide +kernel
theorem dX9_position_5 : decode cX9_position 5 = .ok (.iaload, 1) := by decide +kernel
theorem dX9_position_6 : decode cX9_position 6 = .ok (.istore_n 3, 1) := by decide +kernel
theorem dX9_position_7 : decode cX9_position 7 = .ok (.aload_n 0, 1) := by decide +kernel
theorem dX9_position_8 : decode cX9_position 8 = .ok (.getfield 47, 3) := by decide +kernel
theorem dX9_position_11 : decode cX9_position 11 = .ok (.iload_n 1, 1) := by decide +kernel
theorem dX9_position_12 : decode cX9_position 12 = .ok (.iaload, 1) := by decide +kernel
theorem dX9_position_13 : decode cX9_position 13 = .ok (.istore 4, 2) := by decide +kernel
theorem dX9_position_15 : decode cX9_position 15 = .ok (.iload 4, 2) := by decide +kernel
theorem dX9_position_17 : decode cX9_position 17 = .ok (.iload_n 2, 1) := by decide +kernel
theorem dX9_position_18 : decode cX9_position 18 = .ok (.if_icmp .le 16, 3) := by decide +kernel
theorem dX9_position_21 : decode cX9_position 21 = .ok (.aload_n 0, 1) := by decide +kernel
theorem dX9_position_22 : decode cX9_position 22 = .ok (.getfield 72, 3) := by decide +kernel
theorem dX9_position_25 : decode cX9_position 25 = .ok (.iload_n 3, 1) := by decide +kernel
theorem dX9_position_26 : decode cX9_position 26 = .ok (.iaload, 1) := by decide +kernel
theorem dX9_position_27 : decode cX9_position 27 = .ok (.istore_n 3, 1) := by decide +kernel
theorem dX9_position_28 : decode cX9_position 28 = .ok (.iinc 4 (-1), 3) := by decide +kernel
theorem dX9_position_31 : decode cX9_position 31 = .ok (.goto (-16), 3) := by decide +kernel
theorem dX9_position_34 : decode cX9_position 34 = .ok (.iload_n 3, 1) := by decide +kernel
theorem dX9_position_35 : decode cX9_position 35 = .ok (.ireturn, 1) := by decide +kernel
theorem dX9_makes_0 : decode cX9_makes 0 = .ok (.aload_n 0, 1) := by decide +kernel
theorem dX9_makes_1 : decode cX9_makes 1 = .ok (.getfield 96, 3) := by decide +kernel
theorem dX9_makes_4 : decode cX9_makes 4 = .ok (.aload_n 0, 1) := by decide +kernel
theorem dX9_makes_5 : decode cX9_makes 5 = .ok (.getfield 310, 3) := by decide +kernel
theorem dX9_makes_8 : decode cX9_makes 8 = .ok (.iload_n 1, 1) := by decide +kernel
theorem dX9_makes_9 : decode cX9_makes 9 = .ok (.iastore, 1) := by decide +kernel
theorem dX9_makes_10 : decode cX9_makes 10 = .ok (.aload_n 0, 1) := by decide +kernel
theorem dX9_makes_11 : decode cX9_makes 11 = .ok (.getfield 102, 3) := by decide +kernel
theorem dX9_makes_14 : decode cX9_makes 14 = .ok (.aload_n 0, 1) := by decide +kernel
theorem dX9_makes_15 : decode cX9_makes 15 = .ok (.getfield 310, 3) := by decide +kernel
theorem dX9_makes_18 : decode cX9_makes 18 = .ok (.iload_n 2, 1) := by decide +kernel
theorem dX9_makes_19 : decode cX9_makes 19 = .ok (.iastore, 1) := by decide +kernel
theorem dX9_makes_20 : decode cX9_makes 20 = .ok (.aload_n 0, 1) := by decide +kernel
theorem dX9_makes_21 : decode cX9_makes 21 = .ok (.getfield 114, 3) := by decide +kernel
theorem dX9_makes_24 : decode cX9_makes 24 = .ok (.aload_n 0, 1) := by decide +kernel
theorem dX9_makes_25 : decode cX9_makes 25 = .ok (.getfield 310, 3) := by decide +kernel
theorem dX9_makes_28 : decode cX9_makes 28 = .ok (.lload_n 3, 1) := by decide +kernel
theorem dX9_makes_29 : decode cX9_makes 29 = .ok (.lastore, 1) := by decide +kernel
theorem dX9_makes_30 : decode cX9_makes 30 = .ok (.aload_n 0, 1) := by decide +kernel
theorem dX9_makes_31 : decode cX9_makes 31 = .ok (.getfield 117, 3) := by decide +kernel
theorem dX9_makes_34 : decode cX9_makes 34 = .ok (.aload_n 0, 1) := by decide +kernel
theorem dX9_makes_35 : decode cX9_makes 35 = .ok (.getfield 310, 3) := by decide +kernel
theorem dX9_makes_38 : decode cX9_makes 38 = .ok (.lload 5, 2) := by decide +kernel
theorem dX9_makes_40 : decode cX9_makes 40 = .ok (.lastore, 1) := by decide +kernel
theorem dX9_makes_41 : decode cX9_makes 41 = .ok (.aload_n 0, 1) := by decide +kernel
theorem dX9_makes_42 : decode cX9_makes 42 = .ok (.getfield 111, 3) := by decide +kernel
theorem dX9_makes_45 : decode cX9_makes 45 = .ok (.aload_n 0, 1) := by decide +kernel
theorem dX9_makes_46 : decode cX9_makes 46 = .ok (.getfield 310, 3) := by decide +kernel
theorem dX9_makes_49 : decode cX9_makes 49 = .ok (.iload 7, 2) := by decide +kernel
theorem dX9_makes_51 : decode cX9_makes 51 = .ok (.iastore, 1) := by decide +kernel
theorem dX9_makes_52 : decode cX9_makes 52 = .ok (.aload_n 0, 1) := by decide +kernel
theorem dX9_makes_53 : decode cX9_makes 53 = .ok (.getfield 99, 3) := by decide +kernel
theorem dX9_makes_56 : decode cX9_makes 56 = .ok (.aload_n 0, 1) := by decide +kernel
theorem dX9_makes_57 : decode cX9_makes 57 = .ok (.getfield 310, 3) := by decide +kernel
theorem dX9_makes_60 : decode cX9_makes 60 = .ok (.iload_n 1, 1) := by decide +kernel
theorem dX9_makes_61 : decode cX9_makes 61 = .ok (.iconst (-1), 1) := by decide +kernel
theorem dX9_makes_62 : decode cX9_makes 62 = .ok (.if_icmp .ne 10, 3) := by decide +kernel
theorem dX9_makes_65 : decode cX9_makes 65 = .ok (.aload_n 0, 1) := by decide +kernel
theorem dX9_makes_66 : decode cX9_makes 66 = .ok (.getfield 310, 3) := by decide +kernel
theorem dX9_makes_69 : decode cX9_makes 69 = .ok (.goto 9, 3) := by decide +kernel
theorem dX9_makes_72 : decode cX9_makes 72 = .ok (.aload_n 0, 1) := by decide +kernel
theorem dX9_makes_73 : decode cX9_makes 73 = .ok (.getfield 99, 3) := by decide +kernel
theorem dX9_makes_76 : decode cX9_makes 76 = .ok (.iload_n 1, 1) := by decide +kernel
theorem dX9_makes_77 : decode cX9_makes 77 = .ok (.iaload, 1) := by decide +kernel
theorem dX9_makes_78 : decode cX9_makes 78 = .ok (.iastore, 1) := by decide +kernel
theorem dX9_makes_79 : decode cX9_makes 79 = .ok (.aload_n 0, 1) := by decide +kernel
theorem dX9_makes_80 : decode cX9_makes 80 = .ok (.dup, 1) := by decide +kernel
theorem dX9_makes_81 : decode cX9_makes 81 = .ok (.getfield 310, 3) := by decide +kernel
theorem dX9_makes_84 : decode cX9_makes 84 = .ok (.iconst 1, 1) := by decide +kernel
theorem dX9_makes_85 : decode cX9_makes 85 = .ok (.iadd, 1) := by decide +kernel
theorem dX9_makes_86 : decode cX9_makes 86 = .ok (.putfield 310, 3) := by decide +kernel
theorem dX9_makes_89 : decode cX9_makes 89 = .ok (.aload_n 0, 1) := by decide +kernel
theorem dX9_makes_90 : decode cX9_makes 90 = .ok (.getfield 310, 3) := by decide +kernel
theorem dX9_makes_93 : decode cX9_makes 93 = .ok (.iconst 1, 1) := by decide +kernel
theorem dX9_makes_94 : decode cX9_makes 94 = .ok (.isub, 1) := by decide +kernel
theorem dX9_makes_95 : decode cX9_makes 95 = .ok (.ireturn, 1) := by decide +kernel
theorem dX9_lesson_0 : decode cX9_lesson 0 = .ok (.aload_n 0, 1) := by decide +kernel
theorem dX9_lesson_1 : decode cX9_lesson 1 = .ok (.iload_n 1, 1) := by decide +kernel
theorem dX9_lesson_2 : decode cX9_lesson 2 = .ok (.invokevirtual 241, 3) := by decide +kernel
theorem dX9_lesson_5 : decode cX9_lesson 5 = .ok (.istore_n 3, 1) := by decide +kernel
theorem dX9_lesson_6 : decode cX9_lesson 6 = .ok (.aload_n 0, 1) := by decide +kernel
theorem dX9_lesson_7 : decode cX9_lesson 7 = .ok (.iload_n 3, 1) := by decide +kernel
theorem dX9_lesson_8 : decode cX9_lesson 8 = .ok (.ifCond .ne 7, 3) := by decide +kernel
theorem dX9_lesson_11 : decode cX9_lesson 11 = .ok (.iconst 1, 1) := by decide +kernel
theorem dX9_lesson_12 : decode cX9_lesson 12 = .ok (.goto 35, 3) := by decide +kernel
theorem dX9_lesson_15 : decode cX9_lesson 15 = .ok (.iload_n 2, 1) := by decide +kernel
theorem dX9_lesson_16 : decode cX9_lesson 16 = .ok (.iconst 0, 1) := by decide +kernel
theorem dX9_lesson_17 : decode cX9_lesson 17 = .ok (.aload_n 0, 1) := by decide +kernel
theorem dX9_lesson_18 : decode cX9_lesson 18 = .ok (.getfield 47, 3) := by decide +kernel
theorem dX9_lesson_21 : decode cX9_lesson 21 = .ok (.iload_n 1, 1) := by decide +kernel
theorem dX9_lesson_22 : decode cX9_lesson 22 = .ok (.iaload, 1) := by decide +kernel
theorem dX9_lesson_23 : decode cX9_lesson 23 = .ok (.invokestatic 133, 3) := by decide +kernel
theorem dX9_lesson_26 : decode cX9_lesson 26 = .ok (.ifCond .ne 7, 3) := by decide +kernel
theorem dX9_lesson_29 : decode cX9_lesson 29 = .ok (.iconst 2, 1) := by decide +kernel
theorem dX9_lesson_30 : decode cX9_lesson 30 = .ok (.goto 17, 3) := by decide +kernel
theorem dX9_lesson_33 : decode cX9_lesson 33 = .ok (.aload_n 0, 1) := by decide +kernel
theorem dX9_lesson_34 : decode cX9_lesson 34 = .ok (.getfield 310, 3) := by decide +kernel
theorem dX9_lesson_37 : decode cX9_lesson 37 = .ok (.bipush 60, 2) := by decide +kernel
theorem dX9_lesson_39 : decode cX9_lesson 39 = .ok (.if_icmp .ne 7, 3) := by decide +kernel
theorem dX9_lesson_42 : decode cX9_lesson 42 = .ok (.iconst 3, 1) := by decide +kernel
theorem dX9_lesson_43 : decode cX9_lesson 43 = .ok (.goto 4, 3) := by decide +kernel
theorem dX9_lesson_46 : decode cX9_lesson 46 = .ok (.iconst 0, 1) := by decide +kernel
theorem dX9_lesson_47 : decode cX9_lesson 47 = .ok (.invokevirtual 185, 3) := by decide +kernel
theorem dX9_lesson_50 : decode cX9_lesson 50 = .ok (.ifCond .eq 5, 3) := by decide +kernel
theorem dX9_lesson_53 : decode cX9_lesson 53 = .ok (.iconst 0, 1) := by decide +kernel
theorem dX9_lesson_54 : decode cX9_lesson 54 = .ok (.ireturn, 1) := by decide +kernel
theorem dX9_lesson_55 : decode cX9_lesson 55 = .ok (.aload_n 0, 1) := by decide +kernel
theorem dX9_lesson_56 : decode cX9_lesson 56 = .ok (.iload_n 1, 1) := by decide +kernel
theorem dX9_lesson_57 : decode cX9_lesson 57 = .ok (.iload_n 2, 1) := by decide +kernel
theorem dX9_lesson_58 : decode cX9_lesson 58 = .ok (.invokevirtual 313, 3) := by decide +kernel
theorem dX9_lesson_61 : decode cX9_lesson 61 = .ok (.istore 4, 2) := by decide +kernel
theorem dX9_lesson_63 : decode cX9_lesson 63 = .ok (.aload_n 0, 1) := by decide +kernel
theorem dX9_lesson_64 : decode cX9_lesson 64 = .ok (.iconst (-1), 1) := by decide +kernel
theorem dX9_lesson_65 : decode cX9_lesson 65 = .ok (.bipush (-2), 2) := by decide +kernel
theorem dX9_lesson_67 : decode cX9_lesson 67 = .ok (.aload_n 0, 1) := by decide +kernel
theorem dX9_lesson_68 : decode cX9_lesson 68 = .ok (.getfield 65, 3) := by decide +kernel
theorem dX9_lesson_71 : decode cX9_lesson 71 = .ok (.iload 4, 2) := by decide +kernel
theorem dX9_lesson_73 : decode cX9_lesson 73 = .ok (.laload, 1) := by decide +kernel
theorem dX9_lesson_74 : decode cX9_lesson 74 = .ok (.aload_n 0, 1) := by decide +kernel
theorem dX9_lesson_75 : decode cX9_lesson 75 = .ok (.getfield 69, 3) := by decide +kernel
theorem dX9_lesson_78 : decode cX9_lesson 78 = .ok (.iload 4, 2) := by decide +kernel
theorem dX9_lesson_80 : decode cX9_lesson 80 = .ok (.laload, 1) := by decide +kernel
theorem dX9_lesson_81 : decode cX9_lesson 81 = .ok (.aload_n 0, 1) := by decide +kernel
theorem dX9_lesson_82 : decode cX9_lesson 82 = .ok (.iload_n 1, 1) := by decide +kernel
theorem dX9_lesson_83 : decode cX9_lesson 83 = .ok (.iload_n 2, 1) := by decide +kernel
theorem dX9_lesson_84 : decode cX9_lesson 84 = .ok (.invokevirtual 226, 3) := by decide +kernel
theorem dX9_lesson_87 : decode cX9_lesson 87 = .ok (.invokevirtual 316, 3) := by decide +kernel
theorem dX9_lesson_90 : decode cX9_lesson 90 = .ok (.istore 5, 2) := by decide +kernel
theorem dX9_lesson_92 : decode cX9_lesson 92 = .ok (.aload_n 0, 1) := by decide +kernel
theorem dX9_lesson_93 : decode cX9_lesson 93 = .ok (.getfield 105, 3) := by decide +kernel
theorem dX9_lesson_96 : decode cX9_lesson 96 = .ok (.iload 5, 2) := by decide +kernel
theorem dX9_lesson_98 : decode cX9_lesson 98 = .ok (.iload_n 1, 1) := by decide +kernel
theorem dX9_lesson_99 : decode cX9_lesson 99 = .ok (.iastore, 1) := by decide +kernel
theorem dX9_lesson_100 : decode cX9_lesson 100 = .ok (.aload_n 0, 1) := by decide +kernel
theorem dX9_lesson_101 : decode cX9_lesson 101 = .ok (.getfield 108, 3) := by decide +kernel
theorem dX9_lesson_104 : decode cX9_lesson 104 = .ok (.iload 5, 2) := by decide +kernel
theorem dX9_lesson_106 : decode cX9_lesson 106 = .ok (.iload_n 2, 1) := by decide +kernel
theorem dX9_lesson_107 : decode cX9_lesson 107 = .ok (.iastore, 1) := by decide +kernel
theorem dX9_lesson_108 : decode cX9_lesson 108 = .ok (.iload 5, 2) := by decide +kernel
theorem dX9_lesson_110 : decode cX9_lesson 110 = .ok (.ireturn, 1) := by decide +kernel
theorem dX9_child_0 : decode cX9_child 0 = .ok (.iconst (-1), 1) := by decide +kernel
theorem dX9_child_1 : decode cX9_child 1 = .ok (.istore_n 3, 1) := by decide +kernel
theorem dX9_child_2 : decode cX9_child 2 = .ok (.iconst 0, 1) := by decide +kernel
theorem dX9_child_3 : decode cX9_child 3 = .ok (.istore 4, 2) := by decide +kernel
theorem dX9_child_5 : decode cX9_child 5 = .ok (.iload 4, 2) := by decide +kernel
theorem dX9_child_7 : decode cX9_child 7 = .ok (.aload_n 0, 1) := by decide +kernel
theorem dX9_child_8 : decode cX9_child 8 = .ok (.getfield 310, 3) := by decide +kernel
theorem dX9_child_11 : decode cX9_child 11 = .ok (.if_icmp .ge 38, 3) := by decide +kernel
theorem dX9_child_14 : decode cX9_child 14 = .ok (.aload_n 0, 1) := by decide +kernel
theorem dX9_child_15 : decode cX9_child 15 = .ok (.getfield 96, 3) := by decide +kernel
theorem dX9_child_18 : decode cX9_child 18 = .ok (.iload 4, 2) := by decide +kernel
theorem dX9_child_20 : decode cX9_child 20 = .ok (.iaload, 1) := by decide +kernel
theorem dX9_child_21 : decode cX9_child 21 = .ok (.iload_n 1, 1) := by decide +kernel
theorem dX9_child_22 : decode cX9_child 22 = .ok (.if_icmp .ne 19, 3) := by decide +kernel
theorem dX9_child_25 : decode cX9_child 25 = .ok (.aload_n 0, 1) := by decide +kernel
theorem dX9_child_26 : decode cX9_child 26 = .ok (.getfield 102, 3) := by decide +kernel
theorem dX9_child_29 : decode cX9_child 29 = .ok (.iload 4, 2) := by decide +kernel
theorem dX9_child_31 : decode cX9_child 31 = .ok (.iaload, 1) := by decide +kernel
theorem dX9_child_32 : decode cX9_child 32 = .ok (.iload_n 2, 1) := by decide +kernel
theorem dX9_child_33 : decode cX9_child 33 = .ok (.if_icmp .ne 8, 3) := by decide +kernel
theorem dX9_child_36 : decode cX9_child 36 = .ok (.iload 4, 2) := by decide +kernel
theorem dX9_child_38 : decode cX9_child 38 = .ok (.goto 4, 3) := by decide +kernel
theorem dX9_child_41 : decode cX9_child 41 = .ok (.iload_n 3, 1) := by decide +kernel
theorem dX9_child_42 : decode cX9_child 42 = .ok (.istore_n 3, 1) := by decide +kernel
theorem dX9_child_43 : decode cX9_child 43 = .ok (.iinc 4 1, 3) := by decide +kernel
theorem dX9_child_46 : decode cX9_child 46 = .ok (.goto (-41), 3) := by decide +kernel
theorem dX9_child_49 : decode cX9_child 49 = .ok (.iload_n 3, 1) := by decide +kernel
theorem dX9_child_50 : decode cX9_child 50 = .ok (.ireturn, 1) := by decide +kernel
theorem dX9_canBranch_0 : decode cX9_canBranch 0 = .ok (.aload_n 0, 1) := by decide +kernel
theorem dX9_canBranch_1 : decode cX9_canBranch 1 = .ok (.getfield 114, 3) := by decide +kernel
theorem dX9_canBranch_4 : decode cX9_canBranch 4 = .ok (.iload_n 1, 1) := by decide +kernel
theorem dX9_canBranch_5 : decode cX9_canBranch 5 = .ok (.laload, 1) := by decide +kernel
theorem dX9_canBranch_6 : decode cX9_canBranch 6 = .ok (.lstore_n 3, 1) := by decide +kernel
theorem dX9_canBranch_7 : decode cX9_canBranch 7 = .ok (.aload_n 0, 1) := by decide +kernel
theorem dX9_canBranch_8 : decode cX9_canBranch 8 = .ok (.getfield 117, 3) := by decide +kernel
theorem dX9_canBranch_11 : decode cX9_canBranch 11 = .ok (.iload_n 1, 1) := by decide +kernel
theorem dX9_canBranch_12 : decode cX9_canBranch 12 = .ok (.laload, 1) := by decide +kernel
theorem dX9_canBranch_13 : decode cX9_canBranch 13 = .ok (.lstore 5, 2) := by decide +kernel
theorem dX9_canBranch_15 : decode cX9_canBranch 15 = .ok (.iload_n 2, 1) := by decide +kernel
theorem dX9_canBranch_16 : decode cX9_canBranch 16 = .ok (.iconst (-1), 1) := by decide +kernel
theorem dX9_canBranch_17 : decode cX9_canBranch 17 = .ok (.if_icmp .ne 16, 3) := by decide +kernel
theorem dX9_canBranch_20 : decode cX9_canBranch 20 = .ok (.aload_n 0, 1) := by decide +kernel
theorem dX9_canBranch_21 : decode cX9_canBranch 21 = .ok (.lload_n 3, 1) := by decide +kernel
theorem dX9_canBranch_22 : decode cX9_canBranch 22 = .ok (.putfield 178, 3) := by decide +kernel
theorem dX9_canBranch_25 : decode cX9_canBranch 25 = .ok (.aload_n 0, 1) := by decide +kernel
theorem dX9_canBranch_26 : decode cX9_canBranch 26 = .ok (.lload 5, 2) := by decide +kernel
theorem dX9_canBranch_28 : decode cX9_canBranch 28 = .ok (.putfield 182, 3) := by decide +kernel
theorem dX9_canBranch_31 : decode cX9_canBranch 31 = .ok (.iconst 1, 1) := by decide +kernel
theorem dX9_canBranch_32 : decode cX9_canBranch 32 = .ok (.ireturn, 1) := by decide +kernel
theorem dX9_canBranch_33 : decode cX9_canBranch 33 = .ok (.aload_n 0, 1) := by decide +kernel
theorem dX9_canBranch_34 : decode cX9_canBranch 34 = .ok (.lload_n 3, 1) := by decide +kernel
theorem dX9_canBranch_35 : decode cX9_canBranch 35 = .ok (.lload 5, 2) := by decide +kernel
theorem dX9_canBranch_37 : decode cX9_canBranch 37 = .ok (.iload_n 2, 1) := by decide +kernel
theorem dX9_canBranch_38 : decode cX9_canBranch 38 = .ok (.invokevirtual 229, 3) := by decide +kernel
theorem dX9_canBranch_41 : decode cX9_canBranch 41 = .ok (.ifCond .ne 5, 3) := by decide +kernel
theorem dX9_canBranch_44 : decode cX9_canBranch 44 = .ok (.iconst 0, 1) := by decide +kernel
theorem dX9_canBranch_45 : decode cX9_canBranch 45 = .ok (.ireturn, 1) := by decide +kernel
theorem dX9_canBranch_46 : decode cX9_canBranch 46 = .ok (.aload_n 0, 1) := by decide +kernel
theorem dX9_canBranch_47 : decode cX9_canBranch 47 = .ok (.lload_n 3, 1) := by decide +kernel
theorem dX9_canBranch_48 : decode cX9_canBranch 48 = .ok (.lload 5, 2) := by decide +kernel
theorem dX9_canBranch_50 : decode cX9_canBranch 50 = .ok (.aload_n 0, 1) := by decide +kernel
theorem dX9_canBranch_51 : decode cX9_canBranch 51 = .ok (.getfield 111, 3) := by decide +kernel
theorem dX9_canBranch_54 : decode cX9_canBranch 54 = .ok (.iload_n 1, 1) := by decide +kernel
theorem dX9_canBranch_55 : decode cX9_canBranch 55 = .ok (.iaload, 1) := by decide +kernel
theorem dX9_canBranch_56 : decode cX9_canBranch 56 = .ok (.iload_n 2, 1) := by decide +kernel
theorem dX9_canBranch_57 : decode cX9_canBranch 57 = .ok (.invokevirtual 233, 3) := by decide +kernel
theorem dX9_canBranch_60 : decode cX9_canBranch 60 = .ok (.iconst 0, 1) := by decide +kernel
theorem dX9_canBranch_61 : decode cX9_canBranch 61 = .ok (.istore 7, 2) := by decide +kernel
theorem dX9_canBranch_63 : decode cX9_canBranch 63 = .ok (.iload_n 1, 1) := by decide +kernel
theorem dX9_canBranch_64 : decode cX9_canBranch 64 = .ok (.istore 8, 2) := by decide +kernel
theorem dX9_canBranch_66 : decode cX9_canBranch 66 = .ok (.iload 8, 2) := by decide +kernel
theorem dX9_canBranch_68 : decode cX9_canBranch 68 = .ok (.iconst (-1), 1) := by decide +kernel
theorem dX9_canBranch_69 : decode cX9_canBranch 69 = .ok (.if_icmp .eq 57, 3) := by decide +kernel
theorem dX9_canBranch_72 : decode cX9_canBranch 72 = .ok (.iload 7, 2) := by decide +kernel
theorem dX9_canBranch_74 : decode cX9_canBranch 74 = .ok (.ifCond .ne 33, 3) := by decide +kernel
theorem dX9_canBranch_77 : decode cX9_canBranch 77 = .ok (.aload_n 0, 1) := by decide +kernel
theorem dX9_canBranch_78 : decode cX9_canBranch 78 = .ok (.getfield 114, 3) := by decide +kernel
theorem dX9_canBranch_81 : decode cX9_canBranch 81 = .ok (.iload 8, 2) := by decide +kernel
theorem dX9_canBranch_83 : decode cX9_canBranch 83 = .ok (.laload, 1) := by decide +kernel
theorem dX9_canBranch_84 : decode cX9_canBranch 84 = .ok (.aload_n 0, 1) := by decide +kernel
theorem dX9_canBranch_85 : decode cX9_canBranch 85 = .ok (.getfield 178, 3) := by decide +kernel
theorem dX9_canBranch_88 : decode cX9_canBranch 88 = .ok (.lcmp, 1) := by decide +kernel
theorem dX9_canBranch_89 : decode cX9_canBranch 89 = .ok (.ifCond .ne 22, 3) := by decide +kernel
theorem dX9_canBranch_92 : decode cX9_canBranch 92 = .ok (.aload_n 0, 1) := by decide +kernel
theorem dX9_canBranch_93 : decode cX9_canBranch 93 = .ok (.getfield 117, 3) := by decide +kernel
theorem dX9_canBranch_96 : decode cX9_canBranch 96 = .ok (.iload 8, 2) := by decide +kernel
theorem dX9_canBranch_98 : decode cX9_canBranch 98 = .ok (.laload, 1) := by decide +kernel
theorem dX9_canBranch_99 : decode cX9_canBranch 99 = .ok (.aload_n 0, 1) := by decide +kernel
theorem dX9_canBranch_100 : decode cX9_canBranch 100 = .ok (.getfield 182, 3) := by decide +kernel
theorem dX9_canBranch_103 : decode cX9_canBranch 103 = .ok (.lcmp, 1) := by decide +kernel
theorem dX9_canBranch_104 : decode cX9_canBranch 104 = .ok (.ifCond .ne 7, 3) := by decide +kernel
theorem dX9_canBranch_107 : decode cX9_canBranch 107 = .ok (.iconst 1, 1) := by decide +kernel
theorem dX9_canBranch_108 : decode cX9_canBranch 108 = .ok (.goto 4, 3) := by decide +kernel
theorem dX9_canBranch_111 : decode cX9_canBranch 111 = .ok (.iconst 0, 1) := by decide +kernel
theorem dX9_canBranch_112 : decode cX9_canBranch 112 = .ok (.istore 7, 2) := by decide +kernel
theorem dX9_canBranch_114 : decode cX9_canBranch 114 = .ok (.aload_n 0, 1) := by decide +kernel
theorem dX9_canBranch_115 : decode cX9_canBranch 115 = .ok (.getfield 96, 3) := by decide +kernel
theorem dX9_canBranch_118 : decode cX9_canBranch 118 = .ok (.iload 8, 2) := by decide +kernel
theorem dX9_canBranch_120 : decode cX9_canBranch 120 = .ok (.iaload, 1) := by decide +kernel
theorem dX9_canBranch_121 : decode cX9_canBranch 121 = .ok (.istore 8, 2) := by decide +kernel
theorem dX9_canBranch_123 : decode cX9_canBranch 123 = .ok (.goto (-57), 3) := by decide +kernel
theorem dX9_canBranch_126 : decode cX9_canBranch 126 = .ok (.aload_n 0, 1) := by decide +kernel
theorem dX9_canBranch_127 : decode cX9_canBranch 127 = .ok (.getfield 99, 3) := by decide +kernel
theorem dX9_canBranch_130 : decode cX9_canBranch 130 = .ok (.iload_n 1, 1) := by decide +kernel
theorem dX9_canBranch_131 : decode cX9_canBranch 131 = .ok (.iaload, 1) := by decide +kernel
theorem dX9_canBranch_132 : decode cX9_canBranch 132 = .ok (.istore 8, 2) := by decide +kernel
theorem dX9_canBranch_134 : decode cX9_canBranch 134 = .ok (.aload_n 0, 1) := by decide +kernel
theorem dX9_canBranch_135 : decode cX9_canBranch 135 = .ok (.getfield 174, 3) := by decide +kernel
theorem dX9_canBranch_138 : decode cX9_canBranch 138 = .ok (.ifCond .ne 45, 3) := by decide +kernel
theorem dX9_canBranch_141 : decode cX9_canBranch 141 = .ok (.iload 7, 2) := by decide +kernel
theorem dX9_canBranch_143 : decode cX9_canBranch 143 = .ok (.ifCond .ne 40, 3) := by decide +kernel
theorem dX9_canBranch_146 : decode cX9_canBranch 146 = .ok (.aload_n 0, 1) := by decide +kernel
theorem dX9_canBranch_147 : decode cX9_canBranch 147 = .ok (.aload_n 0, 1) := by decide +kernel
theorem dX9_canBranch_148 : decode cX9_canBranch 148 = .ok (.aload_n 0, 1) := by decide +kernel
theorem dX9_canBranch_149 : decode cX9_canBranch 149 = .ok (.getfield 105, 3) := by decide +kernel
theorem dX9_canBranch_152 : decode cX9_canBranch 152 = .ok (.iload 8, 2) := by decide +kernel
theorem dX9_canBranch_154 : decode cX9_canBranch 154 = .ok (.iaload, 1) := by decide +kernel
theorem dX9_canBranch_155 : decode cX9_canBranch 155 = .ok (.aload_n 0, 1) := by decide +kernel
theorem dX9_canBranch_156 : decode cX9_canBranch 156 = .ok (.getfield 108, 3) := by decide +kernel
theorem dX9_canBranch_159 : decode cX9_canBranch 159 = .ok (.iload 8, 2) := by decide +kernel
theorem dX9_canBranch_161 : decode cX9_canBranch 161 = .ok (.iaload, 1) := by decide +kernel
theorem dX9_canBranch_162 : decode cX9_canBranch 162 = .ok (.invokevirtual 313, 3) := by decide +kernel
theorem dX9_canBranch_165 : decode cX9_canBranch 165 = .ok (.aload_n 0, 1) := by decide +kernel
theorem dX9_canBranch_166 : decode cX9_canBranch 166 = .ok (.getfield 178, 3) := by decide +kernel
theorem dX9_canBranch_169 : decode cX9_canBranch 169 = .ok (.aload_n 0, 1) := by decide +kernel
theorem dX9_canBranch_170 : decode cX9_canBranch 170 = .ok (.getfield 182, 3) := by decide +kernel
theorem dX9_canBranch_173 : decode cX9_canBranch 173 = .ok (.invokevirtual 237, 3) := by decide +kernel
theorem dX9_canBranch_176 : decode cX9_canBranch 176 = .ok (.ifCond .ne 7, 3) := by decide +kernel
theorem dX9_canBranch_179 : decode cX9_canBranch 179 = .ok (.iconst 1, 1) := by decide +kernel
theorem dX9_canBranch_180 : decode cX9_canBranch 180 = .ok (.goto 4, 3) := by decide +kernel
theorem dX9_canBranch_183 : decode cX9_canBranch 183 = .ok (.iconst 0, 1) := by decide +kernel
theorem dX9_canBranch_184 : decode cX9_canBranch 184 = .ok (.ireturn, 1) := by decide +kernel
theorem dX9_branch_0 : decode cX9_branch 0 = .ok (.aload_n 0, 1) := by decide +kernel
theorem dX9_branch_1 : decode cX9_branch 1 = .ok (.iload_n 1, 1) := by decide +kernel
theorem dX9_branch_2 : decode cX9_branch 2 = .ok (.invokevirtual 320, 3) := by decide +kernel
theorem dX9_branch_5 : decode cX9_branch 5 = .ok (.ifCond .eq 19, 3) := by decide +kernel
theorem dX9_branch_8 : decode cX9_branch 8 = .ok (.iload_n 2, 1) := by decide +kernel
theorem dX9_branch_9 : decode cX9_branch 9 = .ok (.iconst (-1), 1) := by decide +kernel
theorem dX9_branch_10 : decode cX9_branch 10 = .ok (.if_icmp .eq 10, 3) := by decide +kernel
theorem dX9_branch_13 : decode cX9_branch 13 = .ok (.iload_n 2, 1) := by decide +kernel
theorem dX9_branch_14 : decode cX9_branch 14 = .ok (.invokestatic 244, 3) := by decide +kernel
theorem dX9_branch_17 : decode cX9_branch 17 = .ok (.ifCond .eq 7, 3) := by decide +kernel
theorem dX9_branch_20 : decode cX9_branch 20 = .ok (.iconst 1, 1) := by decide +kernel
theorem dX9_branch_21 : decode cX9_branch 21 = .ok (.goto 4, 3) := by decide +kernel
theorem dX9_branch_24 : decode cX9_branch 24 = .ok (.iconst 0, 1) := by decide +kernel
theorem dX9_branch_25 : decode cX9_branch 25 = .ok (.istore_n 3, 1) := by decide +kernel
theorem dX9_branch_26 : decode cX9_branch 26 = .ok (.iload_n 3, 1) := by decide +kernel
theorem dX9_branch_27 : decode cX9_branch 27 = .ok (.ifCond .eq 12, 3) := by decide +kernel
theorem dX9_branch_30 : decode cX9_branch 30 = .ok (.aload_n 0, 1) := by decide +kernel
theorem dX9_branch_31 : decode cX9_branch 31 = .ok (.iload_n 1, 1) := by decide +kernel
theorem dX9_branch_32 : decode cX9_branch 32 = .ok (.iload_n 2, 1) := by decide +kernel
theorem dX9_branch_33 : decode cX9_branch 33 = .ok (.invokevirtual 323, 3) := by decide +kernel
theorem dX9_branch_36 : decode cX9_branch 36 = .ok (.goto 4, 3) := by decide +kernel
theorem dX9_branch_39 : decode cX9_branch 39 = .ok (.iconst (-1), 1) := by decide +kernel
theorem dX9_branch_40 : decode cX9_branch 40 = .ok (.istore 4, 2) := by decide +kernel
theorem dX9_branch_42 : decode cX9_branch 42 = .ok (.aload_n 0, 1) := by decide +kernel
theorem dX9_branch_43 : decode cX9_branch 43 = .ok (.iload_n 3, 1) := by decide +kernel
theorem dX9_branch_44 : decode cX9_branch 44 = .ok (.ifCond .ne 7, 3) := by decide +kernel
theorem dX9_branch_47 : decode cX9_branch 47 = .ok (.iconst 1, 1) := by decide +kernel
theorem dX9_branch_48 : decode cX9_branch 48 = .ok (.goto 32, 3) := by decide +kernel
theorem dX9_branch_51 : decode cX9_branch 51 = .ok (.iload 4, 2) := by decide +kernel
theorem dX9_branch_53 : decode cX9_branch 53 = .ok (.iconst (-1), 1) := by decide +kernel
theorem dX9_branch_54 : decode cX9_branch 54 = .ok (.if_icmp .ne 25, 3) := by decide +kernel
theorem dX9_branch_57 : decode cX9_branch 57 = .ok (.aload_n 0, 1) := by decide +kernel
theorem dX9_branch_58 : decode cX9_branch 58 = .ok (.getfield 310, 3) := by decide +kernel
theorem dX9_branch_61 : decode cX9_branch 61 = .ok (.bipush 60, 2) := by decide +kernel
theorem dX9_branch_63 : decode cX9_branch 63 = .ok (.if_icmp .eq 12, 3) := by decide +kernel
theorem dX9_branch_66 : decode cX9_branch 66 = .ok (.aload_n 0, 1) := by decide +kernel
theorem dX9_branch_67 : decode cX9_branch 67 = .ok (.iload_n 1, 1) := by decide +kernel
theorem dX9_branch_68 : decode cX9_branch 68 = .ok (.iload_n 2, 1) := by decide +kernel
theorem dX9_branch_69 : decode cX9_branch 69 = .ok (.invokevirtual 326, 3) := by decide +kernel
theorem dX9_branch_72 : decode cX9_branch 72 = .ok (.ifCond .ne 7, 3) := by decide +kernel
theorem dX9_branch_75 : decode cX9_branch 75 = .ok (.iconst 2, 1) := by decide +kernel
theorem dX9_branch_76 : decode cX9_branch 76 = .ok (.goto 4, 3) := by decide +kernel
theorem dX9_branch_79 : decode cX9_branch 79 = .ok (.iconst 0, 1) := by decide +kernel
theorem dX9_branch_80 : decode cX9_branch 80 = .ok (.invokevirtual 185, 3) := by decide +kernel
theorem dX9_branch_83 : decode cX9_branch 83 = .ok (.ifCond .eq 5, 3) := by decide +kernel
theorem dX9_branch_86 : decode cX9_branch 86 = .ok (.iconst 0, 1) := by decide +kernel
theorem dX9_branch_87 : decode cX9_branch 87 = .ok (.ireturn, 1) := by decide +kernel
theorem dX9_branch_88 : decode cX9_branch 88 = .ok (.iload 4, 2) := by decide +kernel
theorem dX9_branch_90 : decode cX9_branch 90 = .ok (.iconst (-1), 1) := by decide +kernel
theorem dX9_branch_91 : decode cX9_branch 91 = .ok (.if_icmp .eq 8, 3) := by decide +kernel
theorem dX9_branch_94 : decode cX9_branch 94 = .ok (.iload 4, 2) := by decide +kernel
theorem dX9_branch_96 : decode cX9_branch 96 = .ok (.goto 25, 3) := by decide +kernel
theorem dX9_branch_99 : decode cX9_branch 99 = .ok (.aload_n 0, 1) := by decide +kernel
theorem dX9_branch_100 : decode cX9_branch 100 = .ok (.iload_n 1, 1) := by decide +kernel
theorem dX9_branch_101 : decode cX9_branch 101 = .ok (.iload_n 2, 1) := by decide +kernel
theorem dX9_branch_102 : decode cX9_branch 102 = .ok (.aload_n 0, 1) := by decide +kernel
theorem dX9_branch_103 : decode cX9_branch 103 = .ok (.getfield 178, 3) := by decide +kernel
theorem dX9_branch_106 : decode cX9_branch 106 = .ok (.aload_n 0, 1) := by decide +kernel
theorem dX9_branch_107 : decode cX9_branch 107 = .ok (.getfield 182, 3) := by decide +kernel
theorem dX9_branch_110 : decode cX9_branch 110 = .ok (.iconst 1, 1) := by decide +kernel
theorem dX9_branch_111 : decode cX9_branch 111 = .ok (.aload_n 0, 1) := by decide +kernel
theorem dX9_branch_112 : decode cX9_branch 112 = .ok (.getfield 111, 3) := by decide +kernel
theorem dX9_branch_115 : decode cX9_branch 115 = .ok (.iload_n 1, 1) := by decide +kernel
theorem dX9_branch_116 : decode cX9_branch 116 = .ok (.iaload, 1) := by decide +kernel
theorem dX9_branch_117 : decode cX9_branch 117 = .ok (.isub, 1) := by decide +kernel
theorem dX9_branch_118 : decode cX9_branch 118 = .ok (.invokevirtual 316, 3) := by decide +kernel
theorem dX9_branch_121 : decode cX9_branch 121 = .ok (.ireturn, 1) := by decide +kernel
theorem dX9_mark_0 : decode cX9_mark 0 = .ok (.aload_n 0, 1) := by decide +kernel
theorem dX9_mark_1 : decode cX9_mark 1 = .ok (.iload_n 1, 1) := by decide +kernel
theorem dX9_mark_2 : decode cX9_mark 2 = .ok (.invokevirtual 320, 3) := by decide +kernel
theorem dX9_mark_5 : decode cX9_mark 5 = .ok (.ifCond .eq 16, 3) := by decide +kernel
theorem dX9_mark_8 : decode cX9_mark 8 = .ok (.iload_n 2, 1) := by decide +kernel
theorem dX9_mark_9 : decode cX9_mark 9 = .ok (.iconst 0, 1) := by decide +kernel
theorem dX9_mark_10 : decode cX9_mark 10 = .ok (.iconst 3, 1) := by decide +kernel
theorem dX9_mark_11 : decode cX9_mark 11 = .ok (.invokestatic 133, 3) := by decide +kernel
theorem dX9_mark_14 : decode cX9_mark 14 = .ok (.ifCond .eq 7, 3) := by decide +kernel
theorem dX9_mark_17 : decode cX9_mark 17 = .ok (.iconst 1, 1) := by decide +kernel
theorem dX9_mark_18 : decode cX9_mark 18 = .ok (.goto 4, 3) := by decide +kernel
theorem dX9_mark_21 : decode cX9_mark 21 = .ok (.iconst 0, 1) := by decide +kernel
theorem dX9_mark_22 : decode cX9_mark 22 = .ok (.istore 4, 2) := by decide +kernel
theorem dX9_mark_24 : decode cX9_mark 24 = .ok (.aload_n 0, 1) := by decide +kernel
theorem dX9_mark_25 : decode cX9_mark 25 = .ok (.iload 4, 2) := by decide +kernel
theorem dX9_mark_27 : decode cX9_mark 27 = .ok (.ifCond .ne 7, 3) := by decide +kernel
theorem dX9_mark_30 : decode cX9_mark 30 = .ok (.iconst 1, 1) := by decide +kernel
theorem dX9_mark_31 : decode cX9_mark 31 = .ok (.goto 17, 3) := by decide +kernel
theorem dX9_mark_34 : decode cX9_mark 34 = .ok (.iload_n 3, 1) := by decide +kernel
theorem dX9_mark_35 : decode cX9_mark 35 = .ok (.iconst 0, 1) := by decide +kernel
theorem dX9_mark_36 : decode cX9_mark 36 = .ok (.iconst 3, 1) := by decide +kernel
theorem dX9_mark_37 : decode cX9_mark 37 = .ok (.invokestatic 133, 3) := by decide +kernel
theorem dX9_mark_40 : decode cX9_mark 40 = .ok (.ifCond .eq 7, 3) := by decide +kernel
theorem dX9_mark_43 : decode cX9_mark 43 = .ok (.iconst 0, 1) := by decide +kernel
theorem dX9_mark_44 : decode cX9_mark 44 = .ok (.goto 4, 3) := by decide +kernel
theorem dX9_mark_47 : decode cX9_mark 47 = .ok (.iconst 2, 1) := by decide +kernel
theorem dX9_mark_48 : decode cX9_mark 48 = .ok (.invokevirtual 185, 3) := by decide +kernel
theorem dX9_mark_51 : decode cX9_mark 51 = .ok (.ifCond .eq 5, 3) := by decide +kernel
theorem dX9_mark_54 : decode cX9_mark 54 = .ok (.iconst 0, 1) := by decide +kernel
theorem dX9_mark_55 : decode cX9_mark 55 = .ok (.ireturn, 1) := by decide +kernel
theorem dX9_mark_56 : decode cX9_mark 56 = .ok (.aload_n 0, 1) := by decide +kernel
theorem dX9_mark_57 : decode cX9_mark 57 = .ok (.getfield 120, 3) := by decide +kernel
theorem dX9_mark_60 : decode cX9_mark 60 = .ok (.iconst 4, 1) := by decide +kernel
theorem dX9_mark_61 : decode cX9_mark 61 = .ok (.iload_n 1, 1) := by decide +kernel
theorem dX9_mark_62 : decode cX9_mark 62 = .ok (.imul, 1) := by decide +kernel
theorem dX9_mark_63 : decode cX9_mark 63 = .ok (.iload_n 2, 1) := by decide +kernel
theorem dX9_mark_64 : decode cX9_mark 64 = .ok (.iadd, 1) := by decide +kernel
theorem dX9_mark_65 : decode cX9_mark 65 = .ok (.iaload, 1) := by decide +kernel
theorem dX9_mark_66 : decode cX9_mark 66 = .ok (.istore 5, 2) := by decide +kernel
theorem dX9_mark_68 : decode cX9_mark 68 = .ok (.aload_n 0, 1) := by decide +kernel
theorem dX9_mark_69 : decode cX9_mark 69 = .ok (.getfield 120, 3) := by decide +kernel
theorem dX9_mark_72 : decode cX9_mark 72 = .ok (.iconst 4, 1) := by decide +kernel
theorem dX9_mark_73 : decode cX9_mark 73 = .ok (.iload_n 1, 1) := by decide +kernel
theorem dX9_mark_74 : decode cX9_mark 74 = .ok (.imul, 1) := by decide +kernel
theorem dX9_mark_75 : decode cX9_mark 75 = .ok (.iload_n 2, 1) := by decide +kernel
theorem dX9_mark_76 : decode cX9_mark 76 = .ok (.iadd, 1) := by decide +kernel
theorem dX9_mark_77 : decode cX9_mark 77 = .ok (.iload_n 3, 1) := by decide +kernel
theorem dX9_mark_78 : decode cX9_mark 78 = .ok (.iastore, 1) := by decide +kernel
theorem dX9_mark_79 : decode cX9_mark 79 = .ok (.iload 5, 2) := by decide +kernel
theorem dX9_mark_81 : decode cX9_mark 81 = .ok (.ireturn, 1) := by decide +kernel
theorem dX9_node_0 : decode cX9_node 0 = .ok (.aload_n 0, 1) := by decide +kernel
theorem dX9_node_1 : decode cX9_node 1 = .ok (.aload_n 0, 1) := by decide +kernel
theorem dX9_node_2 : decode cX9_node 2 = .ok (.iload_n 1, 1) := by decide +kernel
theorem dX9_node_3 : decode cX9_node 3 = .ok (.invokevirtual 320, 3) := by decide +kernel
theorem dX9_node_6 : decode cX9_node 6 = .ok (.ifCond .eq 7, 3) := by decide +kernel
theorem dX9_node_9 : decode cX9_node 9 = .ok (.iconst 0, 1) := by decide +kernel
theorem dX9_node_10 : decode cX9_node 10 = .ok (.goto 4, 3) := by decide +kernel
theorem dX9_node_13 : decode cX9_node 13 = .ok (.iconst 1, 1) := by decide +kernel
theorem dX9_node_14 : decode cX9_node 14 = .ok (.invokevirtual 185, 3) := by decide +kernel
theorem dX9_node_17 : decode cX9_node 17 = .ok (.ifCond .eq 5, 3) := by decide +kernel
theorem dX9_node_20 : decode cX9_node 20 = .ok (.iconst 0, 1) := by decide +kernel
theorem dX9_node_21 : decode cX9_node 21 = .ok (.ireturn, 1) := by decide +kernel
theorem dX9_node_22 : decode cX9_node 22 = .ok (.iconst 0, 1) := by decide +kernel
theorem dX9_node_23 : decode cX9_node 23 = .ok (.istore_n 2, 1) := by decide +kernel
theorem dX9_node_24 : decode cX9_node 24 = .ok (.iconst 0, 1) := by decide +kernel
theorem dX9_node_25 : decode cX9_node 25 = .ok (.istore_n 3, 1) := by decide +kernel
theorem dX9_node_26 : decode cX9_node 26 = .ok (.iload_n 3, 1) := by decide +kernel
theorem dX9_node_27 : decode cX9_node 27 = .ok (.aload_n 0, 1) := by decide +kernel
theorem dX9_node_28 : decode cX9_node 28 = .ok (.getfield 310, 3) := by decide +kernel
theorem dX9_node_31 : decode cX9_node 31 = .ok (.if_icmp .ge 27, 3) := by decide +kernel
theorem dX9_node_34 : decode cX9_node 34 = .ok (.iload_n 2, 1) := by decide +kernel
theorem dX9_node_35 : decode cX9_node 35 = .ok (.aload_n 0, 1) := by decide +kernel
theorem dX9_node_36 : decode cX9_node 36 = .ok (.getfield 96, 3) := by decide +kernel
theorem dX9_node_39 : decode cX9_node 39 = .ok (.iload_n 3, 1) := by decide +kernel
theorem dX9_node_40 : decode cX9_node 40 = .ok (.iaload, 1) := by decide +kernel
theorem dX9_node_41 : decode cX9_node 41 = .ok (.iload_n 1, 1) := by decide +kernel
theorem dX9_node_42 : decode cX9_node 42 = .ok (.if_icmp .ne 7, 3) := by decide +kernel
theorem dX9_node_45 : decode cX9_node 45 = .ok (.iconst 1, 1) := by decide +kernel
theorem dX9_node_46 : decode cX9_node 46 = .ok (.goto 4, 3) := by decide +kernel
theorem dX9_node_49 : decode cX9_node 49 = .ok (.iconst 0, 1) := by decide +kernel
theorem dX9_node_50 : decode cX9_node 50 = .ok (.iadd, 1) := by decide +kernel
theorem dX9_node_51 : decode cX9_node 51 = .ok (.istore_n 2, 1) := by decide +kernel
theorem dX9_node_52 : decode cX9_node 52 = .ok (.iinc 3 1, 3) := by decide +kernel
theorem dX9_node_55 : decode cX9_node 55 = .ok (.goto (-29), 3) := by decide +kernel
theorem dX9_node_58 : decode cX9_node 58 = .ok (.iconst 0, 1) := by decide +kernel
theorem dX9_node_59 : decode cX9_node 59 = .ok (.istore_n 3, 1) := by decide +kernel
theorem dX9_node_60 : decode cX9_node 60 = .ok (.iconst 0, 1) := by decide +kernel
theorem dX9_node_61 : decode cX9_node 61 = .ok (.istore 4, 2) := by decide +kernel
theorem dX9_node_63 : decode cX9_node 63 = .ok (.iconst 4, 1) := by decide +kernel
theorem dX9_node_64 : decode cX9_node 64 = .ok (.iload_n 1, 1) := by decide +kernel
theorem dX9_node_65 : decode cX9_node 65 = .ok (.imul, 1) := by decide +kernel
theorem dX9_node_66 : decode cX9_node 66 = .ok (.istore 5, 2) := by decide +kernel
theorem dX9_node_68 : decode cX9_node 68 = .ok (.iload 5, 2) := by decide +kernel
theorem dX9_node_70 : decode cX9_node 70 = .ok (.iconst 4, 1) := by decide +kernel
theorem dX9_node_71 : decode cX9_node 71 = .ok (.iload_n 1, 1) := by decide +kernel
theorem dX9_node_72 : decode cX9_node 72 = .ok (.imul, 1) := by decide +kernel
theorem dX9_node_73 : decode cX9_node 73 = .ok (.iconst 4, 1) := by decide +kernel
theorem dX9_node_74 : decode cX9_node 74 = .ok (.iadd, 1) := by decide +kernel
theorem dX9_node_75 : decode cX9_node 75 = .ok (.if_icmp .ge 53, 3) := by decide +kernel
theorem dX9_node_78 : decode cX9_node 78 = .ok (.iload_n 3, 1) := by decide +kernel
theorem dX9_node_79 : decode cX9_node 79 = .ok (.ifCond .ne 14, 3) := by decide +kernel
theorem dX9_node_82 : decode cX9_node 82 = .ok (.aload_n 0, 1) := by decide +kernel
theorem dX9_node_83 : decode cX9_node 83 = .ok (.getfield 120, 3) := by decide +kernel
theorem dX9_node_86 : decode cX9_node 86 = .ok (.iload 5, 2) := by decide +kernel
theorem dX9_node_88 : decode cX9_node 88 = .ok (.iaload, 1) := by decide +kernel
theorem dX9_node_89 : decode cX9_node 89 = .ok (.iconst 1, 1) := by decide +kernel
theorem dX9_node_90 : decode cX9_node 90 = .ok (.if_icmp .ne 7, 3) := by decide +kernel
theorem dX9_node_93 : decode cX9_node 93 = .ok (.iconst 1, 1) := by decide +kernel
theorem dX9_node_94 : decode cX9_node 94 = .ok (.goto 4, 3) := by decide +kernel
theorem dX9_node_97 : decode cX9_node 97 = .ok (.iconst 0, 1) := by decide +kernel
theorem dX9_node_98 : decode cX9_node 98 = .ok (.istore_n 3, 1) := by decide +kernel
theorem dX9_node_99 : decode cX9_node 99 = .ok (.iload 4, 2) := by decide +kernel
theorem dX9_node_101 : decode cX9_node 101 = .ok (.ifCond .ne 14, 3) := by decide +kernel
theorem dX9_node_104 : decode cX9_node 104 = .ok (.aload_n 0, 1) := by decide +kernel
theorem dX9_node_105 : decode cX9_node 105 = .ok (.getfield 120, 3) := by decide +kernel
theorem dX9_node_108 : decode cX9_node 108 = .ok (.iload 5, 2) := by decide +kernel
theorem dX9_node_110 : decode cX9_node 110 = .ok (.iaload, 1) := by decide +kernel
theorem dX9_node_111 : decode cX9_node 111 = .ok (.iconst 2, 1) := by decide +kernel
theorem dX9_node_112 : decode cX9_node 112 = .ok (.if_icmp .ne 7, 3) := by decide +kernel
theorem dX9_node_115 : decode cX9_node 115 = .ok (.iconst 1, 1) := by decide +kernel
theorem dX9_node_116 : decode cX9_node 116 = .ok (.goto 4, 3) := by decide +kernel
theorem dX9_node_119 : decode cX9_node 119 = .ok (.iconst 0, 1) := by decide +kernel
theorem dX9_node_120 : decode cX9_node 120 = .ok (.istore 4, 2) := by decide +kernel
theorem dX9_node_122 : decode cX9_node 122 = .ok (.iinc 5 1, 3) := by decide +kernel
theorem dX9_node_125 : decode cX9_node 125 = .ok (.goto (-57), 3) := by decide +kernel
theorem dX9_node_128 : decode cX9_node 128 = .ok (.sipush 1000, 3) := by decide +kernel
theorem dX9_node_131 : decode cX9_node 131 = .ok (.iload_n 2, 1) := by decide +kernel
theorem dX9_node_132 : decode cX9_node 132 = .ok (.imul, 1) := by decide +kernel
theorem dX9_node_133 : decode cX9_node 133 = .ok (.bipush 10, 2) := by decide +kernel
theorem dX9_node_135 : decode cX9_node 135 = .ok (.aload_n 0, 1) := by decide +kernel
theorem dX9_node_136 : decode cX9_node 136 = .ok (.getfield 102, 3) := by decide +kernel
theorem dX9_node_139 : decode cX9_node 139 = .ok (.iload_n 1, 1) := by decide +kernel
theorem dX9_node_140 : decode cX9_node 140 = .ok (.iaload, 1) := by decide +kernel
theorem dX9_node_141 : decode cX9_node 141 = .ok (.iconst 2, 1) := by decide +kernel
theorem dX9_node_142 : decode cX9_node 142 = .ok (.iadd, 1) := by decide +kernel
theorem dX9_node_143 : decode cX9_node 143 = .ok (.imul, 1) := by decide +kernel
theorem dX9_node_144 : decode cX9_node 144 = .ok (.iadd, 1) := by decide +kernel
theorem dX9_node_145 : decode cX9_node 145 = .ok (.iload_n 3, 1) := by decide +kernel
theorem dX9_node_146 : decode cX9_node 146 = .ok (.ifCond .eq 12, 3) := by decide +kernel
theorem dX9_node_149 : decode cX9_node 149 = .ok (.iload 4, 2) := by decide +kernel
theorem dX9_node_151 : decode cX9_node 151 = .ok (.ifCond .eq 7, 3) := by decide +kernel
theorem dX9_node_154 : decode cX9_node 154 = .ok (.iconst 1, 1) := by decide +kernel
theorem dX9_node_155 : decode cX9_node 155 = .ok (.goto 4, 3) := by decide +kernel
theorem dX9_node_158 : decode cX9_node 158 = .ok (.iconst 0, 1) := by decide +kernel
theorem dX9_node_159 : decode cX9_node 159 = .ok (.iadd, 1) := by decide +kernel
theorem dX9_node_160 : decode cX9_node 160 = .ok (.ireturn, 1) := by decide +kernel
theorem dX9_isRoot_0 : decode cX9_isRoot 0 = .ok (.aload_n 0, 1) := by decide +kernel
theorem dX9_isRoot_1 : decode cX9_isRoot 1 = .ok (.getfield 96, 3) := by decide +kernel
theorem dX9_isRoot_4 : decode cX9_isRoot 4 = .ok (.iload_n 1, 1) := by decide +kernel
theorem dX9_isRoot_5 : decode cX9_isRoot 5 = .ok (.iaload, 1) := by decide +kernel
theorem dX9_isRoot_6 : decode cX9_isRoot 6 = .ok (.iconst (-1), 1) := by decide +kernel
theorem dX9_isRoot_7 : decode cX9_isRoot 7 = .ok (.if_icmp .ne 7, 3) := by decide +kernel
theorem dX9_isRoot_10 : decode cX9_isRoot 10 = .ok (.iconst 1, 1) := by decide +kernel
theorem dX9_isRoot_11 : decode cX9_isRoot 11 = .ok (.goto 4, 3) := by decide +kernel
theorem dX9_isRoot_14 : decode cX9_isRoot 14 = .ok (.iconst 0, 1) := by decide +kernel
theorem dX9_isRoot_15 : decode cX9_isRoot 15 = .ok (.ireturn, 1) := by decide +kernel
theorem dX9_lacks_0 : decode cX9_lacks 0 = .ok (.iconst 0, 1) := by decide +kernel
theorem dX9_lacks_1 : decode cX9_lacks 1 = .ok (.istore_n 3, 1) := by decide +kernel
theorem dX9_lacks_2 : decode cX9_lacks 2 = .ok (.iconst 0, 1) := by decide +kernel
theorem dX9_lacks_3 : decode cX9_lacks 3 = .ok (.istore 4, 2) := by decide +kernel
theorem dX9_lacks_5 : decode cX9_lacks 5 = .ok (.iload 4, 2) := by decide +kernel
theorem dX9_lacks_7 : decode cX9_lacks 7 = .ok (.aload_n 0, 1) := by decide +kernel
theorem dX9_lacks_8 : decode cX9_lacks 8 = .ok (.getfield 310, 3) := by decide +kernel
theorem dX9_lacks_11 : decode cX9_lacks 11 = .ok (.if_icmp .ge 103, 3) := by decide +kernel
theorem dX9_lacks_14 : decode cX9_lacks 14 = .ok (.aload_n 0, 1) := by decide +kernel
theorem dX9_lacks_15 : decode cX9_lacks 15 = .ok (.getfield 99, 3) := by decide +kernel
theorem dX9_lacks_18 : decode cX9_lacks 18 = .ok (.iload 4, 2) := by decide +kernel
theorem dX9_lacks_20 : decode cX9_lacks 20 = .ok (.iaload, 1) := by decide +kernel
theorem dX9_lacks_21 : decode cX9_lacks 21 = .ok (.iload_n 1, 1) := by decide +kernel
theorem dX9_lacks_22 : decode cX9_lacks 22 = .ok (.if_icmp .ne 86, 3) := by decide +kernel
theorem dX9_lacks_25 : decode cX9_lacks 25 = .ok (.iload 4, 2) := by decide +kernel
theorem dX9_lacks_27 : decode cX9_lacks 27 = .ok (.iload_n 1, 1) := by decide +kernel
theorem dX9_lacks_28 : decode cX9_lacks 28 = .ok (.if_icmp .ne 7, 3) := by decide +kernel
theorem dX9_lacks_31 : decode cX9_lacks 31 = .ok (.iconst (-1), 1) := by decide +kernel
theorem dX9_lacks_32 : decode cX9_lacks 32 = .ok (.goto 15, 3) := by decide +kernel
theorem dX9_lacks_35 : decode cX9_lacks 35 = .ok (.aload_n 0, 1) := by decide +kernel
theorem dX9_lacks_36 : decode cX9_lacks 36 = .ok (.getfield 123, 3) := by decide +kernel
theorem dX9_lacks_39 : decode cX9_lacks 39 = .ok (.aload_n 0, 1) := by decide +kernel
theorem dX9_lacks_40 : decode cX9_lacks 40 = .ok (.getfield 96, 3) := by decide +kernel
theorem dX9_lacks_43 : decode cX9_lacks 43 = .ok (.iload 4, 2) := by decide +kernel
theorem dX9_lacks_45 : decode cX9_lacks 45 = .ok (.iaload, 1) := by decide +kernel
theorem dX9_lacks_46 : decode cX9_lacks 46 = .ok (.iaload, 1) := by decide +kernel
theorem dX9_lacks_47 : decode cX9_lacks 47 = .ok (.istore 5, 2) := by decide +kernel
theorem dX9_lacks_49 : decode cX9_lacks 49 = .ok (.aload_n 0, 1) := by decide +kernel
theorem dX9_lacks_50 : decode cX9_lacks 50 = .ok (.getfield 123, 3) := by decide +kernel
theorem dX9_lacks_53 : decode cX9_lacks 53 = .ok (.iload 4, 2) := by decide +kernel
theorem dX9_lacks_55 : decode cX9_lacks 55 = .ok (.iload 4, 2) := by decide +kernel
theorem dX9_lacks_57 : decode cX9_lacks 57 = .ok (.iload_n 1, 1) := by decide +kernel
theorem dX9_lacks_58 : decode cX9_lacks 58 = .ok (.if_icmp .ne 7, 3) := by decide +kernel
theorem dX9_lacks_61 : decode cX9_lacks 61 = .ok (.iload_n 2, 1) := by decide +kernel
theorem dX9_lacks_62 : decode cX9_lacks 62 = .ok (.goto 26, 3) := by decide +kernel
theorem dX9_lacks_65 : decode cX9_lacks 65 = .ok (.iload 5, 2) := by decide +kernel
theorem dX9_lacks_67 : decode cX9_lacks 67 = .ok (.iconst (-1), 1) := by decide +kernel
theorem dX9_lacks_68 : decode cX9_lacks 68 = .ok (.if_icmp .ne 7, 3) := by decide +kernel
theorem dX9_lacks_71 : decode cX9_lacks 71 = .ok (.iconst (-1), 1) := by decide +kernel
theorem dX9_lacks_72 : decode cX9_lacks 72 = .ok (.goto 16, 3) := by decide +kernel
theorem dX9_lacks_75 : decode cX9_lacks 75 = .ok (.aload_n 0, 1) := by decide +kernel
theorem dX9_lacks_76 : decode cX9_lacks 76 = .ok (.iload 5, 2) := by decide +kernel
theorem dX9_lacks_78 : decode cX9_lacks 78 = .ok (.aload_n 0, 1) := by decide +kernel
theorem dX9_lacks_79 : decode cX9_lacks 79 = .ok (.getfield 102, 3) := by decide +kernel
theorem dX9_lacks_82 : decode cX9_lacks 82 = .ok (.iload 4, 2) := by decide +kernel
theorem dX9_lacks_84 : decode cX9_lacks 84 = .ok (.iaload, 1) := by decide +kernel
theorem dX9_lacks_85 : decode cX9_lacks 85 = .ok (.invokevirtual 323, 3) := by decide +kernel
theorem dX9_lacks_88 : decode cX9_lacks 88 = .ok (.iastore, 1) := by decide +kernel
theorem dX9_lacks_89 : decode cX9_lacks 89 = .ok (.iload_n 3, 1) := by decide +kernel
theorem dX9_lacks_90 : decode cX9_lacks 90 = .ok (.aload_n 0, 1) := by decide +kernel
theorem dX9_lacks_91 : decode cX9_lacks 91 = .ok (.getfield 123, 3) := by decide +kernel
theorem dX9_lacks_94 : decode cX9_lacks 94 = .ok (.iload 4, 2) := by decide +kernel
theorem dX9_lacks_96 : decode cX9_lacks 96 = .ok (.iaload, 1) := by decide +kernel
theorem dX9_lacks_97 : decode cX9_lacks 97 = .ok (.iconst (-1), 1) := by decide +kernel
theorem dX9_lacks_98 : decode cX9_lacks 98 = .ok (.if_icmp .ne 7, 3) := by decide +kernel
theorem dX9_lacks_101 : decode cX9_lacks 101 = .ok (.iconst 1, 1) := by decide +kernel
theorem dX9_lacks_102 : decode cX9_lacks 102 = .ok (.goto 4, 3) := by decide +kernel
theorem dX9_lacks_105 : decode cX9_lacks 105 = .ok (.iconst 0, 1) := by decide +kernel
theorem dX9_lacks_106 : decode cX9_lacks 106 = .ok (.iadd, 1) := by decide +kernel
theorem dX9_lacks_107 : decode cX9_lacks 107 = .ok (.istore_n 3, 1) := by decide +kernel
theorem dX9_lacks_108 : decode cX9_lacks 108 = .ok (.iinc 4 1, 3) := by decide +kernel
theorem dX9_lacks_111 : decode cX9_lacks 111 = .ok (.goto (-106), 3) := by decide +kernel
theorem dX9_lacks_114 : decode cX9_lacks 114 = .ok (.iload_n 3, 1) := by decide +kernel
theorem dX9_lacks_115 : decode cX9_lacks 115 = .ok (.ireturn, 1) := by decide +kernel
theorem dX9_merge_0 : decode cX9_merge 0 = .ok (.aload_n 0, 1) := by decide +kernel
theorem dX9_merge_1 : decode cX9_merge 1 = .ok (.iload_n 1, 1) := by decide +kernel
theorem dX9_merge_2 : decode cX9_merge 2 = .ok (.invokevirtual 320, 3) := by decide +kernel
theorem dX9_merge_5 : decode cX9_merge 5 = .ok (.ifCond .eq 15, 3) := by decide +kernel
theorem dX9_merge_8 : decode cX9_merge 8 = .ok (.aload_n 0, 1) := by decide +kernel
theorem dX9_merge_9 : decode cX9_merge 9 = .ok (.iload_n 2, 1) := by decide +kernel
theorem dX9_merge_10 : decode cX9_merge 10 = .ok (.invokevirtual 320, 3) := by decide +kernel
theorem dX9_merge_13 : decode cX9_merge 13 = .ok (.ifCond .eq 7, 3) := by decide +kernel
theorem dX9_merge_16 : decode cX9_merge 16 = .ok (.iconst 1, 1) := by decide +kernel
theorem dX9_merge_17 : decode cX9_merge 17 = .ok (.goto 4, 3) := by decide +kernel
theorem dX9_merge_20 : decode cX9_merge 20 = .ok (.iconst 0, 1) := by decide +kernel
theorem dX9_merge_21 : decode cX9_merge 21 = .ok (.istore_n 3, 1) := by decide +kernel
theorem dX9_merge_22 : decode cX9_merge 22 = .ok (.iload_n 3, 1) := by decide +kernel
theorem dX9_merge_23 : decode cX9_merge 23 = .ok (.ifCond .eq 58, 3) := by decide +kernel
theorem dX9_merge_26 : decode cX9_merge 26 = .ok (.iload_n 1, 1) := by decide +kernel
theorem dX9_merge_27 : decode cX9_merge 27 = .ok (.iload_n 2, 1) := by decide +kernel
theorem dX9_merge_28 : decode cX9_merge 28 = .ok (.if_icmp .eq 53, 3) := by decide +kernel
theorem dX9_merge_31 : decode cX9_merge 31 = .ok (.aload_n 0, 1) := by decide +kernel
theorem dX9_merge_32 : decode cX9_merge 32 = .ok (.iload_n 1, 1) := by decide +kernel
theorem dX9_merge_33 : decode cX9_merge 33 = .ok (.invokevirtual 329, 3) := by decide +kernel
theorem dX9_merge_36 : decode cX9_merge 36 = .ok (.ifCond .eq 45, 3) := by decide +kernel
theorem dX9_merge_39 : decode cX9_merge 39 = .ok (.aload_n 0, 1) := by decide +kernel
theorem dX9_merge_40 : decode cX9_merge 40 = .ok (.iload_n 2, 1) := by decide +kernel
theorem dX9_merge_41 : decode cX9_merge 41 = .ok (.invokevirtual 329, 3) := by decide +kernel
theorem dX9_merge_44 : decode cX9_merge 44 = .ok (.ifCond .eq 37, 3) := by decide +kernel
theorem dX9_merge_47 : decode cX9_merge 47 = .ok (.aload_n 0, 1) := by decide +kernel
theorem dX9_merge_48 : decode cX9_merge 48 = .ok (.getfield 105, 3) := by decide +kernel
theorem dX9_merge_51 : decode cX9_merge 51 = .ok (.iload_n 1, 1) := by decide +kernel
theorem dX9_merge_52 : decode cX9_merge 52 = .ok (.iaload, 1) := by decide +kernel
theorem dX9_merge_53 : decode cX9_merge 53 = .ok (.aload_n 0, 1) := by decide +kernel
theorem dX9_merge_54 : decode cX9_merge 54 = .ok (.getfield 105, 3) := by decide +kernel
theorem dX9_merge_57 : decode cX9_merge 57 = .ok (.iload_n 2, 1) := by decide +kernel
theorem dX9_merge_58 : decode cX9_merge 58 = .ok (.iaload, 1) := by decide +kernel
theorem dX9_merge_59 : decode cX9_merge 59 = .ok (.if_icmp .ne 22, 3) := by decide +kernel
theorem dX9_merge_62 : decode cX9_merge 62 = .ok (.aload_n 0, 1) := by decide +kernel
theorem dX9_merge_63 : decode cX9_merge 63 = .ok (.getfield 108, 3) := by decide +kernel
theorem dX9_merge_66 : decode cX9_merge 66 = .ok (.iload_n 1, 1) := by decide +kernel
theorem dX9_merge_67 : decode cX9_merge 67 = .ok (.iaload, 1) := by decide +kernel
theorem dX9_merge_68 : decode cX9_merge 68 = .ok (.aload_n 0, 1) := by decide +kernel
theorem dX9_merge_69 : decode cX9_merge 69 = .ok (.getfield 108, 3) := by decide +kernel
theorem dX9_merge_72 : decode cX9_merge 72 = .ok (.iload_n 2, 1) := by decide +kernel
theorem dX9_merge_73 : decode cX9_merge 73 = .ok (.iaload, 1) := by decide +kernel
theorem dX9_merge_74 : decode cX9_merge 74 = .ok (.if_icmp .ne 7, 3) := by decide +kernel
theorem dX9_merge_77 : decode cX9_merge 77 = .ok (.iconst 1, 1) := by decide +kernel
theorem dX9_merge_78 : decode cX9_merge 78 = .ok (.goto 4, 3) := by decide +kernel
theorem dX9_merge_81 : decode cX9_merge 81 = .ok (.iconst 0, 1) := by decide +kernel
theorem dX9_merge_82 : decode cX9_merge 82 = .ok (.istore 4, 2) := by decide +kernel
theorem dX9_merge_84 : decode cX9_merge 84 = .ok (.aload_n 0, 1) := by decide +kernel
theorem dX9_merge_85 : decode cX9_merge 85 = .ok (.iload_n 3, 1) := by decide +kernel
theorem dX9_merge_86 : decode cX9_merge 86 = .ok (.ifCond .ne 7, 3) := by decide +kernel
theorem dX9_merge_89 : decode cX9_merge 89 = .ok (.iconst 1, 1) := by decide +kernel
theorem dX9_merge_90 : decode cX9_merge 90 = .ok (.goto 33, 3) := by decide +kernel
theorem dX9_merge_93 : decode cX9_merge 93 = .ok (.iload 4, 2) := by decide +kernel
theorem dX9_merge_95 : decode cX9_merge 95 = .ok (.ifCond .ne 7, 3) := by decide +kernel
theorem dX9_merge_98 : decode cX9_merge 98 = .ok (.iconst 2, 1) := by decide +kernel
theorem dX9_merge_99 : decode cX9_merge 99 = .ok (.goto 24, 3) := by decide +kernel
theorem dX9_merge_102 : decode cX9_merge 102 = .ok (.aload_n 0, 1) := by decide +kernel
theorem dX9_merge_103 : decode cX9_merge 103 = .ok (.getfield 310, 3) := by decide +kernel
theorem dX9_merge_106 : decode cX9_merge 106 = .ok (.aload_n 0, 1) := by decide +kernel
theorem dX9_merge_107 : decode cX9_merge 107 = .ok (.iload_n 1, 1) := by decide +kernel
theorem dX9_merge_108 : decode cX9_merge 108 = .ok (.iload_n 2, 1) := by decide +kernel
theorem dX9_merge_109 : decode cX9_merge 109 = .ok (.invokevirtual 332, 3) := by decide +kernel
theorem dX9_merge_112 : decode cX9_merge 112 = .ok (.iadd, 1) := by decide +kernel
theorem dX9_merge_113 : decode cX9_merge 113 = .ok (.bipush 60, 2) := by decide +kernel
theorem dX9_merge_115 : decode cX9_merge 115 = .ok (.if_icmp .le 7, 3) := by decide +kernel
theorem dX9_merge_118 : decode cX9_merge 118 = .ok (.iconst 3, 1) := by decide +kernel
theorem dX9_merge_119 : decode cX9_merge 119 = .ok (.goto 4, 3) := by decide +kernel
theorem dX9_merge_122 : decode cX9_merge 122 = .ok (.iconst 0, 1) := by decide +kernel
theorem dX9_merge_123 : decode cX9_merge 123 = .ok (.invokevirtual 185, 3) := by decide +kernel
theorem dX9_merge_126 : decode cX9_merge 126 = .ok (.ifCond .eq 5, 3) := by decide +kernel
theorem dX9_merge_129 : decode cX9_merge 129 = .ok (.iconst 0, 1) := by decide +kernel
theorem dX9_merge_130 : decode cX9_merge 130 = .ok (.ireturn, 1) := by decide +kernel
theorem dX9_merge_131 : decode cX9_merge 131 = .ok (.aload_n 0, 1) := by decide +kernel
theorem dX9_merge_132 : decode cX9_merge 132 = .ok (.getfield 310, 3) := by decide +kernel
theorem dX9_merge_135 : decode cX9_merge 135 = .ok (.istore 5, 2) := by decide +kernel
theorem dX9_merge_137 : decode cX9_merge 137 = .ok (.iconst 0, 1) := by decide +kernel
theorem dX9_merge_138 : decode cX9_merge 138 = .ok (.istore 6, 2) := by decide +kernel
theorem dX9_merge_140 : decode cX9_merge 140 = .ok (.iload 6, 2) := by decide +kernel
theorem dX9_merge_142 : decode cX9_merge 142 = .ok (.iload 5, 2) := by decide +kernel
theorem dX9_merge_144 : decode cX9_merge 144 = .ok (.if_icmp .ge 150, 3) := by decide +kernel
theorem dX9_merge_147 : decode cX9_merge 147 = .ok (.aload_n 0, 1) := by decide +kernel
theorem dX9_merge_148 : decode cX9_merge 148 = .ok (.getfield 99, 3) := by decide +kernel
theorem dX9_merge_151 : decode cX9_merge 151 = .ok (.iload 6, 2) := by decide +kernel
theorem dX9_merge_153 : decode cX9_merge 153 = .ok (.iaload, 1) := by decide +kernel
theorem dX9_merge_154 : decode cX9_merge 154 = .ok (.iload_n 1, 1) := by decide +kernel
theorem dX9_merge_155 : decode cX9_merge 155 = .ok (.if_icmp .ne 133, 3) := by decide +kernel
theorem dX9_merge_158 : decode cX9_merge 158 = .ok (.aload_n 0, 1) := by decide +kernel
theorem dX9_merge_159 : decode cX9_merge 159 = .ok (.getfield 123, 3) := by decide +kernel
theorem dX9_merge_162 : decode cX9_merge 162 = .ok (.iload 6, 2) := by decide +kernel
theorem dX9_merge_164 : decode cX9_merge 164 = .ok (.iaload, 1) := by decide +kernel
theorem dX9_merge_165 : decode cX9_merge 165 = .ok (.iconst (-1), 1) := by decide +kernel
theorem dX9_merge_166 : decode cX9_merge 166 = .ok (.if_icmp .ne 54, 3) := by decide +kernel
theorem dX9_merge_169 : decode cX9_merge 169 = .ok (.aload_n 0, 1) := by decide +kernel
theorem dX9_merge_170 : decode cX9_merge 170 = .ok (.getfield 123, 3) := by decide +kernel
theorem dX9_merge_173 : decode cX9_merge 173 = .ok (.iload 6, 2) := by decide +kernel
theorem dX9_merge_175 : decode cX9_merge 175 = .ok (.aload_n 0, 1) := by decide +kernel
theorem dX9_merge_176 : decode cX9_merge 176 = .ok (.aload_n 0, 1) := by decide +kernel
theorem dX9_merge_177 : decode cX9_merge 177 = .ok (.getfield 123, 3) := by decide +kernel
theorem dX9_merge_180 : decode cX9_merge 180 = .ok (.aload_n 0, 1) := by decide +kernel
theorem dX9_merge_181 : decode cX9_merge 181 = .ok (.getfield 96, 3) := by decide +kernel
theorem dX9_merge_184 : decode cX9_merge 184 = .ok (.iload 6, 2) := by decide +kernel
theorem dX9_merge_186 : decode cX9_merge 186 = .ok (.iaload, 1) := by decide +kernel
theorem dX9_merge_187 : decode cX9_merge 187 = .ok (.iaload, 1) := by decide +kernel
theorem dX9_merge_188 : decode cX9_merge 188 = .ok (.aload_n 0, 1) := by decide +kernel
theorem dX9_merge_189 : decode cX9_merge 189 = .ok (.getfield 102, 3) := by decide +kernel
theorem dX9_merge_192 : decode cX9_merge 192 = .ok (.iload 6, 2) := by decide +kernel
theorem dX9_merge_194 : decode cX9_merge 194 = .ok (.iaload, 1) := by decide +kernel
theorem dX9_merge_195 : decode cX9_merge 195 = .ok (.aload_n 0, 1) := by decide +kernel
theorem dX9_merge_196 : decode cX9_merge 196 = .ok (.getfield 114, 3) := by decide +kernel
theorem dX9_merge_199 : decode cX9_merge 199 = .ok (.iload 6, 2) := by decide +kernel
theorem dX9_merge_201 : decode cX9_merge 201 = .ok (.laload, 1) := by decide +kernel
theorem dX9_merge_202 : decode cX9_merge 202 = .ok (.aload_n 0, 1) := by decide +kernel
theorem dX9_merge_203 : decode cX9_merge 203 = .ok (.getfield 117, 3) := by decide +kernel
theorem dX9_merge_206 : decode cX9_merge 206 = .ok (.iload 6, 2) := by decide +kernel
theorem dX9_merge_208 : decode cX9_merge 208 = .ok (.laload, 1) := by decide +kernel
theorem dX9_merge_209 : decode cX9_merge 209 = .ok (.aload_n 0, 1) := by decide +kernel
theorem dX9_merge_210 : decode cX9_merge 210 = .ok (.getfield 111, 3) := by decide +kernel
theorem dX9_merge_213 : decode cX9_merge 213 = .ok (.iload 6, 2) := by decide +kernel
theorem dX9_merge_215 : decode cX9_merge 215 = .ok (.iaload, 1) := by decide +kernel
theorem dX9_merge_216 : decode cX9_merge 216 = .ok (.invokevirtual 316, 3) := by decide +kernel
theorem dX9_merge_219 : decode cX9_merge 219 = .ok (.iastore, 1) := by decide +kernel
theorem dX9_merge_220 : decode cX9_merge 220 = .ok (.iconst 0, 1) := by decide +kernel
theorem dX9_merge_221 : decode cX9_merge 221 = .ok (.istore 7, 2) := by decide +kernel
theorem dX9_merge_223 : decode cX9_merge 223 = .ok (.iload 7, 2) := by decide +kernel
theorem dX9_merge_225 : decode cX9_merge 225 = .ok (.iconst 4, 1) := by decide +kernel
theorem dX9_merge_226 : decode cX9_merge 226 = .ok (.if_icmp .ge 62, 3) := by decide +kernel
theorem dX9_merge_229 : decode cX9_merge 229 = .ok (.iconst 4, 1) := by decide +kernel
theorem dX9_merge_230 : decode cX9_merge 230 = .ok (.aload_n 0, 1) := by decide +kernel
theorem dX9_merge_231 : decode cX9_merge 231 = .ok (.getfield 123, 3) := by decide +kernel
theorem dX9_merge_234 : decode cX9_merge 234 = .ok (.iload 6, 2) := by decide +kernel
theorem dX9_merge_236 : decode cX9_merge 236 = .ok (.iaload, 1) := by decide +kernel
theorem dX9_merge_237 : decode cX9_merge 237 = .ok (.imul, 1) := by decide +kernel
theorem dX9_merge_238 : decode cX9_merge 238 = .ok (.iload 7, 2) := by decide +kernel
theorem dX9_merge_240 : decode cX9_merge 240 = .ok (.iadd, 1) := by decide +kernel
theorem dX9_merge_241 : decode cX9_merge 241 = .ok (.istore 8, 2) := by decide +kernel
theorem dX9_merge_243 : decode cX9_merge 243 = .ok (.aload_n 0, 1) := by decide +kernel
theorem dX9_merge_244 : decode cX9_merge 244 = .ok (.getfield 120, 3) := by decide +kernel
theorem dX9_merge_247 : decode cX9_merge 247 = .ok (.iload 8, 2) := by decide +kernel
theorem dX9_merge_249 : decode cX9_merge 249 = .ok (.aload_n 0, 1) := by decide +kernel
theorem dX9_merge_250 : decode cX9_merge 250 = .ok (.getfield 120, 3) := by decide +kernel
theorem dX9_merge_253 : decode cX9_merge 253 = .ok (.iload 8, 2) := by decide +kernel
theorem dX9_merge_255 : decode cX9_merge 255 = .ok (.iaload, 1) := by decide +kernel
theorem dX9_merge_256 : decode cX9_merge 256 = .ok (.ifCond .ne 18, 3) := by decide +kernel
theorem dX9_merge_259 : decode cX9_merge 259 = .ok (.aload_n 0, 1) := by decide +kernel
theorem dX9_merge_260 : decode cX9_merge 260 = .ok (.getfield 120, 3) := by decide +kernel
theorem dX9_merge_263 : decode cX9_merge 263 = .ok (.iconst 4, 1) := by decide +kernel
theorem dX9_merge_264 : decode cX9_merge 264 = .ok (.iload 6, 2) := by decide +kernel
theorem dX9_merge_266 : decode cX9_merge 266 = .ok (.imul, 1) := by decide +kernel
theorem dX9_merge_267 : decode cX9_merge 267 = .ok (.iload 7, 2) := by decide +kernel
theorem dX9_merge_269 : decode cX9_merge 269 = .ok (.iadd, 1) := by decide +kernel
theorem dX9_merge_270 : decode cX9_merge 270 = .ok (.iaload, 1) := by decide +kernel
theorem dX9_merge_271 : decode cX9_merge 271 = .ok (.goto 10, 3) := by decide +kernel
theorem dX9_merge_274 : decode cX9_merge 274 = .ok (.aload_n 0, 1) := by decide +kernel
theorem dX9_merge_275 : decode cX9_merge 275 = .ok (.getfield 120, 3) := by decide +kernel
theorem dX9_merge_278 : decode cX9_merge 278 = .ok (.iload 8, 2) := by decide +kernel
theorem dX9_merge_280 : decode cX9_merge 280 = .ok (.iaload, 1) := by decide +kernel
theorem dX9_merge_281 : decode cX9_merge 281 = .ok (.iastore, 1) := by decide +kernel
theorem dX9_merge_282 : decode cX9_merge 282 = .ok (.iinc 7 1, 3) := by decide +kernel
theorem dX9_merge_285 : decode cX9_merge 285 = .ok (.goto (-62), 3) := by decide +kernel
theorem dX9_merge_288 : decode cX9_merge 288 = .ok (.iinc 6 1, 3) := by decide +kernel
theorem dX9_merge_291 : decode cX9_merge 291 = .ok (.goto (-151), 3) := by decide +kernel
theorem dX9_merge_294 : decode cX9_merge 294 = .ok (.aload_n 0, 1) := by decide +kernel
theorem dX9_merge_295 : decode cX9_merge 295 = .ok (.getfield 310, 3) := by decide +kernel
theorem dX9_merge_298 : decode cX9_merge 298 = .ok (.iload 5, 2) := by decide +kernel
theorem dX9_merge_300 : decode cX9_merge 300 = .ok (.isub, 1) := by decide +kernel
theorem dX9_merge_301 : decode cX9_merge 301 = .ok (.ireturn, 1) := by decide +kernel
theorem dL_player_0 : decode cL_player 0 = .ok (.aload_n 2, 1) := by decide +kernel
theorem dL_player_1 : decode cL_player 1 = .ok (.iconst 0, 1) := by decide +kernel
theorem dL_player_2 : decode cL_player 2 = .ok (.aload_n 0, 1) := by decide +kernel
theorem dL_player_3 : decode cL_player 3 = .ok (.iload_n 1, 1) := by decide +kernel
theorem dL_player_4 : decode cL_player 4 = .ok (.invokevirtual 7, 3) := by decide +kernel
theorem dL_player_7 : decode cL_player 7 = .ok (.i2l, 1) := by decide +kernel
theorem dL_player_8 : decode cL_player 8 = .ok (.lastore, 1) := by decide +kernel
theorem dL_player_9 : decode cL_player 9 = .ok (.goto 9, 3) := by decide +kernel
theorem dL_player_12 : decode cL_player 12 = .ok (.astore_n 3, 1) := by decide +kernel
theorem dL_player_13 : decode cL_player 13 = .ok (.iconst 1, 1) := by decide +kernel
theorem dL_player_14 : decode cL_player 14 = .ok (.ireturn, 1) := by decide +kernel
theorem dL_player_15 : decode cL_player 15 = .ok (.astore_n 3, 1) := by decide +kernel
theorem dL_player_16 : decode cL_player 16 = .ok (.iconst 2, 1) := by decide +kernel
theorem dL_player_17 : decode cL_player 17 = .ok (.ireturn, 1) := by decide +kernel
theorem dL_player_18 : decode cL_player 18 = .ok (.iconst 0, 1) := by decide +kernel
theorem dL_player_19 : decode cL_player 19 = .ok (.ireturn, 1) := by decide +kernel
theorem dL_rank_0 : decode cL_rank 0 = .ok (.aload_n 2, 1) := by decide +kernel
theorem dL_rank_1 : decode cL_rank 1 = .ok (.iconst 0, 1) := by decide +kernel
theorem dL_rank_2 : decode cL_rank 2 = .ok (.aload_n 0, 1) := by decide +kernel
theorem dL_rank_3 : decode cL_rank 3 = .ok (.iload_n 1, 1) := by decide +kernel
theorem dL_rank_4 : decode cL_rank 4 = .ok (.invokevirtual 17, 3) := by decide +kernel
theorem dL_rank_7 : decode cL_rank 7 = .ok (.i2l, 1) := by decide +kernel
theorem dL_rank_8 : decode cL_rank 8 = .ok (.lastore, 1) := by decide +kernel
theorem dL_rank_9 : decode cL_rank 9 = .ok (.goto 6, 3) := by decide +kernel
theorem dL_rank_12 : decode cL_rank 12 = .ok (.astore_n 3, 1) := by decide +kernel
theorem dL_rank_13 : decode cL_rank 13 = .ok (.iconst 1, 1) := by decide +kernel
theorem dL_rank_14 : decode cL_rank 14 = .ok (.ireturn, 1) := by decide +kernel
theorem dL_rank_15 : decode cL_rank 15 = .ok (.iconst 0, 1) := by decide +kernel
theorem dL_rank_16 : decode cL_rank 16 = .ok (.ireturn, 1) := by decide +kernel
theorem dL_game_0 : decode cL_game 0 = .ok (.aload 6, 2) := by decide +kernel
theorem dL_game_2 : decode cL_game 2 = .ok (.iconst 0, 1) := by decide +kernel
theorem dL_game_3 : decode cL_game 3 = .ok (.aload_n 0, 1) := by decide +kernel
theorem dL_game_4 : decode cL_game 4 = .ok (.iload_n 1, 1) := by decide +kernel
theorem dL_game_5 : decode cL_game 5 = .ok (.iload_n 2, 1) := by decide +kernel
theorem dL_game_6 : decode cL_game 6 = .ok (.iload_n 3, 1) := by decide +kernel
theorem dL_game_7 : decode cL_game 7 = .ok (.iload 4, 2) := by decide +kernel
theorem dL_game_9 : decode cL_game 9 = .ok (.iload 5, 2) := by decide +kernel
theorem dL_game_11 : decode cL_game 11 = .ok (.invokevirtual 22, 3) := by decide +kernel
theorem dL_game_14 : decode cL_game 14 = .ok (.i2l, 1) := by decide +kernel
theorem dL_game_15 : decode cL_game 15 = .ok (.lastore, 1) := by decide +kernel
theorem dL_game_16 : decode cL_game 16 = .ok (.goto 15, 3) := by decide +kernel
theorem dL_game_19 : decode cL_game 19 = .ok (.astore 7, 2) := by decide +kernel
theorem dL_game_21 : decode cL_game 21 = .ok (.iconst 1, 1) := by decide +kernel
theorem dL_game_22 : decode cL_game 22 = .ok (.ireturn, 1) := by decide +kernel
theorem dL_game_23 : decode cL_game 23 = .ok (.astore 7, 2) := by decide +kernel
theorem dL_game_25 : decode cL_game 25 = .ok (.iconst 2, 1) := by decide +kernel
theorem dL_game_26 : decode cL_game 26 = .ok (.ireturn, 1) := by decide +kernel
theorem dL_game_27 : decode cL_game 27 = .ok (.astore 7, 2) := by decide +kernel
theorem dL_game_29 : decode cL_game 29 = .ok (.iconst 3, 1) := by decide +kernel
theorem dL_game_30 : decode cL_game 30 = .ok (.ireturn, 1) := by decide +kernel
theorem dL_game_31 : decode cL_game 31 = .ok (.iconst 0, 1) := by decide +kernel
theorem dL_game_32 : decode cL_game 32 = .ok (.ireturn, 1) := by decide +kernel
theorem dL_play_0 : decode cL_play 0 = .ok (.aload 4, 2) := by decide +kernel
theorem dL_play_2 : decode cL_play 2 = .ok (.iconst 0, 1) := by decide +kernel
theorem dL_play_3 : decode cL_play 3 = .ok (.aload_n 0, 1) := by decide +kernel
theorem dL_play_4 : decode cL_play 4 = .ok (.iload_n 1, 1) := by decide +kernel
theorem dL_play_5 : decode cL_play 5 = .ok (.iload_n 2, 1) := by decide +kernel
theorem dL_play_6 : decode cL_play 6 = .ok (.iload_n 3, 1) := by decide +kernel
theorem dL_play_7 : decode cL_play 7 = .ok (.invokevirtual 26, 3) := by decide +kernel
theorem dL_play_10 : decode cL_play 10 = .ok (.i2l, 1) := by decide +kernel
theorem dL_play_11 : decode cL_play 11 = .ok (.lastore, 1) := by decide +kernel
theorem dL_play_12 : decode cL_play 12 = .ok (.goto 15, 3) := by decide +kernel
theorem dL_play_15 : decode cL_play 15 = .ok (.astore 5, 2) := by decide +kernel
theorem dL_play_17 : decode cL_play 17 = .ok (.iconst 1, 1) := by decide +kernel
theorem dL_play_18 : decode cL_play 18 = .ok (.ireturn, 1) := by decide +kernel
theorem dL_play_19 : decode cL_play 19 = .ok (.astore 5, 2) := by decide +kernel
theorem dL_play_21 : decode cL_play 21 = .ok (.iconst 2, 1) := by decide +kernel
theorem dL_play_22 : decode cL_play 22 = .ok (.ireturn, 1) := by decide +kernel
theorem dL_play_23 : decode cL_play 23 = .ok (.astore 5, 2) := by decide +kernel
theorem dL_play_25 : decode cL_play 25 = .ok (.iconst 3, 1) := by decide +kernel
theorem dL_play_26 : decode cL_play 26 = .ok (.ireturn, 1) := by decide +kernel
theorem dL_play_27 : decode cL_play 27 = .ok (.iconst 0, 1) := by decide +kernel
theorem dL_play_28 : decode cL_play 28 = .ok (.ireturn, 1) := by decide +kernel
theorem dL_pass_0 : decode cL_pass 0 = .ok (.aload_n 3, 1) := by decide +kernel
theorem dL_pass_1 : decode cL_pass 1 = .ok (.iconst 0, 1) := by decide +kernel
theorem dL_pass_2 : decode cL_pass 2 = .ok (.aload_n 0, 1) := by decide +kernel
theorem dL_pass_3 : decode cL_pass 3 = .ok (.iload_n 1, 1) := by decide +kernel
theorem dL_pass_4 : decode cL_pass 4 = .ok (.iload_n 2, 1) := by decide +kernel
theorem dL_pass_5 : decode cL_pass 5 = .ok (.invokevirtual 30, 3) := by decide +kernel
theorem dL_pass_8 : decode cL_pass 8 = .ok (.i2l, 1) := by decide +kernel
theorem dL_pass_9 : decode cL_pass 9 = .ok (.lastore, 1) := by decide +kernel
theorem dL_pass_10 : decode cL_pass 10 = .ok (.goto 15, 3) := by decide +kernel
theorem dL_pass_13 : decode cL_pass 13 = .ok (.astore 4, 2) := by decide +kernel
theorem dL_pass_15 : decode cL_pass 15 = .ok (.iconst 1, 1) := by decide +kernel
theorem dL_pass_16 : decode cL_pass 16 = .ok (.ireturn, 1) := by decide +kernel
theorem dL_pass_17 : decode cL_pass 17 = .ok (.astore 4, 2) := by decide +kernel
theorem dL_pass_19 : decode cL_pass 19 = .ok (.iconst 2, 1) := by decide +kernel
theorem dL_pass_20 : decode cL_pass 20 = .ok (.ireturn, 1) := by decide +kernel
theorem dL_pass_21 : decode cL_pass 21 = .ok (.astore 4, 2) := by decide +kernel
theorem dL_pass_23 : decode cL_pass 23 = .ok (.iconst 3, 1) := by decide +kernel
theorem dL_pass_24 : decode cL_pass 24 = .ok (.ireturn, 1) := by decide +kernel
theorem dL_pass_25 : decode cL_pass 25 = .ok (.iconst 0, 1) := by decide +kernel
theorem dL_pass_26 : decode cL_pass 26 = .ok (.ireturn, 1) := by decide +kernel
theorem dL_resign_0 : decode cL_resign 0 = .ok (.aload_n 2, 1) := by decide +kernel
theorem dL_resign_1 : decode cL_resign 1 = .ok (.iconst 0, 1) := by decide +kernel
theorem dL_resign_2 : decode cL_resign 2 = .ok (.aload_n 0, 1) := by decide +kernel
theorem dL_resign_3 : decode cL_resign 3 = .ok (.iload_n 1, 1) := by decide +kernel
theorem dL_resign_4 : decode cL_resign 4 = .ok (.invokevirtual 34, 3) := by decide +kernel
theorem dL_resign_7 : decode cL_resign 7 = .ok (.i2l, 1) := by decide +kernel
theorem dL_resign_8 : decode cL_resign 8 = .ok (.lastore, 1) := by decide +kernel
theorem dL_resign_9 : decode cL_resign 9 = .ok (.goto 9, 3) := by decide +kernel
theorem dL_resign_12 : decode cL_resign 12 = .ok (.astore_n 3, 1) := by decide +kernel
theorem dL_resign_13 : decode cL_resign 13 = .ok (.iconst 1, 1) := by decide +kernel
theorem dL_resign_14 : decode cL_resign 14 = .ok (.ireturn, 1) := by decide +kernel
theorem dL_resign_15 : decode cL_resign 15 = .ok (.astore_n 3, 1) := by decide +kernel
theorem dL_resign_16 : decode cL_resign 16 = .ok (.iconst 2, 1) := by decide +kernel
theorem dL_resign_17 : decode cL_resign 17 = .ok (.ireturn, 1) := by decide +kernel
theorem dL_resign_18 : decode cL_resign 18 = .ok (.iconst 0, 1) := by decide +kernel
theorem dL_resign_19 : decode cL_resign 19 = .ok (.ireturn, 1) := by decide +kernel
theorem dL_state_0 : decode cL_state 0 = .ok (.aload_n 2, 1) := by decide +kernel
theorem dL_state_1 : decode cL_state 1 = .ok (.iconst 0, 1) := by decide +kernel
theorem dL_state_2 : decode cL_state 2 = .ok (.aload_n 0, 1) := by decide +kernel
theorem dL_state_3 : decode cL_state 3 = .ok (.iload_n 1, 1) := by decide +kernel
theorem dL_state_4 : decode cL_state 4 = .ok (.invokevirtual 37, 3) := by decide +kernel
theorem dL_state_7 : decode cL_state 7 = .ok (.i2l, 1) := by decide +kernel
theorem dL_state_8 : decode cL_state 8 = .ok (.lastore, 1) := by decide +kernel
theorem dL_state_9 : decode cL_state 9 = .ok (.goto 6, 3) := by decide +kernel
theorem dL_state_12 : decode cL_state 12 = .ok (.astore_n 3, 1) := by decide +kernel
theorem dL_state_13 : decode cL_state 13 = .ok (.iconst 1, 1) := by decide +kernel
theorem dL_state_14 : decode cL_state 14 = .ok (.ireturn, 1) := by decide +kernel
theorem dL_state_15 : decode cL_state 15 = .ok (.iconst 0, 1) := by decide +kernel
theorem dL_state_16 : decode cL_state 16 = .ok (.ireturn, 1) := by decide +kernel
theorem dL_handicap_0 : decode cL_handicap 0 = .ok (.aload_n 2, 1) := by decide +kernel
theorem dL_handicap_1 : decode cL_handicap 1 = .ok (.iconst 0, 1) := by decide +kernel
theorem dL_handicap_2 : decode cL_handicap 2 = .ok (.aload_n 0, 1) := by decide +kernel
theorem dL_handicap_3 : decode cL_handicap 3 = .ok (.iload_n 1, 1) := by decide +kernel
theorem dL_handicap_4 : decode cL_handicap 4 = .ok (.invokevirtual 40, 3) := by decide +kernel
theorem dL_handicap_7 : decode cL_handicap 7 = .ok (.i2l, 1) := by decide +kernel
theorem dL_handicap_8 : decode cL_handicap 8 = .ok (.lastore, 1) := by decide +kernel
theorem dL_handicap_9 : decode cL_handicap 9 = .ok (.goto 6, 3) := by decide +kernel
theorem dL_handicap_12 : decode cL_handicap 12 = .ok (.astore_n 3, 1) := by decide +kernel
theorem dL_handicap_13 : decode cL_handicap 13 = .ok (.iconst 1, 1) := by decide +kernel
theorem dL_handicap_14 : decode cL_handicap 14 = .ok (.ireturn, 1) := by decide +kernel
theorem dL_handicap_15 : decode cL_handicap 15 = .ok (.iconst 0, 1) := by decide +kernel
theorem dL_handicap_16 : decode cL_handicap 16 = .ok (.ireturn, 1) := by decide +kernel
theorem dL_sign_0 : decode cL_sign 0 = .ok (.aload_n 3, 1) := by decide +kernel
theorem dL_sign_1 : decode cL_sign 1 = .ok (.iconst 0, 1) := by decide +kernel
theorem dL_sign_2 : decode cL_sign 2 = .ok (.aload_n 0, 1) := by decide +kernel
theorem dL_sign_3 : decode cL_sign 3 = .ok (.iload_n 1, 1) := by decide +kernel
theorem dL_sign_4 : decode cL_sign 4 = .ok (.iload_n 2, 1) := by decide +kernel
theorem dL_sign_5 : decode cL_sign 5 = .ok (.invokevirtual 43, 3) := by decide +kernel
theorem dL_sign_8 : decode cL_sign 8 = .ok (.i2l, 1) := by decide +kernel
theorem dL_sign_9 : decode cL_sign 9 = .ok (.lastore, 1) := by decide +kernel
theorem dL_sign_10 : decode cL_sign 10 = .ok (.goto 7, 3) := by decide +kernel
theorem dL_sign_13 : decode cL_sign 13 = .ok (.astore 4, 2) := by decide +kernel
theorem dL_sign_15 : decode cL_sign 15 = .ok (.iconst 1, 1) := by decide +kernel
theorem dL_sign_16 : decode cL_sign 16 = .ok (.ireturn, 1) := by decide +kernel
theorem dL_sign_17 : decode cL_sign 17 = .ok (.iconst 0, 1) := by decide +kernel
theorem dL_sign_18 : decode cL_sign 18 = .ok (.ireturn, 1) := by decide +kernel
theorem dL_clock_0 : decode cL_clock 0 = .ok (.aload_n 3, 1) := by decide +kernel
theorem dL_clock_1 : decode cL_clock 1 = .ok (.iconst 0, 1) := by decide +kernel
theorem dL_clock_2 : decode cL_clock 2 = .ok (.aload_n 0, 1) := by decide +kernel
theorem dL_clock_3 : decode cL_clock 3 = .ok (.iload_n 1, 1) := by decide +kernel
theorem dL_clock_4 : decode cL_clock 4 = .ok (.iload_n 2, 1) := by decide +kernel
theorem dL_clock_5 : decode cL_clock 5 = .ok (.invokevirtual 47, 3) := by decide +kernel
theorem dL_clock_8 : decode cL_clock 8 = .ok (.i2l, 1) := by decide +kernel
theorem dL_clock_9 : decode cL_clock 9 = .ok (.lastore, 1) := by decide +kernel
theorem dL_clock_10 : decode cL_clock 10 = .ok (.goto 7, 3) := by decide +kernel
theorem dL_clock_13 : decode cL_clock 13 = .ok (.astore 4, 2) := by decide +kernel
theorem dL_clock_15 : decode cL_clock 15 = .ok (.iconst 1, 1) := by decide +kernel
theorem dL_clock_16 : decode cL_clock 16 = .ok (.ireturn, 1) := by decide +kernel
theorem dL_clock_17 : decode cL_clock 17 = .ok (.iconst 0, 1) := by decide +kernel
theorem dL_clock_18 : decode cL_clock 18 = .ok (.ireturn, 1) := by decide +kernel
theorem dL_score_0 : decode cL_score 0 = .ok (.aload_n 2, 1) := by decide +kernel
theorem dL_score_1 : decode cL_score 1 = .ok (.iconst 0, 1) := by decide +kernel
theorem dL_score_2 : decode cL_score 2 = .ok (.aload_n 0, 1) := by decide +kernel
theorem dL_score_3 : decode cL_score 3 = .ok (.iload_n 1, 1) := by decide +kernel
theorem dL_score_4 : decode cL_score 4 = .ok (.invokevirtual 50, 3) := by decide +kernel
theorem dL_score_7 : decode cL_score 7 = .ok (.i2l, 1) := by decide +kernel
theorem dL_score_8 : decode cL_score 8 = .ok (.lastore, 1) := by decide +kernel
theorem dL_score_9 : decode cL_score 9 = .ok (.goto 6, 3) := by decide +kernel
theorem dL_score_12 : decode cL_score 12 = .ok (.astore_n 3, 1) := by decide +kernel
theorem dL_score_13 : decode cL_score 13 = .ok (.iconst 1, 1) := by decide +kernel
theorem dL_score_14 : decode cL_score 14 = .ok (.ireturn, 1) := by decide +kernel
theorem dL_score_15 : decode cL_score 15 = .ok (.iconst 0, 1) := by decide +kernel
theorem dL_score_16 : decode cL_score 16 = .ok (.ireturn, 1) := by decide +kernel
theorem dL_liberties_0 : decode cL_liberties 0 = .ok (.aload_n 3, 1) := by decide +kernel
theorem dL_liberties_1 : decode cL_liberties 1 = .ok (.iconst 0, 1) := by decide +kernel
theorem dL_liberties_2 : decode cL_liberties 2 = .ok (.aload_n 0, 1) := by decide +kernel
theorem dL_liberties_3 : decode cL_liberties 3 = .ok (.iload_n 1, 1) := by decide +kernel
theorem dL_liberties_4 : decode cL_liberties 4 = .ok (.iload_n 2, 1) := by decide +kernel
theorem dL_liberties_5 : decode cL_liberties 5 = .ok (.invokevirtual 53, 3) := by decide +kernel
theorem dL_liberties_8 : decode cL_liberties 8 = .ok (.i2l, 1) := by decide +kernel
theorem dL_liberties_9 : decode cL_liberties 9 = .ok (.lastore, 1) := by decide +kernel
theorem dL_liberties_10 : decode cL_liberties 10 = .ok (.goto 7, 3) := by decide +kernel
theorem dL_liberties_13 : decode cL_liberties 13 = .ok (.astore 4, 2) := by decide +kernel
theorem dL_liberties_15 : decode cL_liberties 15 = .ok (.iconst 1, 1) := by decide +kernel
theorem dL_liberties_16 : decode cL_liberties 16 = .ok (.ireturn, 1) := by decide +kernel
theorem dL_liberties_17 : decode cL_liberties 17 = .ok (.iconst 0, 1) := by decide +kernel
theorem dL_liberties_18 : decode cL_liberties 18 = .ok (.ireturn, 1) := by decide +kernel
theorem dL_flooded_0 : decode cL_flooded 0 = .ok (.aload_n 3, 1) := by decide +kernel
theorem dL_flooded_1 : decode cL_flooded 1 = .ok (.iconst 0, 1) := by decide +kernel
theorem dL_flooded_2 : decode cL_flooded 2 = .ok (.aload_n 0, 1) := by decide +kernel
theorem dL_flooded_3 : decode cL_flooded 3 = .ok (.iload_n 1, 1) := by decide +kernel
theorem dL_flooded_4 : decode cL_flooded 4 = .ok (.iload_n 2, 1) := by decide +kernel
theorem dL_flooded_5 : decode cL_flooded 5 = .ok (.invokevirtual 56, 3) := by decide +kernel
theorem dL_flooded_8 : decode cL_flooded 8 = .ok (.i2l, 1) := by decide +kernel
theorem dL_flooded_9 : decode cL_flooded 9 = .ok (.lastore, 1) := by decide +kernel
theorem dL_flooded_10 : decode cL_flooded 10 = .ok (.goto 7, 3) := by decide +kernel
theorem dL_flooded_13 : decode cL_flooded 13 = .ok (.astore 4, 2) := by decide +kernel
theorem dL_flooded_15 : decode cL_flooded 15 = .ok (.iconst 1, 1) := by decide +kernel
theorem dL_flooded_16 : decode cL_flooded 16 = .ok (.ireturn, 1) := by decide +kernel
theorem dL_flooded_17 : decode cL_flooded 17 = .ok (.iconst 0, 1) := by decide +kernel
theorem dL_flooded_18 : decode cL_flooded 18 = .ok (.ireturn, 1) := by decide +kernel
theorem dL_judge_0 : decode cL_judge 0 = .ok (.aload_n 2, 1) := by decide +kernel
theorem dL_judge_1 : decode cL_judge 1 = .ok (.iconst 0, 1) := by decide +kernel
theorem dL_judge_2 : decode cL_judge 2 = .ok (.aload_n 0, 1) := by decide +kernel
theorem dL_judge_3 : decode cL_judge 3 = .ok (.iload_n 1, 1) := by decide +kernel
theorem dL_judge_4 : decode cL_judge 4 = .ok (.invokevirtual 59, 3) := by decide +kernel
theorem dL_judge_7 : decode cL_judge 7 = .ok (.i2l, 1) := by decide +kernel
theorem dL_judge_8 : decode cL_judge 8 = .ok (.lastore, 1) := by decide +kernel
theorem dL_judge_9 : decode cL_judge 9 = .ok (.goto 9, 3) := by decide +kernel
theorem dL_judge_12 : decode cL_judge 12 = .ok (.astore_n 3, 1) := by decide +kernel
theorem dL_judge_13 : decode cL_judge 13 = .ok (.iconst 1, 1) := by decide +kernel
theorem dL_judge_14 : decode cL_judge 14 = .ok (.ireturn, 1) := by decide +kernel
theorem dL_judge_15 : decode cL_judge 15 = .ok (.astore_n 3, 1) := by decide +kernel
theorem dL_judge_16 : decode cL_judge 16 = .ok (.iconst 2, 1) := by decide +kernel
theorem dL_judge_17 : decode cL_judge 17 = .ok (.ireturn, 1) := by decide +kernel
theorem dL_judge_18 : decode cL_judge 18 = .ok (.iconst 0, 1) := by decide +kernel
theorem dL_judge_19 : decode cL_judge 19 = .ok (.ireturn, 1) := by decide +kernel
theorem dL_due_0 : decode cL_due 0 = .ok (.aload_n 2, 1) := by decide +kernel
theorem dL_due_1 : decode cL_due 1 = .ok (.iconst 0, 1) := by decide +kernel
theorem dL_due_2 : decode cL_due 2 = .ok (.aload_n 0, 1) := by decide +kernel
theorem dL_due_3 : decode cL_due 3 = .ok (.iload_n 1, 1) := by decide +kernel
theorem dL_due_4 : decode cL_due 4 = .ok (.invokevirtual 62, 3) := by decide +kernel
theorem dL_due_7 : decode cL_due 7 = .ok (.i2l, 1) := by decide +kernel
theorem dL_due_8 : decode cL_due 8 = .ok (.lastore, 1) := by decide +kernel
theorem dL_due_9 : decode cL_due 9 = .ok (.goto 6, 3) := by decide +kernel
theorem dL_due_12 : decode cL_due 12 = .ok (.astore_n 3, 1) := by decide +kernel
theorem dL_due_13 : decode cL_due 13 = .ok (.iconst 1, 1) := by decide +kernel
theorem dL_due_14 : decode cL_due 14 = .ok (.ireturn, 1) := by decide +kernel
theorem dL_due_15 : decode cL_due 15 = .ok (.iconst 0, 1) := by decide +kernel
theorem dL_due_16 : decode cL_due 16 = .ok (.ireturn, 1) := by decide +kernel
theorem dL_ladder_0 : decode cL_ladder 0 = .ok (.aload 4, 2) := by decide +kernel
theorem dL_ladder_2 : decode cL_ladder 2 = .ok (.iconst 0, 1) := by decide +kernel
theorem dL_ladder_3 : decode cL_ladder 3 = .ok (.aload_n 0, 1) := by decide +kernel
theorem dL_ladder_4 : decode cL_ladder 4 = .ok (.iload_n 1, 1) := by decide +kernel
theorem dL_ladder_5 : decode cL_ladder 5 = .ok (.iload_n 2, 1) := by decide +kernel
theorem dL_ladder_6 : decode cL_ladder 6 = .ok (.iload_n 3, 1) := by decide +kernel
theorem dL_ladder_7 : decode cL_ladder 7 = .ok (.invokevirtual 65, 3) := by decide +kernel
theorem dL_ladder_10 : decode cL_ladder 10 = .ok (.ifCond .eq 7, 3) := by decide +kernel
theorem dL_ladder_13 : decode cL_ladder 13 = .ok (.lconst 1, 1) := by decide +kernel
theorem dL_ladder_14 : decode cL_ladder 14 = .ok (.goto 4, 3) := by decide +kernel
theorem dL_ladder_17 : decode cL_ladder 17 = .ok (.lconst 0, 1) := by decide +kernel
theorem dL_ladder_18 : decode cL_ladder 18 = .ok (.lastore, 1) := by decide +kernel
theorem dL_ladder_19 : decode cL_ladder 19 = .ok (.goto 11, 3) := by decide +kernel
theorem dL_ladder_22 : decode cL_ladder 22 = .ok (.astore 5, 2) := by decide +kernel
theorem dL_ladder_24 : decode cL_ladder 24 = .ok (.iconst 1, 1) := by decide +kernel
theorem dL_ladder_25 : decode cL_ladder 25 = .ok (.ireturn, 1) := by decide +kernel
theorem dL_ladder_26 : decode cL_ladder 26 = .ok (.astore 5, 2) := by decide +kernel
theorem dL_ladder_28 : decode cL_ladder 28 = .ok (.iconst 2, 1) := by decide +kernel
theorem dL_ladder_29 : decode cL_ladder 29 = .ok (.ireturn, 1) := by decide +kernel
theorem dL_ladder_30 : decode cL_ladder 30 = .ok (.iconst 0, 1) := by decide +kernel
theorem dL_ladder_31 : decode cL_ladder 31 = .ok (.ireturn, 1) := by decide +kernel
theorem dL_net_0 : decode cL_net 0 = .ok (.aload 4, 2) := by decide +kernel
theorem dL_net_2 : decode cL_net 2 = .ok (.iconst 0, 1) := by decide +kernel
theorem dL_net_3 : decode cL_net 3 = .ok (.aload_n 0, 1) := by decide +kernel
theorem dL_net_4 : decode cL_net 4 = .ok (.iload_n 1, 1) := by decide +kernel
theorem dL_net_5 : decode cL_net 5 = .ok (.iload_n 2, 1) := by decide +kernel
theorem dL_net_6 : decode cL_net 6 = .ok (.iload_n 3, 1) := by decide +kernel
theorem dL_net_7 : decode cL_net 7 = .ok (.invokevirtual 69, 3) := by decide +kernel
theorem dL_net_10 : decode cL_net 10 = .ok (.ifCond .eq 7, 3) := by decide +kernel
theorem dL_net_13 : decode cL_net 13 = .ok (.lconst 1, 1) := by decide +kernel
theorem dL_net_14 : decode cL_net 14 = .ok (.goto 4, 3) := by decide +kernel
theorem dL_net_17 : decode cL_net 17 = .ok (.lconst 0, 1) := by decide +kernel
theorem dL_net_18 : decode cL_net 18 = .ok (.lastore, 1) := by decide +kernel
theorem dL_net_19 : decode cL_net 19 = .ok (.goto 11, 3) := by decide +kernel
theorem dL_net_22 : decode cL_net 22 = .ok (.astore 5, 2) := by decide +kernel
theorem dL_net_24 : decode cL_net 24 = .ok (.iconst 1, 1) := by decide +kernel
theorem dL_net_25 : decode cL_net 25 = .ok (.ireturn, 1) := by decide +kernel
theorem dL_net_26 : decode cL_net 26 = .ok (.astore 5, 2) := by decide +kernel
theorem dL_net_28 : decode cL_net 28 = .ok (.iconst 2, 1) := by decide +kernel
theorem dL_net_29 : decode cL_net 29 = .ok (.ireturn, 1) := by decide +kernel
theorem dL_net_30 : decode cL_net 30 = .ok (.iconst 0, 1) := by decide +kernel
theorem dL_net_31 : decode cL_net 31 = .ok (.ireturn, 1) := by decide +kernel
theorem dL_lesson_0 : decode cL_lesson 0 = .ok (.aload_n 3, 1) := by decide +kernel
theorem dL_lesson_1 : decode cL_lesson 1 = .ok (.iconst 0, 1) := by decide +kernel
theorem dL_lesson_2 : decode cL_lesson 2 = .ok (.aload_n 0, 1) := by decide +kernel
theorem dL_lesson_3 : decode cL_lesson 3 = .ok (.iload_n 1, 1) := by decide +kernel
theorem dL_lesson_4 : decode cL_lesson 4 = .ok (.iload_n 2, 1) := by decide +kernel
theorem dL_lesson_5 : decode cL_lesson 5 = .ok (.invokevirtual 72, 3) := by decide +kernel
theorem dL_lesson_8 : decode cL_lesson 8 = .ok (.i2l, 1) := by decide +kernel
theorem dL_lesson_9 : decode cL_lesson 9 = .ok (.lastore, 1) := by decide +kernel
theorem dL_lesson_10 : decode cL_lesson 10 = .ok (.goto 15, 3) := by decide +kernel
theorem dL_lesson_13 : decode cL_lesson 13 = .ok (.astore 4, 2) := by decide +kernel
theorem dL_lesson_15 : decode cL_lesson 15 = .ok (.iconst 1, 1) := by decide +kernel
theorem dL_lesson_16 : decode cL_lesson 16 = .ok (.ireturn, 1) := by decide +kernel
theorem dL_lesson_17 : decode cL_lesson 17 = .ok (.astore 4, 2) := by decide +kernel
theorem dL_lesson_19 : decode cL_lesson 19 = .ok (.iconst 2, 1) := by decide +kernel
theorem dL_lesson_20 : decode cL_lesson 20 = .ok (.ireturn, 1) := by decide +kernel
theorem dL_lesson_21 : decode cL_lesson 21 = .ok (.astore 4, 2) := by decide +kernel
theorem dL_lesson_23 : decode cL_lesson 23 = .ok (.iconst 3, 1) := by decide +kernel
theorem dL_lesson_24 : decode cL_lesson 24 = .ok (.ireturn, 1) := by decide +kernel
theorem dL_lesson_25 : decode cL_lesson 25 = .ok (.iconst 0, 1) := by decide +kernel
theorem dL_lesson_26 : decode cL_lesson 26 = .ok (.ireturn, 1) := by decide +kernel
theorem dL_branch_0 : decode cL_branch 0 = .ok (.aload_n 3, 1) := by decide +kernel
theorem dL_branch_1 : decode cL_branch 1 = .ok (.iconst 0, 1) := by decide +kernel
theorem dL_branch_2 : decode cL_branch 2 = .ok (.aload_n 0, 1) := by decide +kernel
theorem dL_branch_3 : decode cL_branch 3 = .ok (.iload_n 1, 1) := by decide +kernel
theorem dL_branch_4 : decode cL_branch 4 = .ok (.iload_n 2, 1) := by decide +kernel
theorem dL_branch_5 : decode cL_branch 5 = .ok (.invokevirtual 75, 3) := by decide +kernel
theorem dL_branch_8 : decode cL_branch 8 = .ok (.i2l, 1) := by decide +kernel
theorem dL_branch_9 : decode cL_branch 9 = .ok (.lastore, 1) := by decide +kernel
theorem dL_branch_10 : decode cL_branch 10 = .ok (.goto 11, 3) := by decide +kernel
theorem dL_branch_13 : decode cL_branch 13 = .ok (.astore 4, 2) := by decide +kernel
theorem dL_branch_15 : decode cL_branch 15 = .ok (.iconst 1, 1) := by decide +kernel
theorem dL_branch_16 : decode cL_branch 16 = .ok (.ireturn, 1) := by decide +kernel
theorem dL_branch_17 : decode cL_branch 17 = .ok (.astore 4, 2) := by decide +kernel
theorem dL_branch_19 : decode cL_branch 19 = .ok (.iconst 2, 1) := by decide +kernel
theorem dL_branch_20 : decode cL_branch 20 = .ok (.ireturn, 1) := by decide +kernel
theorem dL_branch_21 : decode cL_branch 21 = .ok (.iconst 0, 1) := by decide +kernel
theorem dL_branch_22 : decode cL_branch 22 = .ok (.ireturn, 1) := by decide +kernel
theorem dL_mark_0 : decode cL_mark 0 = .ok (.aload 4, 2) := by decide +kernel
theorem dL_mark_2 : decode cL_mark 2 = .ok (.iconst 0, 1) := by decide +kernel
theorem dL_mark_3 : decode cL_mark 3 = .ok (.aload_n 0, 1) := by decide +kernel
theorem dL_mark_4 : decode cL_mark 4 = .ok (.iload_n 1, 1) := by decide +kernel
theorem dL_mark_5 : decode cL_mark 5 = .ok (.iload_n 2, 1) := by decide +kernel
theorem dL_mark_6 : decode cL_mark 6 = .ok (.iload_n 3, 1) := by decide +kernel
theorem dL_mark_7 : decode cL_mark 7 = .ok (.invokevirtual 78, 3) := by decide +kernel
theorem dL_mark_10 : decode cL_mark 10 = .ok (.i2l, 1) := by decide +kernel
theorem dL_mark_11 : decode cL_mark 11 = .ok (.lastore, 1) := by decide +kernel
theorem dL_mark_12 : decode cL_mark 12 = .ok (.goto 11, 3) := by decide +kernel
theorem dL_mark_15 : decode cL_mark 15 = .ok (.astore 5, 2) := by decide +kernel
theorem dL_mark_17 : decode cL_mark 17 = .ok (.iconst 1, 1) := by decide +kernel
theorem dL_mark_18 : decode cL_mark 18 = .ok (.ireturn, 1) := by decide +kernel
theorem dL_mark_19 : decode cL_mark 19 = .ok (.astore 5, 2) := by decide +kernel
theorem dL_mark_21 : decode cL_mark 21 = .ok (.iconst 2, 1) := by decide +kernel
theorem dL_mark_22 : decode cL_mark 22 = .ok (.ireturn, 1) := by decide +kernel
theorem dL_mark_23 : decode cL_mark 23 = .ok (.iconst 0, 1) := by decide +kernel
theorem dL_mark_24 : decode cL_mark 24 = .ok (.ireturn, 1) := by decide +kernel
theorem dL_node_0 : decode cL_node 0 = .ok (.aload_n 2, 1) := by decide +kernel
theorem dL_node_1 : decode cL_node 1 = .ok (.iconst 0, 1) := by decide +kernel
theorem dL_node_2 : decode cL_node 2 = .ok (.aload_n 0, 1) := by decide +kernel
theorem dL_node_3 : decode cL_node 3 = .ok (.iload_n 1, 1) := by decide +kernel
theorem dL_node_4 : decode cL_node 4 = .ok (.invokevirtual 81, 3) := by decide +kernel
theorem dL_node_7 : decode cL_node 7 = .ok (.i2l, 1) := by decide +kernel
theorem dL_node_8 : decode cL_node 8 = .ok (.lastore, 1) := by decide +kernel
theorem dL_node_9 : decode cL_node 9 = .ok (.goto 6, 3) := by decide +kernel
theorem dL_node_12 : decode cL_node 12 = .ok (.astore_n 3, 1) := by decide +kernel
theorem dL_node_13 : decode cL_node 13 = .ok (.iconst 1, 1) := by decide +kernel
theorem dL_node_14 : decode cL_node 14 = .ok (.ireturn, 1) := by decide +kernel
theorem dL_node_15 : decode cL_node 15 = .ok (.iconst 0, 1) := by decide +kernel
theorem dL_node_16 : decode cL_node 16 = .ok (.ireturn, 1) := by decide +kernel
theorem dL_merge_0 : decode cL_merge 0 = .ok (.aload_n 3, 1) := by decide +kernel
theorem dL_merge_1 : decode cL_merge 1 = .ok (.iconst 0, 1) := by decide +kernel
theorem dL_merge_2 : decode cL_merge 2 = .ok (.aload_n 0, 1) := by decide +kernel
theorem dL_merge_3 : decode cL_merge 3 = .ok (.iload_n 1, 1) := by decide +kernel
theorem dL_merge_4 : decode cL_merge 4 = .ok (.iload_n 2, 1) := by decide +kernel
theorem dL_merge_5 : decode cL_merge 5 = .ok (.invokevirtual 84, 3) := by decide +kernel
theorem dL_merge_8 : decode cL_merge 8 = .ok (.i2l, 1) := by decide +kernel
theorem dL_merge_9 : decode cL_merge 9 = .ok (.lastore, 1) := by decide +kernel
theorem dL_merge_10 : decode cL_merge 10 = .ok (.goto 15, 3) := by decide +kernel
theorem dL_merge_13 : decode cL_merge 13 = .ok (.astore 4, 2) := by decide +kernel
theorem dL_merge_15 : decode cL_merge 15 = .ok (.iconst 1, 1) := by decide +kernel
theorem dL_merge_16 : decode cL_merge 16 = .ok (.ireturn, 1) := by decide +kernel
theorem dL_merge_17 : decode cL_merge 17 = .ok (.astore 4, 2) := by decide +kernel
theorem dL_merge_19 : decode cL_merge 19 = .ok (.iconst 2, 1) := by decide +kernel
theorem dL_merge_20 : decode cL_merge 20 = .ok (.ireturn, 1) := by decide +kernel
theorem dL_merge_21 : decode cL_merge 21 = .ok (.astore 4, 2) := by decide +kernel
theorem dL_merge_23 : decode cL_merge 23 = .ok (.iconst 3, 1) := by decide +kernel
theorem dL_merge_24 : decode cL_merge 24 = .ok (.ireturn, 1) := by decide +kernel
theorem dL_merge_25 : decode cL_merge 25 = .ok (.iconst 0, 1) := by decide +kernel
theorem dL_merge_26 : decode cL_merge 26 = .ok (.ireturn, 1) := by decide +kernel
theorem dL_law_0 : decode cL_law 0 = .ok (.new 8, 3) := by decide +kernel
theorem dL_law_3 : decode cL_law 3 = .ok (.dup, 1) := by decide +kernel
theorem dL_law_4 : decode cL_law 4 = .ok (.invokespecial 87, 3) := by decide +kernel
theorem dL_law_7 : decode cL_law 7 = .ok (.astore_n 1, 1) := by decide +kernel
theorem dL_law_8 : decode cL_law 8 = .ok (.new 88, 3) := by decide +kernel
theorem dL_law_11 : decode cL_law 11 = .ok (.dup, 1) := by decide +kernel
theorem dL_law_12 : decode cL_law 12 = .ok (.invokespecial 90, 3) := by decide +kernel
theorem dL_law_15 : decode cL_law 15 = .ok (.astore_n 2, 1) := by decide +kernel
theorem dL_law_16 : decode cL_law 16 = .ok (.iconst 1, 1) := by decide +kernel
theorem dL_law_17 : decode cL_law 17 = .ok (.newarray .long, 2) := by decide +kernel
theorem dL_law_19 : decode cL_law 19 = .ok (.astore_n 3, 1) := by decide +kernel
theorem dL_law_20 : decode cL_law 20 = .ok (.iconst 0, 1) := by decide +kernel
theorem dL_law_21 : decode cL_law 21 = .ok (.istore 4, 2) := by decide +kernel
theorem dL_law_23 : decode cL_law 23 = .ok (.iload 4, 2) := by decide +kernel
theorem dL_law_25 : decode cL_law 25 = .ok (.aload_n 0, 1) := by decide +kernel
theorem dL_law_26 : decode cL_law 26 = .ok (.arraylength, 1) := by decide +kernel
theorem dL_law_27 : decode cL_law 27 = .ok (.bipush 6, 2) := by decide +kernel
theorem dL_law_29 : decode cL_law 29 = .ok (.isub, 1) := by decide +kernel
theorem dL_law_30 : decode cL_law 30 = .ok (.if_icmp .gt 1623, 3) := by decide +kernel
theorem dL_law_33 : decode cL_law 33 = .ok (.aload_n 0, 1) := by decide +kernel
theorem dL_law_34 : decode cL_law 34 = .ok (.iload 4, 2) := by decide +kernel
theorem dL_law_36 : decode cL_law 36 = .ok (.iaload, 1) := by decide +kernel
theorem dL_law_37 : decode cL_law 37 = .ok (.bipush 31, 2) := by decide +kernel
theorem dL_law_39 : decode cL_law 39 = .ok (.iand, 1) := by decide +kernel
theorem dL_law_40 : decode cL_law 40 = .ok (.tableswitch 1607 0 22 #[108, 164, 220, 324, 404, 472, 528, 584, 640, 708, 776, 832, 900, 968, 1024, 1080, 1093, 1180, 1267, 1335, 1403, 1483, 1539], 108) := by decide +kernel
theorem dL_law_148 : decode cL_law 148 = .ok (.aload_n 1, 1) := by decide +kernel
theorem dL_law_149 : decode cL_law 149 = .ok (.aload_n 0, 1) := by decide +kernel
theorem dL_law_150 : decode cL_law 150 = .ok (.iload 4, 2) := by decide +kernel
theorem dL_law_152 : decode cL_law 152 = .ok (.iconst 1, 1) := by decide +kernel
theorem dL_law_153 : decode cL_law 153 = .ok (.iadd, 1) := by decide +kernel
theorem dL_law_154 : decode cL_law 154 = .ok (.iaload, 1) := by decide +kernel
theorem dL_law_155 : decode cL_law 155 = .ok (.aload_n 3, 1) := by decide +kernel
theorem dL_law_156 : decode cL_law 156 = .ok (.invokestatic 91, 3) := by decide +kernel
theorem dL_law_159 : decode cL_law 159 = .ok (.istore 5, 2) := by decide +kernel
theorem dL_law_161 : decode cL_law 161 = .ok (.aload_n 2, 1) := by decide +kernel
theorem dL_law_162 : decode cL_law 162 = .ok (.aload_n 0, 1) := by decide +kernel
theorem dL_law_163 : decode cL_law 163 = .ok (.iload 4, 2) := by decide +kernel
theorem dL_law_165 : decode cL_law 165 = .ok (.iconst 1, 1) := by decide +kernel
theorem dL_law_166 : decode cL_law 166 = .ok (.iadd, 1) := by decide +kernel
theorem dL_law_167 : decode cL_law 167 = .ok (.iaload, 1) := by decide +kernel
theorem dL_law_168 : decode cL_law 168 = .ok (.invokevirtual 96, 3) := by decide +kernel
theorem dL_law_171 : decode cL_law 171 = .ok (.istore 6, 2) := by decide +kernel
theorem dL_law_173 : decode cL_law 173 = .ok (.aload_n 2, 1) := by decide +kernel
theorem dL_law_174 : decode cL_law 174 = .ok (.invokevirtual 97, 3) := by decide +kernel
theorem dL_law_177 : decode cL_law 177 = .ok (.iload 5, 2) := by decide +kernel
theorem dL_law_179 : decode cL_law 179 = .ok (.if_icmp .eq 5, 3) := by decide +kernel
theorem dL_law_182 : decode cL_law 182 = .ok (.iconst 0, 1) := by decide +kernel
theorem dL_law_183 : decode cL_law 183 = .ok (.ireturn, 1) := by decide +kernel
theorem dL_law_184 : decode cL_law 184 = .ok (.iload 5, 2) := by decide +kernel
theorem dL_law_186 : decode cL_law 186 = .ok (.ifCond .ne 15, 3) := by decide +kernel
theorem dL_law_189 : decode cL_law 189 = .ok (.aload_n 3, 1) := by decide +kernel
theorem dL_law_190 : decode cL_law 190 = .ok (.iconst 0, 1) := by decide +kernel
theorem dL_law_191 : decode cL_law 191 = .ok (.laload, 1) := by decide +kernel
theorem dL_law_192 : decode cL_law 192 = .ok (.iload 6, 2) := by decide +kernel
theorem dL_law_194 : decode cL_law 194 = .ok (.i2l, 1) := by decide +kernel
theorem dL_law_195 : decode cL_law 195 = .ok (.lcmp, 1) := by decide +kernel
theorem dL_law_196 : decode cL_law 196 = .ok (.ifCond .eq 5, 3) := by decide +kernel
theorem dL_law_199 : decode cL_law 199 = .ok (.iconst 0, 1) := by decide +kernel
theorem dL_law_200 : decode cL_law 200 = .ok (.ireturn, 1) := by decide +kernel
theorem dL_law_201 : decode cL_law 201 = .ok (.goto 1446, 3) := by decide +kernel
theorem dL_law_204 : decode cL_law 204 = .ok (.aload_n 1, 1) := by decide +kernel
theorem dL_law_205 : decode cL_law 205 = .ok (.aload_n 0, 1) := by decide +kernel
theorem dL_law_206 : decode cL_law 206 = .ok (.iload 4, 2) := by decide +kernel
theorem dL_law_208 : decode cL_law 208 = .ok (.iconst 1, 1) := by decide +kernel
theorem dL_law_209 : decode cL_law 209 = .ok (.iadd, 1) := by decide +kernel
theorem dL_law_210 : decode cL_law 210 = .ok (.iaload, 1) := by decide +kernel
theorem dL_law_211 : decode cL_law 211 = .ok (.aload_n 3, 1) := by decide +kernel
theorem dL_law_212 : decode cL_law 212 = .ok (.invokestatic 101, 3) := by decide +kernel
theorem dL_law_215 : decode cL_law 215 = .ok (.istore 5, 2) := by decide +kernel
theorem dL_law_217 : decode cL_law 217 = .ok (.aload_n 2, 1) := by decide +kernel
theorem dL_law_218 : decode cL_law 218 = .ok (.aload_n 0, 1) := by decide +kernel
theorem dL_law_219 : decode cL_law 219 = .ok (.iload 4, 2) := by decide +kernel
theorem dL_law_221 : decode cL_law 221 = .ok (.iconst 1, 1) := by decide +kernel
theorem dL_law_222 : decode cL_law 222 = .ok (.iadd, 1) := by decide +kernel
theorem dL_law_223 : decode cL_law 223 = .ok (.iaload, 1) := by decide +kernel
theorem dL_law_224 : decode cL_law 224 = .ok (.invokevirtual 103, 3) := by decide +kernel
theorem dL_law_227 : decode cL_law 227 = .ok (.istore 6, 2) := by decide +kernel
theorem dL_law_229 : decode cL_law 229 = .ok (.aload_n 2, 1) := by decide +kernel
theorem dL_law_230 : decode cL_law 230 = .ok (.invokevirtual 97, 3) := by decide +kernel
theorem dL_law_233 : decode cL_law 233 = .ok (.iload 5, 2) := by decide +kernel
theorem dL_law_235 : decode cL_law 235 = .ok (.if_icmp .eq 5, 3) := by decide +kernel
theorem dL_law_238 : decode cL_law 238 = .ok (.iconst 0, 1) := by decide +kernel
theorem dL_law_239 : decode cL_law 239 = .ok (.ireturn, 1) := by decide +kernel
theorem dL_law_240 : decode cL_law 240 = .ok (.iload 5, 2) := by decide +kernel
theorem dL_law_242 : decode cL_law 242 = .ok (.ifCond .ne 15, 3) := by decide +kernel
theorem dL_law_245 : decode cL_law 245 = .ok (.aload_n 3, 1) := by decide +kernel
theorem dL_law_246 : decode cL_law 246 = .ok (.iconst 0, 1) := by decide +kernel
theorem dL_law_247 : decode cL_law 247 = .ok (.laload, 1) := by decide +kernel
theorem dL_law_248 : decode cL_law 248 = .ok (.iload 6, 2) := by decide +kernel
theorem dL_law_250 : decode cL_law 250 = .ok (.i2l, 1) := by decide +kernel
theorem dL_law_251 : decode cL_law 251 = .ok (.lcmp, 1) := by decide +kernel
theorem dL_law_252 : decode cL_law 252 = .ok (.ifCond .eq 5, 3) := by decide +kernel
theorem dL_law_255 : decode cL_law 255 = .ok (.iconst 0, 1) := by decide +kernel
theorem dL_law_256 : decode cL_law 256 = .ok (.ireturn, 1) := by decide +kernel
theorem dL_law_257 : decode cL_law 257 = .ok (.goto 1390, 3) := by decide +kernel
theorem dL_law_260 : decode cL_law 260 = .ok (.aload_n 1, 1) := by decide +kernel
theorem dL_law_261 : decode cL_law 261 = .ok (.aload_n 0, 1) := by decide +kernel
theorem dL_law_262 : decode cL_law 262 = .ok (.iload 4, 2) := by decide +kernel
theorem dL_law_264 : decode cL_law 264 = .ok (.iconst 1, 1) := by decide +kernel
theorem dL_law_265 : decode cL_law 265 = .ok (.iadd, 1) := by decide +kernel
theorem dL_law_266 : decode cL_law 266 = .ok (.iaload, 1) := by decide +kernel
theorem dL_law_267 : decode cL_law 267 = .ok (.aload_n 0, 1) := by decide +kernel
theorem dL_law_268 : decode cL_law 268 = .ok (.iload 4, 2) := by decide +kernel
theorem dL_law_270 : decode cL_law 270 = .ok (.iconst 2, 1) := by decide +kernel
theorem dL_law_271 : decode cL_law 271 = .ok (.iadd, 1) := by decide +kernel
theorem dL_law_272 : decode cL_law 272 = .ok (.iaload, 1) := by decide +kernel
theorem dL_law_273 : decode cL_law 273 = .ok (.aload_n 0, 1) := by decide +kernel
theorem dL_law_274 : decode cL_law 274 = .ok (.iload 4, 2) := by decide +kernel
theorem dL_law_276 : decode cL_law 276 = .ok (.iconst 3, 1) := by decide +kernel
theorem dL_law_277 : decode cL_law 277 = .ok (.iadd, 1) := by decide +kernel
theorem dL_law_278 : decode cL_law 278 = .ok (.iaload, 1) := by decide +kernel
theorem dL_law_279 : decode cL_law 279 = .ok (.aload_n 0, 1) := by decide +kernel
theorem dL_law_280 : decode cL_law 280 = .ok (.iload 4, 2) := by decide +kernel
theorem dL_law_282 : decode cL_law 282 = .ok (.iconst 4, 1) := by decide +kernel
theorem dL_law_283 : decode cL_law 283 = .ok (.iadd, 1) := by decide +kernel
theorem dL_law_284 : decode cL_law 284 = .ok (.iaload, 1) := by decide +kernel
theorem dL_law_285 : decode cL_law 285 = .ok (.aload_n 0, 1) := by decide +kernel
theorem dL_law_286 : decode cL_law 286 = .ok (.iload 4, 2) := by decide +kernel
theorem dL_law_288 : decode cL_law 288 = .ok (.iconst 5, 1) := by decide +kernel
theorem dL_law_289 : decode cL_law 289 = .ok (.iadd, 1) := by decide +kernel
theorem dL_law_290 : decode cL_law 290 = .ok (.iaload, 1) := by decide +kernel
theorem dL_law_291 : decode cL_law 291 = .ok (.aload_n 3, 1) := by decide +kernel
theorem dL_law_292 : decode cL_law 292 = .ok (.invokestatic 104, 3) := by decide +kernel
theorem dL_law_295 : decode cL_law 295 = .ok (.istore 5, 2) := by decide +kernel
theorem dL_law_297 : decode cL_law 297 = .ok (.aload_n 2, 1) := by decide +kernel
theorem dL_law_298 : decode cL_law 298 = .ok (.aload_n 0, 1) := by decide +kernel
theorem dL_law_299 : decode cL_law 299 = .ok (.iload 4, 2) := by decide +kernel
theorem dL_law_301 : decode cL_law 301 = .ok (.iconst 1, 1) := by decide +kernel
theorem dL_law_302 : decode cL_law 302 = .ok (.iadd, 1) := by decide +kernel
theorem dL_law_303 : decode cL_law 303 = .ok (.iaload, 1) := by decide +kernel
theorem dL_law_304 : decode cL_law 304 = .ok (.aload_n 0, 1) := by decide +kernel
theorem dL_law_305 : decode cL_law 305 = .ok (.iload 4, 2) := by decide +kernel
theorem dL_law_307 : decode cL_law 307 = .ok (.iconst 2, 1) := by decide +kernel
theorem dL_law_308 : decode cL_law 308 = .ok (.iadd, 1) := by decide +kernel
theorem dL_law_309 : decode cL_law 309 = .ok (.iaload, 1) := by decide +kernel
theorem dL_law_310 : decode cL_law 310 = .ok (.aload_n 0, 1) := by decide +kernel
theorem dL_law_311 : decode cL_law 311 = .ok (.iload 4, 2) := by decide +kernel
theorem dL_law_313 : decode cL_law 313 = .ok (.iconst 3, 1) := by decide +kernel
theorem dL_law_314 : decode cL_law 314 = .ok (.iadd, 1) := by decide +kernel
theorem dL_law_315 : decode cL_law 315 = .ok (.iaload, 1) := by decide +kernel
theorem dL_law_316 : decode cL_law 316 = .ok (.aload_n 0, 1) := by decide +kernel
theorem dL_law_317 : decode cL_law 317 = .ok (.iload 4, 2) := by decide +kernel
theorem dL_law_319 : decode cL_law 319 = .ok (.iconst 4, 1) := by decide +kernel
theorem dL_law_320 : decode cL_law 320 = .ok (.iadd, 1) := by decide +kernel
theorem dL_law_321 : decode cL_law 321 = .ok (.iaload, 1) := by decide +kernel
theorem dL_law_322 : decode cL_law 322 = .ok (.aload_n 0, 1) := by decide +kernel
theorem dL_law_323 : decode cL_law 323 = .ok (.iload 4, 2) := by decide +kernel
theorem dL_law_325 : decode cL_law 325 = .ok (.iconst 5, 1) := by decide +kernel
theorem dL_law_326 : decode cL_law 326 = .ok (.iadd, 1) := by decide +kernel
theorem dL_law_327 : decode cL_law 327 = .ok (.iaload, 1) := by decide +kernel
theorem dL_law_328 : decode cL_law 328 = .ok (.invokevirtual 107, 3) := by decide +kernel
theorem dL_law_331 : decode cL_law 331 = .ok (.istore 6, 2) := by decide +kernel
theorem dL_law_333 : decode cL_law 333 = .ok (.aload_n 2, 1) := by decide +kernel
theorem dL_law_334 : decode cL_law 334 = .ok (.invokevirtual 97, 3) := by decide +kernel
theorem dL_law_337 : decode cL_law 337 = .ok (.iload 5, 2) := by decide +kernel
theorem dL_law_339 : decode cL_law 339 = .ok (.if_icmp .eq 5, 3) := by decide +kernel
theorem dL_law_342 : decode cL_law 342 = .ok (.iconst 0, 1) := by decide +kernel
theorem dL_law_343 : decode cL_law 343 = .ok (.ireturn, 1) := by decide +kernel
theorem dL_law_344 : decode cL_law 344 = .ok (.iload 5, 2) := by decide +kernel
theorem dL_law_346 : decode cL_law 346 = .ok (.ifCond .ne 15, 3) := by decide +kernel
theorem dL_law_349 : decode cL_law 349 = .ok (.aload_n 3, 1) := by decide +kernel
theorem dL_law_350 : decode cL_law 350 = .ok (.iconst 0, 1) := by decide +kernel
theorem dL_law_351 : decode cL_law 351 = .ok (.laload, 1) := by decide +kernel
theorem dL_law_352 : decode cL_law 352 = .ok (.iload 6, 2) := by decide +kernel
theorem dL_law_354 : decode cL_law 354 = .ok (.i2l, 1) := by decide +kernel
theorem dL_law_355 : decode cL_law 355 = .ok (.lcmp, 1) := by decide +kernel
theorem dL_law_356 : decode cL_law 356 = .ok (.ifCond .eq 5, 3) := by decide +kernel
theorem dL_law_359 : decode cL_law 359 = .ok (.iconst 0, 1) := by decide +kernel
theorem dL_law_360 : decode cL_law 360 = .ok (.ireturn, 1) := by decide +kernel
theorem dL_law_361 : decode cL_law 361 = .ok (.goto 1286, 3) := by decide +kernel
theorem dL_law_364 : decode cL_law 364 = .ok (.aload_n 1, 1) := by decide +kernel
theorem dL_law_365 : decode cL_law 365 = .ok (.aload_n 0, 1) := by decide +kernel
theorem dL_law_366 : decode cL_law 366 = .ok (.iload 4, 2) := by decide +kernel
theorem dL_law_368 : decode cL_law 368 = .ok (.iconst 1, 1) := by decide +kernel
theorem dL_law_369 : decode cL_law 369 = .ok (.iadd, 1) := by decide +kernel
theorem dL_law_370 : decode cL_law 370 = .ok (.iaload, 1) := by decide +kernel
theorem dL_law_371 : decode cL_law 371 = .ok (.aload_n 0, 1) := by decide +kernel
theorem dL_law_372 : decode cL_law 372 = .ok (.iload 4, 2) := by decide +kernel
theorem dL_law_374 : decode cL_law 374 = .ok (.iconst 2, 1) := by decide +kernel
theorem dL_law_375 : decode cL_law 375 = .ok (.iadd, 1) := by decide +kernel
theorem dL_law_376 : decode cL_law 376 = .ok (.iaload, 1) := by decide +kernel
theorem dL_law_377 : decode cL_law 377 = .ok (.aload_n 0, 1) := by decide +kernel
theorem dL_law_378 : decode cL_law 378 = .ok (.iload 4, 2) := by decide +kernel
theorem dL_law_380 : decode cL_law 380 = .ok (.iconst 3, 1) := by decide +kernel
theorem dL_law_381 : decode cL_law 381 = .ok (.iadd, 1) := by decide +kernel
theorem dL_law_382 : decode cL_law 382 = .ok (.iaload, 1) := by decide +kernel
theorem dL_law_383 : decode cL_law 383 = .ok (.aload_n 3, 1) := by decide +kernel
theorem dL_law_384 : decode cL_law 384 = .ok (.invokestatic 108, 3) := by decide +kernel
theorem dL_law_387 : decode cL_law 387 = .ok (.istore 5, 2) := by decide +kernel
theorem dL_law_389 : decode cL_law 389 = .ok (.aload_n 2, 1) := by decide +kernel
theorem dL_law_390 : decode cL_law 390 = .ok (.aload_n 0, 1) := by decide +kernel
theorem dL_law_391 : decode cL_law 391 = .ok (.iload 4, 2) := by decide +kernel
theorem dL_law_393 : decode cL_law 393 = .ok (.iconst 1, 1) := by decide +kernel
theorem dL_law_394 : decode cL_law 394 = .ok (.iadd, 1) := by decide +kernel
theorem dL_law_395 : decode cL_law 395 = .ok (.iaload, 1) := by decide +kernel
theorem dL_law_396 : decode cL_law 396 = .ok (.aload_n 0, 1) := by decide +kernel
theorem dL_law_397 : decode cL_law 397 = .ok (.iload 4, 2) := by decide +kernel
theorem dL_law_399 : decode cL_law 399 = .ok (.iconst 2, 1) := by decide +kernel
theorem dL_law_400 : decode cL_law 400 = .ok (.iadd, 1) := by decide +kernel
theorem dL_law_401 : decode cL_law 401 = .ok (.iaload, 1) := by decide +kernel
theorem dL_law_402 : decode cL_law 402 = .ok (.aload_n 0, 1) := by decide +kernel
theorem dL_law_403 : decode cL_law 403 = .ok (.iload 4, 2) := by decide +kernel
theorem dL_law_405 : decode cL_law 405 = .ok (.iconst 3, 1) := by decide +kernel
theorem dL_law_406 : decode cL_law 406 = .ok (.iadd, 1) := by decide +kernel
theorem dL_law_407 : decode cL_law 407 = .ok (.iaload, 1) := by decide +kernel
theorem dL_law_408 : decode cL_law 408 = .ok (.invokevirtual 111, 3) := by decide +kernel
theorem dL_law_411 : decode cL_law 411 = .ok (.istore 6, 2) := by decide +kernel
theorem dL_law_413 : decode cL_law 413 = .ok (.aload_n 2, 1) := by decide +kernel
theorem dL_law_414 : decode cL_law 414 = .ok (.invokevirtual 97, 3) := by decide +kernel
theorem dL_law_417 : decode cL_law 417 = .ok (.iload 5, 2) := by decide +kernel
theorem dL_law_419 : decode cL_law 419 = .ok (.if_icmp .eq 5, 3) := by decide +kernel
theorem dL_law_422 : decode cL_law 422 = .ok (.iconst 0, 1) := by decide +kernel
theorem dL_law_423 : decode cL_law 423 = .ok (.ireturn, 1) := by decide +kernel
theorem dL_law_424 : decode cL_law 424 = .ok (.iload 5, 2) := by decide +kernel
theorem dL_law_426 : decode cL_law 426 = .ok (.ifCond .ne 15, 3) := by decide +kernel
theorem dL_law_429 : decode cL_law 429 = .ok (.aload_n 3, 1) := by decide +kernel
theorem dL_law_430 : decode cL_law 430 = .ok (.iconst 0, 1) := by decide +kernel
theorem dL_law_431 : decode cL_law 431 = .ok (.laload, 1) := by decide +kernel
theorem dL_law_432 : decode cL_law 432 = .ok (.iload 6, 2) := by decide +kernel
theorem dL_law_434 : decode cL_law 434 = .ok (.i2l, 1) := by decide +kernel
theorem dL_law_435 : decode cL_law 435 = .ok (.lcmp, 1) := by decide +kernel
theorem dL_law_436 : decode cL_law 436 = .ok (.ifCond .eq 5, 3) := by decide +kernel
theorem dL_law_439 : decode cL_law 439 = .ok (.iconst 0, 1) := by decide +kernel
theorem dL_law_440 : decode cL_law 440 = .ok (.ireturn, 1) := by decide +kernel
theorem dL_law_441 : decode cL_law 441 = .ok (.goto 1206, 3) := by decide +kernel
theorem dL_law_444 : decode cL_law 444 = .ok (.aload_n 1, 1) := by decide +kernel
theorem dL_law_445 : decode cL_law 445 = .ok (.aload_n 0, 1) := by decide +kernel
theorem dL_law_446 : decode cL_law 446 = .ok (.iload 4, 2) := by decide +kernel
theorem dL_law_448 : decode cL_law 448 = .ok (.iconst 1, 1) := by decide +kernel
theorem dL_law_449 : decode cL_law 449 = .ok (.iadd, 1) := by decide +kernel
theorem dL_law_450 : decode cL_law 450 = .ok (.iaload, 1) := by decide +kernel
theorem dL_law_451 : decode cL_law 451 = .ok (.aload_n 0, 1) := by decide +kernel
theorem dL_law_452 : decode cL_law 452 = .ok (.iload 4, 2) := by decide +kernel
theorem dL_law_454 : decode cL_law 454 = .ok (.iconst 2, 1) := by decide +kernel
theorem dL_law_455 : decode cL_law 455 = .ok (.iadd, 1) := by decide +kernel
theorem dL_law_456 : decode cL_law 456 = .ok (.iaload, 1) := by decide +kernel
theorem dL_law_457 : decode cL_law 457 = .ok (.aload_n 3, 1) := by decide +kernel
theorem dL_law_458 : decode cL_law 458 = .ok (.invokestatic 112, 3) := by decide +kernel
theorem dL_law_461 : decode cL_law 461 = .ok (.istore 5, 2) := by decide +kernel
theorem dL_law_463 : decode cL_law 463 = .ok (.aload_n 2, 1) := by decide +kernel
theorem dL_law_464 : decode cL_law 464 = .ok (.aload_n 0, 1) := by decide +kernel
theorem dL_law_465 : decode cL_law 465 = .ok (.iload 4, 2) := by decide +kernel
theorem dL_law_467 : decode cL_law 467 = .ok (.iconst 1, 1) := by decide +kernel
theorem dL_law_468 : decode cL_law 468 = .ok (.iadd, 1) := by decide +kernel
theorem dL_law_469 : decode cL_law 469 = .ok (.iaload, 1) := by decide +kernel
theorem dL_law_470 : decode cL_law 470 = .ok (.aload_n 0, 1) := by decide +kernel
theorem dL_law_471 : decode cL_law 471 = .ok (.iload 4, 2) := by decide +kernel
theorem dL_law_473 : decode cL_law 473 = .ok (.iconst 2, 1) := by decide +kernel
theorem dL_law_474 : decode cL_law 474 = .ok (.iadd, 1) := by decide +kernel
theorem dL_law_475 : decode cL_law 475 = .ok (.iaload, 1) := by decide +kernel
theorem dL_law_476 : decode cL_law 476 = .ok (.invokevirtual 115, 3) := by decide +kernel
theorem dL_law_479 : decode cL_law 479 = .ok (.istore 6, 2) := by decide +kernel
theorem dL_law_481 : decode cL_law 481 = .ok (.aload_n 2, 1) := by decide +kernel
theorem dL_law_482 : decode cL_law 482 = .ok (.invokevirtual 97, 3) := by decide +kernel
theorem dL_law_485 : decode cL_law 485 = .ok (.iload 5, 2) := by decide +kernel
theorem dL_law_487 : decode cL_law 487 = .ok (.if_icmp .eq 5, 3) := by decide +kernel
theorem dL_law_490 : decode cL_law 490 = .ok (.iconst 0, 1) := by decide +kernel
theorem dL_law_491 : decode cL_law 491 = .ok (.ireturn, 1) := by decide +kernel
theorem dL_law_492 : decode cL_law 492 = .ok (.iload 5, 2) := by decide +kernel
theorem dL_law_494 : decode cL_law 494 = .ok (.ifCond .ne 15, 3) := by decide +kernel
theorem dL_law_497 : decode cL_law 497 = .ok (.aload_n 3, 1) := by decide +kernel
theorem dL_law_498 : decode cL_law 498 = .ok (.iconst 0, 1) := by decide +kernel
theorem dL_law_499 : decode cL_law 499 = .ok (.laload, 1) := by decide +kernel
theorem dL_law_500 : decode cL_law 500 = .ok (.iload 6, 2) := by decide +kernel
theorem dL_law_502 : decode cL_law 502 = .ok (.i2l, 1) := by decide +kernel
theorem dL_law_503 : decode cL_law 503 = .ok (.lcmp, 1) := by decide +kernel
theorem dL_law_504 : decode cL_law 504 = .ok (.ifCond .eq 5, 3) := by decide +kernel
theorem dL_law_507 : decode cL_law 507 = .ok (.iconst 0, 1) := by decide +kernel
theorem dL_law_508 : decode cL_law 508 = .ok (.ireturn, 1) := by decide +kernel
theorem dL_law_509 : decode cL_law 509 = .ok (.goto 1138, 3) := by decide +kernel
theorem dL_law_512 : decode cL_law 512 = .ok (.aload_n 1, 1) := by decide +kernel
theorem dL_law_513 : decode cL_law 513 = .ok (.aload_n 0, 1) := by decide +kernel
theorem dL_law_514 : decode cL_law 514 = .ok (.iload 4, 2) := by decide +kernel
theorem dL_law_516 : decode cL_law 516 = .ok (.iconst 1, 1) := by decide +kernel
theorem dL_law_517 : decode cL_law 517 = .ok (.iadd, 1) := by decide +kernel
theorem dL_law_518 : decode cL_law 518 = .ok (.iaload, 1) := by decide +kernel
theorem dL_law_519 : decode cL_law 519 = .ok (.aload_n 3, 1) := by decide +kernel
theorem dL_law_520 : decode cL_law 520 = .ok (.invokestatic 116, 3) := by decide +kernel
theorem dL_law_523 : decode cL_law 523 = .ok (.istore 5, 2) := by decide +kernel
theorem dL_law_525 : decode cL_law 525 = .ok (.aload_n 2, 1) := by decide +kernel
theorem dL_law_526 : decode cL_law 526 = .ok (.aload_n 0, 1) := by decide +kernel
theorem dL_law_527 : decode cL_law 527 = .ok (.iload 4, 2) := by decide +kernel
theorem dL_law_529 : decode cL_law 529 = .ok (.iconst 1, 1) := by decide +kernel
theorem dL_law_530 : decode cL_law 530 = .ok (.iadd, 1) := by decide +kernel
theorem dL_law_531 : decode cL_law 531 = .ok (.iaload, 1) := by decide +kernel
theorem dL_law_532 : decode cL_law 532 = .ok (.invokevirtual 118, 3) := by decide +kernel
theorem dL_law_535 : decode cL_law 535 = .ok (.istore 6, 2) := by decide +kernel
theorem dL_law_537 : decode cL_law 537 = .ok (.aload_n 2, 1) := by decide +kernel
theorem dL_law_538 : decode cL_law 538 = .ok (.invokevirtual 97, 3) := by decide +kernel
theorem dL_law_541 : decode cL_law 541 = .ok (.iload 5, 2) := by decide +kernel
theorem dL_law_543 : decode cL_law 543 = .ok (.if_icmp .eq 5, 3) := by decide +kernel
theorem dL_law_546 : decode cL_law 546 = .ok (.iconst 0, 1) := by decide +kernel
theorem dL_law_547 : decode cL_law 547 = .ok (.ireturn, 1) := by decide +kernel
theorem dL_law_548 : decode cL_law 548 = .ok (.iload 5, 2) := by decide +kernel
theorem dL_law_550 : decode cL_law 550 = .ok (.ifCond .ne 15, 3) := by decide +kernel
theorem dL_law_553 : decode cL_law 553 = .ok (.aload_n 3, 1) := by decide +kernel
theorem dL_law_554 : decode cL_law 554 = .ok (.iconst 0, 1) := by decide +kernel
theorem dL_law_555 : decode cL_law 555 = .ok (.laload, 1) := by decide +kernel
theorem dL_law_556 : decode cL_law 556 = .ok (.iload 6, 2) := by decide +kernel
theorem dL_law_558 : decode cL_law 558 = .ok (.i2l, 1) := by decide +kernel
theorem dL_law_559 : decode cL_law 559 = .ok (.lcmp, 1) := by decide +kernel
theorem dL_law_560 : decode cL_law 560 = .ok (.ifCond .eq 5, 3) := by decide +kernel
theorem dL_law_563 : decode cL_law 563 = .ok (.iconst 0, 1) := by decide +kernel
theorem dL_law_564 : decode cL_law 564 = .ok (.ireturn, 1) := by decide +kernel
theorem dL_law_565 : decode cL_law 565 = .ok (.goto 1082, 3) := by decide +kernel
theorem dL_law_568 : decode cL_law 568 = .ok (.aload_n 1, 1) := by decide +kernel
theorem dL_law_569 : decode cL_law 569 = .ok (.aload_n 0, 1) := by decide +kernel
theorem dL_law_570 : decode cL_law 570 = .ok (.iload 4, 2) := by decide +kernel
theorem dL_law_572 : decode cL_law 572 = .ok (.iconst 1, 1) := by decide +kernel
theorem dL_law_573 : decode cL_law 573 = .ok (.iadd, 1) := by decide +kernel
theorem dL_law_574 : decode cL_law 574 = .ok (.iaload, 1) := by decide +kernel
theorem dL_law_575 : decode cL_law 575 = .ok (.aload_n 3, 1) := by decide +kernel
theorem dL_law_576 : decode cL_law 576 = .ok (.invokestatic 119, 3) := by decide +kernel
theorem dL_law_579 : decode cL_law 579 = .ok (.istore 5, 2) := by decide +kernel
theorem dL_law_581 : decode cL_law 581 = .ok (.aload_n 2, 1) := by decide +kernel
theorem dL_law_582 : decode cL_law 582 = .ok (.aload_n 0, 1) := by decide +kernel
theorem dL_law_583 : decode cL_law 583 = .ok (.iload 4, 2) := by decide +kernel
theorem dL_law_585 : decode cL_law 585 = .ok (.iconst 1, 1) := by decide +kernel
theorem dL_law_586 : decode cL_law 586 = .ok (.iadd, 1) := by decide +kernel
theorem dL_law_587 : decode cL_law 587 = .ok (.iaload, 1) := by decide +kernel
theorem dL_law_588 : decode cL_law 588 = .ok (.invokevirtual 121, 3) := by decide +kernel
theorem dL_law_591 : decode cL_law 591 = .ok (.istore 6, 2) := by decide +kernel
theorem dL_law_593 : decode cL_law 593 = .ok (.aload_n 2, 1) := by decide +kernel
theorem dL_law_594 : decode cL_law 594 = .ok (.invokevirtual 97, 3) := by decide +kernel
theorem dL_law_597 : decode cL_law 597 = .ok (.iload 5, 2) := by decide +kernel
theorem dL_law_599 : decode cL_law 599 = .ok (.if_icmp .eq 5, 3) := by decide +kernel
theorem dL_law_602 : decode cL_law 602 = .ok (.iconst 0, 1) := by decide +kernel
theorem dL_law_603 : decode cL_law 603 = .ok (.ireturn, 1) := by decide +kernel
theorem dL_law_604 : decode cL_law 604 = .ok (.iload 5, 2) := by decide +kernel
theorem dL_law_606 : decode cL_law 606 = .ok (.ifCond .ne 15, 3) := by decide +kernel
theorem dL_law_609 : decode cL_law 609 = .ok (.aload_n 3, 1) := by decide +kernel
theorem dL_law_610 : decode cL_law 610 = .ok (.iconst 0, 1) := by decide +kernel
theorem dL_law_611 : decode cL_law 611 = .ok (.laload, 1) := by decide +kernel
theorem dL_law_612 : decode cL_law 612 = .ok (.iload 6, 2) := by decide +kernel
theorem dL_law_614 : decode cL_law 614 = .ok (.i2l, 1) := by decide +kernel
theorem dL_law_615 : decode cL_law 615 = .ok (.lcmp, 1) := by decide +kernel
theorem dL_law_616 : decode cL_law 616 = .ok (.ifCond .eq 5, 3) := by decide +kernel
theorem dL_law_619 : decode cL_law 619 = .ok (.iconst 0, 1) := by decide +kernel
theorem dL_law_620 : decode cL_law 620 = .ok (.ireturn, 1) := by decide +kernel
theorem dL_law_621 : decode cL_law 621 = .ok (.goto 1026, 3) := by decide +kernel
theorem dL_law_624 : decode cL_law 624 = .ok (.aload_n 1, 1) := by decide +kernel
theorem dL_law_625 : decode cL_law 625 = .ok (.aload_n 0, 1) := by decide +kernel
theorem dL_law_626 : decode cL_law 626 = .ok (.iload 4, 2) := by decide +kernel
theorem dL_law_628 : decode cL_law 628 = .ok (.iconst 1, 1) := by decide +kernel
theorem dL_law_629 : decode cL_law 629 = .ok (.iadd, 1) := by decide +kernel
theorem dL_law_630 : decode cL_law 630 = .ok (.iaload, 1) := by decide +kernel
theorem dL_law_631 : decode cL_law 631 = .ok (.aload_n 3, 1) := by decide +kernel
theorem dL_law_632 : decode cL_law 632 = .ok (.invokestatic 122, 3) := by decide +kernel
theorem dL_law_635 : decode cL_law 635 = .ok (.istore 5, 2) := by decide +kernel
theorem dL_law_637 : decode cL_law 637 = .ok (.aload_n 2, 1) := by decide +kernel
theorem dL_law_638 : decode cL_law 638 = .ok (.aload_n 0, 1) := by decide +kernel
theorem dL_law_639 : decode cL_law 639 = .ok (.iload 4, 2) := by decide +kernel
theorem dL_law_641 : decode cL_law 641 = .ok (.iconst 1, 1) := by decide +kernel
theorem dL_law_642 : decode cL_law 642 = .ok (.iadd, 1) := by decide +kernel
theorem dL_law_643 : decode cL_law 643 = .ok (.iaload, 1) := by decide +kernel
theorem dL_law_644 : decode cL_law 644 = .ok (.invokevirtual 124, 3) := by decide +kernel
theorem dL_law_647 : decode cL_law 647 = .ok (.istore 6, 2) := by decide +kernel
theorem dL_law_649 : decode cL_law 649 = .ok (.aload_n 2, 1) := by decide +kernel
theorem dL_law_650 : decode cL_law 650 = .ok (.invokevirtual 97, 3) := by decide +kernel
theorem dL_law_653 : decode cL_law 653 = .ok (.iload 5, 2) := by decide +kernel
theorem dL_law_655 : decode cL_law 655 = .ok (.if_icmp .eq 5, 3) := by decide +kernel
theorem dL_law_658 : decode cL_law 658 = .ok (.iconst 0, 1) := by decide +kernel
theorem dL_law_659 : decode cL_law 659 = .ok (.ireturn, 1) := by decide +kernel
theorem dL_law_660 : decode cL_law 660 = .ok (.iload 5, 2) := by decide +kernel
theorem dL_law_662 : decode cL_law 662 = .ok (.ifCond .ne 15, 3) := by decide +kernel
theorem dL_law_665 : decode cL_law 665 = .ok (.aload_n 3, 1) := by decide +kernel
theorem dL_law_666 : decode cL_law 666 = .ok (.iconst 0, 1) := by decide +kernel
theorem dL_law_667 : decode cL_law 667 = .ok (.laload, 1) := by decide +kernel
theorem dL_law_668 : decode cL_law 668 = .ok (.iload 6, 2) := by decide +kernel
theorem dL_law_670 : decode cL_law 670 = .ok (.i2l, 1) := by decide +kernel
theorem dL_law_671 : decode cL_law 671 = .ok (.lcmp, 1) := by decide +kernel
theorem dL_law_672 : decode cL_law 672 = .ok (.ifCond .eq 5, 3) := by decide +kernel
theorem dL_law_675 : decode cL_law 675 = .ok (.iconst 0, 1) := by decide +kernel
theorem dL_law_676 : decode cL_law 676 = .ok (.ireturn, 1) := by decide +kernel
theorem dL_law_677 : decode cL_law 677 = .ok (.goto 970, 3) := by decide +kernel
theorem dL_law_680 : decode cL_law 680 = .ok (.aload_n 1, 1) := by decide +kernel
theorem dL_law_681 : decode cL_law 681 = .ok (.aload_n 0, 1) := by decide +kernel
theorem dL_law_682 : decode cL_law 682 = .ok (.iload 4, 2) := by decide +kernel
theorem dL_law_684 : decode cL_law 684 = .ok (.iconst 1, 1) := by decide +kernel
theorem dL_law_685 : decode cL_law 685 = .ok (.iadd, 1) := by decide +kernel
theorem dL_law_686 : decode cL_law 686 = .ok (.iaload, 1) := by decide +kernel
theorem dL_law_687 : decode cL_law 687 = .ok (.aload_n 0, 1) := by decide +kernel
theorem dL_law_688 : decode cL_law 688 = .ok (.iload 4, 2) := by decide +kernel
theorem dL_law_690 : decode cL_law 690 = .ok (.iconst 2, 1) := by decide +kernel
theorem dL_law_691 : decode cL_law 691 = .ok (.iadd, 1) := by decide +kernel
theorem dL_law_692 : decode cL_law 692 = .ok (.iaload, 1) := by decide +kernel
theorem dL_law_693 : decode cL_law 693 = .ok (.aload_n 3, 1) := by decide +kernel
theorem dL_law_694 : decode cL_law 694 = .ok (.invokestatic 125, 3) := by decide +kernel
theorem dL_law_697 : decode cL_law 697 = .ok (.istore 5, 2) := by decide +kernel
theorem dL_law_699 : decode cL_law 699 = .ok (.aload_n 2, 1) := by decide +kernel
theorem dL_law_700 : decode cL_law 700 = .ok (.aload_n 0, 1) := by decide +kernel
theorem dL_law_701 : decode cL_law 701 = .ok (.iload 4, 2) := by decide +kernel
theorem dL_law_703 : decode cL_law 703 = .ok (.iconst 1, 1) := by decide +kernel
theorem dL_law_704 : decode cL_law 704 = .ok (.iadd, 1) := by decide +kernel
theorem dL_law_705 : decode cL_law 705 = .ok (.iaload, 1) := by decide +kernel
theorem dL_law_706 : decode cL_law 706 = .ok (.aload_n 0, 1) := by decide +kernel
theorem dL_law_707 : decode cL_law 707 = .ok (.iload 4, 2) := by decide +kernel
theorem dL_law_709 : decode cL_law 709 = .ok (.iconst 2, 1) := by decide +kernel
theorem dL_law_710 : decode cL_law 710 = .ok (.iadd, 1) := by decide +kernel
theorem dL_law_711 : decode cL_law 711 = .ok (.iaload, 1) := by decide +kernel
theorem dL_law_712 : decode cL_law 712 = .ok (.invokevirtual 127, 3) := by decide +kernel
theorem dL_law_715 : decode cL_law 715 = .ok (.istore 6, 2) := by decide +kernel
theorem dL_law_717 : decode cL_law 717 = .ok (.aload_n 2, 1) := by decide +kernel
theorem dL_law_718 : decode cL_law 718 = .ok (.invokevirtual 97, 3) := by decide +kernel
theorem dL_law_721 : decode cL_law 721 = .ok (.iload 5, 2) := by decide +kernel
theorem dL_law_723 : decode cL_law 723 = .ok (.if_icmp .eq 5, 3) := by decide +kernel
theorem dL_law_726 : decode cL_law 726 = .ok (.iconst 0, 1) := by decide +kernel
theorem dL_law_727 : decode cL_law 727 = .ok (.ireturn, 1) := by decide +kernel
theorem dL_law_728 : decode cL_law 728 = .ok (.iload 5, 2) := by decide +kernel
theorem dL_law_730 : decode cL_law 730 = .ok (.ifCond .ne 15, 3) := by decide +kernel
theorem dL_law_733 : decode cL_law 733 = .ok (.aload_n 3, 1) := by decide +kernel
theorem dL_law_734 : decode cL_law 734 = .ok (.iconst 0, 1) := by decide +kernel
theorem dL_law_735 : decode cL_law 735 = .ok (.laload, 1) := by decide +kernel
theorem dL_law_736 : decode cL_law 736 = .ok (.iload 6, 2) := by decide +kernel
theorem dL_law_738 : decode cL_law 738 = .ok (.i2l, 1) := by decide +kernel
theorem dL_law_739 : decode cL_law 739 = .ok (.lcmp, 1) := by decide +kernel
theorem dL_law_740 : decode cL_law 740 = .ok (.ifCond .eq 5, 3) := by decide +kernel
theorem dL_law_743 : decode cL_law 743 = .ok (.iconst 0, 1) := by decide +kernel
theorem dL_law_744 : decode cL_law 744 = .ok (.ireturn, 1) := by decide +kernel
theorem dL_law_745 : decode cL_law 745 = .ok (.goto 902, 3) := by decide +kernel
theorem dL_law_748 : decode cL_law 748 = .ok (.aload_n 1, 1) := by decide +kernel
theorem dL_law_749 : decode cL_law 749 = .ok (.aload_n 0, 1) := by decide +kernel
theorem dL_law_750 : decode cL_law 750 = .ok (.iload 4, 2) := by decide +kernel
theorem dL_law_752 : decode cL_law 752 = .ok (.iconst 1, 1) := by decide +kernel
theorem dL_law_753 : decode cL_law 753 = .ok (.iadd, 1) := by decide +kernel
theorem dL_law_754 : decode cL_law 754 = .ok (.iaload, 1) := by decide +kernel
theorem dL_law_755 : decode cL_law 755 = .ok (.aload_n 0, 1) := by decide +kernel
theorem dL_law_756 : decode cL_law 756 = .ok (.iload 4, 2) := by decide +kernel
theorem dL_law_758 : decode cL_law 758 = .ok (.iconst 2, 1) := by decide +kernel
theorem dL_law_759 : decode cL_law 759 = .ok (.iadd, 1) := by decide +kernel
theorem dL_law_760 : decode cL_law 760 = .ok (.iaload, 1) := by decide +kernel
theorem dL_law_761 : decode cL_law 761 = .ok (.aload_n 3, 1) := by decide +kernel
theorem dL_law_762 : decode cL_law 762 = .ok (.invokestatic 128, 3) := by decide +kernel
theorem dL_law_765 : decode cL_law 765 = .ok (.istore 5, 2) := by decide +kernel
theorem dL_law_767 : decode cL_law 767 = .ok (.aload_n 2, 1) := by decide +kernel
theorem dL_law_768 : decode cL_law 768 = .ok (.aload_n 0, 1) := by decide +kernel
theorem dL_law_769 : decode cL_law 769 = .ok (.iload 4, 2) := by decide +kernel
theorem dL_law_771 : decode cL_law 771 = .ok (.iconst 1, 1) := by decide +kernel
theorem dL_law_772 : decode cL_law 772 = .ok (.iadd, 1) := by decide +kernel
theorem dL_law_773 : decode cL_law 773 = .ok (.iaload, 1) := by decide +kernel
theorem dL_law_774 : decode cL_law 774 = .ok (.aload_n 0, 1) := by decide +kernel
theorem dL_law_775 : decode cL_law 775 = .ok (.iload 4, 2) := by decide +kernel
theorem dL_law_777 : decode cL_law 777 = .ok (.iconst 2, 1) := by decide +kernel
theorem dL_law_778 : decode cL_law 778 = .ok (.iadd, 1) := by decide +kernel
theorem dL_law_779 : decode cL_law 779 = .ok (.iaload, 1) := by decide +kernel
theorem dL_law_780 : decode cL_law 780 = .ok (.invokevirtual 130, 3) := by decide +kernel
theorem dL_law_783 : decode cL_law 783 = .ok (.istore 6, 2) := by decide +kernel
theorem dL_law_785 : decode cL_law 785 = .ok (.aload_n 2, 1) := by decide +kernel
theorem dL_law_786 : decode cL_law 786 = .ok (.invokevirtual 97, 3) := by decide +kernel
theorem dL_law_789 : decode cL_law 789 = .ok (.iload 5, 2) := by decide +kernel
theorem dL_law_791 : decode cL_law 791 = .ok (.if_icmp .eq 5, 3) := by decide +kernel
theorem dL_law_794 : decode cL_law 794 = .ok (.iconst 0, 1) := by decide +kernel
theorem dL_law_795 : decode cL_law 795 = .ok (.ireturn, 1) := by decide +kernel
theorem dL_law_796 : decode cL_law 796 = .ok (.iload 5, 2) := by decide +kernel
theorem dL_law_798 : decode cL_law 798 = .ok (.ifCond .ne 15, 3) := by decide +kernel
theorem dL_law_801 : decode cL_law 801 = .ok (.aload_n 3, 1) := by decide +kernel
theorem dL_law_802 : decode cL_law 802 = .ok (.iconst 0, 1) := by decide +kernel
theorem dL_law_803 : decode cL_law 803 = .ok (.laload, 1) := by decide +kernel
theorem dL_law_804 : decode cL_law 804 = .ok (.iload 6, 2) := by decide +kernel
theorem dL_law_806 : decode cL_law 806 = .ok (.i2l, 1) := by decide +kernel
theorem dL_law_807 : decode cL_law 807 = .ok (.lcmp, 1) := by decide +kernel
theorem dL_law_808 : decode cL_law 808 = .ok (.ifCond .eq 5, 3) := by decide +kernel
theorem dL_law_811 : decode cL_law 811 = .ok (.iconst 0, 1) := by decide +kernel
theorem dL_law_812 : decode cL_law 812 = .ok (.ireturn, 1) := by decide +kernel
theorem dL_law_813 : decode cL_law 813 = .ok (.goto 834, 3) := by decide +kernel
theorem dL_law_816 : decode cL_law 816 = .ok (.aload_n 1, 1) := by decide +kernel
theorem dL_law_817 : decode cL_law 817 = .ok (.aload_n 0, 1) := by decide +kernel
theorem dL_law_818 : decode cL_law 818 = .ok (.iload 4, 2) := by decide +kernel
theorem dL_law_820 : decode cL_law 820 = .ok (.iconst 1, 1) := by decide +kernel
theorem dL_law_821 : decode cL_law 821 = .ok (.iadd, 1) := by decide +kernel
theorem dL_law_822 : decode cL_law 822 = .ok (.iaload, 1) := by decide +kernel
theorem dL_law_823 : decode cL_law 823 = .ok (.aload_n 3, 1) := by decide +kernel
theorem dL_law_824 : decode cL_law 824 = .ok (.invokestatic 131, 3) := by decide +kernel
theorem dL_law_827 : decode cL_law 827 = .ok (.istore 5, 2) := by decide +kernel
theorem dL_law_829 : decode cL_law 829 = .ok (.aload_n 2, 1) := by decide +kernel
theorem dL_law_830 : decode cL_law 830 = .ok (.aload_n 0, 1) := by decide +kernel
theorem dL_law_831 : decode cL_law 831 = .ok (.iload 4, 2) := by decide +kernel
theorem dL_law_833 : decode cL_law 833 = .ok (.iconst 1, 1) := by decide +kernel
theorem dL_law_834 : decode cL_law 834 = .ok (.iadd, 1) := by decide +kernel
theorem dL_law_835 : decode cL_law 835 = .ok (.iaload, 1) := by decide +kernel
theorem dL_law_836 : decode cL_law 836 = .ok (.invokevirtual 133, 3) := by decide +kernel
theorem dL_law_839 : decode cL_law 839 = .ok (.istore 6, 2) := by decide +kernel
theorem dL_law_841 : decode cL_law 841 = .ok (.aload_n 2, 1) := by decide +kernel
theorem dL_law_842 : decode cL_law 842 = .ok (.invokevirtual 97, 3) := by decide +kernel
theorem dL_law_845 : decode cL_law 845 = .ok (.iload 5, 2) := by decide +kernel
theorem dL_law_847 : decode cL_law 847 = .ok (.if_icmp .eq 5, 3) := by decide +kernel
theorem dL_law_850 : decode cL_law 850 = .ok (.iconst 0, 1) := by decide +kernel
theorem dL_law_851 : decode cL_law 851 = .ok (.ireturn, 1) := by decide +kernel
theorem dL_law_852 : decode cL_law 852 = .ok (.iload 5, 2) := by decide +kernel
theorem dL_law_854 : decode cL_law 854 = .ok (.ifCond .ne 15, 3) := by decide +kernel
theorem dL_law_857 : decode cL_law 857 = .ok (.aload_n 3, 1) := by decide +kernel
theorem dL_law_858 : decode cL_law 858 = .ok (.iconst 0, 1) := by decide +kernel
theorem dL_law_859 : decode cL_law 859 = .ok (.laload, 1) := by decide +kernel
theorem dL_law_860 : decode cL_law 860 = .ok (.iload 6, 2) := by decide +kernel
theorem dL_law_862 : decode cL_law 862 = .ok (.i2l, 1) := by decide +kernel
theorem dL_law_863 : decode cL_law 863 = .ok (.lcmp, 1) := by decide +kernel
theorem dL_law_864 : decode cL_law 864 = .ok (.ifCond .eq 5, 3) := by decide +kernel
theorem dL_law_867 : decode cL_law 867 = .ok (.iconst 0, 1) := by decide +kernel
theorem dL_law_868 : decode cL_law 868 = .ok (.ireturn, 1) := by decide +kernel
theorem dL_law_869 : decode cL_law 869 = .ok (.goto 778, 3) := by decide +kernel
theorem dL_law_872 : decode cL_law 872 = .ok (.aload_n 1, 1) := by decide +kernel
theorem dL_law_873 : decode cL_law 873 = .ok (.aload_n 0, 1) := by decide +kernel
theorem dL_law_874 : decode cL_law 874 = .ok (.iload 4, 2) := by decide +kernel
theorem dL_law_876 : decode cL_law 876 = .ok (.iconst 1, 1) := by decide +kernel
theorem dL_law_877 : decode cL_law 877 = .ok (.iadd, 1) := by decide +kernel
theorem dL_law_878 : decode cL_law 878 = .ok (.iaload, 1) := by decide +kernel
theorem dL_law_879 : decode cL_law 879 = .ok (.aload_n 0, 1) := by decide +kernel
theorem dL_law_880 : decode cL_law 880 = .ok (.iload 4, 2) := by decide +kernel
theorem dL_law_882 : decode cL_law 882 = .ok (.iconst 2, 1) := by decide +kernel
theorem dL_law_883 : decode cL_law 883 = .ok (.iadd, 1) := by decide +kernel
theorem dL_law_884 : decode cL_law 884 = .ok (.iaload, 1) := by decide +kernel
theorem dL_law_885 : decode cL_law 885 = .ok (.aload_n 3, 1) := by decide +kernel
theorem dL_law_886 : decode cL_law 886 = .ok (.invokestatic 134, 3) := by decide +kernel
theorem dL_law_889 : decode cL_law 889 = .ok (.istore 5, 2) := by decide +kernel
theorem dL_law_891 : decode cL_law 891 = .ok (.aload_n 2, 1) := by decide +kernel
theorem dL_law_892 : decode cL_law 892 = .ok (.aload_n 0, 1) := by decide +kernel
theorem dL_law_893 : decode cL_law 893 = .ok (.iload 4, 2) := by decide +kernel
theorem dL_law_895 : decode cL_law 895 = .ok (.iconst 1, 1) := by decide +kernel
theorem dL_law_896 : decode cL_law 896 = .ok (.iadd, 1) := by decide +kernel
theorem dL_law_897 : decode cL_law 897 = .ok (.iaload, 1) := by decide +kernel
theorem dL_law_898 : decode cL_law 898 = .ok (.aload_n 0, 1) := by decide +kernel
theorem dL_law_899 : decode cL_law 899 = .ok (.iload 4, 2) := by decide +kernel
theorem dL_law_901 : decode cL_law 901 = .ok (.iconst 2, 1) := by decide +kernel
theorem dL_law_902 : decode cL_law 902 = .ok (.iadd, 1) := by decide +kernel
theorem dL_law_903 : decode cL_law 903 = .ok (.iaload, 1) := by decide +kernel
theorem dL_law_904 : decode cL_law 904 = .ok (.invokevirtual 136, 3) := by decide +kernel
theorem dL_law_907 : decode cL_law 907 = .ok (.istore 6, 2) := by decide +kernel
theorem dL_law_909 : decode cL_law 909 = .ok (.aload_n 2, 1) := by decide +kernel
theorem dL_law_910 : decode cL_law 910 = .ok (.invokevirtual 97, 3) := by decide +kernel
theorem dL_law_913 : decode cL_law 913 = .ok (.iload 5, 2) := by decide +kernel
theorem dL_law_915 : decode cL_law 915 = .ok (.if_icmp .eq 5, 3) := by decide +kernel
theorem dL_law_918 : decode cL_law 918 = .ok (.iconst 0, 1) := by decide +kernel
theorem dL_law_919 : decode cL_law 919 = .ok (.ireturn, 1) := by decide +kernel
theorem dL_law_920 : decode cL_law 920 = .ok (.iload 5, 2) := by decide +kernel
theorem dL_law_922 : decode cL_law 922 = .ok (.ifCond .ne 15, 3) := by decide +kernel
theorem dL_law_925 : decode cL_law 925 = .ok (.aload_n 3, 1) := by decide +kernel
theorem dL_law_926 : decode cL_law 926 = .ok (.iconst 0, 1) := by decide +kernel
theorem dL_law_927 : decode cL_law 927 = .ok (.laload, 1) := by decide +kernel
theorem dL_law_928 : decode cL_law 928 = .ok (.iload 6, 2) := by decide +kernel
theorem dL_law_930 : decode cL_law 930 = .ok (.i2l, 1) := by decide +kernel
theorem dL_law_931 : decode cL_law 931 = .ok (.lcmp, 1) := by decide +kernel
theorem dL_law_932 : decode cL_law 932 = .ok (.ifCond .eq 5, 3) := by decide +kernel
theorem dL_law_935 : decode cL_law 935 = .ok (.iconst 0, 1) := by decide +kernel
theorem dL_law_936 : decode cL_law 936 = .ok (.ireturn, 1) := by decide +kernel
theorem dL_law_937 : decode cL_law 937 = .ok (.goto 710, 3) := by decide +kernel
theorem dL_law_940 : decode cL_law 940 = .ok (.aload_n 1, 1) := by decide +kernel
theorem dL_law_941 : decode cL_law 941 = .ok (.aload_n 0, 1) := by decide +kernel
theorem dL_law_942 : decode cL_law 942 = .ok (.iload 4, 2) := by decide +kernel
theorem dL_law_944 : decode cL_law 944 = .ok (.iconst 1, 1) := by decide +kernel
theorem dL_law_945 : decode cL_law 945 = .ok (.iadd, 1) := by decide +kernel
theorem dL_law_946 : decode cL_law 946 = .ok (.iaload, 1) := by decide +kernel
theorem dL_law_947 : decode cL_law 947 = .ok (.aload_n 0, 1) := by decide +kernel
theorem dL_law_948 : decode cL_law 948 = .ok (.iload 4, 2) := by decide +kernel
theorem dL_law_950 : decode cL_law 950 = .ok (.iconst 2, 1) := by decide +kernel
theorem dL_law_951 : decode cL_law 951 = .ok (.iadd, 1) := by decide +kernel
theorem dL_law_952 : decode cL_law 952 = .ok (.iaload, 1) := by decide +kernel
theorem dL_law_953 : decode cL_law 953 = .ok (.aload_n 3, 1) := by decide +kernel
theorem dL_law_954 : decode cL_law 954 = .ok (.invokestatic 137, 3) := by decide +kernel
theorem dL_law_957 : decode cL_law 957 = .ok (.istore 5, 2) := by decide +kernel
theorem dL_law_959 : decode cL_law 959 = .ok (.aload_n 2, 1) := by decide +kernel
theorem dL_law_960 : decode cL_law 960 = .ok (.aload_n 0, 1) := by decide +kernel
theorem dL_law_961 : decode cL_law 961 = .ok (.iload 4, 2) := by decide +kernel
theorem dL_law_963 : decode cL_law 963 = .ok (.iconst 1, 1) := by decide +kernel
theorem dL_law_964 : decode cL_law 964 = .ok (.iadd, 1) := by decide +kernel
theorem dL_law_965 : decode cL_law 965 = .ok (.iaload, 1) := by decide +kernel
theorem dL_law_966 : decode cL_law 966 = .ok (.aload_n 0, 1) := by decide +kernel
theorem dL_law_967 : decode cL_law 967 = .ok (.iload 4, 2) := by decide +kernel
theorem dL_law_969 : decode cL_law 969 = .ok (.iconst 2, 1) := by decide +kernel
theorem dL_law_970 : decode cL_law 970 = .ok (.iadd, 1) := by decide +kernel
theorem dL_law_971 : decode cL_law 971 = .ok (.iaload, 1) := by decide +kernel
theorem dL_law_972 : decode cL_law 972 = .ok (.invokevirtual 139, 3) := by decide +kernel
theorem dL_law_975 : decode cL_law 975 = .ok (.istore 6, 2) := by decide +kernel
theorem dL_law_977 : decode cL_law 977 = .ok (.aload_n 2, 1) := by decide +kernel
theorem dL_law_978 : decode cL_law 978 = .ok (.invokevirtual 97, 3) := by decide +kernel
theorem dL_law_981 : decode cL_law 981 = .ok (.iload 5, 2) := by decide +kernel
theorem dL_law_983 : decode cL_law 983 = .ok (.if_icmp .eq 5, 3) := by decide +kernel
theorem dL_law_986 : decode cL_law 986 = .ok (.iconst 0, 1) := by decide +kernel
theorem dL_law_987 : decode cL_law 987 = .ok (.ireturn, 1) := by decide +kernel
theorem dL_law_988 : decode cL_law 988 = .ok (.iload 5, 2) := by decide +kernel
theorem dL_law_990 : decode cL_law 990 = .ok (.ifCond .ne 15, 3) := by decide +kernel
theorem dL_law_993 : decode cL_law 993 = .ok (.aload_n 3, 1) := by decide +kernel
theorem dL_law_994 : decode cL_law 994 = .ok (.iconst 0, 1) := by decide +kernel
theorem dL_law_995 : decode cL_law 995 = .ok (.laload, 1) := by decide +kernel
theorem dL_law_996 : decode cL_law 996 = .ok (.iload 6, 2) := by decide +kernel
theorem dL_law_998 : decode cL_law 998 = .ok (.i2l, 1) := by decide +kernel
theorem dL_law_999 : decode cL_law 999 = .ok (.lcmp, 1) := by decide +kernel
theorem dL_law_1000 : decode cL_law 1000 = .ok (.ifCond .eq 5, 3) := by decide +kernel
theorem dL_law_1003 : decode cL_law 1003 = .ok (.iconst 0, 1) := by decide +kernel
theorem dL_law_1004 : decode cL_law 1004 = .ok (.ireturn, 1) := by decide +kernel
theorem dL_law_1005 : decode cL_law 1005 = .ok (.goto 642, 3) := by decide +kernel
theorem dL_law_1008 : decode cL_law 1008 = .ok (.aload_n 1, 1) := by decide +kernel
theorem dL_law_1009 : decode cL_law 1009 = .ok (.aload_n 0, 1) := by decide +kernel
theorem dL_law_1010 : decode cL_law 1010 = .ok (.iload 4, 2) := by decide +kernel
theorem dL_law_1012 : decode cL_law 1012 = .ok (.iconst 1, 1) := by decide +kernel
theorem dL_law_1013 : decode cL_law 1013 = .ok (.iadd, 1) := by decide +kernel
theorem dL_law_1014 : decode cL_law 1014 = .ok (.iaload, 1) := by decide +kernel
theorem dL_law_1015 : decode cL_law 1015 = .ok (.aload_n 3, 1) := by decide +kernel
theorem dL_law_1016 : decode cL_law 1016 = .ok (.invokestatic 140, 3) := by decide +kernel
theorem dL_law_1019 : decode cL_law 1019 = .ok (.istore 5, 2) := by decide +kernel
theorem dL_law_1021 : decode cL_law 1021 = .ok (.aload_n 2, 1) := by decide +kernel
theorem dL_law_1022 : decode cL_law 1022 = .ok (.aload_n 0, 1) := by decide +kernel
theorem dL_law_1023 : decode cL_law 1023 = .ok (.iload 4, 2) := by decide +kernel
theorem dL_law_1025 : decode cL_law 1025 = .ok (.iconst 1, 1) := by decide +kernel
theorem dL_law_1026 : decode cL_law 1026 = .ok (.iadd, 1) := by decide +kernel
theorem dL_law_1027 : decode cL_law 1027 = .ok (.iaload, 1) := by decide +kernel
theorem dL_law_1028 : decode cL_law 1028 = .ok (.invokevirtual 142, 3) := by decide +kernel
theorem dL_law_1031 : decode cL_law 1031 = .ok (.istore 6, 2) := by decide +kernel
theorem dL_law_1033 : decode cL_law 1033 = .ok (.aload_n 2, 1) := by decide +kernel
theorem dL_law_1034 : decode cL_law 1034 = .ok (.invokevirtual 97, 3) := by decide +kernel
theorem dL_law_1037 : decode cL_law 1037 = .ok (.iload 5, 2) := by decide +kernel
theorem dL_law_1039 : decode cL_law 1039 = .ok (.if_icmp .eq 5, 3) := by decide +kernel
theorem dL_law_1042 : decode cL_law 1042 = .ok (.iconst 0, 1) := by decide +kernel
theorem dL_law_1043 : decode cL_law 1043 = .ok (.ireturn, 1) := by decide +kernel
theorem dL_law_1044 : decode cL_law 1044 = .ok (.iload 5, 2) := by decide +kernel
theorem dL_law_1046 : decode cL_law 1046 = .ok (.ifCond .ne 15, 3) := by decide +kernel
theorem dL_law_1049 : decode cL_law 1049 = .ok (.aload_n 3, 1) := by decide +kernel
theorem dL_law_1050 : decode cL_law 1050 = .ok (.iconst 0, 1) := by decide +kernel
theorem dL_law_1051 : decode cL_law 1051 = .ok (.laload, 1) := by decide +kernel
theorem dL_law_1052 : decode cL_law 1052 = .ok (.iload 6, 2) := by decide +kernel
theorem dL_law_1054 : decode cL_law 1054 = .ok (.i2l, 1) := by decide +kernel
theorem dL_law_1055 : decode cL_law 1055 = .ok (.lcmp, 1) := by decide +kernel
theorem dL_law_1056 : decode cL_law 1056 = .ok (.ifCond .eq 5, 3) := by decide +kernel
theorem dL_law_1059 : decode cL_law 1059 = .ok (.iconst 0, 1) := by decide +kernel
theorem dL_law_1060 : decode cL_law 1060 = .ok (.ireturn, 1) := by decide +kernel
theorem dL_law_1061 : decode cL_law 1061 = .ok (.goto 586, 3) := by decide +kernel
theorem dL_law_1064 : decode cL_law 1064 = .ok (.aload_n 1, 1) := by decide +kernel
theorem dL_law_1065 : decode cL_law 1065 = .ok (.aload_n 0, 1) := by decide +kernel
theorem dL_law_1066 : decode cL_law 1066 = .ok (.iload 4, 2) := by decide +kernel
theorem dL_law_1068 : decode cL_law 1068 = .ok (.iconst 1, 1) := by decide +kernel
theorem dL_law_1069 : decode cL_law 1069 = .ok (.iadd, 1) := by decide +kernel
theorem dL_law_1070 : decode cL_law 1070 = .ok (.iaload, 1) := by decide +kernel
theorem dL_law_1071 : decode cL_law 1071 = .ok (.aload_n 3, 1) := by decide +kernel
theorem dL_law_1072 : decode cL_law 1072 = .ok (.invokestatic 143, 3) := by decide +kernel
theorem dL_law_1075 : decode cL_law 1075 = .ok (.istore 5, 2) := by decide +kernel
theorem dL_law_1077 : decode cL_law 1077 = .ok (.aload_n 2, 1) := by decide +kernel
theorem dL_law_1078 : decode cL_law 1078 = .ok (.aload_n 0, 1) := by decide +kernel
theorem dL_law_1079 : decode cL_law 1079 = .ok (.iload 4, 2) := by decide +kernel
theorem dL_law_1081 : decode cL_law 1081 = .ok (.iconst 1, 1) := by decide +kernel
theorem dL_law_1082 : decode cL_law 1082 = .ok (.iadd, 1) := by decide +kernel
theorem dL_law_1083 : decode cL_law 1083 = .ok (.iaload, 1) := by decide +kernel
theorem dL_law_1084 : decode cL_law 1084 = .ok (.invokevirtual 145, 3) := by decide +kernel
theorem dL_law_1087 : decode cL_law 1087 = .ok (.istore 6, 2) := by decide +kernel
theorem dL_law_1089 : decode cL_law 1089 = .ok (.aload_n 2, 1) := by decide +kernel
theorem dL_law_1090 : decode cL_law 1090 = .ok (.invokevirtual 97, 3) := by decide +kernel
theorem dL_law_1093 : decode cL_law 1093 = .ok (.iload 5, 2) := by decide +kernel
theorem dL_law_1095 : decode cL_law 1095 = .ok (.if_icmp .eq 5, 3) := by decide +kernel
theorem dL_law_1098 : decode cL_law 1098 = .ok (.iconst 0, 1) := by decide +kernel
theorem dL_law_1099 : decode cL_law 1099 = .ok (.ireturn, 1) := by decide +kernel
theorem dL_law_1100 : decode cL_law 1100 = .ok (.iload 5, 2) := by decide +kernel
theorem dL_law_1102 : decode cL_law 1102 = .ok (.ifCond .ne 15, 3) := by decide +kernel
theorem dL_law_1105 : decode cL_law 1105 = .ok (.aload_n 3, 1) := by decide +kernel
theorem dL_law_1106 : decode cL_law 1106 = .ok (.iconst 0, 1) := by decide +kernel
theorem dL_law_1107 : decode cL_law 1107 = .ok (.laload, 1) := by decide +kernel
theorem dL_law_1108 : decode cL_law 1108 = .ok (.iload 6, 2) := by decide +kernel
theorem dL_law_1110 : decode cL_law 1110 = .ok (.i2l, 1) := by decide +kernel
theorem dL_law_1111 : decode cL_law 1111 = .ok (.lcmp, 1) := by decide +kernel
theorem dL_law_1112 : decode cL_law 1112 = .ok (.ifCond .eq 5, 3) := by decide +kernel
theorem dL_law_1115 : decode cL_law 1115 = .ok (.iconst 0, 1) := by decide +kernel
theorem dL_law_1116 : decode cL_law 1116 = .ok (.ireturn, 1) := by decide +kernel
theorem dL_law_1117 : decode cL_law 1117 = .ok (.goto 530, 3) := by decide +kernel
theorem dL_law_1120 : decode cL_law 1120 = .ok (.aload_n 1, 1) := by decide +kernel
theorem dL_law_1121 : decode cL_law 1121 = .ok (.invokevirtual 146, 3) := by decide +kernel
theorem dL_law_1124 : decode cL_law 1124 = .ok (.aload_n 2, 1) := by decide +kernel
theorem dL_law_1125 : decode cL_law 1125 = .ok (.invokevirtual 149, 3) := by decide +kernel
theorem dL_law_1128 : decode cL_law 1128 = .ok (.if_icmp .eq 519, 3) := by decide +kernel
theorem dL_law_1131 : decode cL_law 1131 = .ok (.iconst 0, 1) := by decide +kernel
theorem dL_law_1132 : decode cL_law 1132 = .ok (.ireturn, 1) := by decide +kernel
theorem dL_law_1133 : decode cL_law 1133 = .ok (.aload_n 1, 1) := by decide +kernel
theorem dL_law_1134 : decode cL_law 1134 = .ok (.aload_n 0, 1) := by decide +kernel
theorem dL_law_1135 : decode cL_law 1135 = .ok (.iload 4, 2) := by decide +kernel
theorem dL_law_1137 : decode cL_law 1137 = .ok (.iconst 1, 1) := by decide +kernel
theorem dL_law_1138 : decode cL_law 1138 = .ok (.iadd, 1) := by decide +kernel
theorem dL_law_1139 : decode cL_law 1139 = .ok (.iaload, 1) := by decide +kernel
theorem dL_law_1140 : decode cL_law 1140 = .ok (.aload_n 0, 1) := by decide +kernel
theorem dL_law_1141 : decode cL_law 1141 = .ok (.iload 4, 2) := by decide +kernel
theorem dL_law_1143 : decode cL_law 1143 = .ok (.iconst 2, 1) := by decide +kernel
theorem dL_law_1144 : decode cL_law 1144 = .ok (.iadd, 1) := by decide +kernel
theorem dL_law_1145 : decode cL_law 1145 = .ok (.iaload, 1) := by decide +kernel
theorem dL_law_1146 : decode cL_law 1146 = .ok (.aload_n 0, 1) := by decide +kernel
theorem dL_law_1147 : decode cL_law 1147 = .ok (.iload 4, 2) := by decide +kernel
theorem dL_law_1149 : decode cL_law 1149 = .ok (.iconst 3, 1) := by decide +kernel
theorem dL_law_1150 : decode cL_law 1150 = .ok (.iadd, 1) := by decide +kernel
theorem dL_law_1151 : decode cL_law 1151 = .ok (.iaload, 1) := by decide +kernel
theorem dL_law_1152 : decode cL_law 1152 = .ok (.aload_n 3, 1) := by decide +kernel
theorem dL_law_1153 : decode cL_law 1153 = .ok (.invokestatic 150, 3) := by decide +kernel
theorem dL_law_1156 : decode cL_law 1156 = .ok (.istore 5, 2) := by decide +kernel
theorem dL_law_1158 : decode cL_law 1158 = .ok (.aload_n 2, 1) := by decide +kernel
theorem dL_law_1159 : decode cL_law 1159 = .ok (.aload_n 0, 1) := by decide +kernel
theorem dL_law_1160 : decode cL_law 1160 = .ok (.iload 4, 2) := by decide +kernel
theorem dL_law_1162 : decode cL_law 1162 = .ok (.iconst 1, 1) := by decide +kernel
theorem dL_law_1163 : decode cL_law 1163 = .ok (.iadd, 1) := by decide +kernel
theorem dL_law_1164 : decode cL_law 1164 = .ok (.iaload, 1) := by decide +kernel
theorem dL_law_1165 : decode cL_law 1165 = .ok (.aload_n 0, 1) := by decide +kernel
theorem dL_law_1166 : decode cL_law 1166 = .ok (.iload 4, 2) := by decide +kernel
theorem dL_law_1168 : decode cL_law 1168 = .ok (.iconst 2, 1) := by decide +kernel
theorem dL_law_1169 : decode cL_law 1169 = .ok (.iadd, 1) := by decide +kernel
theorem dL_law_1170 : decode cL_law 1170 = .ok (.iaload, 1) := by decide +kernel
theorem dL_law_1171 : decode cL_law 1171 = .ok (.aload_n 0, 1) := by decide +kernel
theorem dL_law_1172 : decode cL_law 1172 = .ok (.iload 4, 2) := by decide +kernel
theorem dL_law_1174 : decode cL_law 1174 = .ok (.iconst 3, 1) := by decide +kernel
theorem dL_law_1175 : decode cL_law 1175 = .ok (.iadd, 1) := by decide +kernel
theorem dL_law_1176 : decode cL_law 1176 = .ok (.iaload, 1) := by decide +kernel
theorem dL_law_1177 : decode cL_law 1177 = .ok (.invokevirtual 152, 3) := by decide +kernel
theorem dL_law_1180 : decode cL_law 1180 = .ok (.istore 6, 2) := by decide +kernel
theorem dL_law_1182 : decode cL_law 1182 = .ok (.aload_n 2, 1) := by decide +kernel
theorem dL_law_1183 : decode cL_law 1183 = .ok (.invokevirtual 97, 3) := by decide +kernel
theorem dL_law_1186 : decode cL_law 1186 = .ok (.iload 5, 2) := by decide +kernel
theorem dL_law_1188 : decode cL_law 1188 = .ok (.if_icmp .eq 5, 3) := by decide +kernel
theorem dL_law_1191 : decode cL_law 1191 = .ok (.iconst 0, 1) := by decide +kernel
theorem dL_law_1192 : decode cL_law 1192 = .ok (.ireturn, 1) := by decide +kernel
theorem dL_law_1193 : decode cL_law 1193 = .ok (.iload 5, 2) := by decide +kernel
theorem dL_law_1195 : decode cL_law 1195 = .ok (.ifCond .ne 22, 3) := by decide +kernel
theorem dL_law_1198 : decode cL_law 1198 = .ok (.aload_n 3, 1) := by decide +kernel
theorem dL_law_1199 : decode cL_law 1199 = .ok (.iconst 0, 1) := by decide +kernel
theorem dL_law_1200 : decode cL_law 1200 = .ok (.laload, 1) := by decide +kernel
theorem dL_law_1201 : decode cL_law 1201 = .ok (.iload 6, 2) := by decide +kernel
theorem dL_law_1203 : decode cL_law 1203 = .ok (.ifCond .eq 7, 3) := by decide +kernel
theorem dL_law_1206 : decode cL_law 1206 = .ok (.lconst 1, 1) := by decide +kernel
theorem dL_law_1207 : decode cL_law 1207 = .ok (.goto 4, 3) := by decide +kernel
theorem dL_law_1210 : decode cL_law 1210 = .ok (.lconst 0, 1) := by decide +kernel
theorem dL_law_1211 : decode cL_law 1211 = .ok (.lcmp, 1) := by decide +kernel
theorem dL_law_1212 : decode cL_law 1212 = .ok (.ifCond .eq 5, 3) := by decide +kernel
theorem dL_law_1215 : decode cL_law 1215 = .ok (.iconst 0, 1) := by decide +kernel
theorem dL_law_1216 : decode cL_law 1216 = .ok (.ireturn, 1) := by decide +kernel
theorem dL_law_1217 : decode cL_law 1217 = .ok (.goto 430, 3) := by decide +kernel
theorem dL_law_1220 : decode cL_law 1220 = .ok (.aload_n 1, 1) := by decide +kernel
theorem dL_law_1221 : decode cL_law 1221 = .ok (.aload_n 0, 1) := by decide +kernel
theorem dL_law_1222 : decode cL_law 1222 = .ok (.iload 4, 2) := by decide +kernel
theorem dL_law_1224 : decode cL_law 1224 = .ok (.iconst 1, 1) := by decide +kernel
theorem dL_law_1225 : decode cL_law 1225 = .ok (.iadd, 1) := by decide +kernel
theorem dL_law_1226 : decode cL_law 1226 = .ok (.iaload, 1) := by decide +kernel
theorem dL_law_1227 : decode cL_law 1227 = .ok (.aload_n 0, 1) := by decide +kernel
theorem dL_law_1228 : decode cL_law 1228 = .ok (.iload 4, 2) := by decide +kernel
theorem dL_law_1230 : decode cL_law 1230 = .ok (.iconst 2, 1) := by decide +kernel
theorem dL_law_1231 : decode cL_law 1231 = .ok (.iadd, 1) := by decide +kernel
theorem dL_law_1232 : decode cL_law 1232 = .ok (.iaload, 1) := by decide +kernel
theorem dL_law_1233 : decode cL_law 1233 = .ok (.aload_n 0, 1) := by decide +kernel
theorem dL_law_1234 : decode cL_law 1234 = .ok (.iload 4, 2) := by decide +kernel
theorem dL_law_1236 : decode cL_law 1236 = .ok (.iconst 3, 1) := by decide +kernel
theorem dL_law_1237 : decode cL_law 1237 = .ok (.iadd, 1) := by decide +kernel
theorem dL_law_1238 : decode cL_law 1238 = .ok (.iaload, 1) := by decide +kernel
theorem dL_law_1239 : decode cL_law 1239 = .ok (.aload_n 3, 1) := by decide +kernel
theorem dL_law_1240 : decode cL_law 1240 = .ok (.invokestatic 153, 3) := by decide +kernel
theorem dL_law_1243 : decode cL_law 1243 = .ok (.istore 5, 2) := by decide +kernel
theorem dL_law_1245 : decode cL_law 1245 = .ok (.aload_n 2, 1) := by decide +kernel
theorem dL_law_1246 : decode cL_law 1246 = .ok (.aload_n 0, 1) := by decide +kernel
theorem dL_law_1247 : decode cL_law 1247 = .ok (.iload 4, 2) := by decide +kernel
theorem dL_law_1249 : decode cL_law 1249 = .ok (.iconst 1, 1) := by decide +kernel
theorem dL_law_1250 : decode cL_law 1250 = .ok (.iadd, 1) := by decide +kernel
theorem dL_law_1251 : decode cL_law 1251 = .ok (.iaload, 1) := by decide +kernel
theorem dL_law_1252 : decode cL_law 1252 = .ok (.aload_n 0, 1) := by decide +kernel
theorem dL_law_1253 : decode cL_law 1253 = .ok (.iload 4, 2) := by decide +kernel
theorem dL_law_1255 : decode cL_law 1255 = .ok (.iconst 2, 1) := by decide +kernel
theorem dL_law_1256 : decode cL_law 1256 = .ok (.iadd, 1) := by decide +kernel
theorem dL_law_1257 : decode cL_law 1257 = .ok (.iaload, 1) := by decide +kernel
theorem dL_law_1258 : decode cL_law 1258 = .ok (.aload_n 0, 1) := by decide +kernel
theorem dL_law_1259 : decode cL_law 1259 = .ok (.iload 4, 2) := by decide +kernel
theorem dL_law_1261 : decode cL_law 1261 = .ok (.iconst 3, 1) := by decide +kernel
theorem dL_law_1262 : decode cL_law 1262 = .ok (.iadd, 1) := by decide +kernel
theorem dL_law_1263 : decode cL_law 1263 = .ok (.iaload, 1) := by decide +kernel
theorem dL_law_1264 : decode cL_law 1264 = .ok (.invokevirtual 155, 3) := by decide +kernel
theorem dL_law_1267 : decode cL_law 1267 = .ok (.istore 6, 2) := by decide +kernel
theorem dL_law_1269 : decode cL_law 1269 = .ok (.aload_n 2, 1) := by decide +kernel
theorem dL_law_1270 : decode cL_law 1270 = .ok (.invokevirtual 97, 3) := by decide +kernel
theorem dL_law_1273 : decode cL_law 1273 = .ok (.iload 5, 2) := by decide +kernel
theorem dL_law_1275 : decode cL_law 1275 = .ok (.if_icmp .eq 5, 3) := by decide +kernel
theorem dL_law_1278 : decode cL_law 1278 = .ok (.iconst 0, 1) := by decide +kernel
theorem dL_law_1279 : decode cL_law 1279 = .ok (.ireturn, 1) := by decide +kernel
theorem dL_law_1280 : decode cL_law 1280 = .ok (.iload 5, 2) := by decide +kernel
theorem dL_law_1282 : decode cL_law 1282 = .ok (.ifCond .ne 22, 3) := by decide +kernel
theorem dL_law_1285 : decode cL_law 1285 = .ok (.aload_n 3, 1) := by decide +kernel
theorem dL_law_1286 : decode cL_law 1286 = .ok (.iconst 0, 1) := by decide +kernel
theorem dL_law_1287 : decode cL_law 1287 = .ok (.laload, 1) := by decide +kernel
theorem dL_law_1288 : decode cL_law 1288 = .ok (.iload 6, 2) := by decide +kernel
theorem dL_law_1290 : decode cL_law 1290 = .ok (.ifCond .eq 7, 3) := by decide +kernel
theorem dL_law_1293 : decode cL_law 1293 = .ok (.lconst 1, 1) := by decide +kernel
theorem dL_law_1294 : decode cL_law 1294 = .ok (.goto 4, 3) := by decide +kernel
theorem dL_law_1297 : decode cL_law 1297 = .ok (.lconst 0, 1) := by decide +kernel
theorem dL_law_1298 : decode cL_law 1298 = .ok (.lcmp, 1) := by decide +kernel
theorem dL_law_1299 : decode cL_law 1299 = .ok (.ifCond .eq 5, 3) := by decide +kernel
theorem dL_law_1302 : decode cL_law 1302 = .ok (.iconst 0, 1) := by decide +kernel
theorem dL_law_1303 : decode cL_law 1303 = .ok (.ireturn, 1) := by decide +kernel
theorem dL_law_1304 : decode cL_law 1304 = .ok (.goto 343, 3) := by decide +kernel
theorem dL_law_1307 : decode cL_law 1307 = .ok (.aload_n 1, 1) := by decide +kernel
theorem dL_law_1308 : decode cL_law 1308 = .ok (.aload_n 0, 1) := by decide +kernel
theorem dL_law_1309 : decode cL_law 1309 = .ok (.iload 4, 2) := by decide +kernel
theorem dL_law_1311 : decode cL_law 1311 = .ok (.iconst 1, 1) := by decide +kernel
theorem dL_law_1312 : decode cL_law 1312 = .ok (.iadd, 1) := by decide +kernel
theorem dL_law_1313 : decode cL_law 1313 = .ok (.iaload, 1) := by decide +kernel
theorem dL_law_1314 : decode cL_law 1314 = .ok (.aload_n 0, 1) := by decide +kernel
theorem dL_law_1315 : decode cL_law 1315 = .ok (.iload 4, 2) := by decide +kernel
theorem dL_law_1317 : decode cL_law 1317 = .ok (.iconst 2, 1) := by decide +kernel
theorem dL_law_1318 : decode cL_law 1318 = .ok (.iadd, 1) := by decide +kernel
theorem dL_law_1319 : decode cL_law 1319 = .ok (.iaload, 1) := by decide +kernel
theorem dL_law_1320 : decode cL_law 1320 = .ok (.aload_n 3, 1) := by decide +kernel
theorem dL_law_1321 : decode cL_law 1321 = .ok (.invokestatic 156, 3) := by decide +kernel
theorem dL_law_1324 : decode cL_law 1324 = .ok (.istore 5, 2) := by decide +kernel
theorem dL_law_1326 : decode cL_law 1326 = .ok (.aload_n 2, 1) := by decide +kernel
theorem dL_law_1327 : decode cL_law 1327 = .ok (.aload_n 0, 1) := by decide +kernel
theorem dL_law_1328 : decode cL_law 1328 = .ok (.iload 4, 2) := by decide +kernel
theorem dL_law_1330 : decode cL_law 1330 = .ok (.iconst 1, 1) := by decide +kernel
theorem dL_law_1331 : decode cL_law 1331 = .ok (.iadd, 1) := by decide +kernel
theorem dL_law_1332 : decode cL_law 1332 = .ok (.iaload, 1) := by decide +kernel
theorem dL_law_1333 : decode cL_law 1333 = .ok (.aload_n 0, 1) := by decide +kernel
theorem dL_law_1334 : decode cL_law 1334 = .ok (.iload 4, 2) := by decide +kernel
theorem dL_law_1336 : decode cL_law 1336 = .ok (.iconst 2, 1) := by decide +kernel
theorem dL_law_1337 : decode cL_law 1337 = .ok (.iadd, 1) := by decide +kernel
theorem dL_law_1338 : decode cL_law 1338 = .ok (.iaload, 1) := by decide +kernel
theorem dL_law_1339 : decode cL_law 1339 = .ok (.invokevirtual 158, 3) := by decide +kernel
theorem dL_law_1342 : decode cL_law 1342 = .ok (.istore 6, 2) := by decide +kernel
theorem dL_law_1344 : decode cL_law 1344 = .ok (.aload_n 2, 1) := by decide +kernel
theorem dL_law_1345 : decode cL_law 1345 = .ok (.invokevirtual 97, 3) := by decide +kernel
theorem dL_law_1348 : decode cL_law 1348 = .ok (.iload 5, 2) := by decide +kernel
theorem dL_law_1350 : decode cL_law 1350 = .ok (.if_icmp .eq 5, 3) := by decide +kernel
theorem dL_law_1353 : decode cL_law 1353 = .ok (.iconst 0, 1) := by decide +kernel
theorem dL_law_1354 : decode cL_law 1354 = .ok (.ireturn, 1) := by decide +kernel
theorem dL_law_1355 : decode cL_law 1355 = .ok (.iload 5, 2) := by decide +kernel
theorem dL_law_1357 : decode cL_law 1357 = .ok (.ifCond .ne 15, 3) := by decide +kernel
theorem dL_law_1360 : decode cL_law 1360 = .ok (.aload_n 3, 1) := by decide +kernel
theorem dL_law_1361 : decode cL_law 1361 = .ok (.iconst 0, 1) := by decide +kernel
theorem dL_law_1362 : decode cL_law 1362 = .ok (.laload, 1) := by decide +kernel
theorem dL_law_1363 : decode cL_law 1363 = .ok (.iload 6, 2) := by decide +kernel
theorem dL_law_1365 : decode cL_law 1365 = .ok (.i2l, 1) := by decide +kernel
theorem dL_law_1366 : decode cL_law 1366 = .ok (.lcmp, 1) := by decide +kernel
theorem dL_law_1367 : decode cL_law 1367 = .ok (.ifCond .eq 5, 3) := by decide +kernel
theorem dL_law_1370 : decode cL_law 1370 = .ok (.iconst 0, 1) := by decide +kernel
theorem dL_law_1371 : decode cL_law 1371 = .ok (.ireturn, 1) := by decide +kernel
theorem dL_law_1372 : decode cL_law 1372 = .ok (.goto 275, 3) := by decide +kernel
theorem dL_law_1375 : decode cL_law 1375 = .ok (.aload_n 1, 1) := by decide +kernel
theorem dL_law_1376 : decode cL_law 1376 = .ok (.aload_n 0, 1) := by decide +kernel
theorem dL_law_1377 : decode cL_law 1377 = .ok (.iload 4, 2) := by decide +kernel
theorem dL_law_1379 : decode cL_law 1379 = .ok (.iconst 1, 1) := by decide +kernel
theorem dL_law_1380 : decode cL_law 1380 = .ok (.iadd, 1) := by decide +kernel
theorem dL_law_1381 : decode cL_law 1381 = .ok (.iaload, 1) := by decide +kernel
theorem dL_law_1382 : decode cL_law 1382 = .ok (.aload_n 0, 1) := by decide +kernel
theorem dL_law_1383 : decode cL_law 1383 = .ok (.iload 4, 2) := by decide +kernel
theorem dL_law_1385 : decode cL_law 1385 = .ok (.iconst 2, 1) := by decide +kernel
theorem dL_law_1386 : decode cL_law 1386 = .ok (.iadd, 1) := by decide +kernel
theorem dL_law_1387 : decode cL_law 1387 = .ok (.iaload, 1) := by decide +kernel
theorem dL_law_1388 : decode cL_law 1388 = .ok (.aload_n 3, 1) := by decide +kernel
theorem dL_law_1389 : decode cL_law 1389 = .ok (.invokestatic 159, 3) := by decide +kernel
theorem dL_law_1392 : decode cL_law 1392 = .ok (.istore 5, 2) := by decide +kernel
theorem dL_law_1394 : decode cL_law 1394 = .ok (.aload_n 2, 1) := by decide +kernel
theorem dL_law_1395 : decode cL_law 1395 = .ok (.aload_n 0, 1) := by decide +kernel
theorem dL_law_1396 : decode cL_law 1396 = .ok (.iload 4, 2) := by decide +kernel
theorem dL_law_1398 : decode cL_law 1398 = .ok (.iconst 1, 1) := by decide +kernel
theorem dL_law_1399 : decode cL_law 1399 = .ok (.iadd, 1) := by decide +kernel
theorem dL_law_1400 : decode cL_law 1400 = .ok (.iaload, 1) := by decide +kernel
theorem dL_law_1401 : decode cL_law 1401 = .ok (.aload_n 0, 1) := by decide +kernel
theorem dL_law_1402 : decode cL_law 1402 = .ok (.iload 4, 2) := by decide +kernel
theorem dL_law_1404 : decode cL_law 1404 = .ok (.iconst 2, 1) := by decide +kernel
theorem dL_law_1405 : decode cL_law 1405 = .ok (.iadd, 1) := by decide +kernel
theorem dL_law_1406 : decode cL_law 1406 = .ok (.iaload, 1) := by decide +kernel
theorem dL_law_1407 : decode cL_law 1407 = .ok (.invokevirtual 161, 3) := by decide +kernel
theorem dL_law_1410 : decode cL_law 1410 = .ok (.istore 6, 2) := by decide +kernel
theorem dL_law_1412 : decode cL_law 1412 = .ok (.aload_n 2, 1) := by decide +kernel
theorem dL_law_1413 : decode cL_law 1413 = .ok (.invokevirtual 97, 3) := by decide +kernel
theorem dL_law_1416 : decode cL_law 1416 = .ok (.iload 5, 2) := by decide +kernel
theorem dL_law_1418 : decode cL_law 1418 = .ok (.if_icmp .eq 5, 3) := by decide +kernel
theorem dL_law_1421 : decode cL_law 1421 = .ok (.iconst 0, 1) := by decide +kernel
theorem dL_law_1422 : decode cL_law 1422 = .ok (.ireturn, 1) := by decide +kernel
theorem dL_law_1423 : decode cL_law 1423 = .ok (.iload 5, 2) := by decide +kernel
theorem dL_law_1425 : decode cL_law 1425 = .ok (.ifCond .ne 15, 3) := by decide +kernel
theorem dL_law_1428 : decode cL_law 1428 = .ok (.aload_n 3, 1) := by decide +kernel
theorem dL_law_1429 : decode cL_law 1429 = .ok (.iconst 0, 1) := by decide +kernel
theorem dL_law_1430 : decode cL_law 1430 = .ok (.laload, 1) := by decide +kernel
theorem dL_law_1431 : decode cL_law 1431 = .ok (.iload 6, 2) := by decide +kernel
theorem dL_law_1433 : decode cL_law 1433 = .ok (.i2l, 1) := by decide +kernel
theorem dL_law_1434 : decode cL_law 1434 = .ok (.lcmp, 1) := by decide +kernel
theorem dL_law_1435 : decode cL_law 1435 = .ok (.ifCond .eq 5, 3) := by decide +kernel
theorem dL_law_1438 : decode cL_law 1438 = .ok (.iconst 0, 1) := by decide +kernel
theorem dL_law_1439 : decode cL_law 1439 = .ok (.ireturn, 1) := by decide +kernel
theorem dL_law_1440 : decode cL_law 1440 = .ok (.goto 207, 3) := by decide +kernel
theorem dL_law_1443 : decode cL_law 1443 = .ok (.aload_n 1, 1) := by decide +kernel
theorem dL_law_1444 : decode cL_law 1444 = .ok (.aload_n 0, 1) := by decide +kernel
theorem dL_law_1445 : decode cL_law 1445 = .ok (.iload 4, 2) := by decide +kernel
theorem dL_law_1447 : decode cL_law 1447 = .ok (.iconst 1, 1) := by decide +kernel
theorem dL_law_1448 : decode cL_law 1448 = .ok (.iadd, 1) := by decide +kernel
theorem dL_law_1449 : decode cL_law 1449 = .ok (.iaload, 1) := by decide +kernel
theorem dL_law_1450 : decode cL_law 1450 = .ok (.aload_n 0, 1) := by decide +kernel
theorem dL_law_1451 : decode cL_law 1451 = .ok (.iload 4, 2) := by decide +kernel
theorem dL_law_1453 : decode cL_law 1453 = .ok (.iconst 2, 1) := by decide +kernel
theorem dL_law_1454 : decode cL_law 1454 = .ok (.iadd, 1) := by decide +kernel
theorem dL_law_1455 : decode cL_law 1455 = .ok (.iaload, 1) := by decide +kernel
theorem dL_law_1456 : decode cL_law 1456 = .ok (.aload_n 0, 1) := by decide +kernel
theorem dL_law_1457 : decode cL_law 1457 = .ok (.iload 4, 2) := by decide +kernel
theorem dL_law_1459 : decode cL_law 1459 = .ok (.iconst 3, 1) := by decide +kernel
theorem dL_law_1460 : decode cL_law 1460 = .ok (.iadd, 1) := by decide +kernel
theorem dL_law_1461 : decode cL_law 1461 = .ok (.iaload, 1) := by decide +kernel
theorem dL_law_1462 : decode cL_law 1462 = .ok (.aload_n 3, 1) := by decide +kernel
theorem dL_law_1463 : decode cL_law 1463 = .ok (.invokestatic 162, 3) := by decide +kernel
theorem dL_law_1466 : decode cL_law 1466 = .ok (.istore 5, 2) := by decide +kernel
theorem dL_law_1468 : decode cL_law 1468 = .ok (.aload_n 2, 1) := by decide +kernel
theorem dL_law_1469 : decode cL_law 1469 = .ok (.aload_n 0, 1) := by decide +kernel
theorem dL_law_1470 : decode cL_law 1470 = .ok (.iload 4, 2) := by decide +kernel
theorem dL_law_1472 : decode cL_law 1472 = .ok (.iconst 1, 1) := by decide +kernel
theorem dL_law_1473 : decode cL_law 1473 = .ok (.iadd, 1) := by decide +kernel
theorem dL_law_1474 : decode cL_law 1474 = .ok (.iaload, 1) := by decide +kernel
theorem dL_law_1475 : decode cL_law 1475 = .ok (.aload_n 0, 1) := by decide +kernel
theorem dL_law_1476 : decode cL_law 1476 = .ok (.iload 4, 2) := by decide +kernel
theorem dL_law_1478 : decode cL_law 1478 = .ok (.iconst 2, 1) := by decide +kernel
theorem dL_law_1479 : decode cL_law 1479 = .ok (.iadd, 1) := by decide +kernel
theorem dL_law_1480 : decode cL_law 1480 = .ok (.iaload, 1) := by decide +kernel
theorem dL_law_1481 : decode cL_law 1481 = .ok (.aload_n 0, 1) := by decide +kernel
theorem dL_law_1482 : decode cL_law 1482 = .ok (.iload 4, 2) := by decide +kernel
theorem dL_law_1484 : decode cL_law 1484 = .ok (.iconst 3, 1) := by decide +kernel
theorem dL_law_1485 : decode cL_law 1485 = .ok (.iadd, 1) := by decide +kernel
theorem dL_law_1486 : decode cL_law 1486 = .ok (.iaload, 1) := by decide +kernel
theorem dL_law_1487 : decode cL_law 1487 = .ok (.invokevirtual 164, 3) := by decide +kernel
theorem dL_law_1490 : decode cL_law 1490 = .ok (.istore 6, 2) := by decide +kernel
theorem dL_law_1492 : decode cL_law 1492 = .ok (.aload_n 2, 1) := by decide +kernel
theorem dL_law_1493 : decode cL_law 1493 = .ok (.invokevirtual 97, 3) := by decide +kernel
theorem dL_law_1496 : decode cL_law 1496 = .ok (.iload 5, 2) := by decide +kernel
theorem dL_law_1498 : decode cL_law 1498 = .ok (.if_icmp .eq 5, 3) := by decide +kernel
theorem dL_law_1501 : decode cL_law 1501 = .ok (.iconst 0, 1) := by decide +kernel
theorem dL_law_1502 : decode cL_law 1502 = .ok (.ireturn, 1) := by decide +kernel
theorem dL_law_1503 : decode cL_law 1503 = .ok (.iload 5, 2) := by decide +kernel
theorem dL_law_1505 : decode cL_law 1505 = .ok (.ifCond .ne 15, 3) := by decide +kernel
theorem dL_law_1508 : decode cL_law 1508 = .ok (.aload_n 3, 1) := by decide +kernel
theorem dL_law_1509 : decode cL_law 1509 = .ok (.iconst 0, 1) := by decide +kernel
theorem dL_law_1510 : decode cL_law 1510 = .ok (.laload, 1) := by decide +kernel
theorem dL_law_1511 : decode cL_law 1511 = .ok (.iload 6, 2) := by decide +kernel
theorem dL_law_1513 : decode cL_law 1513 = .ok (.i2l, 1) := by decide +kernel
theorem dL_law_1514 : decode cL_law 1514 = .ok (.lcmp, 1) := by decide +kernel
theorem dL_law_1515 : decode cL_law 1515 = .ok (.ifCond .eq 5, 3) := by decide +kernel
theorem dL_law_1518 : decode cL_law 1518 = .ok (.iconst 0, 1) := by decide +kernel
theorem dL_law_1519 : decode cL_law 1519 = .ok (.ireturn, 1) := by decide +kernel
theorem dL_law_1520 : decode cL_law 1520 = .ok (.goto 127, 3) := by decide +kernel
theorem dL_law_1523 : decode cL_law 1523 = .ok (.aload_n 1, 1) := by decide +kernel
theorem dL_law_1524 : decode cL_law 1524 = .ok (.aload_n 0, 1) := by decide +kernel
theorem dL_law_1525 : decode cL_law 1525 = .ok (.iload 4, 2) := by decide +kernel
theorem dL_law_1527 : decode cL_law 1527 = .ok (.iconst 1, 1) := by decide +kernel
theorem dL_law_1528 : decode cL_law 1528 = .ok (.iadd, 1) := by decide +kernel
theorem dL_law_1529 : decode cL_law 1529 = .ok (.iaload, 1) := by decide +kernel
theorem dL_law_1530 : decode cL_law 1530 = .ok (.aload_n 3, 1) := by decide +kernel
theorem dL_law_1531 : decode cL_law 1531 = .ok (.invokestatic 165, 3) := by decide +kernel
theorem dL_law_1534 : decode cL_law 1534 = .ok (.istore 5, 2) := by decide +kernel
theorem dL_law_1536 : decode cL_law 1536 = .ok (.aload_n 2, 1) := by decide +kernel
theorem dL_law_1537 : decode cL_law 1537 = .ok (.aload_n 0, 1) := by decide +kernel
theorem dL_law_1538 : decode cL_law 1538 = .ok (.iload 4, 2) := by decide +kernel
theorem dL_law_1540 : decode cL_law 1540 = .ok (.iconst 1, 1) := by decide +kernel
theorem dL_law_1541 : decode cL_law 1541 = .ok (.iadd, 1) := by decide +kernel
theorem dL_law_1542 : decode cL_law 1542 = .ok (.iaload, 1) := by decide +kernel
theorem dL_law_1543 : decode cL_law 1543 = .ok (.invokevirtual 167, 3) := by decide +kernel
theorem dL_law_1546 : decode cL_law 1546 = .ok (.istore 6, 2) := by decide +kernel
theorem dL_law_1548 : decode cL_law 1548 = .ok (.aload_n 2, 1) := by decide +kernel
theorem dL_law_1549 : decode cL_law 1549 = .ok (.invokevirtual 97, 3) := by decide +kernel
theorem dL_law_1552 : decode cL_law 1552 = .ok (.iload 5, 2) := by decide +kernel
theorem dL_law_1554 : decode cL_law 1554 = .ok (.if_icmp .eq 5, 3) := by decide +kernel
theorem dL_law_1557 : decode cL_law 1557 = .ok (.iconst 0, 1) := by decide +kernel
theorem dL_law_1558 : decode cL_law 1558 = .ok (.ireturn, 1) := by decide +kernel
theorem dL_law_1559 : decode cL_law 1559 = .ok (.iload 5, 2) := by decide +kernel
theorem dL_law_1561 : decode cL_law 1561 = .ok (.ifCond .ne 15, 3) := by decide +kernel
theorem dL_law_1564 : decode cL_law 1564 = .ok (.aload_n 3, 1) := by decide +kernel
theorem dL_law_1565 : decode cL_law 1565 = .ok (.iconst 0, 1) := by decide +kernel
theorem dL_law_1566 : decode cL_law 1566 = .ok (.laload, 1) := by decide +kernel
theorem dL_law_1567 : decode cL_law 1567 = .ok (.iload 6, 2) := by decide +kernel
theorem dL_law_1569 : decode cL_law 1569 = .ok (.i2l, 1) := by decide +kernel
theorem dL_law_1570 : decode cL_law 1570 = .ok (.lcmp, 1) := by decide +kernel
theorem dL_law_1571 : decode cL_law 1571 = .ok (.ifCond .eq 5, 3) := by decide +kernel
theorem dL_law_1574 : decode cL_law 1574 = .ok (.iconst 0, 1) := by decide +kernel
theorem dL_law_1575 : decode cL_law 1575 = .ok (.ireturn, 1) := by decide +kernel
theorem dL_law_1576 : decode cL_law 1576 = .ok (.goto 71, 3) := by decide +kernel
theorem dL_law_1579 : decode cL_law 1579 = .ok (.aload_n 1, 1) := by decide +kernel
theorem dL_law_1580 : decode cL_law 1580 = .ok (.aload_n 0, 1) := by decide +kernel
theorem dL_law_1581 : decode cL_law 1581 = .ok (.iload 4, 2) := by decide +kernel
theorem dL_law_1583 : decode cL_law 1583 = .ok (.iconst 1, 1) := by decide +kernel
theorem dL_law_1584 : decode cL_law 1584 = .ok (.iadd, 1) := by decide +kernel
theorem dL_law_1585 : decode cL_law 1585 = .ok (.iaload, 1) := by decide +kernel
theorem dL_law_1586 : decode cL_law 1586 = .ok (.aload_n 0, 1) := by decide +kernel
theorem dL_law_1587 : decode cL_law 1587 = .ok (.iload 4, 2) := by decide +kernel
theorem dL_law_1589 : decode cL_law 1589 = .ok (.iconst 2, 1) := by decide +kernel
theorem dL_law_1590 : decode cL_law 1590 = .ok (.iadd, 1) := by decide +kernel
theorem dL_law_1591 : decode cL_law 1591 = .ok (.iaload, 1) := by decide +kernel
theorem dL_law_1592 : decode cL_law 1592 = .ok (.aload_n 3, 1) := by decide +kernel
theorem dL_law_1593 : decode cL_law 1593 = .ok (.invokestatic 168, 3) := by decide +kernel
theorem dL_law_1596 : decode cL_law 1596 = .ok (.istore 5, 2) := by decide +kernel
theorem dL_law_1598 : decode cL_law 1598 = .ok (.aload_n 2, 1) := by decide +kernel
theorem dL_law_1599 : decode cL_law 1599 = .ok (.aload_n 0, 1) := by decide +kernel
theorem dL_law_1600 : decode cL_law 1600 = .ok (.iload 4, 2) := by decide +kernel
theorem dL_law_1602 : decode cL_law 1602 = .ok (.iconst 1, 1) := by decide +kernel
theorem dL_law_1603 : decode cL_law 1603 = .ok (.iadd, 1) := by decide +kernel
theorem dL_law_1604 : decode cL_law 1604 = .ok (.iaload, 1) := by decide +kernel
theorem dL_law_1605 : decode cL_law 1605 = .ok (.aload_n 0, 1) := by decide +kernel
theorem dL_law_1606 : decode cL_law 1606 = .ok (.iload 4, 2) := by decide +kernel
theorem dL_law_1608 : decode cL_law 1608 = .ok (.iconst 2, 1) := by decide +kernel
theorem dL_law_1609 : decode cL_law 1609 = .ok (.iadd, 1) := by decide +kernel
theorem dL_law_1610 : decode cL_law 1610 = .ok (.iaload, 1) := by decide +kernel
theorem dL_law_1611 : decode cL_law 1611 = .ok (.invokevirtual 170, 3) := by decide +kernel
theorem dL_law_1614 : decode cL_law 1614 = .ok (.istore 6, 2) := by decide +kernel
theorem dL_law_1616 : decode cL_law 1616 = .ok (.aload_n 2, 1) := by decide +kernel
theorem dL_law_1617 : decode cL_law 1617 = .ok (.invokevirtual 97, 3) := by decide +kernel
theorem dL_law_1620 : decode cL_law 1620 = .ok (.iload 5, 2) := by decide +kernel
theorem dL_law_1622 : decode cL_law 1622 = .ok (.if_icmp .eq 5, 3) := by decide +kernel
theorem dL_law_1625 : decode cL_law 1625 = .ok (.iconst 0, 1) := by decide +kernel
theorem dL_law_1626 : decode cL_law 1626 = .ok (.ireturn, 1) := by decide +kernel
theorem dL_law_1627 : decode cL_law 1627 = .ok (.iload 5, 2) := by decide +kernel
theorem dL_law_1629 : decode cL_law 1629 = .ok (.ifCond .ne 15, 3) := by decide +kernel
theorem dL_law_1632 : decode cL_law 1632 = .ok (.aload_n 3, 1) := by decide +kernel
theorem dL_law_1633 : decode cL_law 1633 = .ok (.iconst 0, 1) := by decide +kernel
theorem dL_law_1634 : decode cL_law 1634 = .ok (.laload, 1) := by decide +kernel
theorem dL_law_1635 : decode cL_law 1635 = .ok (.iload 6, 2) := by decide +kernel
theorem dL_law_1637 : decode cL_law 1637 = .ok (.i2l, 1) := by decide +kernel
theorem dL_law_1638 : decode cL_law 1638 = .ok (.lcmp, 1) := by decide +kernel
theorem dL_law_1639 : decode cL_law 1639 = .ok (.ifCond .eq 5, 3) := by decide +kernel
theorem dL_law_1642 : decode cL_law 1642 = .ok (.iconst 0, 1) := by decide +kernel
theorem dL_law_1643 : decode cL_law 1643 = .ok (.ireturn, 1) := by decide +kernel
theorem dL_law_1644 : decode cL_law 1644 = .ok (.goto 3, 3) := by decide +kernel
theorem dL_law_1647 : decode cL_law 1647 = .ok (.iinc 4 6, 3) := by decide +kernel
theorem dL_law_1650 : decode cL_law 1650 = .ok (.goto (-1627), 3) := by decide +kernel
theorem dL_law_1653 : decode cL_law 1653 = .ok (.iconst 1, 1) := by decide +kernel
theorem dL_law_1654 : decode cL_law 1654 = .ok (.ireturn, 1) := by decide +kernel
end
section
/-! Small helps of the decompiled functions: truth values, checks, and the fused rows. -/
def FU : Nat := 5000
def bi : Bool → Int32 | true => 1 | false => 0
def xbool (v : Int32) : Option Bool := if v = 0 then some false else if v = 1 then some true else none
def xchar (v : Int32) : Option Int32 := if narrow .char (.int v) = .int v then some v else none
def xin (i : Int32) (n : Nat) : Bool := decide (0 ≤ i) && decide (i.toNatClampNeg < n)
theorem xin_v {i : Int32} {n : Nat} (h : xin i n = true) : vp_in i n := by
  simp only [xin, Bool.and_eq_true, decide_eq_true_eq] at h
  rintro (q | q)
  · exact absurd h.1 (Int32.not_le.mpr q)
  · omega
theorem xbool_eq {v : Int32} {b : Bool} (h : xbool v = some b) : v = bi b := by
  unfold xbool at h
  split at h
  · cases h; assumption
  · split at h
    · cases h; assumption
    · cases h
theorem nar_b (b : Bool) : narrow .boolean (.int (bi b)) = .int (bi b) := by cases b <;> rfl
theorem fit_b (b : Bool) : fits .boolean (.int (bi b)) = true := by cases b <;> rfl
theorem vpn_b (b : Bool) : vp_nar .boolean (bi b) = bi b := by cases b <;> rfl
theorem bi_0 {b : Bool} : bi b = 0 ↔ b = false := by cases b <;> decide
theorem xbind {α β : Type} {o : Option α} {f : α → Option β} {r : β} (h : o.bind f = some r) : ∃ a, o = some a ∧ f a = some r := by
  cases o with
  | none => cases h
  | some a => exact ⟨a, rfl, h⟩
theorem xifn {c : Prop} [Decidable c] {α : Type} {t : Option α} {r : α} (h : (if c then t else none) = some r) : ∃ _ : c, t = some r := by
  by_cases hc : c
  · rw [if_pos hc] at h; exact ⟨hc, h⟩
  · rw [if_neg hc] at h; cases h
theorem xifz {c : Prop} [Decidable c] {α : Type} {t : Option α} {r : α} (h : (if c then none else t) = some r) : ∃ _ : ¬ c, t = some r := by
  by_cases hc : c
  · rw [if_pos hc] at h; cases h
  · rw [if_neg hc] at h; exact ⟨hc, h⟩
theorem xall {o : Option Nat} {f : Nat → Nat} {k : Nat} (h : o.all (fun b => f b == k) = true) : ∀ b, o = some b → f b = k := fun b e => by subst e; simpa using h
theorem tN_kd (h : TH) (kd n : Nat) : t_kd (s_N h kd n) (t_sz h) = kd := by simp [s_N, t_kd, x_up1]
section AUX
variable {M : xM} {rm : Room} {l : Launch} {g : xG} {x0 : xV} {o1 : Option Value ⊕ String} {x1 : xV} {kc ks : Nat} {x : xV} {pc : Nat} {lv : List (Nat × Value)} {st : List Value}
theorem aw_ifb_eq (tgt : Nat) {b : Bool} {off : Int} (hd : decode M.2.1 pc = .ok (.ifCond .eq off, 3)) (ht : (pc : Int) + off = (tgt : Int)) (kt : b = false → AW M rm l g x0 o1 x1 kc ks x tgt lv st) (kf : ¬ (b = false) → AW M rm l g x0 o1 x1 kc ks x (pc + 3) lv st) : AW M rm l g x0 o1 x1 kc ks x pc lv (.int (bi b) :: st) :=
  aw_if_eq tgt hd ht (fun q => kt (bi_0.mp q)) (fun q => kf (fun z => q (bi_0.mpr z)))
theorem aw_ifb_ne (tgt : Nat) {b : Bool} {off : Int} (hd : decode M.2.1 pc = .ok (.ifCond .ne off, 3)) (ht : (pc : Int) + off = (tgt : Int)) (kt : ¬ (b = false) → AW M rm l g x0 o1 x1 kc ks x tgt lv st) (kf : b = false → AW M rm l g x0 o1 x1 kc ks x (pc + 3) lv st) : AW M rm l g x0 o1 x1 kc ks x pc lv (.int (bi b) :: st) :=
  aw_if_ne tgt hd ht (fun q => kt (fun z => q (bi_0.mpr z))) (fun q => kf (bi_0.mp q))
theorem lg_cmp_0 {a b : Int64} : lg_cmp a b = 0 ↔ a = b := by
  unfold lg_cmp
  constructor
  · intro h
    split at h
    · exact absurd h (by decide)
    · split at h
      · assumption
      · exact absurd h (by decide)
  · rintro rfl
    rw [if_neg (by exact Int64.lt_irrefl), if_pos rfl]
theorem aw_lcmp_eq (tgt : Nat) {a b : Int64} {off : Int} (hd : decode M.2.1 pc = .ok (.lcmp, 1)) (hd2 : decode M.2.1 (pc + 1) = .ok (.ifCond .eq off, 3)) (ht : ((pc + 1 : Nat) : Int) + off = (tgt : Int)) (kt : a = b → AW M rm l g x0 o1 x1 kc ks x tgt lv st) (kf : ¬ (a = b) → AW M rm l g x0 o1 x1 kc ks x (pc + 1 + 3) lv st) : AW M rm l g x0 o1 x1 kc ks x pc lv (.long b :: .long a :: st) :=
  aw_lcmp hd (aw_if_eq tgt hd2 ht (fun q => kt (lg_cmp_0.mp q)) (fun q => kf (fun z => q (lg_cmp_0.mpr z))))
theorem aw_lcmp_ne (tgt : Nat) {a b : Int64} {off : Int} (hd : decode M.2.1 pc = .ok (.lcmp, 1)) (hd2 : decode M.2.1 (pc + 1) = .ok (.ifCond .ne off, 3)) (ht : ((pc + 1 : Nat) : Int) + off = (tgt : Int)) (kt : ¬ (a = b) → AW M rm l g x0 o1 x1 kc ks x tgt lv st) (kf : a = b → AW M rm l g x0 o1 x1 kc ks x (pc + 1 + 3) lv st) : AW M rm l g x0 o1 x1 kc ks x pc lv (.long b :: .long a :: st) :=
  aw_lcmp hd (aw_if_ne tgt hd2 ht (fun q => kt (fun z => q (lg_cmp_0.mpr z))) (fun q => kf (lg_cmp_0.mp q)))
theorem aw_l2i {a : Int64} (hd : decode M.2.1 pc = .ok (.l2i, 1)) (k : AW M rm l g x0 o1 x1 kc ks x (pc + 1) lv (.int a.toInt32 :: st)) : AW M rm l g x0 o1 x1 kc ks x pc lv (.long a :: st) := fun p e s m args below meth c B H locs ls hH hl => lv_l2i B.1 B.2.1 hd rfl (k p e s m args below meth c B H locs ls hH hl)
theorem aw_zretb {v : Int32} {b : Bool} (hd : decode M.2.1 pc = .ok (.ireturn, 1)) (hr : M.2.2.2.1 = some .boolean) (hf : xbool v = some b) (hv : o1 = .inl (some (.int (bi b)))) (hx : x = x1) (hk : kc ≤ rm.cells ∧ ks ≤ rm.slots) : AW M rm l g x0 o1 x1 kc ks x pc lv [.int v] := by
  rw [xbool_eq hf]
  exact aw_zret hd hr (nar_b b) hv hx hk
theorem aw_cretb {v r : Int32} (hd : decode M.2.1 pc = .ok (.ireturn, 1)) (hr : M.2.2.2.1 = some .char) (hf : xchar v = some r) (hv : o1 = .inl (some (.int r))) (hx : x = x1) (hk : kc ≤ rm.cells ∧ ks ≤ rm.slots) : AW M rm l g x0 o1 x1 kc ks x pc lv [.int v] := by
  unfold xchar at hf
  split at hf
  · cases hf
    exact aw_zret hd hr (by assumption) hv hx hk
  · cases hf
def x_max (a b : Int32) : Int32 := (if a < b then b else a)
theorem aw_mmax {index : Nat} {a b : Int32} (hl0 : Cond.methodLink M.1 index Lib.Math.max.name ∈ wt) (hst : Cond.static Lib.Math.max.name ∈ wt) (hini : Cond.initialized "java/lang/Math" ∈ wt) (hcd : Cond.code Lib.Math.max.name Lib.Math.max.code 2 (some .int) ∈ wt) (hr : (st.map fun v => v.category).sum ≤ 8) (hR : 1 ≤ rm.frames ∧ 21 ≤ rm.locals) (hk : kc ≤ rm.cells ∧ ks ≤ rm.slots) (hd : decode M.2.1 pc = .ok (.invokestatic index, 3))
    (k : AW M rm l g x0 o1 x1 kc ks x (pc + 3) lv (.int (x_max a b) :: st)) : AW M rm l g x0 o1 x1 kc ks x pc lv (.int b :: .int a :: st) := fun p e s m args below meth c B H locs ls hH hl =>
  va_mmax B.1 B.2.1 (B.2.2.1.trans hl.1.symm) B.2.2.2.2.2.1 (B.2.2.2.2.2.2.1 _ hl0) (B.2.2.2.2.2.2.1 _ hst) (B.2.2.2.2.2.2.1 _ hini) (B.2.2.2.2.2.2.1 _ hcd) hR.1 (by have := hR.2; omega) hk.1 hk.2 hd (k p e s m args below meth c B H locs ls hH hl)
def x_min (a b : Int32) : Int32 := (if b < a then b else a)
theorem aw_mmin {index : Nat} {a b : Int32} (hl0 : Cond.methodLink M.1 index Lib.Math.min.name ∈ wt) (hst : Cond.static Lib.Math.min.name ∈ wt) (hini : Cond.initialized "java/lang/Math" ∈ wt) (hcd : Cond.code Lib.Math.min.name Lib.Math.min.code 2 (some .int) ∈ wt) (hr : (st.map fun v => v.category).sum ≤ 8) (hR : 1 ≤ rm.frames ∧ 21 ≤ rm.locals) (hk : kc ≤ rm.cells ∧ ks ≤ rm.slots) (hd : decode M.2.1 pc = .ok (.invokestatic index, 3))
    (k : AW M rm l g x0 o1 x1 kc ks x (pc + 3) lv (.int (x_min a b) :: st)) : AW M rm l g x0 o1 x1 kc ks x pc lv (.int b :: .int a :: st) := fun p e s m args below meth c B H locs ls hH hl =>
  va_mmin B.1 B.2.1 (B.2.2.1.trans hl.1.symm) B.2.2.2.2.2.1 (B.2.2.2.2.2.2.1 _ hl0) (B.2.2.2.2.2.2.1 _ hst) (B.2.2.2.2.2.2.1 _ hini) (B.2.2.2.2.2.2.1 _ hcd) hR.1 (by have := hR.2; omega) hk.1 hk.2 hd (k p e s m args below meth c B H locs ls hH hl)
def x_abs (a : Int32) : Int32 := (if 0 ≤ a then a else 0 - a)
theorem aw_mabs {index : Nat} {a : Int32} (hl0 : Cond.methodLink M.1 index Lib.Math.abs.name ∈ wt) (hst : Cond.static Lib.Math.abs.name ∈ wt) (hini : Cond.initialized "java/lang/Math" ∈ wt) (hcd : Cond.code Lib.Math.abs.name Lib.Math.abs.code 1 (some .int) ∈ wt) (hr : (st.map fun v => v.category).sum ≤ 8) (hR : 1 ≤ rm.frames ∧ 21 ≤ rm.locals) (hk : kc ≤ rm.cells ∧ ks ≤ rm.slots) (hd : decode M.2.1 pc = .ok (.invokestatic index, 3))
    (k : AW M rm l g x0 o1 x1 kc ks x (pc + 3) lv (.int (x_abs a) :: st)) : AW M rm l g x0 o1 x1 kc ks x pc lv (.int a :: st) := fun p e s m args below meth c B H locs ls hH hl =>
  va_mabs B.1 B.2.1 (B.2.2.1.trans hl.1.symm) B.2.2.2.2.2.1 (B.2.2.2.2.2.2.1 _ hl0) (B.2.2.2.2.2.2.1 _ hst) (B.2.2.2.2.2.2.1 _ hini) (B.2.2.2.2.2.2.1 _ hcd) hR.1 (by have := hR.2; omega) hk.1 hk.2 hd (k p e s m args below meth c B H locs ls hH hl)
end AUX
abbrev cJ_bitCount : ByteArray := prog_16_method_50_code
def yJ_bitCount : MethodName := ⟨"java/lang/Long", "bitCount", "(J)I"⟩
theorem dJ_bitCount_0 : decode cJ_bitCount 0 = .ok (.lload_n 0, 1) := by decide +kernel
theorem dJ_bitCount_1 : decode cJ_bitCount 1 = .ok (.lload_n 0, 1) := by decide +kernel
theorem dJ_bitCount_2 : decode cJ_bitCount 2 = .ok (.iconst 1, 1) := by decide +kernel
theorem dJ_bitCount_3 : decode cJ_bitCount 3 = .ok (.lushr, 1) := by decide +kernel
theorem dJ_bitCount_4 : decode cJ_bitCount 4 = .ok (.ldc2_w 314, 3) := by decide +kernel
theorem dJ_bitCount_7 : decode cJ_bitCount 7 = .ok (.land, 1) := by decide +kernel
theorem dJ_bitCount_8 : decode cJ_bitCount 8 = .ok (.lsub, 1) := by decide +kernel
theorem dJ_bitCount_9 : decode cJ_bitCount 9 = .ok (.lstore_n 0, 1) := by decide +kernel
theorem dJ_bitCount_10 : decode cJ_bitCount 10 = .ok (.lload_n 0, 1) := by decide +kernel
theorem dJ_bitCount_11 : decode cJ_bitCount 11 = .ok (.ldc2_w 316, 3) := by decide +kernel
theorem dJ_bitCount_14 : decode cJ_bitCount 14 = .ok (.land, 1) := by decide +kernel
theorem dJ_bitCount_15 : decode cJ_bitCount 15 = .ok (.lload_n 0, 1) := by decide +kernel
theorem dJ_bitCount_16 : decode cJ_bitCount 16 = .ok (.iconst 2, 1) := by decide +kernel
theorem dJ_bitCount_17 : decode cJ_bitCount 17 = .ok (.lushr, 1) := by decide +kernel
theorem dJ_bitCount_18 : decode cJ_bitCount 18 = .ok (.ldc2_w 316, 3) := by decide +kernel
theorem dJ_bitCount_21 : decode cJ_bitCount 21 = .ok (.land, 1) := by decide +kernel
theorem dJ_bitCount_22 : decode cJ_bitCount 22 = .ok (.ladd, 1) := by decide +kernel
theorem dJ_bitCount_23 : decode cJ_bitCount 23 = .ok (.lstore_n 0, 1) := by decide +kernel
theorem dJ_bitCount_24 : decode cJ_bitCount 24 = .ok (.lload_n 0, 1) := by decide +kernel
theorem dJ_bitCount_25 : decode cJ_bitCount 25 = .ok (.lload_n 0, 1) := by decide +kernel
theorem dJ_bitCount_26 : decode cJ_bitCount 26 = .ok (.iconst 4, 1) := by decide +kernel
theorem dJ_bitCount_27 : decode cJ_bitCount 27 = .ok (.lushr, 1) := by decide +kernel
theorem dJ_bitCount_28 : decode cJ_bitCount 28 = .ok (.ladd, 1) := by decide +kernel
theorem dJ_bitCount_29 : decode cJ_bitCount 29 = .ok (.ldc2_w 318, 3) := by decide +kernel
theorem dJ_bitCount_32 : decode cJ_bitCount 32 = .ok (.land, 1) := by decide +kernel
theorem dJ_bitCount_33 : decode cJ_bitCount 33 = .ok (.lstore_n 0, 1) := by decide +kernel
theorem dJ_bitCount_34 : decode cJ_bitCount 34 = .ok (.lload_n 0, 1) := by decide +kernel
theorem dJ_bitCount_35 : decode cJ_bitCount 35 = .ok (.lload_n 0, 1) := by decide +kernel
theorem dJ_bitCount_36 : decode cJ_bitCount 36 = .ok (.bipush 8, 2) := by decide +kernel
theorem dJ_bitCount_38 : decode cJ_bitCount 38 = .ok (.lushr, 1) := by decide +kernel
theorem dJ_bitCount_39 : decode cJ_bitCount 39 = .ok (.ladd, 1) := by decide +kernel
theorem dJ_bitCount_40 : decode cJ_bitCount 40 = .ok (.lstore_n 0, 1) := by decide +kernel
theorem dJ_bitCount_41 : decode cJ_bitCount 41 = .ok (.lload_n 0, 1) := by decide +kernel
theorem dJ_bitCount_42 : decode cJ_bitCount 42 = .ok (.lload_n 0, 1) := by decide +kernel
theorem dJ_bitCount_43 : decode cJ_bitCount 43 = .ok (.bipush 16, 2) := by decide +kernel
theorem dJ_bitCount_45 : decode cJ_bitCount 45 = .ok (.lushr, 1) := by decide +kernel
theorem dJ_bitCount_46 : decode cJ_bitCount 46 = .ok (.ladd, 1) := by decide +kernel
theorem dJ_bitCount_47 : decode cJ_bitCount 47 = .ok (.lstore_n 0, 1) := by decide +kernel
theorem dJ_bitCount_48 : decode cJ_bitCount 48 = .ok (.lload_n 0, 1) := by decide +kernel
theorem dJ_bitCount_49 : decode cJ_bitCount 49 = .ok (.lload_n 0, 1) := by decide +kernel
theorem dJ_bitCount_50 : decode cJ_bitCount 50 = .ok (.bipush 32, 2) := by decide +kernel
theorem dJ_bitCount_52 : decode cJ_bitCount 52 = .ok (.lushr, 1) := by decide +kernel
theorem dJ_bitCount_53 : decode cJ_bitCount 53 = .ok (.ladd, 1) := by decide +kernel
theorem dJ_bitCount_54 : decode cJ_bitCount 54 = .ok (.lstore_n 0, 1) := by decide +kernel
theorem dJ_bitCount_55 : decode cJ_bitCount 55 = .ok (.lload_n 0, 1) := by decide +kernel
theorem dJ_bitCount_56 : decode cJ_bitCount 56 = .ok (.l2i, 1) := by decide +kernel
theorem dJ_bitCount_57 : decode cJ_bitCount 57 = .ok (.bipush 127, 2) := by decide +kernel
theorem dJ_bitCount_59 : decode cJ_bitCount 59 = .ok (.iand, 1) := by decide +kernel
theorem dJ_bitCount_60 : decode cJ_bitCount 60 = .ok (.ireturn, 1) := by decide +kernel
abbrev MJ_bitCount : xM := ("java/lang/Long", cJ_bitCount, 2, (some .int), "bitCount")
abbrev rmJ_bitCount : Room := { frames := 0, cells := 0, slots := 0, locals := 0 }
theorem ciJ_bitCount : Cond.code yJ_bitCount cJ_bitCount 2 (some .int) ∈ wt ∧ Cond.initialized yJ_bitCount.cls ∈ wt ∧ (yJ_bitCount.cls ≠ "java/lang/invoke/MethodHandle" ∧ yJ_bitCount.cls ≠ "java/lang/invoke/VarHandle" ∧ (parseMethodDescriptor yJ_bitCount.desc).map (fun d => d.parameters.length) = some 1) := ⟨wl2 (i := 133) rfl rfl, wl1 (i := 16) rfl rfl, by decide +kernel, by decide +kernel, by decide +kernel⟩
def fJ_bitCount_55 (a0 : Int64) : Option (Int32) :=
  some (((a0).toInt32) &&& (127 : Int32))
set_option maxHeartbeats 4000000 in
set_option maxRecDepth 100000 in
theorem wkJ_bitCount_55 {l : Launch} {g : xG} {x0 : xV} {x : xV} (hl : l.stackTraces = false) {r : Int32} (a0 : Int64) (hf : fJ_bitCount_55 a0 = some r) : AW MJ_bitCount rmJ_bitCount l g x0 (.inl (some (.int r))) x 0 0 x 55 [(0, .long a0)] [] := by
  rw [fJ_bitCount_55] at hf
  refine aw_lload_n 0 dJ_bitCount_55 rfl ?_
  refine aw_l2i dJ_bitCount_56 ?_
  refine aw_bipush (127 : Int32) dJ_bitCount_57 (by decide) ?_
  refine aw_iand dJ_bitCount_59 ?_
  cases hf
  exact aw_iret dJ_bitCount_60 rfl rfl rfl ⟨Nat.le_of_ble_eq_true rfl, Nat.le_of_ble_eq_true rfl⟩
def fJ_bitCount_48 (a0 : Int64) : Option (Int32) :=
  fJ_bitCount_55 (a0 + (x_ushr a0 (32 : Int32)))
set_option maxHeartbeats 4000000 in
set_option maxRecDepth 100000 in
theorem wkJ_bitCount_48 {l : Launch} {g : xG} {x0 : xV} {x : xV} (hl : l.stackTraces = false) {r : Int32} (a0 : Int64) (hf : fJ_bitCount_48 a0 = some r) : AW MJ_bitCount rmJ_bitCount l g x0 (.inl (some (.int r))) x 0 0 x 48 [(0, .long a0)] [] := by
  rw [fJ_bitCount_48] at hf
  refine aw_lload_n 0 dJ_bitCount_48 rfl ?_
  refine aw_lload_n 0 dJ_bitCount_49 rfl ?_
  refine aw_bipush (32 : Int32) dJ_bitCount_50 (by decide) ?_
  refine aw_lushr dJ_bitCount_52 ?_
  refine aw_ladd dJ_bitCount_53 ?_
  refine aw_lstore_n [(0, .long (a0 + (x_ushr a0 (32 : Int32))))] dJ_bitCount_54 rfl (by decide) rfl ?_
  refine aw_lv [0] rfl ?_
  exact wkJ_bitCount_55 hl _ hf
def fJ_bitCount_41 (a0 : Int64) : Option (Int32) :=
  fJ_bitCount_48 (a0 + (x_ushr a0 (16 : Int32)))
set_option maxHeartbeats 4000000 in
set_option maxRecDepth 100000 in
theorem wkJ_bitCount_41 {l : Launch} {g : xG} {x0 : xV} {x : xV} (hl : l.stackTraces = false) {r : Int32} (a0 : Int64) (hf : fJ_bitCount_41 a0 = some r) : AW MJ_bitCount rmJ_bitCount l g x0 (.inl (some (.int r))) x 0 0 x 41 [(0, .long a0)] [] := by
  rw [fJ_bitCount_41] at hf
  refine aw_lload_n 0 dJ_bitCount_41 rfl ?_
  refine aw_lload_n 0 dJ_bitCount_42 rfl ?_
  refine aw_bipush (16 : Int32) dJ_bitCount_43 (by decide) ?_
  refine aw_lushr dJ_bitCount_45 ?_
  refine aw_ladd dJ_bitCount_46 ?_
  refine aw_lstore_n [(0, .long (a0 + (x_ushr a0 (16 : Int32))))] dJ_bitCount_47 rfl (by decide) rfl ?_
  refine aw_lv [0] rfl ?_
  exact wkJ_bitCount_48 hl _ hf
def fJ_bitCount_34 (a0 : Int64) : Option (Int32) :=
  fJ_bitCount_41 (a0 + (x_ushr a0 (8 : Int32)))
set_option maxHeartbeats 4000000 in
set_option maxRecDepth 100000 in
theorem wkJ_bitCount_34 {l : Launch} {g : xG} {x0 : xV} {x : xV} (hl : l.stackTraces = false) {r : Int32} (a0 : Int64) (hf : fJ_bitCount_34 a0 = some r) : AW MJ_bitCount rmJ_bitCount l g x0 (.inl (some (.int r))) x 0 0 x 34 [(0, .long a0)] [] := by
  rw [fJ_bitCount_34] at hf
  refine aw_lload_n 0 dJ_bitCount_34 rfl ?_
  refine aw_lload_n 0 dJ_bitCount_35 rfl ?_
  refine aw_bipush (8 : Int32) dJ_bitCount_36 (by decide) ?_
  refine aw_lushr dJ_bitCount_38 ?_
  refine aw_ladd dJ_bitCount_39 ?_
  refine aw_lstore_n [(0, .long (a0 + (x_ushr a0 (8 : Int32))))] dJ_bitCount_40 rfl (by decide) rfl ?_
  refine aw_lv [0] rfl ?_
  exact wkJ_bitCount_41 hl _ hf
def fJ_bitCount_24 (a0 : Int64) : Option (Int32) :=
  fJ_bitCount_34 ((a0 + (x_ushr a0 (4 : Int32))) &&& (1085102592571150095 : Int64))
set_option maxHeartbeats 4000000 in
set_option maxRecDepth 100000 in
theorem wkJ_bitCount_24 {l : Launch} {g : xG} {x0 : xV} {x : xV} (hl : l.stackTraces = false) {r : Int32} (a0 : Int64) (hf : fJ_bitCount_24 a0 = some r) : AW MJ_bitCount rmJ_bitCount l g x0 (.inl (some (.int r))) x 0 0 x 24 [(0, .long a0)] [] := by
  rw [fJ_bitCount_24] at hf
  refine aw_lload_n 0 dJ_bitCount_24 rfl ?_
  refine aw_lload_n 0 dJ_bitCount_25 rfl ?_
  refine aw_iconst (4 : Int32) dJ_bitCount_26 (by decide) ?_
  refine aw_lushr dJ_bitCount_27 ?_
  refine aw_ladd dJ_bitCount_28 ?_
  refine aw_ldc2 (1085102592571150095 : Int64) rfl (wl2 (i := 136) rfl rfl) dJ_bitCount_29 ?_
  refine aw_land dJ_bitCount_32 ?_
  refine aw_lstore_n [(0, .long ((a0 + (x_ushr a0 (4 : Int32))) &&& (1085102592571150095 : Int64)))] dJ_bitCount_33 rfl (by decide) rfl ?_
  refine aw_lv [0] rfl ?_
  exact wkJ_bitCount_34 hl _ hf
def fJ_bitCount_10 (a0 : Int64) : Option (Int32) :=
  fJ_bitCount_24 ((a0 &&& (3689348814741910323 : Int64)) + ((x_ushr a0 (2 : Int32)) &&& (3689348814741910323 : Int64)))
set_option maxHeartbeats 4000000 in
set_option maxRecDepth 100000 in
theorem wkJ_bitCount_10 {l : Launch} {g : xG} {x0 : xV} {x : xV} (hl : l.stackTraces = false) {r : Int32} (a0 : Int64) (hf : fJ_bitCount_10 a0 = some r) : AW MJ_bitCount rmJ_bitCount l g x0 (.inl (some (.int r))) x 0 0 x 10 [(0, .long a0)] [] := by
  rw [fJ_bitCount_10] at hf
  refine aw_lload_n 0 dJ_bitCount_10 rfl ?_
  refine aw_ldc2 (3689348814741910323 : Int64) rfl (wl2 (i := 135) rfl rfl) dJ_bitCount_11 ?_
  refine aw_land dJ_bitCount_14 ?_
  refine aw_lload_n 0 dJ_bitCount_15 rfl ?_
  refine aw_iconst (2 : Int32) dJ_bitCount_16 (by decide) ?_
  refine aw_lushr dJ_bitCount_17 ?_
  refine aw_ldc2 (3689348814741910323 : Int64) rfl (wl2 (i := 135) rfl rfl) dJ_bitCount_18 ?_
  refine aw_land dJ_bitCount_21 ?_
  refine aw_ladd dJ_bitCount_22 ?_
  refine aw_lstore_n [(0, .long ((a0 &&& (3689348814741910323 : Int64)) + ((x_ushr a0 (2 : Int32)) &&& (3689348814741910323 : Int64))))] dJ_bitCount_23 rfl (by decide) rfl ?_
  refine aw_lv [0] rfl ?_
  exact wkJ_bitCount_24 hl _ hf
def fJ_bitCount (a0 : Int64) : Option (Int32) :=
  fJ_bitCount_10 (a0 - ((x_ushr a0 (1 : Int32)) &&& (6148914691236517205 : Int64)))
set_option maxHeartbeats 4000000 in
set_option maxRecDepth 100000 in
theorem ctJ_bitCount {l : Launch} {g : xG} {x : xV} (hl : l.stackTraces = false) {r : Int32} (a0 : Int64) (hf : fJ_bitCount a0 = some r) : CT yJ_bitCount MJ_bitCount rmJ_bitCount l g [.long a0] x (.inl (some (.int r))) x := by
  rw [fJ_bitCount] at hf
  refine CT.of (by decide +kernel) rfl rfl (Nat.le_of_ble_eq_true rfl) hl ?_
  show AW MJ_bitCount rmJ_bitCount l g x (.inl (some (.int r))) x 0 0 x 0 [(0, .long a0)] []
  refine aw_lload_n 0 dJ_bitCount_0 rfl ?_
  refine aw_lload_n 0 dJ_bitCount_1 rfl ?_
  refine aw_iconst (1 : Int32) dJ_bitCount_2 (by decide) ?_
  refine aw_lushr dJ_bitCount_3 ?_
  refine aw_ldc2 (6148914691236517205 : Int64) rfl (wl2 (i := 134) rfl rfl) dJ_bitCount_4 ?_
  refine aw_land dJ_bitCount_7 ?_
  refine aw_lsub dJ_bitCount_8 ?_
  refine aw_lstore_n [(0, .long (a0 - ((x_ushr a0 (1 : Int32)) &&& (6148914691236517205 : Int64))))] dJ_bitCount_9 rfl (by decide) rfl ?_
  refine aw_lv [0] rfl ?_
  exact wkJ_bitCount_10 hl _ hf
end
section
abbrev MX9_bits : xM := (RX9, cX9_bits, 5, (some .int), "bits")
abbrev rmX9_bits : Room := { frames := 0, cells := 0, slots := 0, locals := 0 }
theorem ciX9_bits : Cond.code yX9_bits cX9_bits 5 (some .int) ∈ wt ∧ Cond.initialized yX9_bits.cls ∈ wt ∧ (yX9_bits.cls ≠ "java/lang/invoke/MethodHandle" ∧ yX9_bits.cls ≠ "java/lang/invoke/VarHandle" ∧ (parseMethodDescriptor yX9_bits.desc).map (fun d => d.parameters.length) = some 1) := ⟨wl5 (i := 103) rfl rfl, wl1 (i := 4) rfl rfl, by decide +kernel, by decide +kernel, by decide +kernel⟩
def fX9_bits_4 : Nat → Int32 → Int64 → Option (Int32)
  | 0, _, _ => none
  | n + 1, a2, a3 =>
    (if a3 = (0 : Int64) then some a2 else fX9_bits_4 n (a2 + (1 : Int32)) (a3 &&& (a3 - (1 : Int64))))
set_option maxHeartbeats 4000000 in
set_option maxRecDepth 100000 in
theorem wkX9_bits_4 {l : Launch} {g : xG} {x0 : xV} {mo sz : Nat} {S : MS} (hl : l.stackTraces = false) {r : Int32} : ∀ (n : Nat) (a2 : Int32) (a3 : Int64), fX9_bits_4 n a2 a3 = some r → AW MX9_bits rmX9_bits l g x0 (.inl (some (.int r))) (moE g mo sz S) 0 0 (moE g mo sz S) 4 [(2, .int a2), (3, .long a3)] [] := by
  intro n
  induction n with
  | zero => intro a2 a3 hf; exact absurd hf (by simp [fX9_bits_4])
  | succ n hk4 =>
    intro a2 a3 hf
    rw [fX9_bits_4] at hf
    refine aw_lload_n 1 dX9_bits_4 rfl ?_
    refine aw_lconst (0 : Int64) dX9_bits_5 (by decide) ?_
    refine aw_lcmp_eq 22 dX9_bits_6 dX9_bits_7 (by decide) (fun c1 => ?_) (fun c1 => ?_)
    · rw [if_pos c1] at hf
      refine aw_iload_n 0 dX9_bits_22 rfl ?_
      cases hf
      exact aw_iret dX9_bits_23 rfl rfl rfl ⟨Nat.le_of_ble_eq_true rfl, Nat.le_of_ble_eq_true rfl⟩
    · rw [if_neg c1] at hf
      refine aw_iinc [(2, .int (a2 + (1 : Int32))), (3, .long a3)] 0 dX9_bits_10 rfl rfl (by decide) rfl ?_
      refine aw_lload_n 1 dX9_bits_13 rfl ?_
      refine aw_lload_n 1 dX9_bits_14 rfl ?_
      refine aw_lconst (1 : Int64) dX9_bits_15 (by decide) ?_
      refine aw_lsub dX9_bits_16 ?_
      refine aw_land dX9_bits_17 ?_
      refine aw_lstore_n [(3, .long (a3 &&& (a3 - (1 : Int64)))), (2, .int (a2 + (1 : Int32)))] dX9_bits_18 rfl (by decide) rfl ?_
      refine aw_goto 4 dX9_bits_19 (by decide) ?_
      refine aw_lv [1, 0] rfl ?_
      exact hk4 _ _ hf
def fX9_bits (a0 : Int64) : Option (Int32) :=
  fX9_bits_4 FU (0 : Int32) a0
set_option maxHeartbeats 4000000 in
set_option maxRecDepth 100000 in
theorem ctX9_bits {l : Launch} {g : xG} {mo sz : Nat} {S : MS} (hl : l.stackTraces = false) {r : Int32} (a0 : Int64) (hf : fX9_bits a0 = some r) : CT yX9_bits MX9_bits rmX9_bits l g [.long a0] (moE g mo sz S) (.inl (some (.int r))) (moE g mo sz S) := by
  rw [fX9_bits] at hf
  refine CT.of (by decide +kernel) rfl rfl (Nat.le_of_ble_eq_true rfl) hl ?_
  show AW MX9_bits rmX9_bits l g (moE g mo sz S) (.inl (some (.int r))) (moE g mo sz S) 0 0 (moE g mo sz S) 0 [(0, .long a0)] []
  refine aw_iconst (0 : Int32) dX9_bits_0 (by decide) ?_
  refine aw_istore_n [(2, .int (0 : Int32)), (0, .long a0)] dX9_bits_1 rfl (by decide) rfl ?_
  refine aw_lload_n 1 dX9_bits_2 rfl ?_
  refine aw_lstore_n [(3, .long a0), (2, .int (0 : Int32)), (0, .long a0)] dX9_bits_3 rfl (by decide) rfl ?_
  refine aw_lv [1, 0] rfl ?_
  exact wkX9_bits_4 hl _ _ _ hf
abbrev MX9_lowest : xM := (RX9, cX9_lowest, 2, (some .int), "lowest")
abbrev rmX9_lowest : Room := { frames := 1, cells := 0, slots := 0, locals := 24 }
theorem ciX9_lowest : Cond.code yX9_lowest cX9_lowest 2 (some .int) ∈ wt ∧ Cond.initialized yX9_lowest.cls ∈ wt ∧ (yX9_lowest.cls ≠ "java/lang/invoke/MethodHandle" ∧ yX9_lowest.cls ≠ "java/lang/invoke/VarHandle" ∧ (parseMethodDescriptor yX9_lowest.desc).map (fun d => d.parameters.length) = some 1) := ⟨wl5 (i := 225) rfl rfl, wl1 (i := 4) rfl rfl, by decide +kernel, by decide +kernel, by decide +kernel⟩
def fX9_lowest (a0 : Int64) : Option (Int32) :=
  (fX9_bits ((a0 &&& (-a0)) - (1 : Int64))).bind fun q1 => some q1
set_option maxHeartbeats 4000000 in
set_option maxRecDepth 100000 in
theorem ctX9_lowest {l : Launch} {g : xG} {mo sz : Nat} {S : MS} (hl : l.stackTraces = false) {r : Int32} (a0 : Int64) (hf : fX9_lowest a0 = some r) : CT yX9_lowest MX9_lowest rmX9_lowest l g [.long a0] (moE g mo sz S) (.inl (some (.int r))) (moE g mo sz S) := by
  rw [fX9_lowest] at hf
  refine CT.of (by decide +kernel) rfl rfl (Nat.le_of_ble_eq_true rfl) hl ?_
  show AW MX9_lowest rmX9_lowest l g (moE g mo sz S) (.inl (some (.int r))) (moE g mo sz S) 0 0 (moE g mo sz S) 0 [(0, .long a0)] []
  refine aw_lload_n 0 dX9_lowest_0 rfl ?_
  refine aw_lload_n 0 dX9_lowest_1 rfl ?_
  refine aw_lneg dX9_lowest_2 ?_
  refine aw_land dX9_lowest_3 ?_
  refine aw_lconst (1 : Int64) dX9_lowest_4 (by decide) ?_
  refine aw_lsub dX9_lowest_5 ?_
  obtain ⟨q1, hq1, hf⟩ := xbind hf
  refine aw_callS [.long ((a0 &&& (-a0)) - (1 : Int64))] 1 (ctX9_bits hl _ hq1) ⟨wl5 (i := 101) rfl rfl, ciX9_bits⟩ (wl5 (i := 102) rfl rfl) dX9_lowest_6 rfl rfl (Nat.le_of_ble_eq_true rfl) ⟨Nat.le_of_ble_eq_true rfl, Nat.le_of_ble_eq_true rfl⟩ ⟨Nat.le_of_ble_eq_true rfl, Nat.le_of_ble_eq_true rfl⟩ ?_
  cases hf
  exact aw_iret dX9_lowest_9 rfl rfl rfl ⟨Nat.le_of_ble_eq_true rfl, Nat.le_of_ble_eq_true rfl⟩
abbrev MX9_bit : xM := (RX9, cX9_bit, 1, (some .long), "bit")
abbrev rmX9_bit : Room := { frames := 0, cells := 0, slots := 0, locals := 0 }
theorem ciX9_bit : Cond.code yX9_bit cX9_bit 1 (some .long) ∈ wt ∧ Cond.initialized yX9_bit.cls ∈ wt ∧ (yX9_bit.cls ≠ "java/lang/invoke/MethodHandle" ∧ yX9_bit.cls ≠ "java/lang/invoke/VarHandle" ∧ (parseMethodDescriptor yX9_bit.desc).map (fun d => d.parameters.length) = some 1) := ⟨wl5 (i := 53) rfl rfl, wl1 (i := 4) rfl rfl, by decide +kernel, by decide +kernel, by decide +kernel⟩
def fX9_bit (a0 : Int32) : Option (Int64) :=
  some (x_shl (1 : Int64) a0)
set_option maxHeartbeats 4000000 in
set_option maxRecDepth 100000 in
theorem ctX9_bit {l : Launch} {g : xG} {mo sz : Nat} {S : MS} (hl : l.stackTraces = false) {r : Int64} (a0 : Int32) (hf : fX9_bit a0 = some r) : CT yX9_bit MX9_bit rmX9_bit l g [.int a0] (moE g mo sz S) (.inl (some (.long r))) (moE g mo sz S) := by
  rw [fX9_bit] at hf
  refine CT.of (by decide +kernel) rfl rfl (Nat.le_of_ble_eq_true rfl) hl ?_
  show AW MX9_bit rmX9_bit l g (moE g mo sz S) (.inl (some (.long r))) (moE g mo sz S) 0 0 (moE g mo sz S) 0 [(0, .int a0)] []
  refine aw_lconst (1 : Int64) dX9_bit_0 (by decide) ?_
  refine aw_iload_n 0 dX9_bit_1 rfl ?_
  refine aw_lshl dX9_bit_2 ?_
  cases hf
  exact aw_lret dX9_bit_3 rfl rfl rfl ⟨Nat.le_of_ble_eq_true rfl, Nat.le_of_ble_eq_true rfl⟩
abbrev MX9_around : xM := (RX9, cX9_around, 2, (some .long), "around")
abbrev rmX9_around : Room := { frames := 0, cells := 0, slots := 0, locals := 0 }
theorem ciX9_around : Cond.code yX9_around cX9_around 2 (some .long) ∈ wt ∧ Cond.initialized yX9_around.cls ∈ wt ∧ (yX9_around.cls ≠ "java/lang/invoke/MethodHandle" ∧ yX9_around.cls ≠ "java/lang/invoke/VarHandle" ∧ (parseMethodDescriptor yX9_around.desc).map (fun d => d.parameters.length) = some 1) := ⟨wl5 (i := 93) rfl rfl, wl1 (i := 4) rfl rfl, by decide +kernel, by decide +kernel, by decide +kernel⟩
def fX9_around (a0 : Int64) : Option (Int64) :=
  some (((((x_shl a0 (7 : Int32)) ||| (x_ushr a0 (7 : Int32))) ||| (x_shl (a0 &&& (-283691315109953 : Int64)) (1 : Int32))) ||| (x_ushr (a0 &&& (-4432676798594 : Int64)) (1 : Int32))) &&& (562949953421311 : Int64))
set_option maxHeartbeats 4000000 in
set_option maxRecDepth 100000 in
theorem ctX9_around {l : Launch} {g : xG} {mo sz : Nat} {S : MS} (hl : l.stackTraces = false) {r : Int64} (a0 : Int64) (hf : fX9_around a0 = some r) : CT yX9_around MX9_around rmX9_around l g [.long a0] (moE g mo sz S) (.inl (some (.long r))) (moE g mo sz S) := by
  rw [fX9_around] at hf
  refine CT.of (by decide +kernel) rfl rfl (Nat.le_of_ble_eq_true rfl) hl ?_
  show AW MX9_around rmX9_around l g (moE g mo sz S) (.inl (some (.long r))) (moE g mo sz S) 0 0 (moE g mo sz S) 0 [(0, .long a0)] []
  refine aw_lload_n 0 dX9_around_0 rfl ?_
  refine aw_bipush (7 : Int32) dX9_around_1 (by decide) ?_
  refine aw_lshl dX9_around_3 ?_
  refine aw_lload_n 0 dX9_around_4 rfl ?_
  refine aw_bipush (7 : Int32) dX9_around_5 (by decide) ?_
  refine aw_lushr dX9_around_7 ?_
  refine aw_lor dX9_around_8 ?_
  refine aw_lload_n 0 dX9_around_9 rfl ?_
  refine aw_ldc2 (-283691315109953 : Int64) rfl (wl5 (i := 94) rfl rfl) dX9_around_10 ?_
  refine aw_land dX9_around_13 ?_
  refine aw_iconst (1 : Int32) dX9_around_14 (by decide) ?_
  refine aw_lshl dX9_around_15 ?_
  refine aw_lor dX9_around_16 ?_
  refine aw_lload_n 0 dX9_around_17 rfl ?_
  refine aw_ldc2 (-4432676798594 : Int64) rfl (wl5 (i := 95) rfl rfl) dX9_around_18 ?_
  refine aw_land dX9_around_21 ?_
  refine aw_iconst (1 : Int32) dX9_around_22 (by decide) ?_
  refine aw_lushr dX9_around_23 ?_
  refine aw_lor dX9_around_24 ?_
  refine aw_ldc2 (562949953421311 : Int64) rfl (wl5 (i := 96) rfl rfl) dX9_around_25 ?_
  refine aw_land dX9_around_28 ?_
  cases hf
  exact aw_lret dX9_around_29 rfl rfl rfl ⟨Nat.le_of_ble_eq_true rfl, Nat.le_of_ble_eq_true rfl⟩
abbrev MX9_flood : xM := (RX9, cX9_flood, 8, (some .long), "flood")
abbrev rmX9_flood : Room := { frames := 1, cells := 0, slots := 0, locals := 21 }
theorem ciX9_flood : Cond.code yX9_flood cX9_flood 8 (some .long) ∈ wt ∧ Cond.initialized yX9_flood.cls ∈ wt ∧ (yX9_flood.cls ≠ "java/lang/invoke/MethodHandle" ∧ yX9_flood.cls ≠ "java/lang/invoke/VarHandle" ∧ (parseMethodDescriptor yX9_flood.desc).map (fun d => d.parameters.length) = some 2) := ⟨wl5 (i := 90) rfl rfl, wl1 (i := 4) rfl rfl, by decide +kernel, by decide +kernel, by decide +kernel⟩
def fX9_flood_8 : Nat → Int64 → Int64 → Int64 → Option (Int64)
  | 0, _, _, _ => none
  | n + 1, a2, a4, a6 =>
    (if a4 = a6 then some a4 else (fX9_around a4).bind fun q2 => fX9_flood_8 n a2 (a4 ||| (q2 &&& a2)) a4)
set_option maxHeartbeats 4000000 in
set_option maxRecDepth 100000 in
theorem wkX9_flood_8 {l : Launch} {g : xG} {x0 : xV} {mo sz : Nat} {S : MS} (hl : l.stackTraces = false) {r : Int64} : ∀ (n : Nat) (a2 : Int64) (a4 : Int64) (a6 : Int64), fX9_flood_8 n a2 a4 a6 = some r → AW MX9_flood rmX9_flood l g x0 (.inl (some (.long r))) (moE g mo sz S) 0 0 (moE g mo sz S) 8 [(2, .long a2), (4, .long a4), (6, .long a6)] [] := by
  intro n
  induction n with
  | zero => intro a2 a4 a6 hf; exact absurd hf (by simp [fX9_flood_8])
  | succ n hk8 =>
    intro a2 a4 a6 hf
    rw [fX9_flood_8] at hf
    refine aw_lload 1 dX9_flood_8 rfl ?_
    refine aw_lload 2 dX9_flood_10 rfl ?_
    refine aw_lcmp_eq 35 dX9_flood_12 dX9_flood_13 (by decide) (fun c1 => ?_) (fun c1 => ?_)
    · rw [if_pos c1] at hf
      refine aw_lload 1 dX9_flood_35 rfl ?_
      cases hf
      exact aw_lret dX9_flood_37 rfl rfl rfl ⟨Nat.le_of_ble_eq_true rfl, Nat.le_of_ble_eq_true rfl⟩
    · rw [if_neg c1] at hf
      refine aw_lload 1 dX9_flood_16 rfl ?_
      refine aw_lstore [(6, .long a4), (2, .long a2), (4, .long a4)] dX9_flood_18 (by decide) rfl ?_
      refine aw_lload 2 dX9_flood_20 rfl ?_
      refine aw_lload 2 dX9_flood_22 rfl ?_
      obtain ⟨q2, hq2, hf⟩ := xbind hf
      refine aw_callS [.long a4] 1 (ctX9_around hl _ hq2) ⟨wl5 (i := 91) rfl rfl, ciX9_around⟩ (wl5 (i := 92) rfl rfl) dX9_flood_24 rfl rfl (Nat.le_of_ble_eq_true rfl) ⟨Nat.le_of_ble_eq_true rfl, Nat.le_of_ble_eq_true rfl⟩ ⟨Nat.le_of_ble_eq_true rfl, Nat.le_of_ble_eq_true rfl⟩ ?_
      refine aw_lload_n 1 dX9_flood_27 rfl ?_
      refine aw_land dX9_flood_28 ?_
      refine aw_lor dX9_flood_29 ?_
      refine aw_lstore [(4, .long (a4 ||| (q2 &&& a2))), (6, .long a4), (2, .long a2)] dX9_flood_30 (by decide) rfl ?_
      refine aw_goto 8 dX9_flood_32 (by decide) ?_
      refine aw_lv [2, 0, 1] rfl ?_
      exact hk8 _ _ _ hf
def fX9_flood (a0 : Int64) (a2 : Int64) : Option (Int64) :=
  fX9_flood_8 FU a2 (a0 &&& a2) (0 : Int64)
set_option maxHeartbeats 4000000 in
set_option maxRecDepth 100000 in
theorem ctX9_flood {l : Launch} {g : xG} {mo sz : Nat} {S : MS} (hl : l.stackTraces = false) {r : Int64} (a0 : Int64) (a2 : Int64) (hf : fX9_flood a0 a2 = some r) : CT yX9_flood MX9_flood rmX9_flood l g [.long a0, .long a2] (moE g mo sz S) (.inl (some (.long r))) (moE g mo sz S) := by
  rw [fX9_flood] at hf
  refine CT.of (by decide +kernel) rfl rfl (Nat.le_of_ble_eq_true rfl) hl ?_
  show AW MX9_flood rmX9_flood l g (moE g mo sz S) (.inl (some (.long r))) (moE g mo sz S) 0 0 (moE g mo sz S) 0 [(0, .long a0), (2, .long a2)] []
  refine aw_lload_n 0 dX9_flood_0 rfl ?_
  refine aw_lload_n 1 dX9_flood_1 rfl ?_
  refine aw_land dX9_flood_2 ?_
  refine aw_lstore [(4, .long (a0 &&& a2)), (0, .long a0), (2, .long a2)] dX9_flood_3 (by decide) rfl ?_
  refine aw_lconst (0 : Int64) dX9_flood_5 (by decide) ?_
  refine aw_lstore [(6, .long (0 : Int64)), (4, .long (a0 &&& a2)), (0, .long a0), (2, .long a2)] dX9_flood_6 (by decide) rfl ?_
  refine aw_lv [3, 1, 0] rfl ?_
  exact wkX9_flood_8 hl _ _ _ _ hf
abbrev MX9_free : xM := (RX9, cX9_free, 6, (some .long), "free")
abbrev rmX9_free : Room := { frames := 1, cells := 0, slots := 0, locals := 21 }
theorem ciX9_free : Cond.code yX9_free cX9_free 6 (some .long) ∈ wt ∧ Cond.initialized yX9_free.cls ∈ wt ∧ (yX9_free.cls ≠ "java/lang/invoke/MethodHandle" ∧ yX9_free.cls ≠ "java/lang/invoke/VarHandle" ∧ (parseMethodDescriptor yX9_free.desc).map (fun d => d.parameters.length) = some 3) := ⟨wl5 (i := 100) rfl rfl, wl1 (i := 4) rfl rfl, by decide +kernel, by decide +kernel, by decide +kernel⟩
def fX9_free (a0 : Int64) (a2 : Int64) (a4 : Int64) : Option (Int64) :=
  (fX9_around a0).bind fun q1 => some (q1 &&& ((a2 ||| a4) ^^^ (-1 : Int64)))
set_option maxHeartbeats 4000000 in
set_option maxRecDepth 100000 in
theorem ctX9_free {l : Launch} {g : xG} {mo sz : Nat} {S : MS} (hl : l.stackTraces = false) {r : Int64} (a0 : Int64) (a2 : Int64) (a4 : Int64) (hf : fX9_free a0 a2 a4 = some r) : CT yX9_free MX9_free rmX9_free l g [.long a0, .long a2, .long a4] (moE g mo sz S) (.inl (some (.long r))) (moE g mo sz S) := by
  rw [fX9_free] at hf
  refine CT.of (by decide +kernel) rfl rfl (Nat.le_of_ble_eq_true rfl) hl ?_
  show AW MX9_free rmX9_free l g (moE g mo sz S) (.inl (some (.long r))) (moE g mo sz S) 0 0 (moE g mo sz S) 0 [(0, .long a0), (2, .long a2), (4, .long a4)] []
  refine aw_lload_n 0 dX9_free_0 rfl ?_
  obtain ⟨q1, hq1, hf⟩ := xbind hf
  refine aw_callS [.long a0] 1 (ctX9_around hl _ hq1) ⟨wl5 (i := 91) rfl rfl, ciX9_around⟩ (wl5 (i := 92) rfl rfl) dX9_free_1 rfl rfl (Nat.le_of_ble_eq_true rfl) ⟨Nat.le_of_ble_eq_true rfl, Nat.le_of_ble_eq_true rfl⟩ ⟨Nat.le_of_ble_eq_true rfl, Nat.le_of_ble_eq_true rfl⟩ ?_
  refine aw_lload_n 1 dX9_free_4 rfl ?_
  refine aw_lload 2 dX9_free_5 rfl ?_
  refine aw_lor dX9_free_7 ?_
  refine aw_ldc2 (-1 : Int64) rfl (wl5 (i := 97) rfl rfl) dX9_free_8 ?_
  refine aw_lxor dX9_free_11 ?_
  refine aw_land dX9_free_12 ?_
  cases hf
  exact aw_lret dX9_free_13 rfl rfl rfl ⟨Nat.le_of_ble_eq_true rfl, Nat.le_of_ble_eq_true rfl⟩
abbrev MX9_dead : xM := (RX9, cX9_dead, 12, (some .long), "dead")
abbrev rmX9_dead : Room := { frames := 2, cells := 0, slots := 0, locals := 48 }
theorem ciX9_dead : Cond.code yX9_dead cX9_dead 12 (some .long) ∈ wt ∧ Cond.initialized yX9_dead.cls ∈ wt ∧ (yX9_dead.cls ≠ "java/lang/invoke/MethodHandle" ∧ yX9_dead.cls ≠ "java/lang/invoke/VarHandle" ∧ (parseMethodDescriptor yX9_dead.desc).map (fun d => d.parameters.length) = some 3) := ⟨wl5 (i := 87) rfl rfl, wl1 (i := 4) rfl rfl, by decide +kernel, by decide +kernel, by decide +kernel⟩
def fX9_dead_57 (k6 : Int64 → Int64 → Int64 → Int64 → Int64 → Option (Int64)) (a0 : Int64) (a2 : Int64) (a4 : Int64) (a6 : Int64) (s0 : Int64) (s1 : Int64) : Option (Int64) :=
  k6 a0 a2 a4 a6 (s0 ||| s1)
set_option maxHeartbeats 4000000 in
set_option maxRecDepth 100000 in
theorem wkX9_dead_57 {l : Launch} {g : xG} {x0 : xV} {mo sz : Nat} {S : MS} (hl : l.stackTraces = false) {r : Int64} (k6 : Int64 → Int64 → Int64 → Int64 → Int64 → Option (Int64)) (hk6 : ∀ (a0 : Int64) (a2 : Int64) (a4 : Int64) (a6 : Int64) (a8 : Int64), k6 a0 a2 a4 a6 a8 = some r → AW MX9_dead rmX9_dead l g x0 (.inl (some (.long r))) (moE g mo sz S) 0 0 (moE g mo sz S) 6 [(0, .long a0), (2, .long a2), (4, .long a4), (6, .long a6), (8, .long a8)] []) (a0 : Int64) (a2 : Int64) (a4 : Int64) (a6 : Int64) (s0 : Int64) (s1 : Int64) (hf : fX9_dead_57 k6 a0 a2 a4 a6 s0 s1 = some r) : AW MX9_dead rmX9_dead l g x0 (.inl (some (.long r))) (moE g mo sz S) 0 0 (moE g mo sz S) 57 [(0, .long a0), (2, .long a2), (4, .long a4), (6, .long a6)] [.long s1, .long s0] := by
  rw [fX9_dead_57] at hf
  refine aw_lor dX9_dead_57 ?_
  refine aw_lstore [(8, .long (s0 ||| s1)), (0, .long a0), (2, .long a2), (4, .long a4), (6, .long a6)] dX9_dead_58 (by decide) rfl ?_
  refine aw_goto 6 dX9_dead_60 (by decide) ?_
  refine aw_lv [1, 2, 3, 4, 0] rfl ?_
  exact hk6 _ _ _ _ _ hf
def fX9_dead_6 : Nat → Int64 → Int64 → Int64 → Int64 → Int64 → Option (Int64)
  | 0, _, _, _, _, _ => none
  | n + 1, a0, a2, a4, a6, a8 =>
    (if a6 = (0 : Int64) then some a8 else (fX9_flood (a6 &&& (-a6)) a0).bind fun q2 => (fX9_free q2 a2 a4).bind fun q3 => (if q3 = (0 : Int64) then fX9_dead_57 (fX9_dead_6 n) a0 a2 a4 (a6 &&& (q2 ^^^ (-1 : Int64))) a8 q2 else fX9_dead_57 (fX9_dead_6 n) a0 a2 a4 (a6 &&& (q2 ^^^ (-1 : Int64))) a8 (0 : Int64)))
set_option maxHeartbeats 4000000 in
set_option maxRecDepth 100000 in
theorem wkX9_dead_6 {l : Launch} {g : xG} {x0 : xV} {mo sz : Nat} {S : MS} (hl : l.stackTraces = false) {r : Int64} : ∀ (n : Nat) (a0 : Int64) (a2 : Int64) (a4 : Int64) (a6 : Int64) (a8 : Int64), fX9_dead_6 n a0 a2 a4 a6 a8 = some r → AW MX9_dead rmX9_dead l g x0 (.inl (some (.long r))) (moE g mo sz S) 0 0 (moE g mo sz S) 6 [(0, .long a0), (2, .long a2), (4, .long a4), (6, .long a6), (8, .long a8)] [] := by
  intro n
  induction n with
  | zero => intro a0 a2 a4 a6 a8 hf; exact absurd hf (by simp [fX9_dead_6])
  | succ n hk6 =>
    intro a0 a2 a4 a6 a8 hf
    rw [fX9_dead_6] at hf
    refine aw_lload 3 dX9_dead_6 rfl ?_
    refine aw_lconst (0 : Int64) dX9_dead_8 (by decide) ?_
    refine aw_lcmp_eq 63 dX9_dead_9 dX9_dead_10 (by decide) (fun c1 => ?_) (fun c1 => ?_)
    · rw [if_pos c1] at hf
      refine aw_lload 4 dX9_dead_63 rfl ?_
      cases hf
      exact aw_lret dX9_dead_65 rfl rfl rfl ⟨Nat.le_of_ble_eq_true rfl, Nat.le_of_ble_eq_true rfl⟩
    · rw [if_neg c1] at hf
      refine aw_lload 3 dX9_dead_13 rfl ?_
      refine aw_lload 3 dX9_dead_15 rfl ?_
      refine aw_lneg dX9_dead_17 ?_
      refine aw_land dX9_dead_18 ?_
      refine aw_lload_n 0 dX9_dead_19 rfl ?_
      obtain ⟨q2, hq2, hf⟩ := xbind hf
      refine aw_callS [.long (a6 &&& (-a6)), .long a0] 2 (ctX9_flood hl _ _ hq2) ⟨wl5 (i := 88) rfl rfl, ciX9_flood⟩ (wl5 (i := 89) rfl rfl) dX9_dead_20 rfl rfl (Nat.le_of_ble_eq_true rfl) ⟨Nat.le_of_ble_eq_true rfl, Nat.le_of_ble_eq_true rfl⟩ ⟨Nat.le_of_ble_eq_true rfl, Nat.le_of_ble_eq_true rfl⟩ ?_
      refine aw_lstore [(10, .long q2), (0, .long a0), (2, .long a2), (4, .long a4), (6, .long a6), (8, .long a8)] dX9_dead_23 (by decide) rfl ?_
      refine aw_lload 4 dX9_dead_25 rfl ?_
      refine aw_lload 0 dX9_dead_27 rfl ?_
      refine aw_ldc2 (-1 : Int64) rfl (wl5 (i := 97) rfl rfl) dX9_dead_29 ?_
      refine aw_lxor dX9_dead_32 ?_
      refine aw_land dX9_dead_33 ?_
      refine aw_lstore [(6, .long (a6 &&& (q2 ^^^ (-1 : Int64)))), (10, .long q2), (0, .long a0), (2, .long a2), (4, .long a4), (8, .long a8)] dX9_dead_34 (by decide) rfl ?_
      refine aw_lload 5 dX9_dead_36 rfl ?_
      refine aw_lload 1 dX9_dead_38 rfl ?_
      refine aw_lload_n 3 dX9_dead_40 rfl ?_
      refine aw_lload 4 dX9_dead_41 rfl ?_
      obtain ⟨q3, hq3, hf⟩ := xbind hf
      refine aw_callS [.long q2, .long a2, .long a4] 3 (ctX9_free hl _ _ _ hq3) ⟨wl5 (i := 98) rfl rfl, ciX9_free⟩ (wl5 (i := 99) rfl rfl) dX9_dead_43 rfl rfl (Nat.le_of_ble_eq_true rfl) ⟨Nat.le_of_ble_eq_true rfl, Nat.le_of_ble_eq_true rfl⟩ ⟨Nat.le_of_ble_eq_true rfl, Nat.le_of_ble_eq_true rfl⟩ ?_
      refine aw_lconst (0 : Int64) dX9_dead_46 (by decide) ?_
      refine aw_lcmp_ne 56 dX9_dead_47 dX9_dead_48 (by decide) (fun c4 => ?_) (fun c4 => ?_)
      · rw [if_neg c4] at hf
        refine aw_lconst (0 : Int64) dX9_dead_56 (by decide) ?_
        refine aw_lv [2, 3, 4, 0] rfl ?_
        exact wkX9_dead_57 hl _ hk6 _ _ _ _ _ _ hf
      · rw [if_pos c4] at hf
        refine aw_lload 1 dX9_dead_51 rfl ?_
        refine aw_goto 57 dX9_dead_53 (by decide) ?_
        refine aw_lv [2, 3, 4, 0] rfl ?_
        exact wkX9_dead_57 hl _ hk6 _ _ _ _ _ _ hf
def fX9_dead (a0 : Int64) (a2 : Int64) (a4 : Int64) : Option (Int64) :=
  fX9_dead_6 FU a0 a2 a4 a0 (0 : Int64)
set_option maxHeartbeats 4000000 in
set_option maxRecDepth 100000 in
theorem ctX9_dead {l : Launch} {g : xG} {mo sz : Nat} {S : MS} (hl : l.stackTraces = false) {r : Int64} (a0 : Int64) (a2 : Int64) (a4 : Int64) (hf : fX9_dead a0 a2 a4 = some r) : CT yX9_dead MX9_dead rmX9_dead l g [.long a0, .long a2, .long a4] (moE g mo sz S) (.inl (some (.long r))) (moE g mo sz S) := by
  rw [fX9_dead] at hf
  refine CT.of (by decide +kernel) rfl rfl (Nat.le_of_ble_eq_true rfl) hl ?_
  show AW MX9_dead rmX9_dead l g (moE g mo sz S) (.inl (some (.long r))) (moE g mo sz S) 0 0 (moE g mo sz S) 0 [(0, .long a0), (2, .long a2), (4, .long a4)] []
  refine aw_lload_n 0 dX9_dead_0 rfl ?_
  refine aw_lstore [(6, .long a0), (0, .long a0), (2, .long a2), (4, .long a4)] dX9_dead_1 (by decide) rfl ?_
  refine aw_lconst (0 : Int64) dX9_dead_3 (by decide) ?_
  refine aw_lstore [(8, .long (0 : Int64)), (6, .long a0), (0, .long a0), (2, .long a2), (4, .long a4)] dX9_dead_4 (by decide) rfl ?_
  refine aw_lv [2, 3, 4, 1, 0] rfl ?_
  exact wkX9_dead_6 hl _ _ _ _ _ _ hf
abbrev MX9_puts : xM := (RX9, cX9_puts, 13, none, "puts")
abbrev rmX9_puts : Room := { frames := 3, cells := 0, slots := 0, locals := 79 }
theorem ciX9_puts : Cond.code yX9_puts cX9_puts 13 none ∈ wt ∧ Cond.initialized yX9_puts.cls ∈ wt ∧ (yX9_puts.cls ≠ "java/lang/invoke/MethodHandle" ∧ yX9_puts.cls ≠ "java/lang/invoke/VarHandle" ∧ (parseMethodDescriptor yX9_puts.desc).map (fun d => d.parameters.length) = some 4) := ⟨wl5 (i := 84) rfl rfl, wl1 (i := 4) rfl rfl, by decide +kernel, by decide +kernel, by decide +kernel⟩
def fX9_puts_121 (S : MS) (s1 : Int64) : Option (MS) :=
  some (ms_j S 26 s1)
set_option maxHeartbeats 4000000 in
set_option maxRecDepth 100000 in
theorem wkX9_puts_121 {l : Launch} {g : xG} {x0 : xV} {mo sz : Nat} (hl : l.stackTraces = false) {r : MS} (S : MS) (s1 : Int64) (hf : fX9_puts_121 S s1 = some r) : AW MX9_puts rmX9_puts l g x0 (.inl none) (moE g mo sz r) 0 0 (moE g mo sz S) 121 [] [.long s1, .ref mo] := by
  rw [fX9_puts_121] at hf
  refine mo_putJ 26 rfl (by decide) rfl rfl (wl4 (i := 124) rfl rfl) dX9_puts_121 ?_
  cases hf
  exact aw_vret dX9_puts_124 rfl rfl rfl ⟨Nat.le_of_ble_eq_true rfl, Nat.le_of_ble_eq_true rfl⟩
def fX9_puts_105 (S : MS) (a5 : Int32) (a7 : Int64) (a9 : Int64) (s1 : Int64) : Option (MS) :=
  (if a5 = 0 then fX9_puts_121 (ms_j S 25 s1) a9 else fX9_puts_121 (ms_j S 25 s1) a7)
set_option maxHeartbeats 4000000 in
set_option maxRecDepth 100000 in
theorem wkX9_puts_105 {l : Launch} {g : xG} {x0 : xV} {mo sz : Nat} (hl : l.stackTraces = false) {r : MS} (S : MS) (a5 : Int32) (a7 : Int64) (a9 : Int64) (s1 : Int64) (hf : fX9_puts_105 S a5 a7 a9 s1 = some r) : AW MX9_puts rmX9_puts l g x0 (.inl none) (moE g mo sz r) 0 0 (moE g mo sz S) 105 [(0, .ref mo), (5, .int a5), (7, .long a7), (9, .long a9)] [.long s1, .ref mo] := by
  rw [fX9_puts_105] at hf
  refine mo_putJ 25 rfl (by decide) rfl rfl (wl4 (i := 123) rfl rfl) dX9_puts_105 ?_
  refine aw_aload_n 0 dX9_puts_108 rfl ?_
  refine aw_iload 1 dX9_puts_109 rfl ?_
  refine aw_if_ne 119 dX9_puts_111 (by decide) (fun c1 => ?_) (fun c1 => ?_)
  · rw [if_neg c1] at hf
    refine aw_lload 2 dX9_puts_119 rfl ?_
    refine aw_lv [] rfl ?_
    exact wkX9_puts_121 hl _ _ hf
  · rw [if_pos c1] at hf
    refine aw_lload 3 dX9_puts_114 rfl ?_
    refine aw_goto 121 dX9_puts_116 (by decide) ?_
    refine aw_lv [] rfl ?_
    exact wkX9_puts_121 hl _ _ hf
def fX9_puts_89 (S : MS) (a5 : Int32) (a7 : Int64) (a9 : Int64) (s1 : Int32) : Option (MS) :=
  (xbool s1).bind fun b1 => (if a5 = 0 then fX9_puts_105 (ms_i S 28 (bi b1)) a5 a7 a9 a7 else fX9_puts_105 (ms_i S 28 (bi b1)) a5 a7 a9 a9)
set_option maxHeartbeats 4000000 in
set_option maxRecDepth 100000 in
theorem wkX9_puts_89 {l : Launch} {g : xG} {x0 : xV} {mo sz : Nat} (hl : l.stackTraces = false) {r : MS} (S : MS) (a5 : Int32) (a7 : Int64) (a9 : Int64) (s1 : Int32) (hf : fX9_puts_89 S a5 a7 a9 s1 = some r) : AW MX9_puts rmX9_puts l g x0 (.inl none) (moE g mo sz r) 0 0 (moE g mo sz S) 89 [(0, .ref mo), (5, .int a5), (7, .long a7), (9, .long a9)] [.int s1, .ref mo] := by
  rw [fX9_puts_89] at hf
  obtain ⟨b1, hb1, hf⟩ := xbind hf
  rw [xbool_eq hb1]
  refine mo_putI 28 rfl (by decide) rfl (nar_b _) (fit_b _) rfl (wl4 (i := 126) rfl rfl) dX9_puts_89 ?_
  refine aw_aload_n 0 dX9_puts_92 rfl ?_
  refine aw_iload 1 dX9_puts_93 rfl ?_
  refine aw_if_ne 103 dX9_puts_95 (by decide) (fun c2 => ?_) (fun c2 => ?_)
  · rw [if_neg c2] at hf
    refine aw_lload 3 dX9_puts_103 rfl ?_
    refine aw_lv [0, 1, 2, 3] rfl ?_
    exact wkX9_puts_105 hl _ _ _ _ _ hf
  · rw [if_pos c2] at hf
    refine aw_lload 2 dX9_puts_98 rfl ?_
    refine aw_goto 105 dX9_puts_100 (by decide) ?_
    refine aw_lv [0, 1, 2, 3] rfl ?_
    exact wkX9_puts_105 hl _ _ _ _ _ hf
def fX9_puts_28 (S : MS) (a5 : Int32) (a6 : Int32) (a7 : Int64) (s0 : Int64) : Option (MS) :=
  (fX9_dead s0 a7 s0).bind fun q1 => (fX9_bits q1).bind fun q2 => (fX9_bit a6).bind fun q3 => (fX9_flood q3 a7).bind fun q4 => (fX9_free q4 a7 (s0 &&& (q1 ^^^ (-1 : Int64)))).bind fun q5 => (if q5 = (0 : Int64) then fX9_puts_89 (ms_i S 27 q2) a5 a7 (s0 &&& (q1 ^^^ (-1 : Int64))) (1 : Int32) else fX9_puts_89 (ms_i S 27 q2) a5 a7 (s0 &&& (q1 ^^^ (-1 : Int64))) (0 : Int32))
set_option maxHeartbeats 4000000 in
set_option maxRecDepth 100000 in
theorem wkX9_puts_28 {l : Launch} {g : xG} {x0 : xV} {mo sz : Nat} (hl : l.stackTraces = false) {r : MS} (S : MS) (a5 : Int32) (a6 : Int32) (a7 : Int64) (s0 : Int64) (hf : fX9_puts_28 S a5 a6 a7 s0 = some r) : AW MX9_puts rmX9_puts l g x0 (.inl none) (moE g mo sz r) 0 0 (moE g mo sz S) 28 [(0, .ref mo), (5, .int a5), (6, .int a6), (7, .long a7)] [.long s0] := by
  rw [fX9_puts_28] at hf
  refine aw_lstore [(9, .long s0), (0, .ref mo), (5, .int a5), (6, .int a6), (7, .long a7)] dX9_puts_28 (by decide) rfl ?_
  refine aw_lload 0 dX9_puts_30 rfl ?_
  refine aw_lload 4 dX9_puts_32 rfl ?_
  refine aw_lload 0 dX9_puts_34 rfl ?_
  obtain ⟨q1, hq1, hf⟩ := xbind hf
  refine aw_callS [.long s0, .long a7, .long s0] 3 (ctX9_dead hl _ _ _ hq1) ⟨wl5 (i := 85) rfl rfl, ciX9_dead⟩ (wl5 (i := 86) rfl rfl) dX9_puts_36 rfl rfl (Nat.le_of_ble_eq_true rfl) ⟨Nat.le_of_ble_eq_true rfl, Nat.le_of_ble_eq_true rfl⟩ ⟨Nat.le_of_ble_eq_true rfl, Nat.le_of_ble_eq_true rfl⟩ ?_
  refine aw_lstore [(11, .long q1), (9, .long s0), (0, .ref mo), (5, .int a5), (6, .int a6), (7, .long a7)] dX9_puts_39 (by decide) rfl ?_
  refine aw_lload 1 dX9_puts_41 rfl ?_
  refine aw_lload 0 dX9_puts_43 rfl ?_
  refine aw_ldc2 (-1 : Int64) rfl (wl5 (i := 97) rfl rfl) dX9_puts_45 ?_
  refine aw_lxor dX9_puts_48 ?_
  refine aw_land dX9_puts_49 ?_
  refine aw_lstore [(9, .long (s0 &&& (q1 ^^^ (-1 : Int64)))), (11, .long q1), (0, .ref mo), (5, .int a5), (6, .int a6), (7, .long a7)] dX9_puts_50 (by decide) rfl ?_
  refine aw_aload_n 2 dX9_puts_52 rfl ?_
  refine aw_lload 1 dX9_puts_53 rfl ?_
  obtain ⟨q2, hq2, hf⟩ := xbind hf
  refine aw_callS [.long q1] 1 (ctX9_bits hl _ hq2) ⟨wl5 (i := 101) rfl rfl, ciX9_bits⟩ (wl5 (i := 102) rfl rfl) dX9_puts_55 rfl rfl (Nat.le_of_ble_eq_true rfl) ⟨Nat.le_of_ble_eq_true rfl, Nat.le_of_ble_eq_true rfl⟩ ⟨Nat.le_of_ble_eq_true rfl, Nat.le_of_ble_eq_true rfl⟩ ?_
  refine mo_putI 27 rfl (by decide) rfl rfl rfl rfl (wl4 (i := 125) rfl rfl) dX9_puts_58 ?_
  refine aw_aload_n 2 dX9_puts_61 rfl ?_
  refine aw_iload 4 dX9_puts_62 rfl ?_
  obtain ⟨q3, hq3, hf⟩ := xbind hf
  refine aw_callS [.int a6] 1 (ctX9_bit hl _ hq3) ⟨wl5 (i := 51) rfl rfl, ciX9_bit⟩ (wl5 (i := 52) rfl rfl) dX9_puts_64 rfl rfl (Nat.le_of_ble_eq_true rfl) ⟨Nat.le_of_ble_eq_true rfl, Nat.le_of_ble_eq_true rfl⟩ ⟨Nat.le_of_ble_eq_true rfl, Nat.le_of_ble_eq_true rfl⟩ ?_
  refine aw_lload 5 dX9_puts_67 rfl ?_
  obtain ⟨q4, hq4, hf⟩ := xbind hf
  refine aw_callS [.long q3, .long a7] 2 (ctX9_flood hl _ _ hq4) ⟨wl5 (i := 88) rfl rfl, ciX9_flood⟩ (wl5 (i := 89) rfl rfl) dX9_puts_69 rfl rfl (Nat.le_of_ble_eq_true rfl) ⟨Nat.le_of_ble_eq_true rfl, Nat.le_of_ble_eq_true rfl⟩ ⟨Nat.le_of_ble_eq_true rfl, Nat.le_of_ble_eq_true rfl⟩ ?_
  refine aw_lload 5 dX9_puts_72 rfl ?_
  refine aw_lload 0 dX9_puts_74 rfl ?_
  obtain ⟨q5, hq5, hf⟩ := xbind hf
  refine aw_callS [.long q4, .long a7, .long (s0 &&& (q1 ^^^ (-1 : Int64)))] 3 (ctX9_free hl _ _ _ hq5) ⟨wl5 (i := 98) rfl rfl, ciX9_free⟩ (wl5 (i := 99) rfl rfl) dX9_puts_76 rfl rfl (Nat.le_of_ble_eq_true rfl) ⟨Nat.le_of_ble_eq_true rfl, Nat.le_of_ble_eq_true rfl⟩ ⟨Nat.le_of_ble_eq_true rfl, Nat.le_of_ble_eq_true rfl⟩ ?_
  refine aw_lconst (0 : Int64) dX9_puts_79 (by decide) ?_
  refine aw_lcmp_ne 88 dX9_puts_80 dX9_puts_81 (by decide) (fun c6 => ?_) (fun c6 => ?_)
  · rw [if_neg c6] at hf
    refine aw_iconst (0 : Int32) dX9_puts_88 (by decide) ?_
    refine aw_lv [2, 3, 5, 0] rfl ?_
    exact wkX9_puts_89 hl _ _ _ _ _ hf
  · rw [if_pos c6] at hf
    refine aw_iconst (1 : Int32) dX9_puts_84 (by decide) ?_
    refine aw_goto 89 dX9_puts_85 (by decide) ?_
    refine aw_lv [2, 3, 5, 0] rfl ?_
    exact wkX9_puts_89 hl _ _ _ _ _ hf
def fX9_puts_10 (S : MS) (a1 : Int64) (a3 : Int64) (a5 : Int32) (a6 : Int32) (s0 : Int64) : Option (MS) :=
  (fX9_bit a6).bind fun q1 => (if a5 = 0 then fX9_puts_28 S a5 a6 (s0 ||| q1) a3 else fX9_puts_28 S a5 a6 (s0 ||| q1) a1)
set_option maxHeartbeats 4000000 in
set_option maxRecDepth 100000 in
theorem wkX9_puts_10 {l : Launch} {g : xG} {x0 : xV} {mo sz : Nat} (hl : l.stackTraces = false) {r : MS} (S : MS) (a1 : Int64) (a3 : Int64) (a5 : Int32) (a6 : Int32) (s0 : Int64) (hf : fX9_puts_10 S a1 a3 a5 a6 s0 = some r) : AW MX9_puts rmX9_puts l g x0 (.inl none) (moE g mo sz r) 0 0 (moE g mo sz S) 10 [(0, .ref mo), (1, .long a1), (3, .long a3), (5, .int a5), (6, .int a6)] [.long s0] := by
  rw [fX9_puts_10] at hf
  refine aw_iload 4 dX9_puts_10 rfl ?_
  obtain ⟨q1, hq1, hf⟩ := xbind hf
  refine aw_callS [.int a6] 1 (ctX9_bit hl _ hq1) ⟨wl5 (i := 51) rfl rfl, ciX9_bit⟩ (wl5 (i := 52) rfl rfl) dX9_puts_12 rfl rfl (Nat.le_of_ble_eq_true rfl) ⟨Nat.le_of_ble_eq_true rfl, Nat.le_of_ble_eq_true rfl⟩ ⟨Nat.le_of_ble_eq_true rfl, Nat.le_of_ble_eq_true rfl⟩ ?_
  refine aw_lor dX9_puts_15 ?_
  refine aw_lstore [(7, .long (s0 ||| q1)), (0, .ref mo), (1, .long a1), (3, .long a3), (5, .int a5), (6, .int a6)] dX9_puts_16 (by decide) rfl ?_
  refine aw_iload 4 dX9_puts_18 rfl ?_
  refine aw_if_ne 27 dX9_puts_20 (by decide) (fun c2 => ?_) (fun c2 => ?_)
  · rw [if_neg c2] at hf
    refine aw_lload_n 2 dX9_puts_27 rfl ?_
    refine aw_lv [1, 4, 5, 0] rfl ?_
    exact wkX9_puts_28 hl _ _ _ _ _ hf
  · rw [if_pos c2] at hf
    refine aw_lload_n 3 dX9_puts_23 rfl ?_
    refine aw_goto 28 dX9_puts_24 (by decide) ?_
    refine aw_lv [1, 4, 5, 0] rfl ?_
    exact wkX9_puts_28 hl _ _ _ _ _ hf
def fX9_puts (S : MS) (a1 : Int64) (a3 : Int64) (a5 : Int32) (a6 : Int32) : Option (MS) :=
  (if a5 = 0 then fX9_puts_10 S a1 a3 a5 a6 a1 else fX9_puts_10 S a1 a3 a5 a6 a3)
set_option maxHeartbeats 4000000 in
set_option maxRecDepth 100000 in
theorem ctX9_puts {l : Launch} {g : xG} {mo sz : Nat} (hl : l.stackTraces = false) {r : MS} (S : MS) (a1 : Int64) (a3 : Int64) (a5 : Int32) (a6 : Int32) (hf : fX9_puts S a1 a3 a5 a6 = some r) : CT yX9_puts MX9_puts rmX9_puts l g [.ref mo, .long a1, .long a3, .int a5, .int a6] (moE g mo sz S) (.inl none) (moE g mo sz r) := by
  rw [fX9_puts] at hf
  refine CT.of (by decide +kernel) rfl rfl (Nat.le_of_ble_eq_true rfl) hl ?_
  show AW MX9_puts rmX9_puts l g (moE g mo sz S) (.inl none) (moE g mo sz r) 0 0 (moE g mo sz S) 0 [(0, .ref mo), (1, .long a1), (3, .long a3), (5, .int a5), (6, .int a6)] []
  refine aw_iload 3 dX9_puts_0 rfl ?_
  refine aw_if_ne 9 dX9_puts_2 (by decide) (fun c1 => ?_) (fun c1 => ?_)
  · rw [if_neg c1] at hf
    refine aw_lload_n 2 dX9_puts_9 rfl ?_
    refine aw_lv [0, 1, 2, 3, 4] rfl ?_
    exact wkX9_puts_10 hl _ _ _ _ _ _ hf
  · rw [if_pos c1] at hf
    refine aw_lload_n 1 dX9_puts_5 rfl ?_
    refine aw_goto 10 dX9_puts_6 (by decide) ?_
    refine aw_lv [0, 1, 2, 3, 4] rfl ?_
    exact wkX9_puts_10 hl _ _ _ _ _ _ hf
abbrev MX9_allowed : xM := (RX9, cX9_allowed, 13, (some .long), "allowed")
abbrev rmX9_allowed : Room := { frames := 4, cells := 0, slots := 0, locals := 111 }
theorem ciX9_allowed : Cond.code yX9_allowed cX9_allowed 13 (some .long) ∈ wt ∧ Cond.initialized yX9_allowed.cls ∈ wt ∧ (yX9_allowed.cls ≠ "java/lang/invoke/MethodHandle" ∧ yX9_allowed.cls ≠ "java/lang/invoke/VarHandle" ∧ (parseMethodDescriptor yX9_allowed.desc).map (fun d => d.parameters.length) = some 4) := ⟨wl5 (i := 233) rfl rfl, wl1 (i := 4) rfl rfl, by decide +kernel, by decide +kernel, by decide +kernel⟩
def fX9_allowed_49 (k7 : MS → Int64 → Int64 → Int32 → Int64 → Int64 → Option (Int64 × MS)) (S : MS) (a1 : Int64) (a3 : Int64) (a5 : Int32) (a10 : Int64) (s0 : Int64) (s1 : Int64) : Option (Int64 × MS) :=
  k7 S a1 a3 a5 (s0 ||| s1) (a10 &&& (a10 - (1 : Int64)))
set_option maxHeartbeats 4000000 in
set_option maxRecDepth 100000 in
theorem wkX9_allowed_49 {l : Launch} {g : xG} {x0 : xV} {mo sz : Nat} (hl : l.stackTraces = false) {r : Int64 × MS} (k7 : MS → Int64 → Int64 → Int32 → Int64 → Int64 → Option (Int64 × MS)) (hk7 : ∀ (S : MS) (a1 : Int64) (a3 : Int64) (a5 : Int32) (a8 : Int64) (a10 : Int64), k7 S a1 a3 a5 a8 a10 = some r → AW MX9_allowed rmX9_allowed l g x0 (.inl (some (.long r.1))) (moE g mo sz r.2) 0 0 (moE g mo sz S) 7 [(0, .ref mo), (1, .long a1), (3, .long a3), (5, .int a5), (8, .long a8), (10, .long a10)] []) (S : MS) (a1 : Int64) (a3 : Int64) (a5 : Int32) (a10 : Int64) (s0 : Int64) (s1 : Int64) (hf : fX9_allowed_49 k7 S a1 a3 a5 a10 s0 s1 = some r) : AW MX9_allowed rmX9_allowed l g x0 (.inl (some (.long r.1))) (moE g mo sz r.2) 0 0 (moE g mo sz S) 49 [(0, .ref mo), (1, .long a1), (3, .long a3), (5, .int a5), (10, .long a10)] [.long s1, .long s0] := by
  rw [fX9_allowed_49] at hf
  refine aw_lor dX9_allowed_49 ?_
  refine aw_lstore [(8, .long (s0 ||| s1)), (0, .ref mo), (1, .long a1), (3, .long a3), (5, .int a5), (10, .long a10)] dX9_allowed_50 (by decide) rfl ?_
  refine aw_lload 5 dX9_allowed_52 rfl ?_
  refine aw_lload 5 dX9_allowed_54 rfl ?_
  refine aw_lconst (1 : Int64) dX9_allowed_56 (by decide) ?_
  refine aw_lsub dX9_allowed_57 ?_
  refine aw_land dX9_allowed_58 ?_
  refine aw_lstore [(10, .long (a10 &&& (a10 - (1 : Int64)))), (8, .long (s0 ||| s1)), (0, .ref mo), (1, .long a1), (3, .long a3), (5, .int a5)] dX9_allowed_59 (by decide) rfl ?_
  refine aw_goto 7 dX9_allowed_61 (by decide) ?_
  refine aw_lv [2, 3, 4, 5, 1, 0] rfl ?_
  exact hk7 _ _ _ _ _ _ hf
def fX9_allowed_7 : Nat → MS → Int64 → Int64 → Int32 → Int64 → Int64 → Option (Int64 × MS)
  | 0, _, _, _, _, _, _ => none
  | n + 1, S, a1, a3, a5, a8, a10 =>
    (if a10 = (0 : Int64) then some (a8, S) else (fX9_lowest a10).bind fun q2 => (fX9_puts S a1 a3 a5 q2).bind fun q3 => (if (m_i q3 28) = 0 then (fX9_bit q2).bind fun q5 => fX9_allowed_49 (fX9_allowed_7 n) q3 a1 a3 a5 a10 a8 q5 else fX9_allowed_49 (fX9_allowed_7 n) q3 a1 a3 a5 a10 a8 (0 : Int64)))
set_option maxHeartbeats 4000000 in
set_option maxRecDepth 100000 in
theorem wkX9_allowed_7 {l : Launch} {g : xG} {x0 : xV} {mo sz : Nat} (hl : l.stackTraces = false) {r : Int64 × MS} : ∀ (n : Nat) (S : MS) (a1 : Int64) (a3 : Int64) (a5 : Int32) (a8 : Int64) (a10 : Int64), fX9_allowed_7 n S a1 a3 a5 a8 a10 = some r → AW MX9_allowed rmX9_allowed l g x0 (.inl (some (.long r.1))) (moE g mo sz r.2) 0 0 (moE g mo sz S) 7 [(0, .ref mo), (1, .long a1), (3, .long a3), (5, .int a5), (8, .long a8), (10, .long a10)] [] := by
  intro n
  induction n with
  | zero => intro S a1 a3 a5 a8 a10 hf; exact absurd hf (by simp [fX9_allowed_7])
  | succ n hk7 =>
    intro S a1 a3 a5 a8 a10 hf
    rw [fX9_allowed_7] at hf
    refine aw_lload 5 dX9_allowed_7 rfl ?_
    refine aw_lconst (0 : Int64) dX9_allowed_9 (by decide) ?_
    refine aw_lcmp_eq 64 dX9_allowed_10 dX9_allowed_11 (by decide) (fun c1 => ?_) (fun c1 => ?_)
    · rw [if_pos c1] at hf
      refine aw_lload 4 dX9_allowed_64 rfl ?_
      cases hf
      exact aw_lret dX9_allowed_66 rfl rfl rfl ⟨Nat.le_of_ble_eq_true rfl, Nat.le_of_ble_eq_true rfl⟩
    · rw [if_neg c1] at hf
      refine aw_lload 5 dX9_allowed_14 rfl ?_
      obtain ⟨q2, hq2, hf⟩ := xbind hf
      refine aw_callS [.long a10] 1 (ctX9_lowest hl _ hq2) ⟨wl5 (i := 223) rfl rfl, ciX9_lowest⟩ (wl5 (i := 224) rfl rfl) dX9_allowed_16 rfl rfl (Nat.le_of_ble_eq_true rfl) ⟨Nat.le_of_ble_eq_true rfl, Nat.le_of_ble_eq_true rfl⟩ ⟨Nat.le_of_ble_eq_true rfl, Nat.le_of_ble_eq_true rfl⟩ ?_
      refine aw_istore [(12, .int q2), (0, .ref mo), (1, .long a1), (3, .long a3), (5, .int a5), (8, .long a8), (10, .long a10)] dX9_allowed_19 (by decide) rfl ?_
      refine aw_aload_n 1 dX9_allowed_21 rfl ?_
      refine aw_lload_n 2 dX9_allowed_22 rfl ?_
      refine aw_lload_n 3 dX9_allowed_23 rfl ?_
      refine aw_iload 4 dX9_allowed_24 rfl ?_
      refine aw_iload 0 dX9_allowed_26 rfl ?_
      obtain ⟨q3, hq3, hf⟩ := xbind hf
      refine aw_callV 7 (some mo) [.long a1, .long a3, .int a5, .int q2] 4 rfl mo_ob rfl rfl (ctX9_puts hl _ _ _ _ _ hq3) ⟨wl5 (i := 81) rfl rfl, ciX9_puts⟩ (wl5 (i := 83) rfl rfl) (wl0 (i := 30) rfl rfl) dX9_allowed_28 rfl rfl (Nat.le_of_ble_eq_true rfl) ⟨Nat.le_of_ble_eq_true rfl, Nat.le_of_ble_eq_true rfl⟩ ⟨Nat.le_of_ble_eq_true rfl, Nat.le_of_ble_eq_true rfl⟩ ?_
      refine aw_lload 5 dX9_allowed_31 rfl ?_
      refine aw_aload_n 1 dX9_allowed_33 rfl ?_
      refine mo_getI 28 rfl (by decide) (wl4 (i := 126) rfl rfl) dX9_allowed_34 ?_
      refine aw_if_eq 44 dX9_allowed_37 (by decide) (fun c4 => ?_) (fun c4 => ?_)
      · rw [if_pos c4] at hf
        refine aw_iload 0 dX9_allowed_44 rfl ?_
        obtain ⟨q5, hq5, hf⟩ := xbind hf
        refine aw_callS [.int q2] 1 (ctX9_bit hl _ hq5) ⟨wl5 (i := 51) rfl rfl, ciX9_bit⟩ (wl5 (i := 52) rfl rfl) dX9_allowed_46 rfl rfl (Nat.le_of_ble_eq_true rfl) ⟨Nat.le_of_ble_eq_true rfl, Nat.le_of_ble_eq_true rfl⟩ ⟨Nat.le_of_ble_eq_true rfl, Nat.le_of_ble_eq_true rfl⟩ ?_
        refine aw_lv [1, 2, 3, 4, 6] rfl ?_
        exact wkX9_allowed_49 hl _ hk7 _ _ _ _ _ _ _ hf
      · rw [if_neg c4] at hf
        refine aw_lconst (0 : Int64) dX9_allowed_40 (by decide) ?_
        refine aw_goto 49 dX9_allowed_41 (by decide) ?_
        refine aw_lv [1, 2, 3, 4, 6] rfl ?_
        exact wkX9_allowed_49 hl _ hk7 _ _ _ _ _ _ _ hf
def fX9_allowed (S : MS) (a1 : Int64) (a3 : Int64) (a5 : Int32) (a6 : Int64) : Option (Int64 × MS) :=
  fX9_allowed_7 FU S a1 a3 a5 (0 : Int64) a6
set_option maxHeartbeats 4000000 in
set_option maxRecDepth 100000 in
theorem ctX9_allowed {l : Launch} {g : xG} {mo sz : Nat} (hl : l.stackTraces = false) {r : Int64 × MS} (S : MS) (a1 : Int64) (a3 : Int64) (a5 : Int32) (a6 : Int64) (hf : fX9_allowed S a1 a3 a5 a6 = some r) : CT yX9_allowed MX9_allowed rmX9_allowed l g [.ref mo, .long a1, .long a3, .int a5, .long a6] (moE g mo sz S) (.inl (some (.long r.1))) (moE g mo sz r.2) := by
  rw [fX9_allowed] at hf
  refine CT.of (by decide +kernel) rfl rfl (Nat.le_of_ble_eq_true rfl) hl ?_
  show AW MX9_allowed rmX9_allowed l g (moE g mo sz S) (.inl (some (.long r.1))) (moE g mo sz r.2) 0 0 (moE g mo sz S) 0 [(0, .ref mo), (1, .long a1), (3, .long a3), (5, .int a5), (6, .long a6)] []
  refine aw_lconst (0 : Int64) dX9_allowed_0 (by decide) ?_
  refine aw_lstore [(8, .long (0 : Int64)), (0, .ref mo), (1, .long a1), (3, .long a3), (5, .int a5), (6, .long a6)] dX9_allowed_1 (by decide) rfl ?_
  refine aw_lload 5 dX9_allowed_3 rfl ?_
  refine aw_lstore [(10, .long a6), (8, .long (0 : Int64)), (0, .ref mo), (1, .long a1), (3, .long a3), (5, .int a5), (6, .long a6)] dX9_allowed_5 (by decide) rfl ?_
  refine aw_lv [2, 3, 4, 5, 1, 0] rfl ?_
  exact wkX9_allowed_7 hl _ _ _ _ _ _ _ hf
abbrev MX9_apart : xM := (RX9, cX9_apart, 3, (some .int), "apart")
abbrev rmX9_apart : Room := { frames := 0, cells := 0, slots := 0, locals := 0 }
theorem ciX9_apart : Cond.code yX9_apart cX9_apart 3 (some .int) ∈ wt ∧ Cond.initialized yX9_apart.cls ∈ wt ∧ (yX9_apart.cls ≠ "java/lang/invoke/MethodHandle" ∧ yX9_apart.cls ≠ "java/lang/invoke/VarHandle" ∧ (parseMethodDescriptor yX9_apart.desc).map (fun d => d.parameters.length) = some 2) := ⟨wl5 (i := 47) rfl rfl, wl1 (i := 4) rfl rfl, by decide +kernel, by decide +kernel, by decide +kernel⟩
def fX9_apart (S : MS) (a1 : Int32) (a2 : Int32) : Option (Int32) :=
  (if xin a1 8 = true then (if xin a2 8 = true then (if (m_I S 1 a2.toNatClampNeg) ≤ (m_I S 1 a1.toNatClampNeg) then some ((m_I S 1 a1.toNatClampNeg) - (m_I S 1 a2.toNatClampNeg)) else some ((m_I S 1 a2.toNatClampNeg) - (m_I S 1 a1.toNatClampNeg))) else none) else none)
set_option maxHeartbeats 4000000 in
set_option maxRecDepth 100000 in
theorem ctX9_apart {l : Launch} {g : xG} {mo sz : Nat} (hl : l.stackTraces = false) {r : Int32} (S : MS) (a1 : Int32) (a2 : Int32) (hf : fX9_apart S a1 a2 = some r) : CT yX9_apart MX9_apart rmX9_apart l g [.ref mo, .int a1, .int a2] (moE g mo sz S) (.inl (some (.int r))) (moE g mo sz S) := by
  rw [fX9_apart] at hf
  refine CT.of (by decide +kernel) rfl rfl (Nat.le_of_ble_eq_true rfl) hl ?_
  show AW MX9_apart rmX9_apart l g (moE g mo sz S) (.inl (some (.int r))) (moE g mo sz S) 0 0 (moE g mo sz S) 0 [(0, .ref mo), (1, .int a1), (2, .int a2)] []
  refine aw_aload_n 0 dX9_apart_0 rfl ?_
  refine mo_getR 2 1 rfl (by decide) (wl4 (i := 100) rfl rfl) dX9_apart_1 ?_
  refine aw_iload_n 1 dX9_apart_4 rfl ?_
  obtain ⟨hi1, hf⟩ := xifn hf
  refine mo_iald 1 8 rfl (xin_v hi1) dX9_apart_5 ?_
  refine aw_aload_n 0 dX9_apart_6 rfl ?_
  refine mo_getR 2 1 rfl (by decide) (wl4 (i := 100) rfl rfl) dX9_apart_7 ?_
  refine aw_iload_n 2 dX9_apart_10 rfl ?_
  obtain ⟨hi2, hf⟩ := xifn hf
  refine mo_iald 1 8 rfl (xin_v hi2) dX9_apart_11 ?_
  refine aw_icmp_ge 31 dX9_apart_12 (by decide) (fun c3 => ?_) (fun c3 => ?_)
  · rw [if_pos c3] at hf
    refine aw_aload_n 0 dX9_apart_31 rfl ?_
    refine mo_getR 2 1 rfl (by decide) (wl4 (i := 100) rfl rfl) dX9_apart_32 ?_
    refine aw_iload_n 1 dX9_apart_35 rfl ?_
    refine mo_iald 1 8 rfl (xin_v hi1) dX9_apart_36 ?_
    refine aw_aload_n 0 dX9_apart_37 rfl ?_
    refine mo_getR 2 1 rfl (by decide) (wl4 (i := 100) rfl rfl) dX9_apart_38 ?_
    refine aw_iload_n 2 dX9_apart_41 rfl ?_
    refine mo_iald 1 8 rfl (xin_v hi2) dX9_apart_42 ?_
    refine aw_isub dX9_apart_43 ?_
    cases hf
    exact aw_iret dX9_apart_44 rfl rfl rfl ⟨Nat.le_of_ble_eq_true rfl, Nat.le_of_ble_eq_true rfl⟩
  · rw [if_neg c3] at hf
    refine aw_aload_n 0 dX9_apart_15 rfl ?_
    refine mo_getR 2 1 rfl (by decide) (wl4 (i := 100) rfl rfl) dX9_apart_16 ?_
    refine aw_iload_n 2 dX9_apart_19 rfl ?_
    refine mo_iald 1 8 rfl (xin_v hi2) dX9_apart_20 ?_
    refine aw_aload_n 0 dX9_apart_21 rfl ?_
    refine mo_getR 2 1 rfl (by decide) (wl4 (i := 100) rfl rfl) dX9_apart_22 ?_
    refine aw_iload_n 1 dX9_apart_25 rfl ?_
    refine mo_iald 1 8 rfl (xin_v hi1) dX9_apart_26 ?_
    refine aw_isub dX9_apart_27 ?_
    refine aw_goto 44 dX9_apart_28 (by decide) ?_
    cases hf
    exact aw_iret dX9_apart_44 rfl rfl rfl ⟨Nat.le_of_ble_eq_true rfl, Nat.le_of_ble_eq_true rfl⟩
abbrev MX9_chainAt : xM := (RX9, cX9_chainAt, 5, (some .long), "chainAt")
abbrev rmX9_chainAt : Room := { frames := 2, cells := 0, slots := 0, locals := 48 }
theorem ciX9_chainAt : Cond.code yX9_chainAt cX9_chainAt 5 (some .long) ∈ wt ∧ Cond.initialized yX9_chainAt.cls ∈ wt ∧ (yX9_chainAt.cls ≠ "java/lang/invoke/MethodHandle" ∧ yX9_chainAt.cls ≠ "java/lang/invoke/VarHandle" ∧ (parseMethodDescriptor yX9_chainAt.desc).map (fun d => d.parameters.length) = some 3) := ⟨wl5 (i := 170) rfl rfl, wl1 (i := 4) rfl rfl, by decide +kernel, by decide +kernel, by decide +kernel⟩
def fX9_chainAt_22 (s0 : Int64) (s1 : Int64) : Option (Int64) :=
  (fX9_flood s0 s1).bind fun q1 => some q1
set_option maxHeartbeats 4000000 in
set_option maxRecDepth 100000 in
theorem wkX9_chainAt_22 {l : Launch} {g : xG} {x0 : xV} {mo sz : Nat} {S : MS} (hl : l.stackTraces = false) {r : Int64} (s0 : Int64) (s1 : Int64) (hf : fX9_chainAt_22 s0 s1 = some r) : AW MX9_chainAt rmX9_chainAt l g x0 (.inl (some (.long r))) (moE g mo sz S) 0 0 (moE g mo sz S) 22 [] [.long s1, .long s0] := by
  rw [fX9_chainAt_22] at hf
  obtain ⟨q1, hq1, hf⟩ := xbind hf
  refine aw_callS [.long s0, .long s1] 2 (ctX9_flood hl _ _ hq1) ⟨wl5 (i := 88) rfl rfl, ciX9_flood⟩ (wl5 (i := 89) rfl rfl) dX9_chainAt_22 rfl rfl (Nat.le_of_ble_eq_true rfl) ⟨Nat.le_of_ble_eq_true rfl, Nat.le_of_ble_eq_true rfl⟩ ⟨Nat.le_of_ble_eq_true rfl, Nat.le_of_ble_eq_true rfl⟩ ?_
  cases hf
  exact aw_lret dX9_chainAt_25 rfl rfl rfl ⟨Nat.le_of_ble_eq_true rfl, Nat.le_of_ble_eq_true rfl⟩
def fX9_chainAt (a0 : Int64) (a2 : Int64) (a4 : Int32) : Option (Int64) :=
  (fX9_bit a4).bind fun q1 => (fX9_bit a4).bind fun q2 => (if (a0 &&& q2) = (0 : Int64) then fX9_chainAt_22 q1 a2 else fX9_chainAt_22 q1 a0)
set_option maxHeartbeats 4000000 in
set_option maxRecDepth 100000 in
theorem ctX9_chainAt {l : Launch} {g : xG} {mo sz : Nat} {S : MS} (hl : l.stackTraces = false) {r : Int64} (a0 : Int64) (a2 : Int64) (a4 : Int32) (hf : fX9_chainAt a0 a2 a4 = some r) : CT yX9_chainAt MX9_chainAt rmX9_chainAt l g [.long a0, .long a2, .int a4] (moE g mo sz S) (.inl (some (.long r))) (moE g mo sz S) := by
  rw [fX9_chainAt] at hf
  refine CT.of (by decide +kernel) rfl rfl (Nat.le_of_ble_eq_true rfl) hl ?_
  show AW MX9_chainAt rmX9_chainAt l g (moE g mo sz S) (.inl (some (.long r))) (moE g mo sz S) 0 0 (moE g mo sz S) 0 [(0, .long a0), (2, .long a2), (4, .int a4)] []
  refine aw_iload 2 dX9_chainAt_0 rfl ?_
  obtain ⟨q1, hq1, hf⟩ := xbind hf
  refine aw_callS [.int a4] 1 (ctX9_bit hl _ hq1) ⟨wl5 (i := 51) rfl rfl, ciX9_bit⟩ (wl5 (i := 52) rfl rfl) dX9_chainAt_2 rfl rfl (Nat.le_of_ble_eq_true rfl) ⟨Nat.le_of_ble_eq_true rfl, Nat.le_of_ble_eq_true rfl⟩ ⟨Nat.le_of_ble_eq_true rfl, Nat.le_of_ble_eq_true rfl⟩ ?_
  refine aw_lload_n 0 dX9_chainAt_5 rfl ?_
  refine aw_iload 2 dX9_chainAt_6 rfl ?_
  obtain ⟨q2, hq2, hf⟩ := xbind hf
  refine aw_callS [.int a4] 1 (ctX9_bit hl _ hq2) ⟨wl5 (i := 51) rfl rfl, ciX9_bit⟩ (wl5 (i := 52) rfl rfl) dX9_chainAt_8 rfl rfl (Nat.le_of_ble_eq_true rfl) ⟨Nat.le_of_ble_eq_true rfl, Nat.le_of_ble_eq_true rfl⟩ ⟨Nat.le_of_ble_eq_true rfl, Nat.le_of_ble_eq_true rfl⟩ ?_
  refine aw_land dX9_chainAt_11 ?_
  refine aw_lconst (0 : Int64) dX9_chainAt_12 (by decide) ?_
  refine aw_lcmp_eq 21 dX9_chainAt_13 dX9_chainAt_14 (by decide) (fun c3 => ?_) (fun c3 => ?_)
  · rw [if_pos c3] at hf
    refine aw_lload_n 1 dX9_chainAt_21 rfl ?_
    refine aw_lv [] rfl ?_
    exact wkX9_chainAt_22 hl _ _ hf
  · rw [if_neg c3] at hf
    refine aw_lload_n 0 dX9_chainAt_17 rfl ?_
    refine aw_goto 22 dX9_chainAt_18 (by decide) ?_
    refine aw_lv [] rfl ?_
    exact wkX9_chainAt_22 hl _ _ hf
abbrev MX9_attacks : xM := (RX9, cX9_attacks, 11, (some .long), "attacks")
abbrev rmX9_attacks : Room := { frames := 3, cells := 0, slots := 0, locals := 72 }
theorem ciX9_attacks : Cond.code yX9_attacks cX9_attacks 11 (some .long) ∈ wt ∧ Cond.initialized yX9_attacks.cls ∈ wt ∧ (yX9_attacks.cls ≠ "java/lang/invoke/MethodHandle" ∧ yX9_attacks.cls ≠ "java/lang/invoke/VarHandle" ∧ (parseMethodDescriptor yX9_attacks.desc).map (fun d => d.parameters.length) = some 4) := ⟨wl5 (i := 222) rfl rfl, wl1 (i := 4) rfl rfl, by decide +kernel, by decide +kernel, by decide +kernel⟩
def fX9_attacks (a1 : Int64) (a3 : Int64) (a5 : Int32) (a6 : Int32) : Option (Int64) :=
  (fX9_chainAt a1 a3 a5).bind fun q1 => (fX9_free q1 a1 a3).bind fun q2 => (fX9_bits q2).bind fun q3 => (if q3 ≤ a6 then (if a6 = (2 : Int32) then some q2 else (fX9_around q2).bind fun q6 => some (q2 ||| (q6 &&& ((a1 ||| a3) ^^^ (-1 : Int64))))) else some (0 : Int64))
set_option maxHeartbeats 4000000 in
set_option maxRecDepth 100000 in
theorem ctX9_attacks {l : Launch} {g : xG} {mo sz : Nat} {S : MS} (hl : l.stackTraces = false) {r : Int64} (a1 : Int64) (a3 : Int64) (a5 : Int32) (a6 : Int32) (hf : fX9_attacks a1 a3 a5 a6 = some r) : CT yX9_attacks MX9_attacks rmX9_attacks l g [.ref mo, .long a1, .long a3, .int a5, .int a6] (moE g mo sz S) (.inl (some (.long r))) (moE g mo sz S) := by
  rw [fX9_attacks] at hf
  refine CT.of (by decide +kernel) rfl rfl (Nat.le_of_ble_eq_true rfl) hl ?_
  show AW MX9_attacks rmX9_attacks l g (moE g mo sz S) (.inl (some (.long r))) (moE g mo sz S) 0 0 (moE g mo sz S) 0 [(0, .ref mo), (1, .long a1), (3, .long a3), (5, .int a5), (6, .int a6)] []
  refine aw_lload_n 1 dX9_attacks_0 rfl ?_
  refine aw_lload_n 2 dX9_attacks_1 rfl ?_
  refine aw_iload 3 dX9_attacks_2 rfl ?_
  obtain ⟨q1, hq1, hf⟩ := xbind hf
  refine aw_callS [.long a1, .long a3, .int a5] 3 (ctX9_chainAt hl _ _ _ hq1) ⟨wl5 (i := 168) rfl rfl, ciX9_chainAt⟩ (wl5 (i := 169) rfl rfl) dX9_attacks_4 rfl rfl (Nat.le_of_ble_eq_true rfl) ⟨Nat.le_of_ble_eq_true rfl, Nat.le_of_ble_eq_true rfl⟩ ⟨Nat.le_of_ble_eq_true rfl, Nat.le_of_ble_eq_true rfl⟩ ?_
  refine aw_lstore [(7, .long q1), (0, .ref mo), (1, .long a1), (3, .long a3), (5, .int a5), (6, .int a6)] dX9_attacks_7 (by decide) rfl ?_
  refine aw_lload 0 dX9_attacks_9 rfl ?_
  refine aw_lload_n 2 dX9_attacks_11 rfl ?_
  refine aw_lload_n 3 dX9_attacks_12 rfl ?_
  obtain ⟨q2, hq2, hf⟩ := xbind hf
  refine aw_callS [.long q1, .long a1, .long a3] 3 (ctX9_free hl _ _ _ hq2) ⟨wl5 (i := 98) rfl rfl, ciX9_free⟩ (wl5 (i := 99) rfl rfl) dX9_attacks_13 rfl rfl (Nat.le_of_ble_eq_true rfl) ⟨Nat.le_of_ble_eq_true rfl, Nat.le_of_ble_eq_true rfl⟩ ⟨Nat.le_of_ble_eq_true rfl, Nat.le_of_ble_eq_true rfl⟩ ?_
  refine aw_lstore [(9, .long q2), (7, .long q1), (0, .ref mo), (1, .long a1), (3, .long a3), (5, .int a5), (6, .int a6)] dX9_attacks_16 (by decide) rfl ?_
  refine aw_lload 0 dX9_attacks_18 rfl ?_
  obtain ⟨q3, hq3, hf⟩ := xbind hf
  refine aw_callS [.long q2] 1 (ctX9_bits hl _ hq3) ⟨wl5 (i := 101) rfl rfl, ciX9_bits⟩ (wl5 (i := 102) rfl rfl) dX9_attacks_20 rfl rfl (Nat.le_of_ble_eq_true rfl) ⟨Nat.le_of_ble_eq_true rfl, Nat.le_of_ble_eq_true rfl⟩ ⟨Nat.le_of_ble_eq_true rfl, Nat.le_of_ble_eq_true rfl⟩ ?_
  refine aw_iload 6 dX9_attacks_23 rfl ?_
  refine aw_icmp_le 30 dX9_attacks_25 (by decide) (fun c4 => ?_) (fun c4 => ?_)
  · rw [if_pos c4] at hf
    refine aw_iload 6 dX9_attacks_30 rfl ?_
    refine aw_iconst (2 : Int32) dX9_attacks_32 (by decide) ?_
    refine aw_icmp_ne 41 dX9_attacks_33 (by decide) (fun c5 => ?_) (fun c5 => ?_)
    · rw [if_neg c5] at hf
      refine aw_lload 0 dX9_attacks_41 rfl ?_
      refine aw_lload 0 dX9_attacks_43 rfl ?_
      obtain ⟨q6, hq6, hf⟩ := xbind hf
      refine aw_callS [.long q2] 1 (ctX9_around hl _ hq6) ⟨wl5 (i := 91) rfl rfl, ciX9_around⟩ (wl5 (i := 92) rfl rfl) dX9_attacks_45 rfl rfl (Nat.le_of_ble_eq_true rfl) ⟨Nat.le_of_ble_eq_true rfl, Nat.le_of_ble_eq_true rfl⟩ ⟨Nat.le_of_ble_eq_true rfl, Nat.le_of_ble_eq_true rfl⟩ ?_
      refine aw_lload_n 3 dX9_attacks_48 rfl ?_
      refine aw_lload_n 4 dX9_attacks_49 rfl ?_
      refine aw_lor dX9_attacks_50 ?_
      refine aw_ldc2 (-1 : Int64) rfl (wl5 (i := 97) rfl rfl) dX9_attacks_51 ?_
      refine aw_lxor dX9_attacks_54 ?_
      refine aw_land dX9_attacks_55 ?_
      refine aw_lor dX9_attacks_56 ?_
      cases hf
      exact aw_lret dX9_attacks_57 rfl rfl rfl ⟨Nat.le_of_ble_eq_true rfl, Nat.le_of_ble_eq_true rfl⟩
    · rw [if_pos c5] at hf
      refine aw_lload 0 dX9_attacks_36 rfl ?_
      refine aw_goto 57 dX9_attacks_38 (by decide) ?_
      cases hf
      exact aw_lret dX9_attacks_57 rfl rfl rfl ⟨Nat.le_of_ble_eq_true rfl, Nat.le_of_ble_eq_true rfl⟩
  · rw [if_neg c4] at hf
    refine aw_lconst (0 : Int64) dX9_attacks_28 (by decide) ?_
    cases hf
    exact aw_lret dX9_attacks_29 rfl rfl rfl ⟨Nat.le_of_ble_eq_true rfl, Nat.le_of_ble_eq_true rfl⟩
abbrev MX9_blackOf : xM := (RX9, cX9_blackOf, 3, (some .int), "blackOf")
abbrev rmX9_blackOf : Room := { frames := 0, cells := 0, slots := 0, locals := 0 }
theorem ciX9_blackOf : Cond.code yX9_blackOf cX9_blackOf 3 (some .int) ∈ wt ∧ Cond.initialized yX9_blackOf.cls ∈ wt ∧ (yX9_blackOf.cls ≠ "java/lang/invoke/MethodHandle" ∧ yX9_blackOf.cls ≠ "java/lang/invoke/VarHandle" ∧ (parseMethodDescriptor yX9_blackOf.desc).map (fun d => d.parameters.length) = some 2) := ⟨wl5 (i := 39) rfl rfl, wl1 (i := 4) rfl rfl, by decide +kernel, by decide +kernel, by decide +kernel⟩
def fX9_blackOf (S : MS) (a1 : Int32) (a2 : Int32) : Option (Int32) :=
  (if xin a2 8 = true then (if xin a1 8 = true then (if (m_I S 1 a1.toNatClampNeg) ≤ (m_I S 1 a2.toNatClampNeg) then some a1 else some a2) else none) else none)
set_option maxHeartbeats 4000000 in
set_option maxRecDepth 100000 in
theorem ctX9_blackOf {l : Launch} {g : xG} {mo sz : Nat} (hl : l.stackTraces = false) {r : Int32} (S : MS) (a1 : Int32) (a2 : Int32) (hf : fX9_blackOf S a1 a2 = some r) : CT yX9_blackOf MX9_blackOf rmX9_blackOf l g [.ref mo, .int a1, .int a2] (moE g mo sz S) (.inl (some (.int r))) (moE g mo sz S) := by
  rw [fX9_blackOf] at hf
  refine CT.of (by decide +kernel) rfl rfl (Nat.le_of_ble_eq_true rfl) hl ?_
  show AW MX9_blackOf rmX9_blackOf l g (moE g mo sz S) (.inl (some (.int r))) (moE g mo sz S) 0 0 (moE g mo sz S) 0 [(0, .ref mo), (1, .int a1), (2, .int a2)] []
  refine aw_aload_n 0 dX9_blackOf_0 rfl ?_
  refine mo_getR 2 1 rfl (by decide) (wl4 (i := 100) rfl rfl) dX9_blackOf_1 ?_
  refine aw_iload_n 2 dX9_blackOf_4 rfl ?_
  obtain ⟨hi1, hf⟩ := xifn hf
  refine mo_iald 1 8 rfl (xin_v hi1) dX9_blackOf_5 ?_
  refine aw_aload_n 0 dX9_blackOf_6 rfl ?_
  refine mo_getR 2 1 rfl (by decide) (wl4 (i := 100) rfl rfl) dX9_blackOf_7 ?_
  refine aw_iload_n 1 dX9_blackOf_10 rfl ?_
  obtain ⟨hi2, hf⟩ := xifn hf
  refine mo_iald 1 8 rfl (xin_v hi2) dX9_blackOf_11 ?_
  refine aw_icmp_ge 19 dX9_blackOf_12 (by decide) (fun c3 => ?_) (fun c3 => ?_)
  · rw [if_pos c3] at hf
    refine aw_iload_n 1 dX9_blackOf_19 rfl ?_
    cases hf
    exact aw_iret dX9_blackOf_20 rfl rfl rfl ⟨Nat.le_of_ble_eq_true rfl, Nat.le_of_ble_eq_true rfl⟩
  · rw [if_neg c3] at hf
    refine aw_iload_n 2 dX9_blackOf_15 rfl ?_
    refine aw_goto 20 dX9_blackOf_16 (by decide) ?_
    cases hf
    exact aw_iret dX9_blackOf_20 rfl rfl rfl ⟨Nat.le_of_ble_eq_true rfl, Nat.le_of_ble_eq_true rfl⟩
abbrev MX9_isIn : xM := (RX9, cX9_isIn, 3, (some .boolean), "isIn")
abbrev rmX9_isIn : Room := { frames := 0, cells := 0, slots := 0, locals := 0 }
theorem ciX9_isIn : Cond.code yX9_isIn cX9_isIn 3 (some .boolean) ∈ wt ∧ Cond.initialized yX9_isIn.cls ∈ wt ∧ (yX9_isIn.cls ≠ "java/lang/invoke/MethodHandle" ∧ yX9_isIn.cls ≠ "java/lang/invoke/VarHandle" ∧ (parseMethodDescriptor yX9_isIn.desc).map (fun d => d.parameters.length) = some 3) := ⟨wl5 (i := 15) rfl rfl, wl1 (i := 4) rfl rfl, by decide +kernel, by decide +kernel, by decide +kernel⟩
def fX9_isIn (a0 : Int32) (a1 : Int32) (a2 : Int32) : Option (Bool) :=
  (if a0 < a1 then some false else (if a2 < a0 then some false else some true))
set_option maxHeartbeats 4000000 in
set_option maxRecDepth 100000 in
theorem ctX9_isIn {l : Launch} {g : xG} {mo sz : Nat} {S : MS} (hl : l.stackTraces = false) {r : Bool} (a0 : Int32) (a1 : Int32) (a2 : Int32) (hf : fX9_isIn a0 a1 a2 = some r) : CT yX9_isIn MX9_isIn rmX9_isIn l g [.int a0, .int a1, .int a2] (moE g mo sz S) (.inl (some (.int (bi r)))) (moE g mo sz S) := by
  rw [fX9_isIn] at hf
  refine CT.of (by decide +kernel) rfl rfl (Nat.le_of_ble_eq_true rfl) hl ?_
  show AW MX9_isIn rmX9_isIn l g (moE g mo sz S) (.inl (some (.int (bi r)))) (moE g mo sz S) 0 0 (moE g mo sz S) 0 [(0, .int a0), (1, .int a1), (2, .int a2)] []
  refine aw_iload_n 0 dX9_isIn_0 rfl ?_
  refine aw_iload_n 1 dX9_isIn_1 rfl ?_
  refine aw_icmp_lt 14 dX9_isIn_2 (by decide) (fun c1 => ?_) (fun c1 => ?_)
  · rw [if_pos c1] at hf
    refine aw_iconst (0 : Int32) dX9_isIn_14 (by decide) ?_
    cases hf
    exact aw_zret dX9_isIn_15 rfl rfl rfl rfl ⟨Nat.le_of_ble_eq_true rfl, Nat.le_of_ble_eq_true rfl⟩
  · rw [if_neg c1] at hf
    refine aw_iload_n 0 dX9_isIn_5 rfl ?_
    refine aw_iload_n 2 dX9_isIn_6 rfl ?_
    refine aw_icmp_gt 14 dX9_isIn_7 (by decide) (fun c2 => ?_) (fun c2 => ?_)
    · rw [if_pos c2] at hf
      refine aw_iconst (0 : Int32) dX9_isIn_14 (by decide) ?_
      cases hf
      exact aw_zret dX9_isIn_15 rfl rfl rfl rfl ⟨Nat.le_of_ble_eq_true rfl, Nat.le_of_ble_eq_true rfl⟩
    · rw [if_neg c2] at hf
      refine aw_iconst (1 : Int32) dX9_isIn_10 (by decide) ?_
      refine aw_goto 15 dX9_isIn_11 (by decide) ?_
      cases hf
      exact aw_zret dX9_isIn_15 rfl rfl rfl rfl ⟨Nat.le_of_ble_eq_true rfl, Nat.le_of_ble_eq_true rfl⟩
abbrev MX9_isNode : xM := (RX9, cX9_isNode, 2, (some .boolean), "isNode")
abbrev rmX9_isNode : Room := { frames := 1, cells := 0, slots := 0, locals := 22 }
theorem ciX9_isNode : Cond.code yX9_isNode cX9_isNode 2 (some .boolean) ∈ wt ∧ Cond.initialized yX9_isNode.cls ∈ wt ∧ (yX9_isNode.cls ≠ "java/lang/invoke/MethodHandle" ∧ yX9_isNode.cls ≠ "java/lang/invoke/VarHandle" ∧ (parseMethodDescriptor yX9_isNode.desc).map (fun d => d.parameters.length) = some 1) := ⟨wl6 (i := 17) rfl rfl, wl1 (i := 4) rfl rfl, by decide +kernel, by decide +kernel, by decide +kernel⟩
def fX9_isNode (S : MS) (a1 : Int32) : Option (Bool) :=
  (fX9_isIn a1 (0 : Int32) ((m_i S 36) - (1 : Int32))).bind fun q1 => some q1
set_option maxHeartbeats 4000000 in
set_option maxRecDepth 100000 in
theorem ctX9_isNode {l : Launch} {g : xG} {mo sz : Nat} (hl : l.stackTraces = false) {r : Bool} (S : MS) (a1 : Int32) (hf : fX9_isNode S a1 = some r) : CT yX9_isNode MX9_isNode rmX9_isNode l g [.ref mo, .int a1] (moE g mo sz S) (.inl (some (.int (bi r)))) (moE g mo sz S) := by
  rw [fX9_isNode] at hf
  refine CT.of (by decide +kernel) rfl rfl (Nat.le_of_ble_eq_true rfl) hl ?_
  show AW MX9_isNode rmX9_isNode l g (moE g mo sz S) (.inl (some (.int (bi r)))) (moE g mo sz S) 0 0 (moE g mo sz S) 0 [(0, .ref mo), (1, .int a1)] []
  refine aw_iload_n 1 dX9_isNode_0 rfl ?_
  refine aw_iconst (0 : Int32) dX9_isNode_1 (by decide) ?_
  refine aw_aload_n 0 dX9_isNode_2 rfl ?_
  refine mo_getI 36 rfl (by decide) (wl4 (i := 134) rfl rfl) dX9_isNode_3 ?_
  refine aw_iconst (1 : Int32) dX9_isNode_6 (by decide) ?_
  refine aw_isub dX9_isNode_7 ?_
  obtain ⟨q1, hq1, hf⟩ := xbind hf
  refine aw_callS [.int a1, .int (0 : Int32), .int ((m_i S 36) - (1 : Int32))] 3 (ctX9_isIn hl _ _ _ hq1) ⟨wl5 (i := 13) rfl rfl, ciX9_isIn⟩ (wl5 (i := 14) rfl rfl) dX9_isNode_8 rfl rfl (Nat.le_of_ble_eq_true rfl) ⟨Nat.le_of_ble_eq_true rfl, Nat.le_of_ble_eq_true rfl⟩ ⟨Nat.le_of_ble_eq_true rfl, Nat.le_of_ble_eq_true rfl⟩ ?_
  cases hf
  exact aw_zret dX9_isNode_11 rfl (nar_b _) rfl rfl ⟨Nat.le_of_ble_eq_true rfl, Nat.le_of_ble_eq_true rfl⟩
abbrev MX9_isPoint : xM := (RX9, cX9_isPoint, 1, (some .boolean), "isPoint")
abbrev rmX9_isPoint : Room := { frames := 1, cells := 0, slots := 0, locals := 22 }
theorem ciX9_isPoint : Cond.code yX9_isPoint cX9_isPoint 1 (some .boolean) ∈ wt ∧ Cond.initialized yX9_isPoint.cls ∈ wt ∧ (yX9_isPoint.cls ≠ "java/lang/invoke/MethodHandle" ∧ yX9_isPoint.cls ≠ "java/lang/invoke/VarHandle" ∧ (parseMethodDescriptor yX9_isPoint.desc).map (fun d => d.parameters.length) = some 1) := ⟨wl5 (i := 68) rfl rfl, wl1 (i := 4) rfl rfl, by decide +kernel, by decide +kernel, by decide +kernel⟩
def fX9_isPoint (a0 : Int32) : Option (Bool) :=
  (fX9_isIn a0 (0 : Int32) (48 : Int32)).bind fun q1 => some q1
set_option maxHeartbeats 4000000 in
set_option maxRecDepth 100000 in
theorem ctX9_isPoint {l : Launch} {g : xG} {mo sz : Nat} {S : MS} (hl : l.stackTraces = false) {r : Bool} (a0 : Int32) (hf : fX9_isPoint a0 = some r) : CT yX9_isPoint MX9_isPoint rmX9_isPoint l g [.int a0] (moE g mo sz S) (.inl (some (.int (bi r)))) (moE g mo sz S) := by
  rw [fX9_isPoint] at hf
  refine CT.of (by decide +kernel) rfl rfl (Nat.le_of_ble_eq_true rfl) hl ?_
  show AW MX9_isPoint rmX9_isPoint l g (moE g mo sz S) (.inl (some (.int (bi r)))) (moE g mo sz S) 0 0 (moE g mo sz S) 0 [(0, .int a0)] []
  refine aw_iload_n 0 dX9_isPoint_0 rfl ?_
  refine aw_iconst (0 : Int32) dX9_isPoint_1 (by decide) ?_
  refine aw_bipush (48 : Int32) dX9_isPoint_2 (by decide) ?_
  obtain ⟨q1, hq1, hf⟩ := xbind hf
  refine aw_callS [.int a0, .int (0 : Int32), .int (48 : Int32)] 3 (ctX9_isIn hl _ _ _ hq1) ⟨wl5 (i := 13) rfl rfl, ciX9_isIn⟩ (wl5 (i := 14) rfl rfl) dX9_isPoint_4 rfl rfl (Nat.le_of_ble_eq_true rfl) ⟨Nat.le_of_ble_eq_true rfl, Nat.le_of_ble_eq_true rfl⟩ ⟨Nat.le_of_ble_eq_true rfl, Nat.le_of_ble_eq_true rfl⟩ ?_
  cases hf
  exact aw_zret dX9_isPoint_7 rfl (nar_b _) rfl rfl ⟨Nat.le_of_ble_eq_true rfl, Nat.le_of_ble_eq_true rfl⟩
abbrev MX9_child : xM := (RX9, cX9_child, 5, (some .int), "child")
abbrev rmX9_child : Room := { frames := 0, cells := 0, slots := 0, locals := 0 }
theorem ciX9_child : Cond.code yX9_child cX9_child 5 (some .int) ∈ wt ∧ Cond.initialized yX9_child.cls ∈ wt ∧ (yX9_child.cls ≠ "java/lang/invoke/MethodHandle" ∧ yX9_child.cls ≠ "java/lang/invoke/VarHandle" ∧ (parseMethodDescriptor yX9_child.desc).map (fun d => d.parameters.length) = some 2) := ⟨wl6 (i := 21) rfl rfl, wl1 (i := 4) rfl rfl, by decide +kernel, by decide +kernel, by decide +kernel⟩
def fX9_child_42 (k5 : MS → Int32 → Int32 → Int32 → Int32 → Option (Int32)) (S : MS) (a1 : Int32) (a2 : Int32) (a4 : Int32) (s0 : Int32) : Option (Int32) :=
  k5 S a1 a2 s0 (a4 + (1 : Int32))
set_option maxHeartbeats 4000000 in
set_option maxRecDepth 100000 in
theorem wkX9_child_42 {l : Launch} {g : xG} {x0 : xV} {mo sz : Nat} (hl : l.stackTraces = false) {r : Int32} (k5 : MS → Int32 → Int32 → Int32 → Int32 → Option (Int32)) (hk5 : ∀ (S : MS) (a1 : Int32) (a2 : Int32) (a3 : Int32) (a4 : Int32), k5 S a1 a2 a3 a4 = some r → AW MX9_child rmX9_child l g x0 (.inl (some (.int r))) (moE g mo sz S) 0 0 (moE g mo sz S) 5 [(0, .ref mo), (1, .int a1), (2, .int a2), (3, .int a3), (4, .int a4)] []) (S : MS) (a1 : Int32) (a2 : Int32) (a4 : Int32) (s0 : Int32) (hf : fX9_child_42 k5 S a1 a2 a4 s0 = some r) : AW MX9_child rmX9_child l g x0 (.inl (some (.int r))) (moE g mo sz S) 0 0 (moE g mo sz S) 42 [(0, .ref mo), (1, .int a1), (2, .int a2), (4, .int a4)] [.int s0] := by
  rw [fX9_child_42] at hf
  refine aw_istore_n [(3, .int s0), (0, .ref mo), (1, .int a1), (2, .int a2), (4, .int a4)] dX9_child_42 rfl (by decide) rfl ?_
  refine aw_iinc [(4, .int (a4 + (1 : Int32))), (3, .int s0), (0, .ref mo), (1, .int a1), (2, .int a2)] 4 dX9_child_43 rfl rfl (by decide) rfl ?_
  refine aw_goto 5 dX9_child_46 (by decide) ?_
  refine aw_lv [2, 3, 4, 1, 0] rfl ?_
  exact hk5 _ _ _ _ _ hf
def fX9_child_5 : Nat → MS → Int32 → Int32 → Int32 → Int32 → Option (Int32)
  | 0, _, _, _, _, _ => none
  | n + 1, S, a1, a2, a3, a4 =>
    (if (m_i S 36) ≤ a4 then some a3 else (if xin a4 60 = true then (if (m_I S 28 a4.toNatClampNeg) = a1 then (if (m_I S 30 a4.toNatClampNeg) = a2 then fX9_child_42 (fX9_child_5 n) S a1 a2 a4 a4 else fX9_child_42 (fX9_child_5 n) S a1 a2 a4 a3) else fX9_child_42 (fX9_child_5 n) S a1 a2 a4 a3) else none))
set_option maxHeartbeats 4000000 in
set_option maxRecDepth 100000 in
theorem wkX9_child_5 {l : Launch} {g : xG} {x0 : xV} {mo sz : Nat} (hl : l.stackTraces = false) {r : Int32} : ∀ (n : Nat) (S : MS) (a1 : Int32) (a2 : Int32) (a3 : Int32) (a4 : Int32), fX9_child_5 n S a1 a2 a3 a4 = some r → AW MX9_child rmX9_child l g x0 (.inl (some (.int r))) (moE g mo sz S) 0 0 (moE g mo sz S) 5 [(0, .ref mo), (1, .int a1), (2, .int a2), (3, .int a3), (4, .int a4)] [] := by
  intro n
  induction n with
  | zero => intro S a1 a2 a3 a4 hf; exact absurd hf (by simp [fX9_child_5])
  | succ n hk5 =>
    intro S a1 a2 a3 a4 hf
    rw [fX9_child_5] at hf
    refine aw_iload 4 dX9_child_5 rfl ?_
    refine aw_aload_n 0 dX9_child_7 rfl ?_
    refine mo_getI 36 rfl (by decide) (wl4 (i := 134) rfl rfl) dX9_child_8 ?_
    refine aw_icmp_ge 49 dX9_child_11 (by decide) (fun c1 => ?_) (fun c1 => ?_)
    · rw [if_pos c1] at hf
      refine aw_iload_n 3 dX9_child_49 rfl ?_
      cases hf
      exact aw_iret dX9_child_50 rfl rfl rfl ⟨Nat.le_of_ble_eq_true rfl, Nat.le_of_ble_eq_true rfl⟩
    · rw [if_neg c1] at hf
      refine aw_aload_n 0 dX9_child_14 rfl ?_
      refine mo_getR 37 28 rfl (by decide) (wl4 (i := 135) rfl rfl) dX9_child_15 ?_
      refine aw_iload 4 dX9_child_18 rfl ?_
      obtain ⟨hi2, hf⟩ := xifn hf
      refine mo_iald 28 60 rfl (xin_v hi2) dX9_child_20 ?_
      refine aw_iload_n 1 dX9_child_21 rfl ?_
      refine aw_icmp_ne 41 dX9_child_22 (by decide) (fun c3 => ?_) (fun c3 => ?_)
      · rw [if_neg c3] at hf
        refine aw_iload_n 3 dX9_child_41 rfl ?_
        refine aw_lv [0, 1, 2, 4] rfl ?_
        exact wkX9_child_42 hl _ hk5 _ _ _ _ _ hf
      · rw [if_pos c3] at hf
        refine aw_aload_n 0 dX9_child_25 rfl ?_
        refine mo_getR 39 30 rfl (by decide) (wl4 (i := 137) rfl rfl) dX9_child_26 ?_
        refine aw_iload 4 dX9_child_29 rfl ?_
        refine mo_iald 30 60 rfl (xin_v hi2) dX9_child_31 ?_
        refine aw_iload_n 2 dX9_child_32 rfl ?_
        refine aw_icmp_ne 41 dX9_child_33 (by decide) (fun c4 => ?_) (fun c4 => ?_)
        · rw [if_neg c4] at hf
          refine aw_iload_n 3 dX9_child_41 rfl ?_
          refine aw_lv [0, 1, 2, 4] rfl ?_
          exact wkX9_child_42 hl _ hk5 _ _ _ _ _ hf
        · rw [if_pos c4] at hf
          refine aw_iload 4 dX9_child_36 rfl ?_
          refine aw_goto 42 dX9_child_38 (by decide) ?_
          refine aw_lv [0, 1, 2, 4] rfl ?_
          exact wkX9_child_42 hl _ hk5 _ _ _ _ _ hf
def fX9_child (S : MS) (a1 : Int32) (a2 : Int32) : Option (Int32) :=
  fX9_child_5 FU S a1 a2 (-1 : Int32) (0 : Int32)
set_option maxHeartbeats 4000000 in
set_option maxRecDepth 100000 in
theorem ctX9_child {l : Launch} {g : xG} {mo sz : Nat} (hl : l.stackTraces = false) {r : Int32} (S : MS) (a1 : Int32) (a2 : Int32) (hf : fX9_child S a1 a2 = some r) : CT yX9_child MX9_child rmX9_child l g [.ref mo, .int a1, .int a2] (moE g mo sz S) (.inl (some (.int r))) (moE g mo sz S) := by
  rw [fX9_child] at hf
  refine CT.of (by decide +kernel) rfl rfl (Nat.le_of_ble_eq_true rfl) hl ?_
  show AW MX9_child rmX9_child l g (moE g mo sz S) (.inl (some (.int r))) (moE g mo sz S) 0 0 (moE g mo sz S) 0 [(0, .ref mo), (1, .int a1), (2, .int a2)] []
  refine aw_iconst (-1 : Int32) dX9_child_0 (by decide) ?_
  refine aw_istore_n [(3, .int (-1 : Int32)), (0, .ref mo), (1, .int a1), (2, .int a2)] dX9_child_1 rfl (by decide) rfl ?_
  refine aw_iconst (0 : Int32) dX9_child_2 (by decide) ?_
  refine aw_istore [(4, .int (0 : Int32)), (3, .int (-1 : Int32)), (0, .ref mo), (1, .int a1), (2, .int a2)] dX9_child_3 (by decide) rfl ?_
  refine aw_lv [2, 3, 4, 1, 0] rfl ?_
  exact wkX9_child_5 hl _ _ _ _ _ _ hf
abbrev MX9_isEmpty : xM := (RX9, cX9_isEmpty, 6, (some .boolean), "isEmpty")
abbrev rmX9_isEmpty : Room := { frames := 1, cells := 0, slots := 0, locals := 20 }
theorem ciX9_isEmpty : Cond.code yX9_isEmpty cX9_isEmpty 6 (some .boolean) ∈ wt ∧ Cond.initialized yX9_isEmpty.cls ∈ wt ∧ (yX9_isEmpty.cls ≠ "java/lang/invoke/MethodHandle" ∧ yX9_isEmpty.cls ≠ "java/lang/invoke/VarHandle" ∧ (parseMethodDescriptor yX9_isEmpty.desc).map (fun d => d.parameters.length) = some 3) := ⟨wl5 (i := 76) rfl rfl, wl1 (i := 4) rfl rfl, by decide +kernel, by decide +kernel, by decide +kernel⟩
def fX9_isEmpty (a1 : Int64) (a3 : Int64) (a5 : Int32) : Option (Bool) :=
  (fX9_bit a5).bind fun q1 => (if ((a1 ||| a3) &&& q1) = (0 : Int64) then some true else some false)
set_option maxHeartbeats 4000000 in
set_option maxRecDepth 100000 in
theorem ctX9_isEmpty {l : Launch} {g : xG} {mo sz : Nat} {S : MS} (hl : l.stackTraces = false) {r : Bool} (a1 : Int64) (a3 : Int64) (a5 : Int32) (hf : fX9_isEmpty a1 a3 a5 = some r) : CT yX9_isEmpty MX9_isEmpty rmX9_isEmpty l g [.ref mo, .long a1, .long a3, .int a5] (moE g mo sz S) (.inl (some (.int (bi r)))) (moE g mo sz S) := by
  rw [fX9_isEmpty] at hf
  refine CT.of (by decide +kernel) rfl rfl (Nat.le_of_ble_eq_true rfl) hl ?_
  show AW MX9_isEmpty rmX9_isEmpty l g (moE g mo sz S) (.inl (some (.int (bi r)))) (moE g mo sz S) 0 0 (moE g mo sz S) 0 [(0, .ref mo), (1, .long a1), (3, .long a3), (5, .int a5)] []
  refine aw_lload_n 1 dX9_isEmpty_0 rfl ?_
  refine aw_lload_n 2 dX9_isEmpty_1 rfl ?_
  refine aw_lor dX9_isEmpty_2 ?_
  refine aw_iload 3 dX9_isEmpty_3 rfl ?_
  obtain ⟨q1, hq1, hf⟩ := xbind hf
  refine aw_callS [.int a5] 1 (ctX9_bit hl _ hq1) ⟨wl5 (i := 51) rfl rfl, ciX9_bit⟩ (wl5 (i := 52) rfl rfl) dX9_isEmpty_5 rfl rfl (Nat.le_of_ble_eq_true rfl) ⟨Nat.le_of_ble_eq_true rfl, Nat.le_of_ble_eq_true rfl⟩ ⟨Nat.le_of_ble_eq_true rfl, Nat.le_of_ble_eq_true rfl⟩ ?_
  refine aw_land dX9_isEmpty_8 ?_
  refine aw_lconst (0 : Int64) dX9_isEmpty_9 (by decide) ?_
  refine aw_lcmp_ne 18 dX9_isEmpty_10 dX9_isEmpty_11 (by decide) (fun c2 => ?_) (fun c2 => ?_)
  · rw [if_neg c2] at hf
    refine aw_iconst (0 : Int32) dX9_isEmpty_18 (by decide) ?_
    cases hf
    exact aw_zret dX9_isEmpty_19 rfl rfl rfl rfl ⟨Nat.le_of_ble_eq_true rfl, Nat.le_of_ble_eq_true rfl⟩
  · rw [if_pos c2] at hf
    refine aw_iconst (1 : Int32) dX9_isEmpty_14 (by decide) ?_
    refine aw_goto 19 dX9_isEmpty_15 (by decide) ?_
    cases hf
    exact aw_zret dX9_isEmpty_19 rfl rfl rfl rfl ⟨Nat.le_of_ble_eq_true rfl, Nat.le_of_ble_eq_true rfl⟩
abbrev MX9_position : xM := (RX9, cX9_position, 5, (some .int), "position")
abbrev rmX9_position : Room := { frames := 0, cells := 0, slots := 0, locals := 0 }
theorem ciX9_position : Cond.code yX9_position cX9_position 5 (some .int) ∈ wt ∧ Cond.initialized yX9_position.cls ∈ wt ∧ (yX9_position.cls ≠ "java/lang/invoke/MethodHandle" ∧ yX9_position.cls ≠ "java/lang/invoke/VarHandle" ∧ (parseMethodDescriptor yX9_position.desc).map (fun d => d.parameters.length) = some 2) := ⟨wl6 (i := 5) rfl rfl, wl1 (i := 4) rfl rfl, by decide +kernel, by decide +kernel, by decide +kernel⟩
def fX9_position_15 : Nat → MS → Int32 → Int32 → Int32 → Option (Int32)
  | 0, _, _, _, _ => none
  | n + 1, S, a2, a3, a4 =>
    (if a4 ≤ a2 then some a3 else (if xin a3 4096 = true then fX9_position_15 n S a2 (m_I S 20 a3.toNatClampNeg) (a4 + (-1 : Int32)) else none))
set_option maxHeartbeats 4000000 in
set_option maxRecDepth 100000 in
theorem wkX9_position_15 {l : Launch} {g : xG} {x0 : xV} {mo sz : Nat} (hl : l.stackTraces = false) {r : Int32} : ∀ (n : Nat) (S : MS) (a2 : Int32) (a3 : Int32) (a4 : Int32), fX9_position_15 n S a2 a3 a4 = some r → AW MX9_position rmX9_position l g x0 (.inl (some (.int r))) (moE g mo sz S) 0 0 (moE g mo sz S) 15 [(0, .ref mo), (2, .int a2), (3, .int a3), (4, .int a4)] [] := by
  intro n
  induction n with
  | zero => intro S a2 a3 a4 hf; exact absurd hf (by simp [fX9_position_15])
  | succ n hk15 =>
    intro S a2 a3 a4 hf
    rw [fX9_position_15] at hf
    refine aw_iload 3 dX9_position_15 rfl ?_
    refine aw_iload_n 1 dX9_position_17 rfl ?_
    refine aw_icmp_le 34 dX9_position_18 (by decide) (fun c1 => ?_) (fun c1 => ?_)
    · rw [if_pos c1] at hf
      refine aw_iload_n 2 dX9_position_34 rfl ?_
      cases hf
      exact aw_iret dX9_position_35 rfl rfl rfl ⟨Nat.le_of_ble_eq_true rfl, Nat.le_of_ble_eq_true rfl⟩
    · rw [if_neg c1] at hf
      refine aw_aload_n 0 dX9_position_21 rfl ?_
      refine mo_getR 24 20 rfl (by decide) (wl4 (i := 122) rfl rfl) dX9_position_22 ?_
      refine aw_iload_n 2 dX9_position_25 rfl ?_
      obtain ⟨hi2, hf⟩ := xifn hf
      refine mo_iald 20 4096 rfl (xin_v hi2) dX9_position_26 ?_
      refine aw_istore_n [(3, .int (m_I S 20 a3.toNatClampNeg)), (0, .ref mo), (2, .int a2), (4, .int a4)] dX9_position_27 rfl (by decide) rfl ?_
      refine aw_iinc [(4, .int (a4 + (-1 : Int32))), (3, .int (m_I S 20 a3.toNatClampNeg)), (0, .ref mo), (2, .int a2)] 3 dX9_position_28 rfl rfl (by decide) rfl ?_
      refine aw_goto 15 dX9_position_31 (by decide) ?_
      refine aw_lv [2, 3, 1, 0] rfl ?_
      exact hk15 _ _ _ _ hf
def fX9_position (S : MS) (a1 : Int32) (a2 : Int32) : Option (Int32) :=
  (if xin a1 16 = true then fX9_position_15 FU S a2 (m_I S 11 a1.toNatClampNeg) (m_I S 12 a1.toNatClampNeg) else none)
set_option maxHeartbeats 4000000 in
set_option maxRecDepth 100000 in
theorem ctX9_position {l : Launch} {g : xG} {mo sz : Nat} (hl : l.stackTraces = false) {r : Int32} (S : MS) (a1 : Int32) (a2 : Int32) (hf : fX9_position S a1 a2 = some r) : CT yX9_position MX9_position rmX9_position l g [.ref mo, .int a1, .int a2] (moE g mo sz S) (.inl (some (.int r))) (moE g mo sz S) := by
  rw [fX9_position] at hf
  refine CT.of (by decide +kernel) rfl rfl (Nat.le_of_ble_eq_true rfl) hl ?_
  show AW MX9_position rmX9_position l g (moE g mo sz S) (.inl (some (.int r))) (moE g mo sz S) 0 0 (moE g mo sz S) 0 [(0, .ref mo), (1, .int a1), (2, .int a2)] []
  refine aw_aload_n 0 dX9_position_0 rfl ?_
  refine mo_getR 13 11 rfl (by decide) (wl4 (i := 111) rfl rfl) dX9_position_1 ?_
  refine aw_iload_n 1 dX9_position_4 rfl ?_
  obtain ⟨hi1, hf⟩ := xifn hf
  refine mo_iald 11 16 rfl (xin_v hi1) dX9_position_5 ?_
  refine aw_istore_n [(3, .int (m_I S 11 a1.toNatClampNeg)), (0, .ref mo), (1, .int a1), (2, .int a2)] dX9_position_6 rfl (by decide) rfl ?_
  refine aw_aload_n 1 dX9_position_7 rfl ?_
  refine mo_getR 14 12 rfl (by decide) (wl4 (i := 112) rfl rfl) dX9_position_8 ?_
  refine aw_iload_n 2 dX9_position_11 rfl ?_
  refine mo_iald 12 16 rfl (xin_v hi1) dX9_position_12 ?_
  refine aw_istore [(4, .int (m_I S 12 a1.toNatClampNeg)), (3, .int (m_I S 11 a1.toNatClampNeg)), (0, .ref mo), (1, .int a1), (2, .int a2)] dX9_position_13 (by decide) rfl ?_
  refine aw_lv [2, 4, 1, 0] rfl ?_
  exact wkX9_position_15 hl _ _ _ _ _ hf
end
