section
-- ===== PART A: goes FIRST, ahead of the names: the tables' words, and 'selects' of the private methods out of them =====
/-- a private method of a class that the tables say can be made, by its rows of tables_1 -/
def lw_okq (q : MethodName × Nat) : Prop := (q.1.cls ≠ "java/lang/invoke/MethodHandle" ∧ q.1.cls ≠ "java/lang/invoke/VarHandle") ∧ Cond.instantiable q.1.cls q.2 ∈ tables_1 ∧ Cond.privateMethod q.1 ∈ tables_1 ∧ Cond.instanceMethod q.1 ∈ tables_1
theorem lw_p0 : lw_okq (⟨"NurseryPlaces$Pad", "readOrder", "()Z"⟩, 6) := ⟨⟨by decide +kernel, by decide +kernel⟩, List.mem_of_getElem? (i := 276) (by decide +kernel), List.mem_of_getElem? (i := 720) (by decide +kernel), List.mem_of_getElem? (i := 721) (by decide +kernel)⟩
theorem lw_p1 : lw_okq (⟨"NurseryPlaces$Pad", "readPart", "(C)Z"⟩, 6) := ⟨⟨by decide +kernel, by decide +kernel⟩, List.mem_of_getElem? (i := 276) (by decide +kernel), List.mem_of_getElem? (i := 780) (by decide +kernel), List.mem_of_getElem? (i := 781) (by decide +kernel)⟩
theorem lw_p2 : lw_okq (⟨"NurseryPlaces$Pad", "readNumber", "()Z"⟩, 6) := ⟨⟨by decide +kernel, by decide +kernel⟩, List.mem_of_getElem? (i := 276) (by decide +kernel), List.mem_of_getElem? (i := 784) (by decide +kernel), List.mem_of_getElem? (i := 785) (by decide +kernel)⟩
theorem lw_p3 : lw_okq (⟨"NurseryPlaces$Pad", "isAtDigit", "()Z"⟩, 6) := ⟨⟨by decide +kernel, by decide +kernel⟩, List.mem_of_getElem? (i := 276) (by decide +kernel), List.mem_of_getElem? (i := 788) (by decide +kernel), List.mem_of_getElem? (i := 789) (by decide +kernel)⟩
theorem lw_p4 : lw_okq (⟨"NurseryPlaces$Pad", "keepNumber", "(I)V"⟩, 6) := ⟨⟨by decide +kernel, by decide +kernel⟩, List.mem_of_getElem? (i := 276) (by decide +kernel), List.mem_of_getElem? (i := 792) (by decide +kernel), List.mem_of_getElem? (i := 793) (by decide +kernel)⟩
theorem lw_p5 : lw_okq (⟨"NurseryPlaces$Pad", "readDigit", "()Z"⟩, 6) := ⟨⟨by decide +kernel, by decide +kernel⟩, List.mem_of_getElem? (i := 276) (by decide +kernel), List.mem_of_getElem? (i := 796) (by decide +kernel), List.mem_of_getElem? (i := 797) (by decide +kernel)⟩
theorem lw_p6 : lw_okq (⟨"NurseryPlaces$Pad", "readSign", "(C)Z"⟩, 6) := ⟨⟨by decide +kernel, by decide +kernel⟩, List.mem_of_getElem? (i := 276) (by decide +kernel), List.mem_of_getElem? (i := 800) (by decide +kernel), List.mem_of_getElem? (i := 801) (by decide +kernel)⟩
theorem lw_p7 : lw_okq (⟨"NurseryPlaces", "carryOutOrder", "()I"⟩, 6) := ⟨⟨by decide +kernel, by decide +kernel⟩, List.mem_of_getElem? (i := 20) (by decide +kernel), List.mem_of_getElem? (i := 814) (by decide +kernel), List.mem_of_getElem? (i := 815) (by decide +kernel)⟩
theorem lw_p8 : lw_okq (⟨"NurseryPlacesModel", "record", "()V"⟩, 15) := ⟨⟨by decide +kernel, by decide +kernel⟩, List.mem_of_getElem? (i := 837) (by decide +kernel), List.mem_of_getElem? (i := 896) (by decide +kernel), List.mem_of_getElem? (i := 897) (by decide +kernel)⟩
theorem lw_p9 : lw_okq (⟨"NurseryPlacesModel", "isRoom", "(I)Z"⟩, 15) := ⟨⟨by decide +kernel, by decide +kernel⟩, List.mem_of_getElem? (i := 837) (by decide +kernel), List.mem_of_getElem? (i := 908) (by decide +kernel), List.mem_of_getElem? (i := 909) (by decide +kernel)⟩
theorem lw_p10 : lw_okq (⟨"NurseryPlacesModel", "hires", "(IIII)V"⟩, 15) := ⟨⟨by decide +kernel, by decide +kernel⟩, List.mem_of_getElem? (i := 837) (by decide +kernel), List.mem_of_getElem? (i := 915) (by decide +kernel), List.mem_of_getElem? (i := 916) (by decide +kernel)⟩
theorem lw_p11 : lw_okq (⟨"NurseryPlacesModel", "put", "(III)V"⟩, 15) := ⟨⟨by decide +kernel, by decide +kernel⟩, List.mem_of_getElem? (i := 837) (by decide +kernel), List.mem_of_getElem? (i := 923) (by decide +kernel), List.mem_of_getElem? (i := 924) (by decide +kernel)⟩
theorem lw_p12 : lw_okq (⟨"NurseryPlacesModel", "isChild", "(I)Z"⟩, 15) := ⟨⟨by decide +kernel, by decide +kernel⟩, List.mem_of_getElem? (i := 837) (by decide +kernel), List.mem_of_getElem? (i := 931) (by decide +kernel), List.mem_of_getElem? (i := 932) (by decide +kernel)⟩
theorem lw_p13 : lw_okq (⟨"NurseryPlacesModel", "of", "(II)I"⟩, 15) := ⟨⟨by decide +kernel, by decide +kernel⟩, List.mem_of_getElem? (i := 837) (by decide +kernel), List.mem_of_getElem? (i := 935) (by decide +kernel), List.mem_of_getElem? (i := 936) (by decide +kernel)⟩
theorem lw_p14 : lw_okq (⟨"NurseryPlacesModel", "becomes", "(II)V"⟩, 15) := ⟨⟨by decide +kernel, by decide +kernel⟩, List.mem_of_getElem? (i := 837) (by decide +kernel), List.mem_of_getElem? (i := 939) (by decide +kernel), List.mem_of_getElem? (i := 940) (by decide +kernel)⟩
theorem lw_p15 : lw_okq (⟨"NurseryPlacesModel", "inState", "(I)I"⟩, 15) := ⟨⟨by decide +kernel, by decide +kernel⟩, List.mem_of_getElem? (i := 837) (by decide +kernel), List.mem_of_getElem? (i := 943) (by decide +kernel), List.mem_of_getElem? (i := 944) (by decide +kernel)⟩
def lw_privs_1 : List (MethodName × Nat) := [(⟨"NurseryPlaces$Pad", "readOrder", "()Z"⟩, 6), (⟨"NurseryPlaces$Pad", "readPart", "(C)Z"⟩, 6), (⟨"NurseryPlaces$Pad", "readNumber", "()Z"⟩, 6), (⟨"NurseryPlaces$Pad", "isAtDigit", "()Z"⟩, 6), (⟨"NurseryPlaces$Pad", "keepNumber", "(I)V"⟩, 6), (⟨"NurseryPlaces$Pad", "readDigit", "()Z"⟩, 6), (⟨"NurseryPlaces$Pad", "readSign", "(C)Z"⟩, 6), (⟨"NurseryPlaces", "carryOutOrder", "()I"⟩, 6), (⟨"NurseryPlacesModel", "record", "()V"⟩, 15), (⟨"NurseryPlacesModel", "isRoom", "(I)Z"⟩, 15), (⟨"NurseryPlacesModel", "hires", "(IIII)V"⟩, 15), (⟨"NurseryPlacesModel", "put", "(III)V"⟩, 15), (⟨"NurseryPlacesModel", "isChild", "(I)Z"⟩, 15), (⟨"NurseryPlacesModel", "of", "(II)I"⟩, 15), (⟨"NurseryPlacesModel", "becomes", "(II)V"⟩, 15), (⟨"NurseryPlacesModel", "inState", "(I)I"⟩, 15)]
theorem lw_r1 : ∀ q ∈ lw_privs_1, lw_okq q := List.forall_mem_cons.mpr ⟨lw_p0, List.forall_mem_cons.mpr ⟨lw_p1, List.forall_mem_cons.mpr ⟨lw_p2, List.forall_mem_cons.mpr ⟨lw_p3, List.forall_mem_cons.mpr ⟨lw_p4, List.forall_mem_cons.mpr ⟨lw_p5, List.forall_mem_cons.mpr ⟨lw_p6, List.forall_mem_cons.mpr ⟨lw_p7, List.forall_mem_cons.mpr ⟨lw_p8, List.forall_mem_cons.mpr ⟨lw_p9, List.forall_mem_cons.mpr ⟨lw_p10, List.forall_mem_cons.mpr ⟨lw_p11, List.forall_mem_cons.mpr ⟨lw_p12, List.forall_mem_cons.mpr ⟨lw_p13, List.forall_mem_cons.mpr ⟨lw_p14, List.forall_mem_cons.mpr ⟨lw_p15, fun _ h => absurd h List.not_mem_nil⟩⟩⟩⟩⟩⟩⟩⟩⟩⟩⟩⟩⟩⟩⟩⟩
theorem lw_p16 : lw_okq (⟨"NurseryPlacesModel", "admits", "()I"⟩, 15) := ⟨⟨by decide +kernel, by decide +kernel⟩, List.mem_of_getElem? (i := 837) (by decide +kernel), List.mem_of_getElem? (i := 954) (by decide +kernel), List.mem_of_getElem? (i := 955) (by decide +kernel)⟩
theorem lw_p17 : lw_okq (⟨"NurseryPlacesModel", "firstOne", "()I"⟩, 15) := ⟨⟨by decide +kernel, by decide +kernel⟩, List.mem_of_getElem? (i := 837) (by decide +kernel), List.mem_of_getElem? (i := 958) (by decide +kernel), List.mem_of_getElem? (i := 959) (by decide +kernel)⟩
theorem lw_p18 : lw_okq (⟨"NurseryPlacesModel", "gets", "(I)I"⟩, 15) := ⟨⟨by decide +kernel, by decide +kernel⟩, List.mem_of_getElem? (i := 837) (by decide +kernel), List.mem_of_getElem? (i := 962) (by decide +kernel), List.mem_of_getElem? (i := 963) (by decide +kernel)⟩
theorem lw_p19 : lw_okq (⟨"NurseryPlacesModel", "roomOf", "(I)I"⟩, 15) := ⟨⟨by decide +kernel, by decide +kernel⟩, List.mem_of_getElem? (i := 837) (by decide +kernel), List.mem_of_getElem? (i := 966) (by decide +kernel), List.mem_of_getElem? (i := 967) (by decide +kernel)⟩
theorem lw_p20 : lw_okq (⟨"NurseryPlacesModel", "freeOf", "(II)I"⟩, 15) := ⟨⟨by decide +kernel, by decide +kernel⟩, List.mem_of_getElem? (i := 837) (by decide +kernel), List.mem_of_getElem? (i := 970) (by decide +kernel), List.mem_of_getElem? (i := 971) (by decide +kernel)⟩
theorem lw_p21 : lw_okq (⟨"NurseryPlacesModel", "isFree", "(II)Z"⟩, 15) := ⟨⟨by decide +kernel, by decide +kernel⟩, List.mem_of_getElem? (i := 837) (by decide +kernel), List.mem_of_getElem? (i := 977) (by decide +kernel), List.mem_of_getElem? (i := 978) (by decide +kernel)⟩
theorem lw_p22 : lw_okq (⟨"NurseryPlacesModel", "taken", "(II)I"⟩, 15) := ⟨⟨by decide +kernel, by decide +kernel⟩, List.mem_of_getElem? (i := 837) (by decide +kernel), List.mem_of_getElem? (i := 981) (by decide +kernel), List.mem_of_getElem? (i := 982) (by decide +kernel)⟩
theorem lw_p23 : lw_okq (⟨"NurseryPlacesModel", "isIn", "(II)Z"⟩, 15) := ⟨⟨by decide +kernel, by decide +kernel⟩, List.mem_of_getElem? (i := 837) (by decide +kernel), List.mem_of_getElem? (i := 985) (by decide +kernel), List.mem_of_getElem? (i := 986) (by decide +kernel)⟩
theorem lw_p24 : lw_okq (⟨"NurseryPlacesModel", "places", "(IIZ)I"⟩, 15) := ⟨⟨by decide +kernel, by decide +kernel⟩, List.mem_of_getElem? (i := 837) (by decide +kernel), List.mem_of_getElem? (i := 989) (by decide +kernel), List.mem_of_getElem? (i := 990) (by decide +kernel)⟩
theorem lw_p25 : lw_okq (⟨"NurseryPlacesModel", "carersAt", "(IIIZ)I"⟩, 15) := ⟨⟨by decide +kernel, by decide +kernel⟩, List.mem_of_getElem? (i := 837) (by decide +kernel), List.mem_of_getElem? (i := 993) (by decide +kernel), List.mem_of_getElem? (i := 994) (by decide +kernel)⟩
theorem lw_p26 : lw_okq (⟨"NurseryPlacesModel", "hasSibling", "(I)Z"⟩, 15) := ⟨⟨by decide +kernel, by decide +kernel⟩, List.mem_of_getElem? (i := 837) (by decide +kernel), List.mem_of_getElem? (i := 997) (by decide +kernel), List.mem_of_getElem? (i := 998) (by decide +kernel)⟩
theorem lw_p27 : lw_okq (⟨"NurseryPlacesModel", "guests", "(II)I"⟩, 15) := ⟨⟨by decide +kernel, by decide +kernel⟩, List.mem_of_getElem? (i := 837) (by decide +kernel), List.mem_of_getElem? (i := 1008) (by decide +kernel), List.mem_of_getElem? (i := 1009) (by decide +kernel)⟩
theorem lw_p28 : lw_okq (⟨"NurseryPlacesModel", "plannedMany", "()I"⟩, 15) := ⟨⟨by decide +kernel, by decide +kernel⟩, List.mem_of_getElem? (i := 837) (by decide +kernel), List.mem_of_getElem? (i := 1012) (by decide +kernel), List.mem_of_getElem? (i := 1013) (by decide +kernel)⟩
theorem lw_p29 : lw_okq (⟨"NurseryPlacesModel", "canSwap", "(IIII)Z"⟩, 15) := ⟨⟨by decide +kernel, by decide +kernel⟩, List.mem_of_getElem? (i := 837) (by decide +kernel), List.mem_of_getElem? (i := 1020) (by decide +kernel), List.mem_of_getElem? (i := 1021) (by decide +kernel)⟩
theorem lw_p30 : lw_okq (⟨"NurseryPlacesModel", "isCarer", "(I)Z"⟩, 15) := ⟨⟨by decide +kernel, by decide +kernel⟩, List.mem_of_getElem? (i := 837) (by decide +kernel), List.mem_of_getElem? (i := 1032) (by decide +kernel), List.mem_of_getElem? (i := 1033) (by decide +kernel)⟩
theorem lw_p31 : lw_okq (⟨"NurseryPlacesModel", "oneWeek", "()V"⟩, 15) := ⟨⟨by decide +kernel, by decide +kernel⟩, List.mem_of_getElem? (i := 837) (by decide +kernel), List.mem_of_getElem? (i := 1040) (by decide +kernel), List.mem_of_getElem? (i := 1041) (by decide +kernel)⟩
def lw_privs_2 : List (MethodName × Nat) := [(⟨"NurseryPlacesModel", "admits", "()I"⟩, 15), (⟨"NurseryPlacesModel", "firstOne", "()I"⟩, 15), (⟨"NurseryPlacesModel", "gets", "(I)I"⟩, 15), (⟨"NurseryPlacesModel", "roomOf", "(I)I"⟩, 15), (⟨"NurseryPlacesModel", "freeOf", "(II)I"⟩, 15), (⟨"NurseryPlacesModel", "isFree", "(II)Z"⟩, 15), (⟨"NurseryPlacesModel", "taken", "(II)I"⟩, 15), (⟨"NurseryPlacesModel", "isIn", "(II)Z"⟩, 15), (⟨"NurseryPlacesModel", "places", "(IIZ)I"⟩, 15), (⟨"NurseryPlacesModel", "carersAt", "(IIIZ)I"⟩, 15), (⟨"NurseryPlacesModel", "hasSibling", "(I)Z"⟩, 15), (⟨"NurseryPlacesModel", "guests", "(II)I"⟩, 15), (⟨"NurseryPlacesModel", "plannedMany", "()I"⟩, 15), (⟨"NurseryPlacesModel", "canSwap", "(IIII)Z"⟩, 15), (⟨"NurseryPlacesModel", "isCarer", "(I)Z"⟩, 15), (⟨"NurseryPlacesModel", "oneWeek", "()V"⟩, 15)]
theorem lw_r2 : ∀ q ∈ lw_privs_2, lw_okq q := List.forall_mem_cons.mpr ⟨lw_p16, List.forall_mem_cons.mpr ⟨lw_p17, List.forall_mem_cons.mpr ⟨lw_p18, List.forall_mem_cons.mpr ⟨lw_p19, List.forall_mem_cons.mpr ⟨lw_p20, List.forall_mem_cons.mpr ⟨lw_p21, List.forall_mem_cons.mpr ⟨lw_p22, List.forall_mem_cons.mpr ⟨lw_p23, List.forall_mem_cons.mpr ⟨lw_p24, List.forall_mem_cons.mpr ⟨lw_p25, List.forall_mem_cons.mpr ⟨lw_p26, List.forall_mem_cons.mpr ⟨lw_p27, List.forall_mem_cons.mpr ⟨lw_p28, List.forall_mem_cons.mpr ⟨lw_p29, List.forall_mem_cons.mpr ⟨lw_p30, List.forall_mem_cons.mpr ⟨lw_p31, fun _ h => absurd h List.not_mem_nil⟩⟩⟩⟩⟩⟩⟩⟩⟩⟩⟩⟩⟩⟩⟩⟩
theorem lw_p32 : lw_okq (⟨"NurseryPlacesModel", "comeAll", "()V"⟩, 15) := ⟨⟨by decide +kernel, by decide +kernel⟩, List.mem_of_getElem? (i := 837) (by decide +kernel), List.mem_of_getElem? (i := 1044) (by decide +kernel), List.mem_of_getElem? (i := 1045) (by decide +kernel)⟩
theorem lw_p33 : lw_okq (⟨"NurseryPlacesModel", "come", "(II)V"⟩, 15) := ⟨⟨by decide +kernel, by decide +kernel⟩, List.mem_of_getElem? (i := 837) (by decide +kernel), List.mem_of_getElem? (i := 1048) (by decide +kernel), List.mem_of_getElem? (i := 1049) (by decide +kernel)⟩
theorem lw_p34 : lw_okq (⟨"NurseryPlacesModel", "isVisiting", "(II)Z"⟩, 15) := ⟨⟨by decide +kernel, by decide +kernel⟩, List.mem_of_getElem? (i := 837) (by decide +kernel), List.mem_of_getElem? (i := 1052) (by decide +kernel), List.mem_of_getElem? (i := 1053) (by decide +kernel)⟩
theorem lw_p35 : lw_okq (⟨"NurseryPlacesModel", "pays", "(I)V"⟩, 15) := ⟨⟨by decide +kernel, by decide +kernel⟩, List.mem_of_getElem? (i := 837) (by decide +kernel), List.mem_of_getElem? (i := 1056) (by decide +kernel), List.mem_of_getElem? (i := 1057) (by decide +kernel)⟩
theorem lw_p36 : lw_okq (⟨"NurseryPlacesModel", "priceFor", "(I)I"⟩, 15) := ⟨⟨by decide +kernel, by decide +kernel⟩, List.mem_of_getElem? (i := 837) (by decide +kernel), List.mem_of_getElem? (i := 1060) (by decide +kernel), List.mem_of_getElem? (i := 1061) (by decide +kernel)⟩
theorem lw_p37 : lw_okq (⟨"NurseryPlacesModel", "settles", "(I)V"⟩, 15) := ⟨⟨by decide +kernel, by decide +kernel⟩, List.mem_of_getElem? (i := 837) (by decide +kernel), List.mem_of_getElem? (i := 1064) (by decide +kernel), List.mem_of_getElem? (i := 1065) (by decide +kernel)⟩
theorem lw_p38 : lw_okq (⟨"NurseryPlacesModel", "moves", "(I)V"⟩, 15) := ⟨⟨by decide +kernel, by decide +kernel⟩, List.mem_of_getElem? (i := 837) (by decide +kernel), List.mem_of_getElem? (i := 1068) (by decide +kernel), List.mem_of_getElem? (i := 1069) (by decide +kernel)⟩
theorem lw_p39 : lw_okq (⟨"NurseryPlacesModel", "settledSet", "()I"⟩, 15) := ⟨⟨by decide +kernel, by decide +kernel⟩, List.mem_of_getElem? (i := 837) (by decide +kernel), List.mem_of_getElem? (i := 1088) (by decide +kernel), List.mem_of_getElem? (i := 1089) (by decide +kernel)⟩
theorem lw_p40 : lw_okq (⟨"NurseryPlacesModel", "keep", "()V"⟩, 15) := ⟨⟨by decide +kernel, by decide +kernel⟩, List.mem_of_getElem? (i := 837) (by decide +kernel), List.mem_of_getElem? (i := 1104) (by decide +kernel), List.mem_of_getElem? (i := 1105) (by decide +kernel)⟩
theorem lw_p41 : lw_okq (⟨"NurseryPlacesModel", "bringBack", "()V"⟩, 15) := ⟨⟨by decide +kernel, by decide +kernel⟩, List.mem_of_getElem? (i := 837) (by decide +kernel), List.mem_of_getElem? (i := 1108) (by decide +kernel), List.mem_of_getElem? (i := 1109) (by decide +kernel)⟩
theorem lw_p42 : lw_okq (⟨"NurseryPlacesModel", "placesWith", "(IIII)I"⟩, 15) := ⟨⟨by decide +kernel, by decide +kernel⟩, List.mem_of_getElem? (i := 837) (by decide +kernel), List.mem_of_getElem? (i := 1124) (by decide +kernel), List.mem_of_getElem? (i := 1125) (by decide +kernel)⟩
theorem lw_p43 : lw_okq (⟨"NurseryPlacesModel", "allPlaces", "(I)I"⟩, 15) := ⟨⟨by decide +kernel, by decide +kernel⟩, List.mem_of_getElem? (i := 837) (by decide +kernel), List.mem_of_getElem? (i := 1128) (by decide +kernel), List.mem_of_getElem? (i := 1129) (by decide +kernel)⟩
theorem lw_p44 : lw_okq (⟨"NurseryPlacesModel", "isGood", "()Z"⟩, 15) := ⟨⟨by decide +kernel, by decide +kernel⟩, List.mem_of_getElem? (i := 837) (by decide +kernel), List.mem_of_getElem? (i := 1149) (by decide +kernel), List.mem_of_getElem? (i := 1150) (by decide +kernel)⟩
theorem lw_p45 : lw_okq (⟨"NurseryPlacesModel", "readOrder", "()Z"⟩, 15) := ⟨⟨by decide +kernel, by decide +kernel⟩, List.mem_of_getElem? (i := 837) (by decide +kernel), List.mem_of_getElem? (i := 1153) (by decide +kernel), List.mem_of_getElem? (i := 1154) (by decide +kernel)⟩
theorem lw_p46 : lw_okq (⟨"NurseryPlacesModel", "number", "(I)Z"⟩, 15) := ⟨⟨by decide +kernel, by decide +kernel⟩, List.mem_of_getElem? (i := 837) (by decide +kernel), List.mem_of_getElem? (i := 1157) (by decide +kernel), List.mem_of_getElem? (i := 1158) (by decide +kernel)⟩
theorem lw_p47 : lw_okq (⟨"NurseryPlacesModel", "sign", "(I)Z"⟩, 15) := ⟨⟨by decide +kernel, by decide +kernel⟩, List.mem_of_getElem? (i := 837) (by decide +kernel), List.mem_of_getElem? (i := 1161) (by decide +kernel), List.mem_of_getElem? (i := 1162) (by decide +kernel)⟩
def lw_privs_3 : List (MethodName × Nat) := [(⟨"NurseryPlacesModel", "comeAll", "()V"⟩, 15), (⟨"NurseryPlacesModel", "come", "(II)V"⟩, 15), (⟨"NurseryPlacesModel", "isVisiting", "(II)Z"⟩, 15), (⟨"NurseryPlacesModel", "pays", "(I)V"⟩, 15), (⟨"NurseryPlacesModel", "priceFor", "(I)I"⟩, 15), (⟨"NurseryPlacesModel", "settles", "(I)V"⟩, 15), (⟨"NurseryPlacesModel", "moves", "(I)V"⟩, 15), (⟨"NurseryPlacesModel", "settledSet", "()I"⟩, 15), (⟨"NurseryPlacesModel", "keep", "()V"⟩, 15), (⟨"NurseryPlacesModel", "bringBack", "()V"⟩, 15), (⟨"NurseryPlacesModel", "placesWith", "(IIII)I"⟩, 15), (⟨"NurseryPlacesModel", "allPlaces", "(I)I"⟩, 15), (⟨"NurseryPlacesModel", "isGood", "()Z"⟩, 15), (⟨"NurseryPlacesModel", "readOrder", "()Z"⟩, 15), (⟨"NurseryPlacesModel", "number", "(I)Z"⟩, 15), (⟨"NurseryPlacesModel", "sign", "(I)Z"⟩, 15)]
theorem lw_r3 : ∀ q ∈ lw_privs_3, lw_okq q := List.forall_mem_cons.mpr ⟨lw_p32, List.forall_mem_cons.mpr ⟨lw_p33, List.forall_mem_cons.mpr ⟨lw_p34, List.forall_mem_cons.mpr ⟨lw_p35, List.forall_mem_cons.mpr ⟨lw_p36, List.forall_mem_cons.mpr ⟨lw_p37, List.forall_mem_cons.mpr ⟨lw_p38, List.forall_mem_cons.mpr ⟨lw_p39, List.forall_mem_cons.mpr ⟨lw_p40, List.forall_mem_cons.mpr ⟨lw_p41, List.forall_mem_cons.mpr ⟨lw_p42, List.forall_mem_cons.mpr ⟨lw_p43, List.forall_mem_cons.mpr ⟨lw_p44, List.forall_mem_cons.mpr ⟨lw_p45, List.forall_mem_cons.mpr ⟨lw_p46, List.forall_mem_cons.mpr ⟨lw_p47, fun _ h => absurd h List.not_mem_nil⟩⟩⟩⟩⟩⟩⟩⟩⟩⟩⟩⟩⟩⟩⟩⟩
theorem lw_p48 : lw_okq (⟨"NurseryPlacesModel", "childAt", "(I)Z"⟩, 15) := ⟨⟨by decide +kernel, by decide +kernel⟩, List.mem_of_getElem? (i := 837) (by decide +kernel), List.mem_of_getElem? (i := 1165) (by decide +kernel), List.mem_of_getElem? (i := 1166) (by decide +kernel)⟩
theorem lw_p49 : lw_okq (⟨"NurseryPlacesModel", "digit", "(I)Z"⟩, 15) := ⟨⟨by decide +kernel, by decide +kernel⟩, List.mem_of_getElem? (i := 837) (by decide +kernel), List.mem_of_getElem? (i := 1169) (by decide +kernel), List.mem_of_getElem? (i := 1170) (by decide +kernel)⟩
theorem lw_p50 : lw_okq (⟨"NurseryPlacesModel", "doOrder", "()I"⟩, 15) := ⟨⟨by decide +kernel, by decide +kernel⟩, List.mem_of_getElem? (i := 837) (by decide +kernel), List.mem_of_getElem? (i := 1177) (by decide +kernel), List.mem_of_getElem? (i := 1178) (by decide +kernel)⟩
def lw_privs_4 : List (MethodName × Nat) := [(⟨"NurseryPlacesModel", "childAt", "(I)Z"⟩, 15), (⟨"NurseryPlacesModel", "digit", "(I)Z"⟩, 15), (⟨"NurseryPlacesModel", "doOrder", "()I"⟩, 15)]
theorem lw_r4 : ∀ q ∈ lw_privs_4, lw_okq q := List.forall_mem_cons.mpr ⟨lw_p48, List.forall_mem_cons.mpr ⟨lw_p49, List.forall_mem_cons.mpr ⟨lw_p50, fun _ h => absurd h List.not_mem_nil⟩⟩⟩
def lw_privs : List (MethodName × Nat) := lw_privs_1 ++ (lw_privs_2 ++ (lw_privs_3 ++ (lw_privs_4)))
def lw_tbl : List Cond := k2_sels lw_privs ++ tables_1
theorem lw_privs_ok : ∀ q ∈ lw_privs, lw_okq q := by
  show ∀ q ∈ lw_privs_1 ++ (lw_privs_2 ++ (lw_privs_3 ++ (lw_privs_4))), lw_okq q
  exact List.forall_mem_append.mpr ⟨lw_r1, List.forall_mem_append.mpr ⟨lw_r2, List.forall_mem_append.mpr ⟨lw_r3, lw_r4⟩⟩⟩
end
section
/-! THE SMALL MACHINE: values, objects by number, memory. Every object of the class and of the reference is known by (kind, which, place); its address follows from the order in which the constructors make them. -/
abbrev Rf : Type := Nat × Nat × Nat
abbrev Vl : Type := Int32 ⊕ (Int64 ⊕ Rf)
abbrev Mm : Type := Rf → Nat → Int32
abbrev vI (x : Int32) : Vl := .inl x
abbrev vJ (x : Int64) : Vl := .inr (.inl x)
abbrev vO (t k i : Nat) : Vl := .inr (.inr (t, k, i))
/-- launch, classes and slots, first address, array classes, addresses of what lies outside, a static that may be null, the script: its address, length, values -/
abbrev Wg : Type := Launch × va_G × Nat × (Nat → ClassId) × (Nat → Nat) × Option Nat × (Nat × Nat × (Nat → Int32))
abbrev gL (g : Wg) : Launch := g.1
abbrev gD (g : Wg) : va_G := g.2.1
abbrev gB (g : Wg) : Nat := g.2.2.1
abbrev gC (g : Wg) : Nat → ClassId := g.2.2.2.1
abbrev gT (g : Wg) : Nat → Nat := g.2.2.2.2.1
abbrev gF (g : Wg) : Option Nat := g.2.2.2.2.2.1
abbrev gX (g : Wg) : Nat × Nat × (Nat → Int32) := g.2.2.2.2.2.2
def gA (g : Wg) : Nat → Prop := fun q => gB g ≤ q
def sbO (k : Nat) : Nat := 47 * k + (if k < 2 then 1 else if k < 9 then 3 else 4)
/-- the order of making -/
def ordO (t k i : Nat) : Nat := match t with
  | 2 => sbO k
  | 3 => sbO k + 1
  | 4 => sbO k + 2
  | 5 => sbO k + 3
  | 6 => sbO k + 4
  | 7 => sbO k + 5 + i
  | 8 => sbO k + 10 + i
  | 9 => sbO k + 23 + i
  | 10 => 95
  | 11 => 96
  | 12 => 426
  | 13 => 521
  | 14 => 522
  | 15 => 523
  | 16 => 524
  | 17 => 525
  | 18 => match k with
    | 0 => 526
    | 1 => 527
    | 2 => 528
    | 3 => 529
    | 4 => 531
    | 5 => 532
    | 6 => 533
    | 7 => 534
    | _ => 535
  | 19 => 530
  | _ => 0
/-- which objects there are -/
def okO (t k i : Nat) : Bool := match t with
  | 1 => Nat.beq k 0 && Nat.beq i 0
  | 2 => Nat.blt k 11 && Nat.beq i 0
  | 3 => Nat.blt k 11 && Nat.beq i 0
  | 4 => Nat.blt k 11 && Nat.beq i 0
  | 5 => Nat.blt k 11 && Nat.beq i 0
  | 6 => Nat.blt k 11 && Nat.beq i 0
  | 7 => Nat.blt k 11 && Nat.blt i 5
  | 8 => Nat.blt k 11 && Nat.blt i 13
  | 9 => Nat.blt k 11 && Nat.blt i 24
  | 10 => Nat.beq k 0 && Nat.beq i 0
  | 11 => Nat.beq k 0 && Nat.beq i 0
  | 12 => Nat.beq k 0 && Nat.beq i 0
  | 13 => Nat.beq k 0 && Nat.beq i 0
  | 14 => Nat.beq k 0 && Nat.beq i 0
  | 15 => Nat.beq k 0 && Nat.beq i 0
  | 16 => Nat.beq k 0 && Nat.beq i 0
  | 17 => Nat.beq k 0 && Nat.beq i 0
  | 18 => Nat.blt k 9 && Nat.beq i 0
  | 19 => Nat.beq k 0 && Nat.beq i 0
  | _ => false
def okR (t k i : Nat) : Bool := match t with
  | 0 => true
  | 20 => true
  | 21 => Nat.blt k 5
  | 22 => Nat.blt k 2
  | 23 => Nat.blt k 5
  | 25 => true
  | _ => okO t k i
def okV (v : Vl) : Prop := match v with
  | .inr (.inr (t, k, i)) => okR t k i = true
  | _ => True
def stR (k : Nat) : List Rf := (2, k, 0) :: (3, k, 0) :: (4, k, 0) :: (5, k, 0) :: (6, k, 0) :: ((List.range 5).map (fun i => (7, k, i)) ++ ((List.range 13).map (fun i => (8, k, i)) ++ (List.range 24).map (fun i => (9, k, i))))
def allR : List Rf := (1, 0, 0) :: (stR 0 ++ (stR 1 ++ ((10, 0, 0) :: (11, 0, 0) :: (stR 2 ++ (stR 3 ++ (stR 4 ++ (stR 5 ++ (stR 6 ++ (stR 7 ++ (stR 8 ++ ((12, 0, 0) :: (stR 9 ++ (stR 10 ++ [(13, 0, 0), (14, 0, 0), (15, 0, 0), (16, 0, 0), (17, 0, 0), (18, 0, 0), (18, 1, 0), (18, 2, 0), (18, 3, 0), (19, 0, 0), (18, 4, 0), (18, 5, 0), (18, 6, 0), (18, 7, 0), (18, 8, 0)])))))))))))))
def adO (g : Wg) (t k i : Nat) : Nat := match t with
  | 20 => (gX g).1
  | 21 => gT g (10 + k)
  | 22 => gT g k
  | 23 => gT g (20 + k)
  | _ => gB g + ordO t k i
def vvO (g : Wg) (v : Vl) : Value := match v with
  | .inl x => .int x
  | .inr (.inl x) => .long x
  | .inr (.inr (t, k, i)) => match t with
    | 0 => .null
    | 25 => va_rf (gF g)
    | _ => .ref (adO g t k i)
/-- the fields that hold references -/
def refO (t k : Nat) (j : Nat) : Option Rf := match t with
  | 1 => match j with
    | 0 => some (2, 0, 0)
    | 1 => some (2, 1, 0)
    | 2 => some (10, 0, 0)
    | 3 => some (12, 0, 0)
    | 4 => some (13, 0, 0)
    | _ => some (14, 0, 0)
  | 2 => match j with
    | 0 => some (3, k, 0)
    | 1 => some (4, k, 0)
    | 2 => some (5, k, 0)
    | 3 => some (6, k, 0)
    | _ => none
  | 10 => match j with
    | 0 => some (11, 0, 0)
    | _ => none
  | 14 => match j with
    | 0 => some (15, 0, 0)
    | 4 => some (16, 0, 0)
    | _ => none
  | 17 => match j with
    | 0 => some (18, 0, 0)
    | 1 => some (18, 1, 0)
    | 2 => some (18, 2, 0)
    | 5 => some (18, 3, 0)
    | 6 => some (19, 0, 0)
    | 7 => some (18, 4, 0)
    | 9 => some (18, 5, 0)
    | 10 => some (18, 6, 0)
    | 11 => some (18, 7, 0)
    | 14 => some (18, 8, 0)
    | _ => none
  | _ => none
def fvO (mem : Mm) (t k i j : Nat) : Vl := match refO t k j with
  | some r => .inr (.inr r)
  | none => .inl (mem (t, k, i) j)
/-- the class of an object, 99: it is an array -/
def ciO (t : Nat) : Nat := match t with
  | 1 => 0
  | 2 => 1
  | 7 => 2
  | 8 => 3
  | 9 => 4
  | 10 => 5
  | 14 => 6
  | 17 => 7
  | _ => 99
def nfO (ci : Nat) : Nat := match ci with
  | 0 => 6
  | 1 => 12
  | 2 => 4
  | 3 => 5
  | 4 => 14
  | 5 => 3
  | 6 => 6
  | 7 => 15
  | _ => 0
/-- the type of an array, by its place in tysO -/
def tyO (t : Nat) : Nat := match t with
  | 3 => 0
  | 4 => 3
  | 5 => 4
  | 6 => 5
  | 11 => 6
  | 12 => 6
  | 13 => 1
  | 15 => 2
  | 16 => 0
  | 18 => 0
  | 19 => 1
  | _ => 99
def lenO (t k : Nat) : Nat := match t with
  | 3 => 5
  | 4 => 5
  | 5 => 13
  | 6 => 24
  | 11 => 7
  | 12 => 2
  | 13 => 2
  | 15 => 80
  | 16 => 4
  | 18 => match k with
    | 0 => 429
    | 1 => 429
    | 2 => 2574
    | 3 => 858
    | 4 => 80
    | 5 => 5
    | 6 => 24
    | 7 => 24
    | _ => 4
  | 19 => 2
  | _ => 0
def elO (t k j : Nat) : Rf := match t with
  | 4 => (7, k, j)
  | 5 => (8, k, j)
  | 6 => (9, k, j)
  | 11 => (2, 2 + j, 0)
  | _ => (2, 9 + j, 0)
def isQ (t : Nat) : Bool := match t with
  | 4 => true
  | 5 => true
  | 6 => true
  | 11 => true
  | 12 => true
  | _ => false
def isP (t : Nat) : Bool := match t with
  | 3 => true
  | 16 => true
  | 18 => true
  | _ => false
def isZ (t : Nat) : Bool := match t with
  | 13 => true
  | 19 => true
  | _ => false
def fldO (g : Wg) (mem : Mm) (t k i n : Nat) : List Value := (List.range n).map (fun j => vvO g (fvO mem t k i j))
def cellO (g : Wg) (mem : Mm) (o : Rf) : va_E := match ciO o.1 with
  | 99 => match isQ o.1 with
    | true => .inl (gC g (tyO o.1), lenO o.1 o.2.1, .inr (.inr (.inr (.inr (fun j => match elO o.1 o.2.1 j with
      | (t, k, i) => some (adO g t k i))))))
    | false => .inl (gC g (tyO o.1), lenO o.1 o.2.1, .inl (mem o))
  | ci => .inr (ci, fldO g mem o.1 o.2.1 o.2.2 (nfO ci))
def wsO (g : Wg) (mem : Mm) : va_W := allR.map (fun o => (adO g o.1 o.2.1 o.2.2, cellO g mem o))
def mset (mem : Mm) (t k i j : Nat) (x : Int32) : Mm := fun o => if o = (t, k, i) then upd (mem o) j x else mem o
theorem mset_at (mem : Mm) (t k i j : Nat) (x : Int32) : mset mem t k i j x (t, k, i) = upd (mem (t, k, i)) j x := if_pos rfl
theorem mset_ne (mem : Mm) (t k i j : Nat) (x : Int32) {o : Rf} (h : o ≠ (t, k, i)) : mset mem t k i j x o = mem o := if_neg h
set_option maxRecDepth 100000 in
theorem allR_len : allR.length = 536 := by decide +kernel
set_option maxRecDepth 100000 in
theorem allR_ord : ∀ n, n < 536 → (allR[n]?).map (fun o => ordO o.1 o.2.1 o.2.2) = some n := by decide +kernel
set_option maxRecDepth 100000 in
theorem allR_tag : ∀ n, n < 536 → (allR[n]?).map (fun o => Nat.blt o.1 20) = some true := by decide +kernel
set_option maxRecDepth 100000 in
theorem allR_at0 : ∀ t, t < 20 → ∀ k, k < 11 → ∀ i, i < 24 → (!okO t k i || decide (allR[ordO t k i]? = some (t, k, i))) = true := by decide +kernel
theorem okO_lt {t k i : Nat} (h : okO t k i = true) : t < 20 ∧ k < 11 ∧ i < 24 := by
  unfold okO at h
  split at h <;> simp [Nat.blt, Nat.ble_eq] at h <;> omega
theorem allR_at {t k i : Nat} (h : okO t k i = true) : allR[ordO t k i]? = some (t, k, i) := by
  obtain ⟨h1, h2, h3⟩ := okO_lt h
  have h4 := allR_at0 t h1 k h2 i h3
  rw [h] at h4
  exact of_decide_eq_true h4
theorem okO_ad {g : Wg} {t k i : Nat} (h : t < 20) : adO g t k i = gB g + ordO t k i := by
  unfold adO
  split <;> first | rfl | omega
theorem wsO_at {g : Wg} {mem : Mm} {t k i : Nat} (h : okO t k i = true) : (wsO g mem)[ordO t k i]? = some (adO g t k i, cellO g mem (t, k, i)) := by
  unfold wsO
  rw [List.getElem?_map, allR_at h]
  rfl
theorem wsO_D (g : Wg) (mem : Mm) : va_D (gA g) (wsO g mem) := by
  have key : ∀ (n : Nat) (q : Nat × va_E), (wsO g mem)[n]? = some q → q.1 = gB g + n := by
    intro n q h
    unfold wsO at h
    rw [List.getElem?_map] at h
    cases ho : allR[n]? with
    | none => rw [ho] at h; cases h
    | some o =>
      rw [ho] at h
      cases h
      have hn : n < 536 := by
        have := (List.getElem?_eq_some_iff.mp ho).1
        rw [allR_len] at this
        exact this
      have h1 := allR_ord n hn
      have h2 := allR_tag n hn
      rw [ho] at h1 h2
      have h3 : o.1 < 20 := by
        have h4 := Option.some.inj h2
        exact Nat.le_of_ble_eq_true h4
      show adO g o.1 o.2.1 o.2.2 = _
      rw [okO_ad h3]
      exact congrArg (fun z => gB g + z) (Option.some.inj h1)
  refine ⟨fun i j p q hp hq e => ?_, fun k q hq => ?_⟩
  · have h1 := key i p hp
    have h2 := key j q hq
    omega
  · have h1 := key k q hq
    show gB g ≤ q.1
    omega
theorem allR_inj {n : Nat} {o : Rf} (ho : allR[n]? = some o) : ordO o.1 o.2.1 o.2.2 = n := by
  have hn : n < 536 := by
    have := (List.getElem?_eq_some_iff.mp ho).1
    rw [allR_len] at this
    exact this
  have h1 := allR_ord n hn
  rw [ho] at h1
  exact Option.some.inj h1
theorem cellO_congr {g : Wg} {m1 m2 : Mm} {o : Rf} (h : m1 o = m2 o) : cellO g m1 o = cellO g m2 o := by
  have h2 : ∀ j, fvO m1 o.1 o.2.1 o.2.2 j = fvO m2 o.1 o.2.1 o.2.2 j := by
    intro j
    unfold fvO
    have h3 : m1 (o.1, o.2.1, o.2.2) = m2 (o.1, o.2.1, o.2.2) := h
    rw [h3]
  unfold cellO fldO
  simp only [h2, h]
/-- a world with one cell changed is the world of the memory with that object changed -/
theorem wsO_set {g : Wg} {mem mem' : Mm} {t k i : Nat} (h : okO t k i = true) (hne : ∀ o : Rf, o ≠ (t, k, i) → mem' o = mem o) {c : va_E} (hc : cellO g mem' (t, k, i) = c) : (wsO g mem).set (ordO t k i) (adO g t k i, c) = wsO g mem' := by
  subst hc
  apply List.ext_getElem?
  intro n
  by_cases hn : n = ordO t k i
  · subst hn
    rw [wsO_at h]
    rw [List.getElem?_set_self (List.getElem?_eq_some_iff.mp (wsO_at (g := g) (mem := mem) h)).1]
  · rw [List.getElem?_set_ne (Ne.symm hn)]
    unfold wsO
    rw [List.getElem?_map, List.getElem?_map]
    cases ho : allR[n]? with
    | none => rfl
    | some o =>
      have h1 := allR_inj ho
      have h2 : o ≠ (t, k, i) := by
        intro e
        rw [e] at h1
        exact hn h1.symm
      show some (adO g o.1 o.2.1 o.2.2, cellO g mem o) = some (adO g o.1 o.2.1 o.2.2, cellO g mem' o)
      rw [cellO_congr (hne o h2)]
theorem fldO_get {g : Wg} {mem : Mm} {t k i n j : Nat} (h : j < n) : (fldO g mem t k i n)[j]? = some (vvO g (fvO mem t k i j)) := by
  unfold fldO
  rw [List.getElem?_map, List.getElem?_range h]
  rfl
theorem fldO_len {g : Wg} {mem : Mm} {t k i n : Nat} : (fldO g mem t k i n).length = n := by simp [fldO]
theorem fldO_set {g : Wg} {mem : Mm} {t k i n j : Nat} {x : Int32} (hr : refO t k j = none) (h : j < n) : (fldO g mem t k i n).set j (.int x) = fldO g (mset mem t k i j x) t k i n := by
  apply List.ext_getElem?
  intro m
  by_cases hm : m < n
  · rw [fldO_get hm]
    by_cases hj : m = j
    · subst hj
      rw [List.getElem?_set_self (by rw [fldO_len]; exact hm)]
      simp [fvO, hr, mset_at, upd, vvO]
    · rw [List.getElem?_set_ne (Ne.symm hj), fldO_get hm]
      simp [fvO, mset_at, upd, hj]
  · rw [List.getElem?_eq_none (by rw [List.length_set, fldO_len]; omega), List.getElem?_eq_none (by rw [fldO_len]; omega)]
theorem okV_ref {mem : Mm} {t k i j : Nat} (h : okO t k i = true) : okV (fvO mem t k i j) := by
  unfold fvO
  cases hr : refO t k j with
  | none => trivial
  | some r =>
    unfold refO at hr
    split at hr <;> (try cases hr) <;> (split at hr) <;> (try cases hr) <;> simp_all [okV, okR, okO]
theorem okV_el {t k i j : Nat} (h : okO t k i = true) (hq : isQ t = true) (hj : j < lenO t k) : okV (.inr (.inr (elO t k j))) := by
  unfold isQ at hq
  split at hq <;> simp_all [okV, okR, okO, elO, lenO, Nat.blt, Nat.ble_eq] <;> omega
end
section
/-! THE WORLD: the tables of the classes, what lies outside, the cells; contracts in these words -/
def clsN (ci : Nat) : String := match ci with
  | 0 => "NurseryPlaces"
  | 1 => "NurseryPlaces$State"
  | 2 => "NurseryPlaces$Room"
  | 3 => "NurseryPlaces$Carer"
  | 4 => "NurseryPlaces$Child"
  | 5 => "NurseryPlaces$History"
  | 6 => "NurseryPlaces$Pad"
  | 7 => "NurseryPlacesModel"
  | _ => "java/lang/String"
def clsT (ci : Nat) : u_T := fun j => match ci with
  | 0 => match j with
    | 0 => ("NurseryPlaces", "now", "LNurseryPlaces$State;", true)
    | 1 => ("NurseryPlaces", "trial", "LNurseryPlaces$State;", true)
    | 2 => ("NurseryPlaces", "history", "LNurseryPlaces$History;", true)
    | 3 => ("NurseryPlaces", "slots", "[LNurseryPlaces$State;", true)
    | 4 => ("NurseryPlaces", "isSaved", "[Z", true)
    | _ => ("NurseryPlaces", "pad", "LNurseryPlaces$Pad;", true)
  | 1 => match j with
    | 0 => ("NurseryPlaces$State", "settings", "[I", true)
    | 1 => ("NurseryPlaces$State", "rooms", "[LNurseryPlaces$Room;", true)
    | 2 => ("NurseryPlaces$State", "carers", "[LNurseryPlaces$Carer;", true)
    | 3 => ("NurseryPlaces$State", "children", "[LNurseryPlaces$Child;", true)
    | 4 => ("NurseryPlaces$State", "roomCount", "I", false)
    | 5 => ("NurseryPlaces$State", "carerCount", "I", false)
    | 6 => ("NurseryPlaces$State", "childCount", "I", false)
    | 7 => ("NurseryPlaces$State", "week", "I", false)
    | 8 => ("NurseryPlaces$State", "placings", "I", false)
    | 9 => ("NurseryPlaces$State", "paid", "I", false)
    | 10 => ("NurseryPlaces$State", "visitsHeld", "I", false)
    | _ => ("NurseryPlaces$State", "timesSentHome", "I", false)
  | 2 => match j with
    | 0 => ("NurseryPlaces$Room", "from", "I", false)
    | 1 => ("NurseryPlaces$Room", "to", "I", false)
    | 2 => ("NurseryPlaces$Room", "capacity", "I", false)
    | _ => ("NurseryPlaces$Room", "ratio", "I", false)
  | 3 => match j with
    | 0 => ("NurseryPlaces$Carer", "room", "I", false)
    | 1 => ("NurseryPlaces$Carer", "days", "I", false)
    | 2 => ("NurseryPlaces$Carer", "from", "I", false)
    | 3 => ("NurseryPlaces$Carer", "to", "I", false)
    | _ => ("NurseryPlaces$Carer", "isSick", "Z", false)
  | 4 => match j with
    | 0 => ("NurseryPlaces$Child", "age", "I", false)
    | 1 => ("NurseryPlaces$Child", "family", "I", false)
    | 2 => ("NurseryPlaces$Child", "wish", "I", false)
    | 3 => ("NurseryPlaces$Child", "state", "I", false)
    | 4 => ("NurseryPlaces$Child", "room", "I", false)
    | 5 => ("NurseryPlaces$Child", "sessions", "I", false)
    | 6 => ("NurseryPlaces$Child", "isSettled", "Z", false)
    | 7 => ("NurseryPlaces$Child", "visits", "I", false)
    | 8 => ("NurseryPlaces$Child", "plannedVisit", "I", false)
    | 9 => ("NurseryPlaces$Child", "sessionsHeld", "I", false)
    | 10 => ("NurseryPlaces$Child", "timesSentHome", "I", false)
    | 11 => ("NurseryPlaces$Child", "paid", "I", false)
    | 12 => ("NurseryPlaces$Child", "waitingSince", "I", false)
    | _ => ("NurseryPlaces$Child", "placing", "I", false)
  | 5 => match j with
    | 0 => ("NurseryPlaces$History", "rows", "[LNurseryPlaces$State;", true)
    | 1 => ("NurseryPlaces$History", "oldest", "I", false)
    | _ => ("NurseryPlaces$History", "size", "I", false)
  | 6 => match j with
    | 0 => ("NurseryPlaces$Pad", "signs", "[C", true)
    | 1 => ("NurseryPlaces$Pad", "length", "I", false)
    | 2 => ("NurseryPlaces$Pad", "cursor", "I", false)
    | 3 => ("NurseryPlaces$Pad", "kind", "C", false)
    | 4 => ("NurseryPlaces$Pad", "numbers", "[I", true)
    | _ => ("NurseryPlaces$Pad", "numberCount", "I", false)
  | 7 => match j with
    | 0 => ("NurseryPlacesModel", "v", "[I", true)
    | 1 => ("NurseryPlacesModel", "spare", "[I", true)
    | 2 => ("NurseryPlacesModel", "history", "[I", true)
    | 3 => ("NurseryPlacesModel", "states", "I", false)
    | 4 => ("NurseryPlacesModel", "isQuiet", "Z", false)
    | 5 => ("NurseryPlacesModel", "slots", "[I", true)
    | 6 => ("NurseryPlacesModel", "isSaved", "[Z", true)
    | 7 => ("NurseryPlacesModel", "pad", "[I", true)
    | 8 => ("NurseryPlacesModel", "length", "I", false)
    | 9 => ("NurseryPlacesModel", "highest", "[I", true)
    | 10 => ("NurseryPlacesModel", "took", "[I", true)
    | 11 => ("NurseryPlacesModel", "home", "[I", true)
    | 12 => ("NurseryPlacesModel", "place", "I", false)
    | 13 => ("NurseryPlacesModel", "letter", "I", false)
    | _ => ("NurseryPlacesModel", "numbers", "[I", true)
  | _ => ("", "", "", false)
def clsF (ci j : Nat) : FieldType := match ci with
  | 0 => match j with
    | 0 => .object "NurseryPlaces$State"
    | 1 => .object "NurseryPlaces$State"
    | 2 => .object "NurseryPlaces$History"
    | 3 => .array (.object "NurseryPlaces$State")
    | 4 => .array .boolean
    | _ => .object "NurseryPlaces$Pad"
  | 1 => match j with
    | 0 => .array .int
    | 1 => .array (.object "NurseryPlaces$Room")
    | 2 => .array (.object "NurseryPlaces$Carer")
    | 3 => .array (.object "NurseryPlaces$Child")
    | 4 => .int
    | 5 => .int
    | 6 => .int
    | 7 => .int
    | 8 => .int
    | 9 => .int
    | 10 => .int
    | _ => .int
  | 2 => match j with
    | 0 => .int
    | 1 => .int
    | 2 => .int
    | _ => .int
  | 3 => match j with
    | 0 => .int
    | 1 => .int
    | 2 => .int
    | 3 => .int
    | _ => .boolean
  | 4 => match j with
    | 0 => .int
    | 1 => .int
    | 2 => .int
    | 3 => .int
    | 4 => .int
    | 5 => .int
    | 6 => .boolean
    | 7 => .int
    | 8 => .int
    | 9 => .int
    | 10 => .int
    | 11 => .int
    | 12 => .int
    | _ => .int
  | 5 => match j with
    | 0 => .array (.object "NurseryPlaces$State")
    | 1 => .int
    | _ => .int
  | 6 => match j with
    | 0 => .array .char
    | 1 => .int
    | 2 => .int
    | 3 => .char
    | 4 => .array .int
    | _ => .int
  | 7 => match j with
    | 0 => .array .int
    | 1 => .array .int
    | 2 => .array .int
    | 3 => .int
    | 4 => .boolean
    | 5 => .array .int
    | 6 => .array .boolean
    | 7 => .array .int
    | 8 => .int
    | 9 => .array .int
    | 10 => .array .int
    | 11 => .array .int
    | 12 => .int
    | 13 => .int
    | _ => .array .int
  | _ => .int
def clsL : List vw_C := (List.range 8).map (fun ci => (clsN ci, clsT ci, nfO ci))
def arrT (q : Nat) : FieldType := match q with
  | 0 => .int
  | 1 => .boolean
  | 2 => .char
  | 3 => .object "NurseryPlaces$Room"
  | 4 => .object "NurseryPlaces$Carer"
  | 5 => .object "NurseryPlaces$Child"
  | _ => .object "NurseryPlaces$State"
def tysO (g : Wg) : List (ClassId × FieldType) := (List.range 7).map (fun q => (gC g q, arrT q))
theorem clsL_at {ci : Nat} (h : ci < 8) : clsL[ci]? = some (clsN ci, clsT ci, nfO ci) := by
  unfold clsL
  rw [List.getElem?_map, List.getElem?_range h]
  rfl
theorem tysO_at {g : Wg} {q : Nat} (h : q < 7) : (tysO g)[q]? = some (gC g q, arrT q) := by
  unfold tysO
  rw [List.getElem?_map, List.getElem?_range h]
  rfl
/-- the words of the tables that stay true -/
def keepW (w : Cond) : Bool := w.onTables && (w.keeps || match w with
  | .methodLinkNest .. => true
  | .fieldLinkNest .. => true
  | _ => false)
def InT (w : Cond) : Prop := w ∈ lw_tbl ∧ keepW w = true
def Tb (U : State) : Prop := ∀ w, InT w → va_Nw w U
theorem Tb.use {U : State} (h : Tb U) {w : Cond} (hw : InT w) {A : Array Value} : w.before A U = true := va_Nw.use (by
  have h2 := hw.2
  unfold keepW at h2
  simp only [Bool.and_eq_true] at h2
  exact h2.1) (h w hw)
theorem Tb.warm {s U : State} (hW : s.WarmedH U.vm) (h : Tb s) : Tb U := by
  intro w hw
  have h0 := h w hw
  have h2 := hw.2
  unfold keepW at h2
  simp only [Bool.and_eq_true, Bool.or_eq_true] at h2
  obtain ⟨h3, h4⟩ := h2
  rcases h4 with h4 | h4
  · exact word_at hW (Or.inl (by rw [h3, h4]; rfl)) h0
  · cases w <;> first | (cases h4; done) | exact va_Nw.warmM hW h0 | exact va_Nw.warmF hW h0
theorem Tb.same {u U : State} (hv : u.vm = U.vm) (h : Tb u) : Tb U := fun w hw => va_Nw.same (by
  have h2 := hw.2
  unfold keepW at h2
  simp only [Bool.and_eq_true] at h2
  exact h2.1) hv (h w hw)
theorem Tb.of {s : State} {A : Array Value} (h : ∀ w ∈ lw_tbl, w.before A s = true) : Tb s := fun w hw => va_Nw.of (by
  have h2 := hw.2
  unfold keepW at h2
  simp only [Bool.and_eq_true] at h2
  exact h2.1) (h w hw.1)
theorem InT.of {w : Cond} (i : Nat) (h : lw_tbl[i]? = some w) (h2 : keepW w = true) : InT w := ⟨List.mem_of_getElem? h, h2⟩
set_option maxRecDepth 100000 in
theorem cls_in : ∀ ci, ci < 8 → (u_ws (clsN ci) (clsT ci) (nfO ci)).all (fun w => decide (w ∈ lw_tbl) && keepW w) = true := by decide +kernel
theorem cls_InT {ci : Nat} (h : ci < 8) : ∀ w ∈ u_ws (clsN ci) (clsT ci) (nfO ci), InT w := by
  intro w hw
  have h1 := List.all_eq_true.mp (cls_in ci h) w hw
  simp only [Bool.and_eq_true, decide_eq_true_eq] at h1
  exact h1
theorem cls_ty0 : ∀ ci, ci < 8 → ∀ k, k < nfO ci → parseFieldDescriptor (clsT ci k).2.2.1 = some (clsF ci k) := by decide +kernel
theorem cls_nm0 : ∀ ci, ci < 8 → ∀ a, a < nfO ci → ∀ b, b < nfO ci → a ≠ b → (clsT ci a).2.1 ≠ (clsT ci b).2.1 := by decide +kernel
def strP (k : Nat) : Nat := match k with
  | 0 => 70
  | 1 => 72
  | 2 => 74
  | 3 => 76
  | _ => 78
def strX (k : Nat) : String := match k with
  | 0 => "N/N:N"
  | 1 => "N@D"
  | 2 => "N@D=N@D"
  | 3 => "N"
  | _ => ""
def strB (k : Nat) : List Int32 := match k with
  | 0 => [78, 47, 78, 58, 78]
  | 1 => [78, 64, 68]
  | 2 => [78, 64, 68, 61, 78, 64, 68]
  | 3 => [78]
  | _ => []
def strN (k : Nat) : Nat := match k with
  | 0 => 5
  | 1 => 3
  | 2 => 7
  | 3 => 1
  | _ => 0
/-- the two static arrays -/
def staV (k j : Nat) : Int32 := match k with
  | 0 => match j with
    | 2 => 1
    | _ => 0
  | _ => match j with
    | 0 => 10000
    | 1 => 100
    | 2 => 10
    | 3 => 9
    | _ => 99
/-- what lies outside: nobody writes it -/
def Ext (g : Wg) (U : State) (H : Heap) : Prop :=
  va_Z "NurseryPlaces" "LOWEST_SETTING" "[I" (.ref (gT g 0)) (gA g) U H ∧ va_Z "NurseryPlaces" "HIGHEST_SETTING" "[I" (.ref (gT g 1)) (gA g) U H ∧
  va_T .int (gT g 0) 5 (fun j => .int (staV 0 j)) (gA g) U H ∧ va_T .int (gT g 1) 5 (fun j => .int (staV 1 j)) (gA g) U H ∧
  va_Z "java/lang/String" "COMPACT_STRINGS" "Z" (.int 1) (gA g) U H ∧ va_Z "jdk/internal/util/Preconditions" "SIOOBE_FORMATTER" "Ljava/util/function/BiFunction;" (va_rf (gF g)) (gA g) U H ∧
  vk_S 5 [5, 3, 7, 1, 0] [strB 0, strB 1, strB 2, strB 3, strB 4] (fun i => gT g (10 + i)) (fun i => gT g (20 + i)) (gA g) U H ∧
  (∀ k, k < 5 → vk_R "NurseryPlaces$Pad" (strP k) (strX k) (gT g (10 + k)) U) ∧ (va_X (gX g).1 (gX g).2.1 (gX g).2.2 U H ∧ (gX g).1 < H.size ∧ ¬ gA g (gX g).1)
theorem Ext.warm {g : Wg} {s U : State} {H H1 : Heap} (hW : s.WarmedH U.vm) (hq : ∀ a : Nat, a < H.size → ¬ gA g a → H1[a]? = H[a]?) (hz : H.size ≤ H1.size) (h : Ext g s H) : Ext g U H1 := by
  obtain ⟨h1, h2, h3, h4, h5, h6, h7, h8, h9, h10, h11⟩ := h
  have hv := hW.alike
  exact ⟨(h1.moved hv).kept hq, (h2.moved hv).kept hq, (h3.moved hv).kept hq, (h4.moved hv).kept hq, (h5.moved hv).kept hq, (h6.moved hv).kept hq, (h7.moved hv).kept hq, fun k hk => (h8 k hk).warm hW, (h9.moved hv).kept (hq _ h10 h11), Nat.lt_of_lt_of_le h10 hz, h11⟩
/-- the world of a memory, in a state -/
def wdO (g : Wg) (mem : Mm) (U : State) : Prop := va_P (gD g) clsL (wsO g mem) U.heap ∧ va_K (gD g) clsL (tysO g) U ∧ Tb U ∧ Ext g U U.heap
theorem wdO.warm {g : Wg} {mem mem' : Mm} {s U : State} {H : Heap} {locs : List Loc} (hW : s.WarmedH U.vm) (hU : U.heap = H) (hP : va_P (gD g) clsL (wsO g mem') H) (hS : va_S (gA g) s.heap H locs) (hK : va_K (gD g) clsL (tysO g) s) (hT : Tb s) (hE : Ext g s s.heap) : wdO g mem' U :=
  ⟨by rw [hU]; exact hP, va_K.moved hW.alike hK, hT.warm hW, hE.warm hW (by rw [hU]; exact hS.2.1) (by rw [hU]; exact hS.1)⟩
theorem wdO.calling {g : Wg} {mem : Mm} {U : State} {f : JFrame} {mk : MethodId} {a : Array Value} (h : wdO g mem U) : wdO g mem (U.calling f mk a) := by
  obtain ⟨h1, h2, h3, h4⟩ := h
  exact ⟨h1, va_K.moved (u := U) (U := U.calling f mk a) (Vm.Alike.refl U.vm) h2, Tb.same (u := U) rfl h3, Ext.warm (s := U) (U := U.calling f mk a) (State.WarmedH.refl U) (fun _ _ _ => rfl) (Nat.le_refl _) h4⟩
/-- a method's head: name, bytes, locals, answer, frames and words of locals that it needs, arguments (the receiver counts) -/
abbrev Hd : Type := MethodName × ByteArray × Nat × Option FieldType × Nat × Nat × Nat
abbrev hY (h : Hd) : MethodName := h.1
abbrev hB (h : Hd) : ByteArray := h.2.1
abbrev hM (h : Hd) : Nat := h.2.2.1
abbrev hR (h : Hd) : Option FieldType := h.2.2.2.1
abbrev hF (h : Hd) : Nat := h.2.2.2.2.1
abbrev hL (h : Hd) : Nat := h.2.2.2.2.2.1
abbrev hN (h : Hd) : Nat := h.2.2.2.2.2.2
def PcO (g : Wg) (as : List Vl) (mem : Mm) : Array Value → State → Prop := fun v U => v = (as.map (vvO g)).toArray ∧ (∀ v ∈ as, okV v) ∧ wdO g mem U
def okA (r : Option Vl) : Prop := match r with
  | some v => okV v
  | none => True
def QcO (g : Wg) (Q : Option Vl → Mm → Prop) : Array Value → State → Outcome → State → Prop := fun _ st oc t =>
  (∃ (r : Option Vl) (m' : Mm), oc = .returned (r.map (vvO g)) ∧ Q r m' ∧ okA r ∧ wdO g m' t) ∧ va_F (gA g) st t
/-- the contract of a method, in the small machine's words -/
def Runs (g : Wg) (h : Hd) (as : List Vl) (mem : Mm) (Q : Option Vl → Mm → Prop) : Prop :=
  Met (gL g) (hY h) [Cond.code (hY h) (hB h) (hM h) (hR h)] { frames := hF h, cells := 0, slots := 0, locals := hL h } (PcO g as mem) (QcO g Q) 0 0 (gA g)
theorem PcO.blind {g : Wg} {as : List Vl} {mem : Mm} : FrameBlind (PcO g as mem) := fun _ _ _ _ h => ⟨h.1, h.2.1, h.2.2.calling⟩
end
section
/-! THE SMALL MACHINE'S STEP, and that it says the truth of the machine -/
/-- a row of a method's table: the instruction; two numbers; a constant; a callee; a switch -/
abbrev En : Type := Instr × Nat × Nat × Vl × Hd × List (Int32 × Nat)
abbrev eI (e : En) : Instr := e.1
abbrev eA (e : En) : Nat := e.2.1
abbrev eB (e : En) : Nat := e.2.2.1
abbrev eC (e : En) : Vl := e.2.2.2.1
abbrev eH (e : En) : Hd := e.2.2.2.2.1
abbrev eS (e : En) : List (Int32 × Nat) := e.2.2.2.2.2
def noH : Hd := (⟨"", "", ""⟩, ⟨#[]⟩, 0, none, 0, 0, 0)
abbrev Lc : Type := List (Nat × Vl)
def lkL (L : Lc) (a : Nat) : Option Vl := match L with
  | [] => none
  | q :: r => match Nat.beq q.1 a with
    | true => some q.2
    | false => lkL r a
def isJ (v : Vl) : Bool := match v with
  | .inr (.inl _) => true
  | _ => false
def st1 (L : Lc) (a : Nat) (v : Vl) : Lc := (a, v) :: L.filter (fun q => !(Nat.beq q.1 a) && !(Nat.beq (q.1 + 1) a && isJ q.2))
def st2 (L : Lc) (a : Nat) (v : Vl) : Lc := (a, v) :: L.filter (fun q => !(Nat.beq q.1 a) && (!(Nat.beq q.1 (a + 1)) && !(Nat.beq (q.1 + 1) a && isJ q.2)))
def pI (S : List Vl) (F : Int32 → List Vl → Prop) : Prop := match S with
  | .inl x :: r => F x r
  | _ => False
def pJ (S : List Vl) (F : Int64 → List Vl → Prop) : Prop := match S with
  | .inr (.inl x) :: r => F x r
  | _ => False
def pO (S : List Vl) (F : Nat → Nat → Nat → List Vl → Prop) : Prop := match S with
  | .inr (.inr (t, k, i)) :: r => F t k i r
  | _ => False
/-- one of one word -/
def p1 (S : List Vl) (F : Vl → List Vl → Prop) : Prop := match S with
  | .inl x :: r => F (.inl x) r
  | .inr (.inr o) :: r => F (.inr (.inr o)) r
  | _ => False
def cI (v : Option Vl) (F : Int32 → Prop) : Prop := match v with
  | some (.inl x) => F x
  | _ => False
def cJ (v : Option Vl) (F : Int64 → Prop) : Prop := match v with
  | some (.inr (.inl x)) => F x
  | _ => False
def cO (v : Option Vl) (F : Nat → Nat → Nat → Prop) : Prop := match v with
  | some (.inr (.inr (t, k, i))) => F t k i
  | _ => False
def bt (b : Bool) (P : Prop) : Prop := match b with
  | true => P
  | false => False
def brk (c : Jvm.ClassFile.Cond) (x y : Int32) (A B : Prop) : Prop := match c with
  | .eq => (x = y → A) ∧ (¬ x = y → B)
  | .ne => (¬ x = y → A) ∧ (x = y → B)
  | .lt => (x < y → A) ∧ (¬ x < y → B)
  | .ge => (y ≤ x → A) ∧ (¬ y ≤ x → B)
  | .gt => (y < x → A) ∧ (¬ y < x → B)
  | .le => (x ≤ y → A) ∧ (¬ x ≤ y → B)
def swc (x : Int32) (sw : List (Int32 × Nat)) (d : Nat) (F : Nat → Prop) : Prop := match sw with
  | [] => F d
  | q :: r => (x = q.1 → F q.2) ∧ (¬ x = q.1 → swc x r d F)
/-- what a field of a type may hold -/
def nrC (ty : FieldType) (x : Int32) (P : Prop) : Prop := match ty with
  | .boolean => (x = 0 ∨ x = 1) ∧ P
  | .char => (0 ≤ x ∧ x ≤ 65535) ∧ P
  | _ => P
def okF (t ci j : Nat) : Bool := Nat.beq (ciO t) ci && Nat.blt j (nfO ci)
def catV (v : Vl) : Nat := match v with
  | .inr (.inl _) => 2
  | _ => 1
def catS (S : List Vl) : Nat := match S with
  | [] => 0
  | v :: r => catV v + catS r
/-- what an answer of a type may be -/
def rtC (ty : Option FieldType) (x : Int32) (P : Prop) : Prop := match ty with
  | some .int => P
  | some .boolean => (x = 0 ∨ x = 1) ∧ P
  | some .char => (0 ≤ x ∧ x ≤ 65535) ∧ P
  | some .byte => x = 0 ∧ P
  | _ => False
def vtC (ty : Option FieldType) (P : Prop) : Prop := match ty with
  | none => P
  | _ => False
def atC (ty : Option FieldType) (P : Prop) : Prop := match ty with
  | some (.object _) => P
  | _ => False
def callO (g : Wg) (h : Hd) (as : List Vl) (mem : Mm) (pc : Nat) (L : Lc) (S : List Vl) (K : Nat → Lc → List Vl → Mm → Prop) : Prop := match hR h with
  | none => Runs g h as mem (fun r m' => r = none ∧ K pc L S m')
  | some (.object _) => Runs g h as mem (fun r m' => ∃ t k i, r = some (vO t k i) ∧ K pc L (vO t k i :: S) m')
  | some _ => Runs g h as mem (fun r m' => ∃ x, r = some (vI x) ∧ K pc L (vI x :: S) m')
def stp (g : Wg) (h : Hd) (Q : Option Vl → Mm → Prop) (K : Nat → Lc → List Vl → Mm → Prop) (e : En) (pc : Nat) (L : Lc) (S : List Vl) (mem : Mm) : Prop := match eI e with
  | .iconst _ => cI (some (eC e)) fun x => K (pc + 1) L (vI x :: S) mem
  | .bipush _ => cI (some (eC e)) fun x => K (pc + 2) L (vI x :: S) mem
  | .sipush _ => cI (some (eC e)) fun x => K (pc + 3) L (vI x :: S) mem
  | .ldc_w _ => cI (some (eC e)) fun x => K (pc + 3) L (vI x :: S) mem
  | .ldc2_w _ => cJ (some (eC e)) fun x => K (pc + 3) L (vJ x :: S) mem
  | .lconst _ => cJ (some (eC e)) fun x => K (pc + 1) L (vJ x :: S) mem
  | .ldc _ => K (pc + 2) L (vO 21 (eA e) 0 :: S) mem
  | .aconst_null => K (pc + 1) L (vO 0 0 0 :: S) mem
  | .iload _ => cI (lkL L (eA e)) fun x => K (pc + 2) L (vI x :: S) mem
  | .iload_n _ => cI (lkL L (eA e)) fun x => K (pc + 1) L (vI x :: S) mem
  | .lload _ => cJ (lkL L (eA e)) fun x => K (pc + 2) L (vJ x :: S) mem
  | .lload_n _ => cJ (lkL L (eA e)) fun x => K (pc + 1) L (vJ x :: S) mem
  | .aload _ => cO (lkL L (eA e)) fun t k i => K (pc + 2) L (vO t k i :: S) mem
  | .aload_n _ => cO (lkL L (eA e)) fun t k i => K (pc + 1) L (vO t k i :: S) mem
  | .istore _ => pI S fun x S => K (pc + 2) (st1 L (eA e) (vI x)) S mem
  | .istore_n _ => pI S fun x S => K (pc + 1) (st1 L (eA e) (vI x)) S mem
  | .lstore _ => pJ S fun x S => K (pc + 2) (st2 L (eA e) (vJ x)) S mem
  | .lstore_n _ => pJ S fun x S => K (pc + 1) (st2 L (eA e) (vJ x)) S mem
  | .astore _ => pO S fun t k i S => K (pc + 2) (st1 L (eA e) (vO t k i)) S mem
  | .astore_n _ => pO S fun t k i S => K (pc + 1) (st1 L (eA e) (vO t k i)) S mem
  | .iinc _ _ => cI (lkL L (eA e)) fun x => cI (some (eC e)) fun c => K (pc + 3) (st1 L (eA e) (vI (x + c))) S mem
  | .iadd => pI S fun y S => pI S fun x S => K (pc + 1) L (vI (x + y) :: S) mem
  | .isub => pI S fun y S => pI S fun x S => K (pc + 1) L (vI (x - y) :: S) mem
  | .imul => pI S fun y S => pI S fun x S => K (pc + 1) L (vI (x * y) :: S) mem
  | .iand => pI S fun y S => pI S fun x S => K (pc + 1) L (vI (x &&& y) :: S) mem
  | .ior => pI S fun y S => pI S fun x S => K (pc + 1) L (vI (x ||| y) :: S) mem
  | .ixor => pI S fun y S => pI S fun x S => K (pc + 1) L (vI (x ^^^ y) :: S) mem
  | .idiv => pI S fun y S => pI S fun x S => (¬ y = 0) ∧ K (pc + 1) L (vI (x / y) :: S) mem
  | .irem => pI S fun y S => pI S fun x S => (¬ y = 0) ∧ K (pc + 1) L (vI (x - x / y * y) :: S) mem
  | .ishl => pI S fun y S => pI S fun x S => K (pc + 1) L (vI (x <<< (y &&& 31)) :: S) mem
  | .ishr => pI S fun y S => pI S fun x S => K (pc + 1) L (vI (x >>> (y &&& 31)) :: S) mem
  | .iushr => pI S fun y S => pI S fun x S => K (pc + 1) L (vI (x.toUInt32 >>> (y.toUInt32 &&& Int32.toUInt32 31)).toInt32 :: S) mem
  | .land => pJ S fun y S => pJ S fun x S => K (pc + 1) L (vJ (x &&& y) :: S) mem
  | .lor => pJ S fun y S => pJ S fun x S => K (pc + 1) L (vJ (x ||| y) :: S) mem
  | .lushr => pI S fun y S => pJ S fun x S => K (pc + 1) L (vJ (x.toUInt64 >>> (y.toInt64.toUInt64 &&& Int64.toUInt64 63)).toInt64 :: S) mem
  | .lshl => pI S fun y S => pJ S fun x S => K (pc + 1) L (vJ (x <<< (y.toInt64 &&& 63)) :: S) mem
  | .lcmp => pJ S fun y S => pJ S fun x S => K (pc + 1) L (vI (lg_cmp x y) :: S) mem
  | .l2i => pJ S fun x S => K (pc + 1) L (vI x.toInt32 :: S) mem
  | .i2l => pI S fun x S => K (pc + 1) L (vJ x.toInt64 :: S) mem
  | .i2c => pI S fun x S => K (pc + 1) L (vI (x.toUInt32 % 65536).toInt32 :: S) mem
  | .dup => p1 S fun v S => K (pc + 1) L (v :: v :: S) mem
  | .pop => p1 S fun _ S => K (pc + 1) L S mem
  | .dup_x1 => p1 S fun v S => p1 S fun w S => K (pc + 1) L (v :: w :: v :: S) mem
  | .dup2 => p1 S fun v S => p1 S fun w S => K (pc + 1) L (v :: w :: v :: w :: S) mem
  | .ifCond c _ => pI S fun x S => brk c x 0 (K (eA e) L S mem) (K (pc + 3) L S mem)
  | .if_icmp c _ => pI S fun y S => pI S fun x S => brk c x y (K (eA e) L S mem) (K (pc + 3) L S mem)
  | .goto _ => K (eA e) L S mem
  | .ifnonnull _ => pO S fun t _ _ S => match t with
    | 0 => K (pc + 3) L S mem
    | 25 => False
    | _ => K (eA e) L S mem
  | .tableswitch .. => pI S fun x S => swc x (eS e) (eA e) (fun t => K t L S mem)
  | .lookupswitch .. => pI S fun x S => swc x (eS e) (eA e) (fun t => K t L S mem)
  | .getfield _ => pO S fun t k i S => match eA e with
    | 100 => bt (Nat.beq t 21) (match eB e with
      | 0 => K (pc + 3) L (vO 23 k 0 :: S) mem
      | _ => K (pc + 3) L (vI 0 :: S) mem)
    | _ => bt (okF t (eA e) (eB e)) (K (pc + 3) L (fvO mem t k i (eB e) :: S) mem)
  | .putfield _ => pI S fun x S => pO S fun t k i S => bt (okF t (eA e) (eB e) && (refO t k (eB e)).isNone) (nrC (clsF (eA e) (eB e)) x (K (pc + 3) L S (mset mem t k i (eB e) x)))
  | .getstatic _ => K (pc + 3) L (eC e :: S) mem
  | .aaload => pI S fun x S => pO S fun t k _ S => bt (isQ t) (vp_in x (lenO t k) ∧ K (pc + 1) L (.inr (.inr (elO t k x.toNatClampNeg)) :: S) mem)
  | .iaload => pI S fun x S => pO S fun t k i S => match t with
    | 20 => vp_in x (gX g).2.1 ∧ K (pc + 1) L (vI ((gX g).2.2 x.toNatClampNeg) :: S) mem
    | 22 => vp_in x 5 ∧ K (pc + 1) L (vI (staV k x.toNatClampNeg) :: S) mem
    | t => bt (isP t) (vp_in x (lenO t k) ∧ K (pc + 1) L (vI (mem (t, k, i) x.toNatClampNeg) :: S) mem)
  | .iastore => pI S fun v S => pI S fun x S => pO S fun t k i S => bt (isP t) (vp_in x (lenO t k) ∧ K (pc + 1) L S (mset mem t k i x.toNatClampNeg v))
  | .baload => pI S fun x S => pO S fun t k i S => match t with
    | 23 => vp_in x (strN k) ∧ K (pc + 1) L (vI ((strB k).getD x.toNatClampNeg 0) :: S) mem
    | t => bt (isZ t) (vp_in x (lenO t k) ∧ K (pc + 1) L (vI (mem (t, k, i) x.toNatClampNeg) :: S) mem)
  | .bastore => pI S fun v S => pI S fun x S => pO S fun t k i S => bt (isZ t) (vp_in x (lenO t k) ∧ K (pc + 1) L S (mset mem t k i x.toNatClampNeg (vp_nar .boolean v)))
  | .caload => pI S fun x S => pO S fun t k i S => bt (Nat.beq t 15) (vp_in x (lenO t k) ∧ K (pc + 1) L (vI (mem (t, k, i) x.toNatClampNeg) :: S) mem)
  | .castore => pI S fun v S => pI S fun x S => pO S fun t k i S => bt (Nat.beq t 15) (vp_in x (lenO t k) ∧ K (pc + 1) L S (mset mem t k i x.toNatClampNeg (vp_nar .char v)))
  | .arraylength => pO S fun t k _ S => match t with
    | 20 => K (pc + 1) L (vI (Int32.ofNat (gX g).2.1) :: S) mem
    | 23 => K (pc + 1) L (vI (Int32.ofNat (strN k)) :: S) mem
    | t => bt (isP t || isQ t) (K (pc + 1) L (vI (Int32.ofNat (lenO t k)) :: S) mem)
  | .invokevirtual _ => bt (Nat.ble (eB e) S.length && Nat.ble (catS (S.drop (eB e))) 8) (match (S.take (eB e)).reverse with
    | .inr (.inr (t, k, i)) :: as => bt (match eA e with
      | 100 => Nat.beq t 21
      | ci => Nat.beq (ciO t) ci && Nat.blt ci 8) (callO g (eH e) (vO t k i :: as) mem (pc + 3) L (S.drop (eB e)) K)
    | _ => False)
  | .invokestatic _ => match eA e with
    | 7 => pI S fun y S => pI S fun x S => bt (Nat.ble (catS S) 8) (K (pc + 3) L (vI (if x < y then y else x) :: S) mem)
    | 8 => pI S fun y S => pI S fun x S => bt (Nat.ble (catS S) 8) (K (pc + 3) L (vI (if y < x then y else x) :: S) mem)
    | 9 => pI S fun n S => pI S fun dp S => pO S fun t' k' i' S => pI S fun sp S => pO S fun t k i S => bt (Nat.beq t 3 && Nat.beq t' 3 && Nat.ble (catS S) 8) ((sp = 0 ∧ dp = 0 ∧ n = 5) ∧ K (pc + 3) L S (fun o => if o = (t', k', i') then va_cpy (mem (t, k, i)) (mem (t', k', i')) 0 0 5 else mem o))
    | _ => bt (Nat.ble (eB e) S.length && Nat.ble (catS (S.drop (eB e))) 8) (callO g (eH e) (S.take (eB e)).reverse mem (pc + 3) L (S.drop (eB e)) K)
  | .ireturn => pI S fun x S => match S with
    | [] => rtC (hR h) x (Q (some (vI x)) mem)
    | _ => False
  | .areturn => pO S fun t k i S => match S with
    | [] => bt (Nat.beq t 21 || Nat.beq t 0) (atC (hR h) (Q (some (vO t k i)) mem))
    | _ => False
  | .return_ => match S with
    | [] => vtC (hR h) (Q none mem)
    | _ => False
  | _ => False
/-- from a place of a method on, as deep as n steps or to the next cut: then K -/
def go (g : Wg) (h : Hd) (Q : Option Vl → Mm → Prop) (cd : List (Option En)) (cut : List Nat) (K : Nat → Lc → List Vl → Mm → Prop) : Nat → Bool → Nat → Lc → List Vl → Mm → Prop
  | 0, _, pc, L, S, mem => K pc L S mem
  | n + 1, b, pc, L, S, mem => match b && cut.any (fun q => Nat.beq q pc) with
    | true => K pc L S mem
    | false => match cd[pc]? with
      | some (some e) => stp g h Q (go g h Q cd cut K n true) e pc L S mem
      | _ => False
end
section
/-! SOUNDNESS of the small machine's step, an instruction a row -/
section SND
variable {g : Wg} {h : Hd} {Q : Option Vl → Mm → Prop} {p : Program} {e : Env} {R : Room} {s : State} {m : MethodId} {args : Array Value} {below : List Frame} {meth : Method} {c : Code} {cells slots : Nat} {Z : State → Prop}
def Okc (g : Wg) (h : Hd) (Q : Option Vl → Mm → Prop) (p : Program) (e : Env) (R : Room) (s : State) (m : MethodId) (args : Array Value) (below : List Frame) (meth : Method) (c : Code) (cells slots : Nat) (Z : State → Prop) : Prop :=
  p.tables.exec = Jvm.exec ∧ c.code = hB h ∧ c.maxLocals = hM h ∧ s.vm.findClass (hY h).cls = some m.cls ∧ (hF h ≤ R.frames ∧ hL h ≤ R.locals ∧ cells ≤ R.cells ∧ slots ≤ R.slots) ∧ va_K (gD g) clsL (tysO g) s ∧ Tb s ∧ Ext g s s.heap ∧
  (∀ (H : Heap) (locs : List Loc) (ls : Array Slot) (pc : Nat) (x : Int32) (mem : Mm), decode (hB h) pc = .ok (.ireturn, 1) → rtC (hR h) x (Q (some (vI x)) mem) → va_P (gD g) clsL (wsO g mem) H → va_S (gA g) s.heap H locs → W p (gL g) e R s m args below meth c H locs cells slots Z (F0 m pc ls [.int x])) ∧
  (∀ (H : Heap) (locs : List Loc) (ls : Array Slot) (pc : Nat) (mem : Mm), decode (hB h) pc = .ok (.return_, 1) → vtC (hR h) (Q none mem) → va_P (gD g) clsL (wsO g mem) H → va_S (gA g) s.heap H locs → W p (gL g) e R s m args below meth c H locs cells slots Z (F0 m pc ls [])) ∧
  (∀ (H : Heap) (locs : List Loc) (ls : Array Slot) (pc : Nat) (t k i : Nat) (mem : Mm), decode (hB h) pc = .ok (.areturn, 1) → okV (vO t k i) → atC (hR h) (Q (some (vO t k i)) mem) → va_P (gD g) clsL (wsO g mem) H → va_S (gA g) s.heap H locs → W p (gL g) e R s m args below meth c H locs cells slots Z (F0 m pc ls [vvO g (vO t k i)]))
def AtO (g : Wg) (h : Hd) (p : Program) (e : Env) (R : Room) (s : State) (m : MethodId) (args : Array Value) (below : List Frame) (meth : Method) (c : Code) (cells slots : Nat) (Z : State → Prop) (pc : Nat) (L : Lc) (S : List Vl) (mem : Mm) : Prop :=
  ∀ (H : Heap) (locs : List Loc) (ls : Array Slot), va_P (gD g) clsL (wsO g mem) H → va_S (gA g) s.heap H locs → lv_has ls (hM h) (L.map (fun q => (q.1, vvO g q.2))) → (∀ q ∈ L, okV q.2) → (∀ v ∈ S, okV v) →
    W p (gL g) e R s m args below meth c H locs cells slots Z (F0 m pc ls (S.map (vvO g)))
theorem lkL_mem : ∀ {L : Lc} {a : Nat} {v : Vl}, lkL L a = some v → (a, v) ∈ L
  | [], _, _, hh => by cases hh
  | q :: r, a, v, hh => by
    unfold lkL at hh
    split at hh
    · rename_i hq
      cases hh
      have := Nat.eq_of_beq_eq_true hq
      subst this
      exact List.mem_cons_self
    · exact List.mem_cons_of_mem _ (lkL_mem hh)
theorem lkL_at {ls : Array Slot} {n : Nat} {L : Lc} {a : Nat} {v : Vl} (hl : lv_has ls n (L.map (fun q => (q.1, vvO g q.2)))) (hv : lkL L a = some v) : ls[a]? = some (.val (vvO g v)) := hl.2.2 (a, vvO g v) (List.mem_map.mpr ⟨(a, v), lkL_mem hv, rfl⟩)
theorem vvO_or (g : Wg) (t k i : Nat) : vvO g (vO t k i) = .null ∨ ∃ a, vvO g (vO t k i) = .ref a := by
  unfold vvO
  dsimp only
  split
  · exact Or.inl rfl
  · cases gF g with
    | none => exact Or.inl rfl
    | some a => exact Or.inr ⟨a, rfl⟩
  · exact Or.inr ⟨_, rfl⟩
theorem vvO_ref {g : Wg} {t k i : Nat} (h0 : t ≠ 0) (h1 : t ≠ 25) : vvO g (vO t k i) = .ref (adO g t k i) := by
  unfold vvO
  dsimp only
  split
  · exact absurd rfl h0
  · exact absurd rfl h1
  · rfl
theorem vvO_cat (g : Wg) (v : Vl) : (vvO g v).category = catV v := by
  obtain x | x | ⟨t, k, i⟩ := v
  · rfl
  · rfl
  · rcases vvO_or g t k i with hh | ⟨a, hh⟩ <;> rw [hh] <;> rfl
theorem isJ_cat (g : Wg) (v : Vl) : isJ v = ((vvO g v).category == 2) := by
  rw [vvO_cat]
  obtain x | x | ⟨t, k, i⟩ := v <;> rfl
theorem beqN (a b : Nat) : (a == b) = Nat.beq a b := by
  cases hh : Nat.beq a b
  · exact beq_eq_false_iff_ne.mpr (Nat.ne_of_beq_eq_false hh)
  · exact beq_iff_eq.mpr (Nat.eq_of_beq_eq_true hh)
theorem st1_map (g : Wg) (L : Lc) (a : Nat) (v : Vl) : (a, vvO g v) :: (L.map (fun q => (q.1, vvO g q.2))).filter (fun q => !(q.1 == a) && !(q.1 + 1 == a && q.2.category == 2)) = (st1 L a v).map (fun q => (q.1, vvO g q.2)) := by
  unfold st1
  rw [List.map_cons, List.filter_map]
  congr 2
  apply List.filter_congr
  intro q _
  simp only [Function.comp, isJ_cat g, beqN]
theorem st2_map (g : Wg) (L : Lc) (a : Nat) (v : Vl) : (a, vvO g v) :: (L.map (fun q => (q.1, vvO g q.2))).filter (fun q => !(q.1 == a) && (!(q.1 == a + 1) && !(q.1 + 1 == a && q.2.category == 2))) = (st2 L a v).map (fun q => (q.1, vvO g q.2)) := by
  unfold st2
  rw [List.map_cons, List.filter_map]
  congr 2
  apply List.filter_congr
  intro q _
  simp only [Function.comp, isJ_cat g, beqN]
theorem st1_ok {L : Lc} {a : Nat} {v : Vl} (hL : ∀ q ∈ L, okV q.2) (hv : okV v) : ∀ q ∈ st1 L a v, okV q.2 := by
  intro q hq
  rcases List.mem_cons.mp hq with rfl | hq
  · exact hv
  · exact hL q (List.mem_filter.mp hq).1
theorem st2_ok {L : Lc} {a : Nat} {v : Vl} (hL : ∀ q ∈ L, okV q.2) (hv : okV v) : ∀ q ∈ st2 L a v, okV q.2 := by
  intro q hq
  rcases List.mem_cons.mp hq with rfl | hq
  · exact hv
  · exact hL q (List.mem_filter.mp hq).1
theorem okS_c {v : Vl} {S : List Vl} (hv : okV v) (hS : ∀ w ∈ S, okV w) : ∀ w ∈ v :: S, okV w := by
  intro w hw
  rcases List.mem_cons.mp hw with rfl | hw
  · exact hv
  · exact hS w hw
theorem okS_t {v : Vl} {S : List Vl} (hS : ∀ w ∈ v :: S, okV w) : ∀ w ∈ S, okV w := fun w hw => hS w (List.mem_cons_of_mem _ hw)
theorem okS_h {v : Vl} {S : List Vl} (hS : ∀ w ∈ v :: S, okV w) : okV v := hS v List.mem_cons_self
variable {pc : Nat} {L : Lc} {S : List Vl} {mem : Mm}

theorem s_iconst (C : Okc g h Q p e R s m args below meth c cells slots Z) {n : Int} {x : Int32} (hd : decode (hB h) pc = .ok (.iconst n, 1)) (hv : Int32.ofInt n = x) (hk : AtO g h p e R s m args below meth c cells slots Z (pc + 1) L (vI x :: S) mem) : AtO g h p e R s m args below meth c cells slots Z pc L S mem := by
  obtain ⟨hx, hb, hml, hown, hrm, hK, hT, hE, -, -, -⟩ := C
  intro H locs ls hP hS hl hLo hSo
  exact lv_iconst hx hb hd hv (hk H locs ls hP hS hl hLo (okS_c trivial hSo))
theorem s_bipush (C : Okc g h Q p e R s m args below meth c cells slots Z) {n : Int} {x : Int32} (hd : decode (hB h) pc = .ok (.bipush n, 2)) (hv : (Int8.ofInt n).toInt32 = x) (hk : AtO g h p e R s m args below meth c cells slots Z (pc + 2) L (vI x :: S) mem) : AtO g h p e R s m args below meth c cells slots Z pc L S mem := by
  obtain ⟨hx, hb, hml, hown, hrm, hK, hT, hE, -, -, -⟩ := C
  intro H locs ls hP hS hl hLo hSo
  exact lv_bipush hx hb hd hv (hk H locs ls hP hS hl hLo (okS_c trivial hSo))
theorem s_sipush (C : Okc g h Q p e R s m args below meth c cells slots Z) {n : Int} {x : Int32} (hd : decode (hB h) pc = .ok (.sipush n, 3)) (hv : (Int16.ofInt n).toInt32 = x) (hk : AtO g h p e R s m args below meth c cells slots Z (pc + 3) L (vI x :: S) mem) : AtO g h p e R s m args below meth c cells slots Z pc L S mem := by
  obtain ⟨hx, hb, hml, hown, hrm, hK, hT, hE, -, -, -⟩ := C
  intro H locs ls hP hS hl hLo hSo
  exact lv_sipush hx hb hd hv (hk H locs ls hP hS hl hLo (okS_c trivial hSo))
theorem s_lconst (C : Okc g h Q p e R s m args below meth c cells slots Z) {n : Fin 2} {x : Int64} (hd : decode (hB h) pc = .ok (.lconst n, 1)) (hv : Int64.ofNat (n : Nat) = x) (hk : AtO g h p e R s m args below meth c cells slots Z (pc + 1) L (vJ x :: S) mem) : AtO g h p e R s m args below meth c cells slots Z pc L S mem := by
  obtain ⟨hx, hb, hml, hown, hrm, hK, hT, hE, -, -, -⟩ := C
  intro H locs ls hP hS hl hLo hSo
  exact lv_lconst hx hb hd hv (hk H locs ls hP hS hl hLo (okS_c trivial hSo))
theorem s_ldcw (C : Okc g h Q p e R s m args below meth c cells slots Z) {n : Nat} {x : Int32} (hd : decode (hB h) pc = .ok (.ldc_w n, 3)) (hv : InT (.constant (hY h).cls n x)) (hk : AtO g h p e R s m args below meth c cells slots Z (pc + 3) L (vI x :: S) mem) : AtO g h p e R s m args below meth c cells slots Z pc L S mem := by
  obtain ⟨hx, hb, hml, hown, hrm, hK, hT, hE, -, -, -⟩ := C
  intro H locs ls hP hS hl hLo hSo
  exact lv_ldcw hx hb hown (hT.use hv) hd (hk H locs ls hP hS hl hLo (okS_c trivial hSo))
theorem s_ldc2 (C : Okc g h Q p e R s m args below meth c cells slots Z) {n : Nat} {x : Int64} (hd : decode (hB h) pc = .ok (.ldc2_w n, 3)) (hv : InT (.constantLong (hY h).cls n x)) (hk : AtO g h p e R s m args below meth c cells slots Z (pc + 3) L (vJ x :: S) mem) : AtO g h p e R s m args below meth c cells slots Z pc L S mem := by
  obtain ⟨hx, hb, hml, hown, hrm, hK, hT, hE, -, -, -⟩ := C
  intro H locs ls hP hS hl hLo hSo
  exact lv_ldc2 hx hb hown (hT.use hv) hd (hk H locs ls hP hS hl hLo (okS_c trivial hSo))
theorem s_null (C : Okc g h Q p e R s m args below meth c cells slots Z) (hd : decode (hB h) pc = .ok (.aconst_null, 1)) (hk : AtO g h p e R s m args below meth c cells slots Z (pc + 1) L (vO 0 0 0 :: S) mem) : AtO g h p e R s m args below meth c cells slots Z pc L S mem := by
  obtain ⟨hx, hb, hml, hown, hrm, hK, hT, hE, -, -, -⟩ := C
  intro H locs ls hP hS hl hLo hSo
  exact lv_null hx hb hd (hk H locs ls hP hS hl hLo (okS_c rfl hSo))
theorem s_ldcS (C : Okc g h Q p e R s m args below meth c cells slots Z) {k : Nat} (hd : decode (hB h) pc = .ok (.ldc (strP k), 2)) (hc : (hY h).cls = "NurseryPlaces$Pad") (hk5 : k < 5) (hk : AtO g h p e R s m args below meth c cells slots Z (pc + 2) L (vO 21 k 0 :: S) mem) : AtO g h p e R s m args below meth c cells slots Z pc L S mem := by
  obtain ⟨hx, hb, hml, hown, hrm, hK, hT, hE, -, -, -⟩ := C
  intro H locs ls hP hS hl hLo hSo
  rw [hc] at hown
  have hs := hE.2.2.2.2.2.2.2.1 k hk5
  exact va_ldcS hx hb hown hs hd (hk H locs ls hP hS hl hLo (okS_c (by show Nat.blt k 5 = true; exact Nat.ble_eq.mpr hk5) hSo))
theorem s_iload (C : Okc g h Q p e R s m args below meth c cells slots Z) {a : Nat} {x : Int32} (hd : decode (hB h) pc = .ok (.iload a, 2)) (hv : lkL L a = some (vI x)) (hk : AtO g h p e R s m args below meth c cells slots Z (pc + 2) L (vI x :: S) mem) : AtO g h p e R s m args below meth c cells slots Z pc L S mem := by
  obtain ⟨hx, hb, hml, hown, hrm, hK, hT, hE, -, -, -⟩ := C
  intro H locs ls hP hS hl hLo hSo
  exact lv_iload hx hb hd (lkL_at hl hv) (hk H locs ls hP hS hl hLo (okS_c trivial hSo))
theorem s_iload_n (C : Okc g h Q p e R s m args below meth c cells slots Z) {n : Fin 4} {a : Nat} {x : Int32} (hd : decode (hB h) pc = .ok (.iload_n n, 1)) (hn : (n : Nat) = a) (hv : lkL L a = some (vI x)) (hk : AtO g h p e R s m args below meth c cells slots Z (pc + 1) L (vI x :: S) mem) : AtO g h p e R s m args below meth c cells slots Z pc L S mem := by
  obtain ⟨hx, hb, hml, hown, hrm, hK, hT, hE, -, -, -⟩ := C
  intro H locs ls hP hS hl hLo hSo
  exact lv_iload_n hx hb hd hn (lkL_at hl hv) (hk H locs ls hP hS hl hLo (okS_c trivial hSo))
theorem s_lload (C : Okc g h Q p e R s m args below meth c cells slots Z) {a : Nat} {x : Int64} (hd : decode (hB h) pc = .ok (.lload a, 2)) (hv : lkL L a = some (vJ x)) (hk : AtO g h p e R s m args below meth c cells slots Z (pc + 2) L (vJ x :: S) mem) : AtO g h p e R s m args below meth c cells slots Z pc L S mem := by
  obtain ⟨hx, hb, hml, hown, hrm, hK, hT, hE, -, -, -⟩ := C
  intro H locs ls hP hS hl hLo hSo
  exact lv_lload hx hb hd (lkL_at hl hv) (hk H locs ls hP hS hl hLo (okS_c trivial hSo))
theorem s_lload_n (C : Okc g h Q p e R s m args below meth c cells slots Z) {n : Fin 4} {a : Nat} {x : Int64} (hd : decode (hB h) pc = .ok (.lload_n n, 1)) (hn : (n : Nat) = a) (hv : lkL L a = some (vJ x)) (hk : AtO g h p e R s m args below meth c cells slots Z (pc + 1) L (vJ x :: S) mem) : AtO g h p e R s m args below meth c cells slots Z pc L S mem := by
  obtain ⟨hx, hb, hml, hown, hrm, hK, hT, hE, -, -, -⟩ := C
  intro H locs ls hP hS hl hLo hSo
  exact lv_lload_n hx hb hd hn (lkL_at hl hv) (hk H locs ls hP hS hl hLo (okS_c trivial hSo))
theorem s_aload (C : Okc g h Q p e R s m args below meth c cells slots Z) {a t k i : Nat} (hd : decode (hB h) pc = .ok (.aload a, 2)) (hv : lkL L a = some (vO t k i)) (hk : AtO g h p e R s m args below meth c cells slots Z (pc + 2) L (vO t k i :: S) mem) : AtO g h p e R s m args below meth c cells slots Z pc L S mem := by
  obtain ⟨hx, hb, hml, hown, hrm, hK, hT, hE, -, -, -⟩ := C
  intro H locs ls hP hS hl hLo hSo
  have hw := hk H locs ls hP hS hl hLo (okS_c (hLo _ (lkL_mem hv)) hSo)
  have ha := lkL_at hl hv
  rw [List.map_cons] at hw
  rcases vvO_or g t k i with hh | ⟨a1, hh⟩ <;> rw [hh] at ha hw
  · exact lv_aloadN hx hb hd ha hw
  · exact lv_aload hx hb hd ha hw
theorem s_aload_n (C : Okc g h Q p e R s m args below meth c cells slots Z) {n : Fin 4} {a t k i : Nat} (hd : decode (hB h) pc = .ok (.aload_n n, 1)) (hn : (n : Nat) = a) (hv : lkL L a = some (vO t k i)) (hk : AtO g h p e R s m args below meth c cells slots Z (pc + 1) L (vO t k i :: S) mem) : AtO g h p e R s m args below meth c cells slots Z pc L S mem := by
  obtain ⟨hx, hb, hml, hown, hrm, hK, hT, hE, -, -, -⟩ := C
  intro H locs ls hP hS hl hLo hSo
  have hw := hk H locs ls hP hS hl hLo (okS_c (hLo _ (lkL_mem hv)) hSo)
  have ha := lkL_at hl hv
  rw [List.map_cons] at hw
  rcases vvO_or g t k i with hh | ⟨a1, hh⟩ <;> rw [hh] at ha hw
  · exact lv_aload_nN hx hb hd hn ha hw
  · exact lv_aload_n hx hb hd hn ha hw
theorem s_istore (C : Okc g h Q p e R s m args below meth c cells slots Z) {a : Nat} {x : Int32} (hd : decode (hB h) pc = .ok (.istore a, 2)) (hn : a < hM h) (hk : AtO g h p e R s m args below meth c cells slots Z (pc + 2) (st1 L a (vI x)) S mem) : AtO g h p e R s m args below meth c cells slots Z pc L (vI x :: S) mem := by
  obtain ⟨hx, hb, hml, hown, hrm, hK, hT, hE, -, -, -⟩ := C
  intro H locs ls hP hS hl hLo hSo
  exact lv_istore hx hb hd hl hn (st1_map g L a (vI x)) (fun ls2 hl2 => hk H locs ls2 hP hS hl2 (st1_ok hLo trivial) (okS_t hSo))
theorem s_istore_n (C : Okc g h Q p e R s m args below meth c cells slots Z) {n : Fin 4} {a : Nat} {x : Int32} (hd : decode (hB h) pc = .ok (.istore_n n, 1)) (hi : (n : Nat) = a) (hn : a < hM h) (hk : AtO g h p e R s m args below meth c cells slots Z (pc + 1) (st1 L a (vI x)) S mem) : AtO g h p e R s m args below meth c cells slots Z pc L (vI x :: S) mem := by
  obtain ⟨hx, hb, hml, hown, hrm, hK, hT, hE, -, -, -⟩ := C
  intro H locs ls hP hS hl hLo hSo
  exact lv_istore_n hx hb hd hi hl hn (st1_map g L a (vI x)) (fun ls2 hl2 => hk H locs ls2 hP hS hl2 (st1_ok hLo trivial) (okS_t hSo))
theorem s_lstore (C : Okc g h Q p e R s m args below meth c cells slots Z) {a : Nat} {x : Int64} (hd : decode (hB h) pc = .ok (.lstore a, 2)) (hn : a + 1 < hM h) (hk : AtO g h p e R s m args below meth c cells slots Z (pc + 2) (st2 L a (vJ x)) S mem) : AtO g h p e R s m args below meth c cells slots Z pc L (vJ x :: S) mem := by
  obtain ⟨hx, hb, hml, hown, hrm, hK, hT, hE, -, -, -⟩ := C
  intro H locs ls hP hS hl hLo hSo
  exact lv_lstore hx hb hd hl hn (st2_map g L a (vJ x)) (fun ls2 hl2 => hk H locs ls2 hP hS hl2 (st2_ok hLo trivial) (okS_t hSo))
theorem s_lstore_n (C : Okc g h Q p e R s m args below meth c cells slots Z) {n : Fin 4} {a : Nat} {x : Int64} (hd : decode (hB h) pc = .ok (.lstore_n n, 1)) (hi : (n : Nat) = a) (hn : a + 1 < hM h) (hk : AtO g h p e R s m args below meth c cells slots Z (pc + 1) (st2 L a (vJ x)) S mem) : AtO g h p e R s m args below meth c cells slots Z pc L (vJ x :: S) mem := by
  obtain ⟨hx, hb, hml, hown, hrm, hK, hT, hE, -, -, -⟩ := C
  intro H locs ls hP hS hl hLo hSo
  exact lv_lstore_n hx hb hd hi hl hn (st2_map g L a (vJ x)) (fun ls2 hl2 => hk H locs ls2 hP hS hl2 (st2_ok hLo trivial) (okS_t hSo))
theorem s_astore (C : Okc g h Q p e R s m args below meth c cells slots Z) {a t k i : Nat} (hd : decode (hB h) pc = .ok (.astore a, 2)) (hn : a < hM h) (hk : AtO g h p e R s m args below meth c cells slots Z (pc + 2) (st1 L a (vO t k i)) S mem) : AtO g h p e R s m args below meth c cells slots Z pc L (vO t k i :: S) mem := by
  obtain ⟨hx, hb, hml, hown, hrm, hK, hT, hE, -, -, -⟩ := C
  intro H locs ls hP hS hl hLo hSo
  have hm := st1_map g L a (vO t k i)
  rw [List.map_cons]
  rcases vvO_or g t k i with hh | ⟨a1, hh⟩ <;> rw [hh] at hm ⊢
  · exact lv_astoreN hx hb hd hl hn hm (fun ls2 hl2 => hk H locs ls2 hP hS hl2 (st1_ok hLo (okS_h hSo)) (okS_t hSo))
  · exact lv_astore hx hb hd hl hn hm (fun ls2 hl2 => hk H locs ls2 hP hS hl2 (st1_ok hLo (okS_h hSo)) (okS_t hSo))
theorem s_astore_n (C : Okc g h Q p e R s m args below meth c cells slots Z) {n : Fin 4} {a t k i : Nat} (hd : decode (hB h) pc = .ok (.astore_n n, 1)) (hi : (n : Nat) = a) (hn : a < hM h) (hk : AtO g h p e R s m args below meth c cells slots Z (pc + 1) (st1 L a (vO t k i)) S mem) : AtO g h p e R s m args below meth c cells slots Z pc L (vO t k i :: S) mem := by
  obtain ⟨hx, hb, hml, hown, hrm, hK, hT, hE, -, -, -⟩ := C
  intro H locs ls hP hS hl hLo hSo
  have hm := st1_map g L a (vO t k i)
  rw [List.map_cons]
  rcases vvO_or g t k i with hh | ⟨a1, hh⟩ <;> rw [hh] at hm ⊢
  · exact lv_astore_nN hx hb hd hi hl hn hm (fun ls2 hl2 => hk H locs ls2 hP hS hl2 (st1_ok hLo (okS_h hSo)) (okS_t hSo))
  · exact lv_astore_n hx hb hd hi hl hn hm (fun ls2 hl2 => hk H locs ls2 hP hS hl2 (st1_ok hLo (okS_h hSo)) (okS_t hSo))
theorem s_iinc (C : Okc g h Q p e R s m args below meth c cells slots Z) {a : Nat} {n : Int} {x y : Int32} (hd : decode (hB h) pc = .ok (.iinc a n, 3)) (hv : lkL L a = some (vI x)) (hy : Int32.ofInt n = y) (hn : a < hM h) (hk : AtO g h p e R s m args below meth c cells slots Z (pc + 3) (st1 L a (vI (x + y))) S mem) : AtO g h p e R s m args below meth c cells slots Z pc L S mem := by
  obtain ⟨hx, hb, hml, hown, hrm, hK, hT, hE, -, -, -⟩ := C
  intro H locs ls hP hS hl hLo hSo
  obtain ⟨j, hj⟩ := List.getElem?_of_mem (List.mem_map.mpr ⟨(a, vI x), lkL_mem hv, rfl⟩ : (a, vvO g (vI x)) ∈ L.map (fun q => (q.1, vvO g q.2)))
  exact lv_iinc (k := j) hx hb hd hl hj (by rw [hy]) hn (st1_map g L a (vI (x + y))) (fun ls2 hl2 => hk H locs ls2 hP hS hl2 (st1_ok hLo trivial) hSo)
theorem s_iadd (C : Okc g h Q p e R s m args below meth c cells slots Z) {x y : Int32} (hd : decode (hB h) pc = .ok (.iadd, 1)) (hk : AtO g h p e R s m args below meth c cells slots Z (pc + 1) L (vI (x + y) :: S) mem) : AtO g h p e R s m args below meth c cells slots Z pc L (vI y :: vI x :: S) mem := by
  obtain ⟨hx, hb, hml, hown, hrm, hK, hT, hE, -, -, -⟩ := C
  intro H locs ls hP hS hl hLo hSo
  exact lv_iadd hx hb hd (hk H locs ls hP hS hl hLo (okS_c trivial (okS_t (okS_t hSo))))
theorem s_isub (C : Okc g h Q p e R s m args below meth c cells slots Z) {x y : Int32} (hd : decode (hB h) pc = .ok (.isub, 1)) (hk : AtO g h p e R s m args below meth c cells slots Z (pc + 1) L (vI (x - y) :: S) mem) : AtO g h p e R s m args below meth c cells slots Z pc L (vI y :: vI x :: S) mem := by
  obtain ⟨hx, hb, hml, hown, hrm, hK, hT, hE, -, -, -⟩ := C
  intro H locs ls hP hS hl hLo hSo
  exact lv_isub hx hb hd (hk H locs ls hP hS hl hLo (okS_c trivial (okS_t (okS_t hSo))))
theorem s_imul (C : Okc g h Q p e R s m args below meth c cells slots Z) {x y : Int32} (hd : decode (hB h) pc = .ok (.imul, 1)) (hk : AtO g h p e R s m args below meth c cells slots Z (pc + 1) L (vI (x * y) :: S) mem) : AtO g h p e R s m args below meth c cells slots Z pc L (vI y :: vI x :: S) mem := by
  obtain ⟨hx, hb, hml, hown, hrm, hK, hT, hE, -, -, -⟩ := C
  intro H locs ls hP hS hl hLo hSo
  exact lv_imul hx hb hd (hk H locs ls hP hS hl hLo (okS_c trivial (okS_t (okS_t hSo))))
theorem s_iand (C : Okc g h Q p e R s m args below meth c cells slots Z) {x y : Int32} (hd : decode (hB h) pc = .ok (.iand, 1)) (hk : AtO g h p e R s m args below meth c cells slots Z (pc + 1) L (vI (x &&& y) :: S) mem) : AtO g h p e R s m args below meth c cells slots Z pc L (vI y :: vI x :: S) mem := by
  obtain ⟨hx, hb, hml, hown, hrm, hK, hT, hE, -, -, -⟩ := C
  intro H locs ls hP hS hl hLo hSo
  exact lv_iand hx hb hd (hk H locs ls hP hS hl hLo (okS_c trivial (okS_t (okS_t hSo))))
theorem s_ior (C : Okc g h Q p e R s m args below meth c cells slots Z) {x y : Int32} (hd : decode (hB h) pc = .ok (.ior, 1)) (hk : AtO g h p e R s m args below meth c cells slots Z (pc + 1) L (vI (x ||| y) :: S) mem) : AtO g h p e R s m args below meth c cells slots Z pc L (vI y :: vI x :: S) mem := by
  obtain ⟨hx, hb, hml, hown, hrm, hK, hT, hE, -, -, -⟩ := C
  intro H locs ls hP hS hl hLo hSo
  exact lv_ior hx hb hd (hk H locs ls hP hS hl hLo (okS_c trivial (okS_t (okS_t hSo))))
theorem s_ixor (C : Okc g h Q p e R s m args below meth c cells slots Z) {x y : Int32} (hd : decode (hB h) pc = .ok (.ixor, 1)) (hk : AtO g h p e R s m args below meth c cells slots Z (pc + 1) L (vI (x ^^^ y) :: S) mem) : AtO g h p e R s m args below meth c cells slots Z pc L (vI y :: vI x :: S) mem := by
  obtain ⟨hx, hb, hml, hown, hrm, hK, hT, hE, -, -, -⟩ := C
  intro H locs ls hP hS hl hLo hSo
  exact lv_ixor hx hb hd (hk H locs ls hP hS hl hLo (okS_c trivial (okS_t (okS_t hSo))))
theorem s_ishl (C : Okc g h Q p e R s m args below meth c cells slots Z) {x y : Int32} (hd : decode (hB h) pc = .ok (.ishl, 1)) (hk : AtO g h p e R s m args below meth c cells slots Z (pc + 1) L (vI (x <<< (y &&& 31)) :: S) mem) : AtO g h p e R s m args below meth c cells slots Z pc L (vI y :: vI x :: S) mem := by
  obtain ⟨hx, hb, hml, hown, hrm, hK, hT, hE, -, -, -⟩ := C
  intro H locs ls hP hS hl hLo hSo
  exact lv_ishl hx hb hd (hk H locs ls hP hS hl hLo (okS_c trivial (okS_t (okS_t hSo))))
theorem s_ishr (C : Okc g h Q p e R s m args below meth c cells slots Z) {x y : Int32} (hd : decode (hB h) pc = .ok (.ishr, 1)) (hk : AtO g h p e R s m args below meth c cells slots Z (pc + 1) L (vI (x >>> (y &&& 31)) :: S) mem) : AtO g h p e R s m args below meth c cells slots Z pc L (vI y :: vI x :: S) mem := by
  obtain ⟨hx, hb, hml, hown, hrm, hK, hT, hE, -, -, -⟩ := C
  intro H locs ls hP hS hl hLo hSo
  exact lv_ishr hx hb hd (hk H locs ls hP hS hl hLo (okS_c trivial (okS_t (okS_t hSo))))
theorem s_idiv (C : Okc g h Q p e R s m args below meth c cells slots Z) {x y : Int32} (hd : decode (hB h) pc = .ok (.idiv, 1)) (hne : ¬ y = 0) (hk : AtO g h p e R s m args below meth c cells slots Z (pc + 1) L (vI (x / y) :: S) mem) : AtO g h p e R s m args below meth c cells slots Z pc L (vI y :: vI x :: S) mem := by
  obtain ⟨hx, hb, hml, hown, hrm, hK, hT, hE, -, -, -⟩ := C
  intro H locs ls hP hS hl hLo hSo
  exact lv_idiv hx hb hd hne (hk H locs ls hP hS hl hLo (okS_c trivial (okS_t (okS_t hSo))))
theorem s_irem (C : Okc g h Q p e R s m args below meth c cells slots Z) {x y : Int32} (hd : decode (hB h) pc = .ok (.irem, 1)) (hne : ¬ y = 0) (hk : AtO g h p e R s m args below meth c cells slots Z (pc + 1) L (vI (x - x / y * y) :: S) mem) : AtO g h p e R s m args below meth c cells slots Z pc L (vI y :: vI x :: S) mem := by
  obtain ⟨hx, hb, hml, hown, hrm, hK, hT, hE, -, -, -⟩ := C
  intro H locs ls hP hS hl hLo hSo
  exact lv_irem hx hb hd hne (hk H locs ls hP hS hl hLo (okS_c trivial (okS_t (okS_t hSo))))
theorem s_iushr (C : Okc g h Q p e R s m args below meth c cells slots Z) {x y : Int32} (hd : decode (hB h) pc = .ok (.iushr, 1)) (hk : AtO g h p e R s m args below meth c cells slots Z (pc + 1) L (vI (x.toUInt32 >>> (y.toUInt32 &&& Int32.toUInt32 31)).toInt32 :: S) mem) : AtO g h p e R s m args below meth c cells slots Z pc L (vI y :: vI x :: S) mem := by
  obtain ⟨hx, hb, hml, hown, hrm, hK, hT, hE, -, -, -⟩ := C
  intro H locs ls hP hS hl hLo hSo
  exact lv_iushr hx hb hd rfl (hk H locs ls hP hS hl hLo (okS_c trivial (okS_t (okS_t hSo))))
theorem s_land (C : Okc g h Q p e R s m args below meth c cells slots Z) {x y : Int64} (hd : decode (hB h) pc = .ok (.land, 1)) (hk : AtO g h p e R s m args below meth c cells slots Z (pc + 1) L (vJ (x &&& y) :: S) mem) : AtO g h p e R s m args below meth c cells slots Z pc L (vJ y :: vJ x :: S) mem := by
  obtain ⟨hx, hb, hml, hown, hrm, hK, hT, hE, -, -, -⟩ := C
  intro H locs ls hP hS hl hLo hSo
  exact lv_land hx hb hd (hk H locs ls hP hS hl hLo (okS_c trivial (okS_t (okS_t hSo))))
theorem s_lor (C : Okc g h Q p e R s m args below meth c cells slots Z) {x y : Int64} (hd : decode (hB h) pc = .ok (.lor, 1)) (hk : AtO g h p e R s m args below meth c cells slots Z (pc + 1) L (vJ (x ||| y) :: S) mem) : AtO g h p e R s m args below meth c cells slots Z pc L (vJ y :: vJ x :: S) mem := by
  obtain ⟨hx, hb, hml, hown, hrm, hK, hT, hE, -, -, -⟩ := C
  intro H locs ls hP hS hl hLo hSo
  exact lv_lor hx hb hd (hk H locs ls hP hS hl hLo (okS_c trivial (okS_t (okS_t hSo))))
theorem s_lushr (C : Okc g h Q p e R s m args below meth c cells slots Z) {x : Int64} {y : Int32} (hd : decode (hB h) pc = .ok (.lushr, 1)) (hk : AtO g h p e R s m args below meth c cells slots Z (pc + 1) L (vJ ((x.toUInt64 >>> (y.toInt64.toUInt64 &&& Int64.toUInt64 63)).toInt64) :: S) mem) : AtO g h p e R s m args below meth c cells slots Z pc L (vI y :: vJ x :: S) mem := by
  obtain ⟨hx, hb, hml, hown, hrm, hK, hT, hE, -, -, -⟩ := C
  intro H locs ls hP hS hl hLo hSo
  exact lv_lushr hx hb hd rfl (hk H locs ls hP hS hl hLo (okS_c trivial (okS_t (okS_t hSo))))
theorem s_lshl (C : Okc g h Q p e R s m args below meth c cells slots Z) {x : Int64} {y : Int32} (hd : decode (hB h) pc = .ok (.lshl, 1)) (hk : AtO g h p e R s m args below meth c cells slots Z (pc + 1) L (vJ (x <<< (y.toInt64 &&& 63)) :: S) mem) : AtO g h p e R s m args below meth c cells slots Z pc L (vI y :: vJ x :: S) mem := by
  obtain ⟨hx, hb, hml, hown, hrm, hK, hT, hE, -, -, -⟩ := C
  intro H locs ls hP hS hl hLo hSo
  exact lv_lshl hx hb hd rfl (hk H locs ls hP hS hl hLo (okS_c trivial (okS_t (okS_t hSo))))
theorem s_lcmp (C : Okc g h Q p e R s m args below meth c cells slots Z) {x y : Int64} (hd : decode (hB h) pc = .ok (.lcmp, 1)) (hk : AtO g h p e R s m args below meth c cells slots Z (pc + 1) L (vI (lg_cmp x y) :: S) mem) : AtO g h p e R s m args below meth c cells slots Z pc L (vJ y :: vJ x :: S) mem := by
  obtain ⟨hx, hb, hml, hown, hrm, hK, hT, hE, -, -, -⟩ := C
  intro H locs ls hP hS hl hLo hSo
  exact W.lcmp hx hb hd (hk H locs ls hP hS hl hLo (okS_c trivial (okS_t (okS_t hSo))))
theorem s_l2i (C : Okc g h Q p e R s m args below meth c cells slots Z) {x : Int64} (hd : decode (hB h) pc = .ok (.l2i, 1)) (hk : AtO g h p e R s m args below meth c cells slots Z (pc + 1) L (vI x.toInt32 :: S) mem) : AtO g h p e R s m args below meth c cells slots Z pc L (vJ x :: S) mem := by
  obtain ⟨hx, hb, hml, hown, hrm, hK, hT, hE, -, -, -⟩ := C
  intro H locs ls hP hS hl hLo hSo
  exact lv_l2i hx hb hd rfl (hk H locs ls hP hS hl hLo (okS_c trivial (okS_t hSo)))
theorem s_i2l (C : Okc g h Q p e R s m args below meth c cells slots Z) {x : Int32} (hd : decode (hB h) pc = .ok (.i2l, 1)) (hk : AtO g h p e R s m args below meth c cells slots Z (pc + 1) L (vJ x.toInt64 :: S) mem) : AtO g h p e R s m args below meth c cells slots Z pc L (vI x :: S) mem := by
  obtain ⟨hx, hb, hml, hown, hrm, hK, hT, hE, -, -, -⟩ := C
  intro H locs ls hP hS hl hLo hSo
  exact lv_i2l hx hb hd rfl (hk H locs ls hP hS hl hLo (okS_c trivial (okS_t hSo)))
theorem s_i2c (C : Okc g h Q p e R s m args below meth c cells slots Z) {x : Int32} (hd : decode (hB h) pc = .ok (.i2c, 1)) (hk : AtO g h p e R s m args below meth c cells slots Z (pc + 1) L (vI (x.toUInt32 % 65536).toInt32 :: S) mem) : AtO g h p e R s m args below meth c cells slots Z pc L (vI x :: S) mem := by
  obtain ⟨hx, hb, hml, hown, hrm, hK, hT, hE, -, -, -⟩ := C
  intro H locs ls hP hS hl hLo hSo
  exact lv_i2c hx hb hd rfl (hk H locs ls hP hS hl hLo (okS_c trivial (okS_t hSo)))
theorem s_dup (C : Okc g h Q p e R s m args below meth c cells slots Z) {v : Vl} (hd : decode (hB h) pc = .ok (.dup, 1)) (hc : catV v = 1) (hk : AtO g h p e R s m args below meth c cells slots Z (pc + 1) L (v :: v :: S) mem) : AtO g h p e R s m args below meth c cells slots Z pc L (v :: S) mem := by
  obtain ⟨hx, hb, hml, hown, hrm, hK, hT, hE, -, -, -⟩ := C
  intro H locs ls hP hS hl hLo hSo
  exact lv_dup hx hb hd (by rw [vvO_cat]; exact hc) (hk H locs ls hP hS hl hLo (okS_c (okS_h hSo) hSo))
theorem s_pop (C : Okc g h Q p e R s m args below meth c cells slots Z) {v : Vl} (hd : decode (hB h) pc = .ok (.pop, 1)) (hc : catV v = 1) (hk : AtO g h p e R s m args below meth c cells slots Z (pc + 1) L S mem) : AtO g h p e R s m args below meth c cells slots Z pc L (v :: S) mem := by
  obtain ⟨hx, hb, hml, hown, hrm, hK, hT, hE, -, -, -⟩ := C
  intro H locs ls hP hS hl hLo hSo
  exact lv_pop hx hb hd (by rw [vvO_cat]; exact hc) (hk H locs ls hP hS hl hLo (okS_t hSo))
theorem s_dup_x1 (C : Okc g h Q p e R s m args below meth c cells slots Z) {v w : Vl} (hd : decode (hB h) pc = .ok (.dup_x1, 1)) (hc : catV v = 1) (hc2 : catV w = 1) (hk : AtO g h p e R s m args below meth c cells slots Z (pc + 1) L (v :: w :: v :: S) mem) : AtO g h p e R s m args below meth c cells slots Z pc L (v :: w :: S) mem := by
  obtain ⟨hx, hb, hml, hown, hrm, hK, hT, hE, -, -, -⟩ := C
  intro H locs ls hP hS hl hLo hSo
  exact lv_dup_x1 hx hb hd (by rw [vvO_cat]; exact hc) (by rw [vvO_cat]; exact hc2) (hk H locs ls hP hS hl hLo (okS_c (okS_h hSo) (okS_c (okS_h (okS_t hSo)) (okS_c (okS_h hSo) (okS_t (okS_t hSo))))))
theorem s_dup2 (C : Okc g h Q p e R s m args below meth c cells slots Z) {v w : Vl} (hd : decode (hB h) pc = .ok (.dup2, 1)) (hc : catV v = 1) (hc2 : catV w = 1) (hk : AtO g h p e R s m args below meth c cells slots Z (pc + 1) L (v :: w :: v :: w :: S) mem) : AtO g h p e R s m args below meth c cells slots Z pc L (v :: w :: S) mem := by
  obtain ⟨hx, hb, hml, hown, hrm, hK, hT, hE, -, -, -⟩ := C
  intro H locs ls hP hS hl hLo hSo
  exact lv_dup2_11 hx hb hd (by rw [vvO_cat]; exact hc) (by rw [vvO_cat]; exact hc2) (hk H locs ls hP hS hl hLo (okS_c (okS_h hSo) (okS_c (okS_h (okS_t hSo)) hSo)))
theorem s_if (C : Okc g h Q p e R s m args below meth c cells slots Z) {cc : Jvm.ClassFile.Cond} {x : Int32} {off : Int} {t : Nat} (hd : decode (hB h) pc = .ok (.ifCond cc off, 3)) (ht : (pc : Int) + off = (t : Int)) (hk : brk cc x 0 (AtO g h p e R s m args below meth c cells slots Z t L S mem) (AtO g h p e R s m args below meth c cells slots Z (pc + 3) L S mem)) : AtO g h p e R s m args below meth c cells slots Z pc L (vI x :: S) mem := by
  obtain ⟨hx, hb, hml, hown, hrm, hK, hT, hE, -, -, -⟩ := C
  intro H locs ls hP hS hl hLo hSo
  cases cc <;> obtain ⟨h1, h2⟩ := hk
  · exact lv_if_eq hx hb hd ht (fun q => h1 q H locs ls hP hS hl hLo (okS_t hSo)) (fun q => h2 q H locs ls hP hS hl hLo (okS_t hSo))
  · exact lv_if_ne hx hb hd ht (fun q => h1 q H locs ls hP hS hl hLo (okS_t hSo)) (fun q => h2 q H locs ls hP hS hl hLo (okS_t hSo))
  · exact lv_if_lt hx hb hd ht (fun q => h1 q H locs ls hP hS hl hLo (okS_t hSo)) (fun q => h2 q H locs ls hP hS hl hLo (okS_t hSo))
  · exact lv_if_ge hx hb hd ht (fun q => h1 q H locs ls hP hS hl hLo (okS_t hSo)) (fun q => h2 q H locs ls hP hS hl hLo (okS_t hSo))
  · exact lv_if_gt hx hb hd ht (fun q => h1 q H locs ls hP hS hl hLo (okS_t hSo)) (fun q => h2 q H locs ls hP hS hl hLo (okS_t hSo))
  · exact lv_if_le hx hb hd ht (fun q => h1 q H locs ls hP hS hl hLo (okS_t hSo)) (fun q => h2 q H locs ls hP hS hl hLo (okS_t hSo))
theorem s_icmp (C : Okc g h Q p e R s m args below meth c cells slots Z) {cc : Jvm.ClassFile.Cond} {x y : Int32} {off : Int} {t : Nat} (hd : decode (hB h) pc = .ok (.if_icmp cc off, 3)) (ht : (pc : Int) + off = (t : Int)) (hk : brk cc x y (AtO g h p e R s m args below meth c cells slots Z t L S mem) (AtO g h p e R s m args below meth c cells slots Z (pc + 3) L S mem)) : AtO g h p e R s m args below meth c cells slots Z pc L (vI y :: vI x :: S) mem := by
  obtain ⟨hx, hb, hml, hown, hrm, hK, hT, hE, -, -, -⟩ := C
  intro H locs ls hP hS hl hLo hSo
  cases cc <;> obtain ⟨h1, h2⟩ := hk
  · exact lv_icmp_eq hx hb hd ht (fun q => h1 q H locs ls hP hS hl hLo (okS_t (okS_t hSo))) (fun q => h2 q H locs ls hP hS hl hLo (okS_t (okS_t hSo)))
  · exact lv_icmp_ne hx hb hd ht (fun q => h1 q H locs ls hP hS hl hLo (okS_t (okS_t hSo))) (fun q => h2 q H locs ls hP hS hl hLo (okS_t (okS_t hSo)))
  · exact lv_icmp_lt hx hb hd ht (fun q => h1 q H locs ls hP hS hl hLo (okS_t (okS_t hSo))) (fun q => h2 q H locs ls hP hS hl hLo (okS_t (okS_t hSo)))
  · exact lv_icmp_ge hx hb hd ht (fun q => h1 q H locs ls hP hS hl hLo (okS_t (okS_t hSo))) (fun q => h2 q H locs ls hP hS hl hLo (okS_t (okS_t hSo)))
  · exact lv_icmp_gt hx hb hd ht (fun q => h1 q H locs ls hP hS hl hLo (okS_t (okS_t hSo))) (fun q => h2 q H locs ls hP hS hl hLo (okS_t (okS_t hSo)))
  · exact lv_icmp_le hx hb hd ht (fun q => h1 q H locs ls hP hS hl hLo (okS_t (okS_t hSo))) (fun q => h2 q H locs ls hP hS hl hLo (okS_t (okS_t hSo)))
theorem s_goto (C : Okc g h Q p e R s m args below meth c cells slots Z) {off : Int} {t : Nat} (hd : decode (hB h) pc = .ok (.goto off, 3)) (ht : (pc : Int) + off = (t : Int)) (hk : AtO g h p e R s m args below meth c cells slots Z t L S mem) : AtO g h p e R s m args below meth c cells slots Z pc L S mem := by
  obtain ⟨hx, hb, hml, hown, hrm, hK, hT, hE, -, -, -⟩ := C
  intro H locs ls hP hS hl hLo hSo
  exact lv_goto hx hb hd ht (hk H locs ls hP hS hl hLo hSo)
theorem s_ifnonnull (C : Okc g h Q p e R s m args below meth c cells slots Z) {off : Int} {t k i u : Nat} (hd : decode (hB h) pc = .ok (.ifnonnull off, 3)) (ht : (pc : Int) + off = (u : Int)) (h25 : t ≠ 25) (hk1 : t = 0 → AtO g h p e R s m args below meth c cells slots Z (pc + 3) L S mem) (hk2 : t ≠ 0 → AtO g h p e R s m args below meth c cells slots Z u L S mem) : AtO g h p e R s m args below meth c cells slots Z pc L (vO t k i :: S) mem := by
  obtain ⟨hx, hb, hml, hown, hrm, hK, hT, hE, -, -, -⟩ := C
  intro H locs ls hP hS hl hLo hSo
  rw [List.map_cons]
  by_cases h0 : t = 0
  · subst h0
    exact lv_ifnonnullN hx hb hd (hk1 rfl H locs ls hP hS hl hLo (okS_t hSo))
  · rw [vvO_ref h0 h25]
    exact lv_ifnonnull hx hb hd ht (hk2 h0 H locs ls hP hS hl hLo (okS_t hSo))
end SND
end
section
/-! SOUNDNESS of the small machine's step: the heap, calls, ends -/
section SNH
variable {g : Wg} {h : Hd} {Q : Option Vl → Mm → Prop} {p : Program} {e : Env} {R : Room} {s : State} {m : MethodId} {args : Array Value} {below : List Frame} {meth : Method} {c : Code} {cells slots : Nat} {Z : State → Prop} {pc : Nat} {L : Lc} {S : List Vl} {mem : Mm}
theorem ciO_ok {t k i : Nat} (h1 : okR t k i = true) (h2 : ciO t < 8) : okO t k i = true ∧ t ≠ 0 ∧ t ≠ 25 ∧ t < 20 := by
  unfold ciO at h2
  split at h2 <;> first | exact ⟨h1, by decide, by decide, by decide⟩ | omega
theorem okF_sp {t ci j : Nat} (h : okF t ci j = true) : ciO t = ci ∧ j < nfO ci ∧ ci < 8 := by
  unfold okF at h
  simp only [Bool.and_eq_true] at h
  have h1 := Nat.eq_of_beq_eq_true h.1
  have h2 : j < nfO ci := Nat.ble_eq.mp h.2
  refine ⟨h1, h2, ?_⟩
  unfold nfO at h2
  split at h2 <;> omega
theorem cellO_cls {g : Wg} {mem : Mm} {t k i ci : Nat} (h : ciO t = ci) (hc : ci < 8) : cellO g mem (t, k, i) = .inr (ci, fldO g mem t k i (nfO ci)) := by
  unfold cellO
  dsimp only
  rw [h]
  split
  · omega
  · rfl
theorem cellO_arr {g : Wg} {mem : Mm} {t k i : Nat} (h : ciO t = 99) (hq : isQ t = false) : cellO g mem (t, k, i) = .inl (gC g (tyO t), lenO t k, .inl (mem (t, k, i))) := by
  unfold cellO
  dsimp only
  rw [h, hq]
  rfl
theorem cellO_arq {g : Wg} {mem : Mm} {t k i : Nat} (h : ciO t = 99) (hq : isQ t = true) : cellO g mem (t, k, i) = .inl (gC g (tyO t), lenO t k, .inr (.inr (.inr (.inr (fun j => match elO t k j with
      | (t, k, i) => some (adO g t k i)))))) := by
  unfold cellO
  dsimp only
  rw [h, hq]
  rfl
theorem isP_sp {t k i : Nat} (h1 : okR t k i = true) (h2 : isP t = true) : okO t k i = true ∧ t ≠ 0 ∧ t ≠ 25 ∧ ciO t = 99 ∧ isQ t = false ∧ tyO t = 0 := by
  unfold isP at h2
  split at h2 <;> first | exact ⟨h1, by decide, by decide, rfl, rfl, rfl⟩ | cases h2
theorem isZ_sp {t k i : Nat} (h1 : okR t k i = true) (h2 : isZ t = true) : okO t k i = true ∧ t ≠ 0 ∧ t ≠ 25 ∧ ciO t = 99 ∧ isQ t = false ∧ tyO t = 1 := by
  unfold isZ at h2
  split at h2 <;> first | exact ⟨h1, by decide, by decide, rfl, rfl, rfl⟩ | cases h2
theorem isC_sp {t k i : Nat} (h1 : okR t k i = true) (h2 : t = 15) : okO t k i = true ∧ t ≠ 0 ∧ t ≠ 25 ∧ ciO t = 99 ∧ isQ t = false ∧ tyO t = 2 := by
  subst h2
  exact ⟨h1, by decide, by decide, rfl, rfl, rfl⟩
theorem isQ_sp {t k i : Nat} (h1 : okR t k i = true) (h2 : isQ t = true) : okO t k i = true ∧ t ≠ 0 ∧ t ≠ 25 ∧ ciO t = 99 ∧ tyO t < 7 ∧ ∃ C, arrT (tyO t) = .object C := by
  unfold isQ at h2
  split at h2 <;> first | exact ⟨h1, by decide, by decide, rfl, by decide, _, rfl⟩ | cases h2
theorem elO_ref {g : Wg} {t k j : Nat} : va_rf (match elO t k j with
      | (t, k, i) => some (adO g t k i)) = vvO g (.inr (.inr (elO t k j))) := by
  have h1 : (elO t k j).1 ≠ 0 ∧ (elO t k j).1 ≠ 25 := by
    unfold elO
    split <;> (dsimp only; exact ⟨by decide, by decide⟩)
  generalize elO t k j = o at h1 ⊢
  obtain ⟨a, b, d⟩ := o
  exact (vvO_ref h1.1 h1.2).symm
theorem nrC_sp {ty : FieldType} {x : Int32} {P : Prop} (h : nrC ty x P) (hty : ∃ n, (ty = .int ∨ ty = .boolean ∨ ty = .char) ∧ n = 0) : narrow ty (.int x) = .int x ∧ fits ty (.int x) = true ∧ P := by
  obtain ⟨-, h0 | h0 | h0, -⟩ := hty <;> subst h0
  · exact ⟨rfl, rfl, h⟩
  · obtain ⟨rfl | rfl, h2⟩ := h
    · exact ⟨rfl, rfl, h2⟩
    · exact ⟨rfl, rfl, h2⟩
  · obtain ⟨⟨h1, h3⟩, h2⟩ := h
    obtain ⟨n, hn, rfl⟩ := nI_of2 (M := 65535) (n := 65535) (by decide) (fun q => by rw [Int32.lt_iff_toInt_lt] at q; rw [Int32.le_iff_toInt_le] at h1; omega) h3
    exact ⟨(pk_charN (by omega)).1, (pk_charN (by omega)).2, h2⟩
theorem cls_kind {ci j : Nat} (hc : ci < 8) (hj : j < nfO ci) (hf : (clsT ci j).2.2.2 = false) : ∃ n, (clsF ci j = .int ∨ clsF ci j = .boolean ∨ clsF ci j = .char) ∧ n = 0 := ⟨0, by
  have h0 : ∀ ci, ci < 8 → ∀ j, j < nfO ci → ((clsT ci j).2.2.2 || (decide (clsF ci j = .int) || (decide (clsF ci j = .boolean) || decide (clsF ci j = .char)))) = true := by decide +kernel
  have h1 := h0 ci hc j hj
  rw [hf] at h1
  simpa using h1, rfl⟩

theorem s_getfield (C : Okc g h Q p e R s m args below meth c cells slots Z) {idx t k i ci j : Nat} (hd : decode (hB h) pc = .ok (.getfield idx, 3)) (ho : okF t ci j = true) (hlk : InT (.fieldLink (hY h).cls idx (clsT ci j).1 (clsT ci j).2.1 (clsT ci j).2.2.1)) (hk : AtO g h p e R s m args below meth c cells slots Z (pc + 3) L (fvO mem t k i j :: S) mem) : AtO g h p e R s m args below meth c cells slots Z pc L (vO t k i :: S) mem := by
  obtain ⟨hx, hb, hml, hown, hrm, hK, hT, hE, hq1, hq2, hq3⟩ := C
  intro H locs ls hP hS hl hLo hSo
  obtain ⟨h1, hj, hc⟩ := okF_sp ho
  have h8 : ciO t < 8 := by omega
  obtain ⟨hok, h0, h25, h20⟩ := ciO_ok (okS_h hSo) h8
  rw [List.map_cons, vvO_ref h0 h25]
  refine va_get (D := gD g) (cl := clsL) (ci := ci) (C := clsN ci) (T := clsT ci) (N := nfO ci) (Ts := u_ws (clsN ci) (clsT ci) (nfO ci)) (v := vvO g (fvO mem t k i j)) (fs := fldO g mem t k i (nfO ci)) hx hb (fun w hw => hT.use (cls_InT hc w hw)) (fun _ hw => hw) hown hK hP (ordO t k i) ?_ (clsL_at hc) j hj (hT.use hlk) (fun _ h9 => h9) (fldO_get hj) hd (hk H locs ls hP hS hl hLo (okS_c (okV_ref hok) (okS_t hSo)))
  rw [wsO_at hok, cellO_cls h1 hc]
theorem s_putfield (C : Okc g h Q p e R s m args below meth c cells slots Z) {idx t k i ci j : Nat} {x : Int32} (hd : decode (hB h) pc = .ok (.putfield idx, 3)) (ho : okF t ci j = true) (hr : refO t k j = none) (hfin : (clsT ci j).2.2.2 = false) (hlk : InT (.fieldLink (hY h).cls idx (clsT ci j).1 (clsT ci j).2.1 (clsT ci j).2.2.1)) (hn : narrow (clsF ci j) (.int x) = .int x) (hf : fits (clsF ci j) (.int x) = true) (hk : AtO g h p e R s m args below meth c cells slots Z (pc + 3) L S (mset mem t k i j x)) : AtO g h p e R s m args below meth c cells slots Z pc L (vI x :: vO t k i :: S) mem := by
  obtain ⟨hx, hb, hml, hown, hrm, hK, hT, hE, hq1, hq2, hq3⟩ := C
  intro H locs ls hP hS hl hLo hSo
  obtain ⟨h1, hj, hc⟩ := okF_sp ho
  have h8 : ciO t < 8 := by omega
  obtain ⟨hok, h0, h25, h20⟩ := ciO_ok (okS_h (okS_t hSo)) h8
  rw [List.map_cons, List.map_cons, vvO_ref h0 h25]
  refine va_put (D := gD g) (cl := clsL) (A := gA g) (ci := ci) (v := .int x) (C := clsN ci) (T := clsT ci) (N := nfO ci) (Ts := u_ws (clsN ci) (clsT ci) (nfO ci)) (ty := clsF ci j) (fs := fldO g mem t k i (nfO ci)) hx hb (fun w hw => hT.use (cls_InT hc w hw)) (fun _ hw => hw) (clsF ci) (cls_ty0 ci hc) (cls_nm0 ci hc) hown hK hP (wsO_D g mem) hS (ordO t k i) ?_ (clsL_at hc) j hj (hT.use hlk) (fun _ h9 => h9) hfin (cls_ty0 ci hc j hj) hn hf (by rw [fldO_len]; exact hj) hd (fun H1 locs1 hP1 hD1 hS1 => ?_)
  · rw [wsO_at hok, cellO_cls h1 hc]
  · rw [fldO_set hr hj, wsO_set (mem' := mset mem t k i j x) hok (fun o ho => mset_ne _ _ _ _ _ _ ho) (cellO_cls h1 hc)] at hP1
    exact hk H1 locs1 ls hP1 hS1 hl hLo (okS_t (okS_t hSo))
theorem s_strV (C : Okc g h Q p e R s m args below meth c cells slots Z) {idx k i : Nat} (hd : decode (hB h) pc = .ok (.getfield idx, 3)) (hlk : InT (.fieldLink (hY h).cls idx "java/lang/String" "value" "[B")) (hk : AtO g h p e R s m args below meth c cells slots Z (pc + 3) L (vO 23 k 0 :: S) mem) : AtO g h p e R s m args below meth c cells slots Z pc L (vO 21 k i :: S) mem := by
  obtain ⟨hx, hb, hml, hown, hrm, hK, hT, hE, hq1, hq2, hq3⟩ := C
  intro H locs ls hP hS hl hLo hSo
  have h5 : k < 5 := Nat.ble_eq.mp (okS_h hSo)
  have hs := (hE.2.2.2.2.2.2.1.1 k h5).2.2.1
  exact vk_getf (v := .ref (gT g (20 + k))) hx hb hs hS hown (hT.use hlk) (fun _ h9 => h9) hd (hk H locs ls hP hS hl hLo (okS_c (show okV (vO 23 k 0) from (okS_h hSo : okV (vO 21 k i))) (okS_t hSo)))
theorem s_strC (C : Okc g h Q p e R s m args below meth c cells slots Z) {idx k i : Nat} (hd : decode (hB h) pc = .ok (.getfield idx, 3)) (hlk : InT (.fieldLink (hY h).cls idx "java/lang/String" "coder" "B")) (hk : AtO g h p e R s m args below meth c cells slots Z (pc + 3) L (vI 0 :: S) mem) : AtO g h p e R s m args below meth c cells slots Z pc L (vO 21 k i :: S) mem := by
  obtain ⟨hx, hb, hml, hown, hrm, hK, hT, hE, hq1, hq2, hq3⟩ := C
  intro H locs ls hP hS hl hLo hSo
  have h5 : k < 5 := Nat.ble_eq.mp (okS_h hSo)
  have hs := (hE.2.2.2.2.2.2.1.1 k h5).2.1
  exact vk_getf (v := .int 0) hx hb hs hS hown (hT.use hlk) (fun _ h9 => h9) hd (hk H locs ls hP hS hl hLo (okS_c trivial (okS_t hSo)))
theorem s_stat0 (C : Okc g h Q p e R s m args below meth c cells slots Z) {idx : Nat} {host : String} (hd : decode (hB h) pc = .ok (.getstatic idx, 3)) (hlk : InT (.fieldLinkNest (hY h).cls idx "NurseryPlaces" "LOWEST_SETTING" "[I" host)) (hk : AtO g h p e R s m args below meth c cells slots Z (pc + 3) L (vO 22 0 0 :: S) mem) : AtO g h p e R s m args below meth c cells slots Z pc L S mem := by
  obtain ⟨hx, hb, hml, hown, hrm, hK, hT, hE, hq1, hq2, hq3⟩ := C
  intro H locs ls hP hS hl hLo hSo
  exact va_getsN hx hb hE.1 hS hown (hT.use hlk) (fun _ h9 => h9) hd (hk H locs ls hP hS hl hLo (okS_c rfl hSo))
theorem s_stat1 (C : Okc g h Q p e R s m args below meth c cells slots Z) {idx : Nat} {host : String} (hd : decode (hB h) pc = .ok (.getstatic idx, 3)) (hlk : InT (.fieldLinkNest (hY h).cls idx "NurseryPlaces" "HIGHEST_SETTING" "[I" host)) (hk : AtO g h p e R s m args below meth c cells slots Z (pc + 3) L (vO 22 1 0 :: S) mem) : AtO g h p e R s m args below meth c cells slots Z pc L S mem := by
  obtain ⟨hx, hb, hml, hown, hrm, hK, hT, hE, hq1, hq2, hq3⟩ := C
  intro H locs ls hP hS hl hLo hSo
  exact va_getsN hx hb hE.2.1 hS hown (hT.use hlk) (fun _ h9 => h9) hd (hk H locs ls hP hS hl hLo (okS_c rfl hSo))
theorem s_stat2 (C : Okc g h Q p e R s m args below meth c cells slots Z) {idx : Nat} (hd : decode (hB h) pc = .ok (.getstatic idx, 3)) (hlk : InT (.fieldLink (hY h).cls idx "java/lang/String" "COMPACT_STRINGS" "Z")) (hk : AtO g h p e R s m args below meth c cells slots Z (pc + 3) L (vI 1 :: S) mem) : AtO g h p e R s m args below meth c cells slots Z pc L S mem := by
  obtain ⟨hx, hb, hml, hown, hrm, hK, hT, hE, hq1, hq2, hq3⟩ := C
  intro H locs ls hP hS hl hLo hSo
  exact va_gets hx hb hE.2.2.2.2.1 hS hown (hT.use hlk) (fun _ h9 => h9) hd (hk H locs ls hP hS hl hLo (okS_c trivial hSo))
theorem s_stat3 (C : Okc g h Q p e R s m args below meth c cells slots Z) {idx : Nat} (hd : decode (hB h) pc = .ok (.getstatic idx, 3)) (hlk : InT (.fieldLink (hY h).cls idx "jdk/internal/util/Preconditions" "SIOOBE_FORMATTER" "Ljava/util/function/BiFunction;")) (hk : AtO g h p e R s m args below meth c cells slots Z (pc + 3) L (vO 25 0 0 :: S) mem) : AtO g h p e R s m args below meth c cells slots Z pc L S mem := by
  obtain ⟨hx, hb, hml, hown, hrm, hK, hT, hE, hq1, hq2, hq3⟩ := C
  intro H locs ls hP hS hl hLo hSo
  exact va_gets hx hb hE.2.2.2.2.2.1 hS hown (hT.use hlk) (fun _ h9 => h9) hd (hk H locs ls hP hS hl hLo (okS_c rfl hSo))
theorem s_aaload (C : Okc g h Q p e R s m args below meth c cells slots Z) {t k i : Nat} {x : Int32} (hd : decode (hB h) pc = .ok (.aaload, 1)) (hq : isQ t = true) (hin : vp_in x (lenO t k)) (hk : AtO g h p e R s m args below meth c cells slots Z (pc + 1) L (.inr (.inr (elO t k x.toNatClampNeg)) :: S) mem) : AtO g h p e R s m args below meth c cells slots Z pc L (vI x :: vO t k i :: S) mem := by
  obtain ⟨hx, hb, hml, hown, hrm, hK, hT, hE, hq1, hq2, hq3⟩ := C
  intro H locs ls hP hS hl hLo hSo
  obtain ⟨hok, h0, h25, h99, h7, CC, hC⟩ := isQ_sp (okS_h (okS_t hSo)) hq
  rw [List.map_cons, List.map_cons, vvO_ref h0 h25]
  have hlt : x.toNatClampNeg < lenO t k := Nat.not_le.mp fun q => hin (Or.inr q)
  have hw := hk H locs ls hP hS hl hLo (okS_c (okV_el hok hq hlt) (okS_t (okS_t hSo)))
  rw [List.map_cons, ← elO_ref] at hw
  refine va_aldq (D := gD g) (cl := clsL) hx hb hK hP (ordO t k i) (tyO t) (C := CC) (f := fun j => match elO t k j with | (t, k, i) => some (adO g t k i)) (n := lenO t k) (cA := gC g (tyO t)) ?_ ?_ hin hd hw
  · rw [wsO_at hok, cellO_arq h99 hq]
  · rw [tysO_at h7, hC]
theorem s_iaload (C : Okc g h Q p e R s m args below meth c cells slots Z) {t k i : Nat} {x : Int32} (hd : decode (hB h) pc = .ok (.iaload, 1)) (hq : isP t = true) (hin : vp_in x (lenO t k)) (hk : AtO g h p e R s m args below meth c cells slots Z (pc + 1) L (vI (mem (t, k, i) x.toNatClampNeg) :: S) mem) : AtO g h p e R s m args below meth c cells slots Z pc L (vI x :: vO t k i :: S) mem := by
  obtain ⟨hx, hb, hml, hown, hrm, hK, hT, hE, hq1, hq2, hq3⟩ := C
  intro H locs ls hP hS hl hLo hSo
  obtain ⟨hok, h0, h25, h99, hq2, hty⟩ := isP_sp (okS_h (okS_t hSo)) hq
  rw [List.map_cons, List.map_cons, vvO_ref h0 h25]
  refine va_iald (D := gD g) (cl := clsL) (f := mem (t, k, i)) (n := lenO t k) hx hb hK hP (ordO t k i) 0 ?_ (tysO_at (by decide)) hin hd (hk H locs ls hP hS hl hLo (okS_c trivial (okS_t (okS_t hSo))))
  rw [wsO_at hok, cellO_arr h99 hq2, hty]
theorem s_zaload (C : Okc g h Q p e R s m args below meth c cells slots Z) {t k i : Nat} {x : Int32} (hd : decode (hB h) pc = .ok (.baload, 1)) (hq : isZ t = true) (hin : vp_in x (lenO t k)) (hk : AtO g h p e R s m args below meth c cells slots Z (pc + 1) L (vI (mem (t, k, i) x.toNatClampNeg) :: S) mem) : AtO g h p e R s m args below meth c cells slots Z pc L (vI x :: vO t k i :: S) mem := by
  obtain ⟨hx, hb, hml, hown, hrm, hK, hT, hE, hq1, hq2, hq3⟩ := C
  intro H locs ls hP hS hl hLo hSo
  obtain ⟨hok, h0, h25, h99, hq2, hty⟩ := isZ_sp (okS_h (okS_t hSo)) hq
  rw [List.map_cons, List.map_cons, vvO_ref h0 h25]
  refine va_zald (D := gD g) (cl := clsL) (f := mem (t, k, i)) (n := lenO t k) hx hb hK hP (ordO t k i) 1 ?_ (tysO_at (by decide)) hin hd (hk H locs ls hP hS hl hLo (okS_c trivial (okS_t (okS_t hSo))))
  rw [wsO_at hok, cellO_arr h99 hq2, hty]
theorem s_caload (C : Okc g h Q p e R s m args below meth c cells slots Z) {t k i : Nat} {x : Int32} (hd : decode (hB h) pc = .ok (.caload, 1)) (hq : t = 15) (hin : vp_in x (lenO t k)) (hk : AtO g h p e R s m args below meth c cells slots Z (pc + 1) L (vI (mem (t, k, i) x.toNatClampNeg) :: S) mem) : AtO g h p e R s m args below meth c cells slots Z pc L (vI x :: vO t k i :: S) mem := by
  obtain ⟨hx, hb, hml, hown, hrm, hK, hT, hE, hq1, hq2, hq3⟩ := C
  intro H locs ls hP hS hl hLo hSo
  obtain ⟨hok, h0, h25, h99, hq2, hty⟩ := isC_sp (okS_h (okS_t hSo)) hq
  rw [List.map_cons, List.map_cons, vvO_ref h0 h25]
  refine va_cald (D := gD g) (cl := clsL) (f := mem (t, k, i)) (n := lenO t k) hx hb hK hP (ordO t k i) 2 ?_ (tysO_at (by decide)) hin hd (hk H locs ls hP hS hl hLo (okS_c trivial (okS_t (okS_t hSo))))
  rw [wsO_at hok, cellO_arr h99 hq2, hty]
theorem s_iastore (C : Okc g h Q p e R s m args below meth c cells slots Z) {t k i : Nat} {x v : Int32} (hd : decode (hB h) pc = .ok (.iastore, 1)) (hq : isP t = true) (hin : vp_in x (lenO t k)) (hk : AtO g h p e R s m args below meth c cells slots Z (pc + 1) L S (mset mem t k i x.toNatClampNeg v)) : AtO g h p e R s m args below meth c cells slots Z pc L (vI v :: vI x :: vO t k i :: S) mem := by
  obtain ⟨hx, hb, hml, hown, hrm, hK, hT, hE, hq1, hq2, hq3⟩ := C
  intro H locs ls hP hS hl hLo hSo
  obtain ⟨hok, h0, h25, h99, hq2, hty⟩ := isP_sp (okS_h (okS_t (okS_t hSo))) hq
  rw [List.map_cons, List.map_cons, List.map_cons, vvO_ref h0 h25]
  refine va_iast (D := gD g) (cl := clsL) (A := gA g) (f := mem (t, k, i)) (n := lenO t k) (cA := gC g 0) hx hb hK hP (wsO_D g mem) hS (ordO t k i) 0 ?_ (tysO_at (by decide)) hin hd (fun H1 locs1 hP1 hD1 hS1 => ?_)
  · rw [wsO_at hok, cellO_arr h99 hq2, hty]
  · rw [← mset_at mem t k i x.toNatClampNeg v, wsO_set (mem' := mset mem t k i x.toNatClampNeg v) hok (fun o ho => mset_ne _ _ _ _ _ _ ho) (by rw [cellO_arr h99 hq2, hty])] at hP1
    exact hk H1 locs1 ls hP1 hS1 hl hLo (okS_t (okS_t (okS_t hSo)))
theorem s_zastore (C : Okc g h Q p e R s m args below meth c cells slots Z) {t k i : Nat} {x v : Int32} (hd : decode (hB h) pc = .ok (.bastore, 1)) (hq : isZ t = true) (hin : vp_in x (lenO t k)) (hk : AtO g h p e R s m args below meth c cells slots Z (pc + 1) L S (mset mem t k i x.toNatClampNeg (vp_nar .boolean v))) : AtO g h p e R s m args below meth c cells slots Z pc L (vI v :: vI x :: vO t k i :: S) mem := by
  obtain ⟨hx, hb, hml, hown, hrm, hK, hT, hE, hq1, hq2, hq3⟩ := C
  intro H locs ls hP hS hl hLo hSo
  obtain ⟨hok, h0, h25, h99, hq2, hty⟩ := isZ_sp (okS_h (okS_t (okS_t hSo))) hq
  rw [List.map_cons, List.map_cons, List.map_cons, vvO_ref h0 h25]
  refine va_zast (D := gD g) (cl := clsL) (A := gA g) (f := mem (t, k, i)) (n := lenO t k) (cA := gC g 1) hx hb hK hP (wsO_D g mem) hS (ordO t k i) 1 ?_ (tysO_at (by decide)) hin hd (fun H1 locs1 hP1 hD1 hS1 => ?_)
  · rw [wsO_at hok, cellO_arr h99 hq2, hty]
  · rw [← mset_at mem t k i x.toNatClampNeg (vp_nar .boolean v), wsO_set (mem' := mset mem t k i x.toNatClampNeg (vp_nar .boolean v)) hok (fun o ho => mset_ne _ _ _ _ _ _ ho) (by rw [cellO_arr h99 hq2, hty])] at hP1
    exact hk H1 locs1 ls hP1 hS1 hl hLo (okS_t (okS_t (okS_t hSo)))
theorem s_castore (C : Okc g h Q p e R s m args below meth c cells slots Z) {t k i : Nat} {x v : Int32} (hd : decode (hB h) pc = .ok (.castore, 1)) (hq : t = 15) (hin : vp_in x (lenO t k)) (hk : AtO g h p e R s m args below meth c cells slots Z (pc + 1) L S (mset mem t k i x.toNatClampNeg (vp_nar .char v))) : AtO g h p e R s m args below meth c cells slots Z pc L (vI v :: vI x :: vO t k i :: S) mem := by
  obtain ⟨hx, hb, hml, hown, hrm, hK, hT, hE, hq1, hq2, hq3⟩ := C
  intro H locs ls hP hS hl hLo hSo
  obtain ⟨hok, h0, h25, h99, hq2, hty⟩ := isC_sp (okS_h (okS_t (okS_t hSo))) hq
  rw [List.map_cons, List.map_cons, List.map_cons, vvO_ref h0 h25]
  refine va_cast (D := gD g) (cl := clsL) (A := gA g) (f := mem (t, k, i)) (n := lenO t k) (cA := gC g 2) hx hb hK hP (wsO_D g mem) hS (ordO t k i) 2 ?_ (tysO_at (by decide)) hin hd (fun H1 locs1 hP1 hD1 hS1 => ?_)
  · rw [wsO_at hok, cellO_arr h99 hq2, hty]
  · rw [← mset_at mem t k i x.toNatClampNeg (vp_nar .char v), wsO_set (mem' := mset mem t k i x.toNatClampNeg (vp_nar .char v)) hok (fun o ho => mset_ne _ _ _ _ _ _ ho) (by rw [cellO_arr h99 hq2, hty])] at hP1
    exact hk H1 locs1 ls hP1 hS1 hl hLo (okS_t (okS_t (okS_t hSo)))
theorem s_script (C : Okc g h Q p e R s m args below meth c cells slots Z) {k i : Nat} {x : Int32} (hd : decode (hB h) pc = .ok (.iaload, 1)) (hin : vp_in x (gX g).2.1) (hk : AtO g h p e R s m args below meth c cells slots Z (pc + 1) L (vI ((gX g).2.2 x.toNatClampNeg) :: S) mem) : AtO g h p e R s m args below meth c cells slots Z pc L (vI x :: vO 20 k i :: S) mem := by
  obtain ⟨hx, hb, hml, hown, hrm, hK, hT, hE, hq1, hq2, hq3⟩ := C
  intro H locs ls hP hS hl hLo hSo
  obtain ⟨hX, hbl, hbA⟩ := hE.2.2.2.2.2.2.2.2
  exact va_sld hx hb hX hbl hbA hS hin hd (hk H locs ls hP hS hl hLo (okS_c trivial (okS_t (okS_t hSo))))
theorem s_scriptL (C : Okc g h Q p e R s m args below meth c cells slots Z) {k i : Nat} (hd : decode (hB h) pc = .ok (.arraylength, 1)) (hk : AtO g h p e R s m args below meth c cells slots Z (pc + 1) L (vI (Int32.ofNat (gX g).2.1) :: S) mem) : AtO g h p e R s m args below meth c cells slots Z pc L (vO 20 k i :: S) mem := by
  obtain ⟨hx, hb, hml, hown, hrm, hK, hT, hE, hq1, hq2, hq3⟩ := C
  intro H locs ls hP hS hl hLo hSo
  obtain ⟨hX, hbl, hbA⟩ := hE.2.2.2.2.2.2.2.2
  exact va_slen hx hb hX hbl hbA hS hd (hk H locs ls hP hS hl hLo (okS_c trivial (okS_t hSo)))
theorem s_statA (C : Okc g h Q p e R s m args below meth c cells slots Z) {k i : Nat} {x : Int32} (hd : decode (hB h) pc = .ok (.iaload, 1)) (hin : vp_in x 5) (hk : AtO g h p e R s m args below meth c cells slots Z (pc + 1) L (vI (staV k x.toNatClampNeg) :: S) mem) : AtO g h p e R s m args below meth c cells slots Z pc L (vI x :: vO 22 k i :: S) mem := by
  obtain ⟨hx, hb, hml, hown, hrm, hK, hT, hE, hq1, hq2, hq3⟩ := C
  intro H locs ls hP hS hl hLo hSo
  have h2 : k < 2 := Nat.ble_eq.mp (okS_h (okS_t hSo))
  have hw := hk H locs ls hP hS hl hLo (okS_c trivial (okS_t (okS_t hSo)))
  have hk2 : k = 0 ∨ k = 1 := by omega
  rcases hk2 with rfl | rfl
  · exact va_ti hx hb hE.2.2.1 hS hin rfl hd hw
  · exact va_ti hx hb hE.2.2.2.1 hS hin rfl hd hw
theorem s_strA (C : Okc g h Q p e R s m args below meth c cells slots Z) {k i : Nat} {x : Int32} (hd : decode (hB h) pc = .ok (.baload, 1)) (hin : vp_in x (strN k)) (hk : AtO g h p e R s m args below meth c cells slots Z (pc + 1) L (vI ((strB k).getD x.toNatClampNeg 0) :: S) mem) : AtO g h p e R s m args below meth c cells slots Z pc L (vI x :: vO 23 k i :: S) mem := by
  obtain ⟨hx, hb, hml, hown, hrm, hK, hT, hE, hq1, hq2, hq3⟩ := C
  intro H locs ls hP hS hl hLo hSo
  have h5 : k < 5 := Nat.ble_eq.mp (okS_h (okS_t hSo))
  have hw := hk H locs ls hP hS hl hLo (okS_c trivial (okS_t (okS_t hSo)))
  have hs := (hE.2.2.2.2.2.2.1.1 k h5).2.2.2
  have hk2 : k = 0 ∨ k = 1 ∨ k = 2 ∨ k = 3 ∨ k = 4 := by omega
  rcases hk2 with rfl | rfl | rfl | rfl | rfl <;> exact va_tb hx hb hs hS hin rfl hd hw
theorem s_strL (C : Okc g h Q p e R s m args below meth c cells slots Z) {k i : Nat} (hd : decode (hB h) pc = .ok (.arraylength, 1)) (hk : AtO g h p e R s m args below meth c cells slots Z (pc + 1) L (vI (Int32.ofNat (strN k)) :: S) mem) : AtO g h p e R s m args below meth c cells slots Z pc L (vO 23 k i :: S) mem := by
  obtain ⟨hx, hb, hml, hown, hrm, hK, hT, hE, hq1, hq2, hq3⟩ := C
  intro H locs ls hP hS hl hLo hSo
  have h5 : k < 5 := Nat.ble_eq.mp (okS_h hSo)
  have hw := hk H locs ls hP hS hl hLo (okS_c trivial (okS_t hSo))
  have hs := (hE.2.2.2.2.2.2.1.1 k h5).2.2.2
  have hk2 : k = 0 ∨ k = 1 ∨ k = 2 ∨ k = 3 ∨ k = 4 := by omega
  rcases hk2 with rfl | rfl | rfl | rfl | rfl <;> exact va_tlen hx hb hs hS rfl hd hw
theorem s_alen (C : Okc g h Q p e R s m args below meth c cells slots Z) {t k i : Nat} (hd : decode (hB h) pc = .ok (.arraylength, 1)) (hq : (isP t || isQ t) = true) (hk : AtO g h p e R s m args below meth c cells slots Z (pc + 1) L (vI (Int32.ofNat (lenO t k)) :: S) mem) : AtO g h p e R s m args below meth c cells slots Z pc L (vO t k i :: S) mem := by
  obtain ⟨hx, hb, hml, hown, hrm, hK, hT, hE, hq1, hq2, hq3⟩ := C
  intro H locs ls hP hS hl hLo hSo
  have hw := hk H locs ls hP hS hl hLo (okS_c trivial (okS_t hSo))
  simp only [Bool.or_eq_true] at hq
  rcases hq with hq | hq
  · obtain ⟨hok, h0, h25, h99, hq2, hty⟩ := isP_sp (okS_h hSo) hq
    rw [List.map_cons, vvO_ref h0 h25]
    refine va_alen (D := gD g) (cl := clsL) hx hb hK hP (ordO t k i) 0 (x := (lenO t k, .inl (mem (t, k, i)))) ?_ (tysO_at (by decide)) rfl hd hw
    rw [wsO_at hok, cellO_arr h99 hq2, hty]
  · obtain ⟨hok, h0, h25, h99, h7, CC, hC⟩ := isQ_sp (okS_h hSo) hq
    rw [List.map_cons, vvO_ref h0 h25]
    refine va_alen (D := gD g) (cl := clsL) hx hb hK hP (ordO t k i) (tyO t) (x := (lenO t k, .inr (.inr (.inr (.inr (fun j => match elO t k j with | (t, k, i) => some (adO g t k i))))))) ?_ (tysO_at h7) rfl hd hw
    rw [wsO_at hok, cellO_arq h99 hq]
end SNH
end
section
/-! SOUNDNESS: calls, ends, and the whole step -/
theorem Runs.mono {g : Wg} {h : Hd} {as : List Vl} {mem : Mm} {Q Q' : Option Vl → Mm → Prop} (hr : Runs g h as mem Q) (hq : ∀ r m', Q r m' → Q' r m') : Runs g h as mem Q' := by
  unfold Runs Met at hr ⊢
  refine MetFree.mono hr (fun _ _ q => q) (fun _ _ _ _ _ q => q) (fun a st o t _ q => ?_)
  obtain ⟨⟨⟨r, m', h1, h2, h3⟩, h4⟩, h5⟩ := q
  exact ⟨⟨⟨r, m', h1, hq r m' h2, h3⟩, h4⟩, h5⟩
/-- what the tables say of a callee -/
def HdOk (h : Hd) (n : Nat) : Prop := InT (.code (hY h) (hB h) (hM h) (hR h)) ∧ InT (.initialized (hY h).cls) ∧ (hY h).cls ≠ "java/lang/invoke/MethodHandle" ∧ (hY h).cls ≠ "java/lang/invoke/VarHandle" ∧ (parseMethodDescriptor (hY h).desc).map (fun d => d.parameters.length) = some n
section SNC
variable {g : Wg} {h : Hd} {Q : Option Vl → Mm → Prop} {p : Program} {e : Env} {R : Room} {s : State} {m : MethodId} {args : Array Value} {below : List Frame} {meth : Method} {c : Code} {cells slots : Nat} {Z : State → Prop} {pc : Nat} {L : Lc} {S : List Vl} {mem : Mm}
theorem call_run {P : Option Vl → Mm → Prop} {H : Heap} {locs : List Loc} {ls : Array Slot} {st0 rest : List Value} {a : Array Value} (hr : va_Run p (gL g) e R s m args below meth c H locs cells slots 0 0 (F0 m pc ls st0) rest (QcO g P a) (gA g)) (hS : va_S (gA g) s.heap H locs)
    (kk : ∀ (r : Option Vl) (mem' : Mm) (H1 : Heap) (locs1 : List Loc), P r mem' → okA r → va_P (gD g) clsL (wsO g mem') H1 → va_S (gA g) s.heap H1 locs1 → W p (gL g) e R s m args below meth c H1 locs1 cells slots Z (F0 m (pc + 3) ls ((r.map (vvO g)).toList ++ rest))) : W p (gL g) e R s m args below meth c H locs cells slots Z (F0 m pc ls st0) := by
  intro T hT X
  obtain ⟨v, st₀, t, T', L, h0, X', hL, e1, e2, ⟨⟨r, m', hv, hp, hok, hw⟩, hz, hk⟩, st⟩ := hr T hT X
  cases hv
  rw [h0] at hz hk
  obtain ⟨t2, a1, b1⟩ := kk r m' T'.heap (locs ++ L) hp hok (by rw [e1]; exact hw.1)
    ⟨Nat.le_trans hS.1 (by rw [e1]; exact hz), fun q h1 h2 => by rw [e1, hk q (Nat.lt_of_lt_of_le h1 hS.1) h2]; exact hS.2.1 q h1 h2, fun q hq => by
      rcases List.mem_append.mp hq with h | h
      · exact hS.2.2 q h
      · exact hL q h⟩ T' rfl X'
  exact ⟨t2, st t2 a1, b1⟩
theorem catS_sum (g : Wg) : ∀ S : List Vl, ((S.map (vvO g)).map fun v => v.category).sum = catS S
  | [] => rfl
  | v :: r => by
    rw [List.map_cons, List.map_cons, List.sum_cons, catS_sum g r, vvO_cat]
    rfl
theorem callB_O {hd : Hd} {idx n : Nat} {own : String} (hrm : hF h ≤ R.frames ∧ hL h ≤ R.locals) (hT : Tb s) (hok : HdOk hd n) (hr1 : hF hd + 1 ≤ hF h) (hr2 : 8 + (hM hd + 11) + hL hd ≤ hL h) (hlk : InT (.methodLink own idx (hY hd))) :
    CallB R s args own idx (hY hd) (hB hd) (hM hd) (hR hd) [Cond.code (hY hd) (hB hd) (hM hd) (hR hd)] { frames := hF hd, cells := 0, slots := 0, locals := hL hd } 0 0 n := by
  obtain ⟨h1, h2, h3, h4, h5⟩ := hok
  refine ⟨rfl, rfl, Nat.le_trans hr1 hrm.1, Nat.le_trans hr2 hrm.2, fun w hw a' U hW => ?_, List.mem_cons_self, hT.use h1, hT.use h2, ⟨h3, h4⟩, fun sig h => ?_, hT.use hlk⟩
  · rw [List.mem_singleton.mp hw]
    exact (hT.warm hW).use h1
  · rw [h] at h5
    exact (Option.some.inj h5).symm
theorem callN_O {hd : Hd} {idx n : Nat} {own host : String} (hrm : hF h ≤ R.frames ∧ hL h ≤ R.locals) (hT : Tb s) (hok : HdOk hd n) (hr1 : hF hd + 1 ≤ hF h) (hr2 : 8 + (hM hd + 11) + hL hd ≤ hL h) (hlk : InT (.methodLinkNest own idx (hY hd) host)) :
    va_CN R s args own idx (hY hd) host (hB hd) (hM hd) (hR hd) [Cond.code (hY hd) (hB hd) (hM hd) (hR hd)] { frames := hF hd, cells := 0, slots := 0, locals := hL hd } 0 0 n := by
  obtain ⟨h1, h2, h3, h4, h5⟩ := hok
  refine ⟨⟨rfl, rfl, Nat.le_trans hr1 hrm.1, Nat.le_trans hr2 hrm.2, fun w hw a' U hW => ?_, List.mem_cons_self⟩, hT.use h1, hT.use h2, ⟨h3, h4⟩, fun sig h => ?_, hT.use hlk⟩
  · rw [List.mem_singleton.mp hw]
    exact (hT.warm hW).use h1
  · rw [h] at h5
    exact (Option.some.inj h5).symm
theorem pre_O {as : List Vl} {H : Heap} {locs : List Loc} (hav : ∀ v ∈ as, okV v) (hP : va_P (gD g) clsL (wsO g mem) H) (hS : va_S (gA g) s.heap H locs) (hK : va_K (gD g) clsL (tysO g) s) (hT : Tb s) (hE : Ext g s s.heap) (U : State) (hU : U.heap = H) (hW : s.WarmedH U.vm) : PcO g as mem (as.map (vvO g)).toArray U := ⟨rfl, hav, wdO.warm (mem := mem) hW hU hP hS hK hT hE⟩
theorem rev_split {S : List Vl} {n : Nat} {as : List Vl} (h : (S.take n).reverse = as) : S = as.reverse ++ S.drop n := by
  rw [← h, List.reverse_reverse, List.take_append_drop]
theorem ok_drop {S : List Vl} (n : Nat) (h : ∀ v ∈ S, okV v) : ∀ v ∈ S.drop n, okV v := fun v hv => h v (List.mem_of_mem_drop hv)
/-- behind a call -/
theorem after_O {hd : Hd} {as rest : List Vl} {K : Nat → Lc → List Vl → Mm → Prop} (hk : ∀ pc L S mem, K pc L S mem → AtO g h p e R s m args below meth c cells slots Z pc L S mem) {H : Heap} {locs : List Loc} {ls : Array Slot} {st0 : List Value} {a : Array Value} (hS : va_S (gA g) s.heap H locs) (hl : lv_has ls (hM h) (L.map (fun q => (q.1, vvO g q.2)))) (hLo : ∀ q ∈ L, okV q.2) (hSo : ∀ v ∈ rest, okV v)
    (hc : callO g hd as mem (pc + 3) L rest K) (hrun : ∀ P, Runs g hd as mem P → va_Run p (gL g) e R s m args below meth c H locs cells slots 0 0 (F0 m pc ls st0) (rest.map (vvO g)) (QcO g P a) (gA g)) : W p (gL g) e R s m args below meth c H locs cells slots Z (F0 m pc ls st0) := by
  unfold callO at hc
  split at hc
  · refine call_run (hrun _ hc) hS (fun r m' H1 locs1 hp hok hP1 hS1 => ?_)
    obtain ⟨rfl, hp⟩ := hp
    exact hk _ _ _ _ hp H1 locs1 ls hP1 hS1 hl hLo hSo
  · refine call_run (hrun _ hc) hS (fun r m' H1 locs1 hp hok hP1 hS1 => ?_)
    obtain ⟨t, k, i, rfl, hp⟩ := hp
    exact hk _ _ _ _ hp H1 locs1 ls hP1 hS1 hl hLo (okS_c hok hSo)
  · refine call_run (hrun _ hc) hS (fun r m' H1 locs1 hp hok hP1 hS1 => ?_)
    obtain ⟨x, rfl, hp⟩ := hp
    exact hk _ _ _ _ hp H1 locs1 ls hP1 hS1 hl hLo (okS_c trivial hSo)
theorem recv_O {t k i ci : Nat} {H : Heap} {locs : List Loc} (hP : va_P (gD g) clsL (wsO g mem) H) (hS : va_S (gA g) s.heap H locs) (hK : va_K (gD g) clsL (tysO g) s) (hE : Ext g s s.heap) (hok : okR t k i = true) {C : String} (hr : (ci = 100 ∧ t = 21 ∧ C = "java/lang/String") ∨ (ciO t = ci ∧ ci < 8 ∧ C = clsN ci)) :
    vvO g (vO t k i) = .ref (adO g t k i) ∧ ∃ cellB : Cell, H[adO g t k i]? = some cellB ∧ cellB.vm.isStatics = false ∧ s.vm.findClass C = some cellB.cls := by
  rcases hr with ⟨-, rfl, rfl⟩ | ⟨h1, h2, rfl⟩
  · exact ⟨rfl, vk_recv (i := k) hE.2.2.2.2.2.2.1 (Nat.ble_eq.mp hok) hS⟩
  · obtain ⟨h3, h4, h5, h6⟩ := ciO_ok hok (show ciO t < 8 by omega)
    exact ⟨vvO_ref h4 h5, va_recv hK hP (clsL_at h2) (q0 := ordO t k i) (by rw [wsO_at h3, cellO_cls h1 h2])⟩
theorem s_callV (C : Okc g h Q p e R s m args below meth c cells slots Z) {hd : Hd} {idx n ci t k i : Nat} {as : List Vl} {K : Nat → Lc → List Vl → Mm → Prop} (hk : ∀ pc L S mem, K pc L S mem → AtO g h p e R s m args below meth c cells slots Z pc L S mem)
    (hdc : decode (hB h) pc = .ok (.invokevirtual idx, 3)) (hok : HdOk hd n) (hn : as.length = n) (hr1 : hF hd + 1 ≤ hF h) (hr2 : 8 + (hM hd + 11) + hL hd ≤ hL h) (hlk : InT (.methodLink (hY h).cls idx (hY hd))) (hin : InT (.instanceMethod (hY hd))) (hsel : InT (.selects (hY hd).cls (hY hd) (hY hd)))
    {q : Nat} (hst : (S.take q).reverse = vO t k i :: as) (hcat : catS (S.drop q) ≤ 8) (hrc : (ci = 100 ∧ t = 21 ∧ (hY hd).cls = "java/lang/String") ∨ (ciO t = ci ∧ ci < 8 ∧ (hY hd).cls = clsN ci)) (hc : callO g hd (vO t k i :: as) mem (pc + 3) L (S.drop q) K) : AtO g h p e R s m args below meth c cells slots Z pc L S mem := by
  obtain ⟨hx, hb, hml, hown, hrm, hK, hT, hE, -, -, -⟩ := C
  intro H locs ls hP hS hl hLo hSo
  have hS0 := rev_split hst
  have hto : okR t k i = true := hSo (vO t k i) (by rw [hS0, List.reverse_cons]; simp)
  obtain ⟨hv, hrv⟩ := recv_O hP hS hK hE hto hrc
  have hstack : S.map (vvO g) = (as.map (vvO g)).reverse ++ Value.ref (adO g t k i) :: (S.drop q).map (vvO g) := by
    conv => lhs; rw [hS0]
    rw [List.reverse_cons, List.append_assoc, List.map_append, List.map_reverse, List.singleton_append, List.map_cons, hv]
  rw [hstack]
  refine after_O hk hS hl hLo (ok_drop q hSo) hc (fun P hM => ?_) (a := (Value.ref (adO g t k i) :: as.map (vvO g)).toArray)
  refine va_runV (C := (hY hd).cls) (n := n) (As := as.map (vvO g)) ⟨hx, hb, hml, hown, fun w hw => by cases hw⟩ (Ts := []) hM ⟨callB_O ⟨hrm.1, hrm.2.1⟩ hT hok hr1 hr2 hlk, hT.use hin, hT.use hsel⟩ ⟨PcO.blind, hrv, fun U hU hW => ?_⟩ rfl (by rw [List.length_map]; exact hn) hl.1 rfl (lv_room (by rw [catS_sum]; exact hcat)) hdc ⟨hrm.2.2.1, hrm.2.2.2⟩
  have hp := pre_O (as := vO t k i :: as) (fun v hv => hSo v (by rw [← hst] at hv; exact List.mem_of_mem_take (List.mem_reverse.mp hv))) hP hS hK hT hE U hU hW
  rw [List.map_cons, hv] at hp
  exact hp
theorem s_callS (C : Okc g h Q p e R s m args below meth c cells slots Z) {hd : Hd} {idx n : Nat} {as : List Vl} {K : Nat → Lc → List Vl → Mm → Prop} (hk : ∀ pc L S mem, K pc L S mem → AtO g h p e R s m args below meth c cells slots Z pc L S mem)
    (hdc : decode (hB h) pc = .ok (.invokestatic idx, 3)) (hok : HdOk hd n) (hn : as.length = n) (hr1 : hF hd + 1 ≤ hF h) (hr2 : 8 + (hM hd + 11) + hL hd ≤ hL h) (hlk : InT (.methodLink (hY h).cls idx (hY hd)) ∨ ∃ host, InT (.methodLinkNest (hY h).cls idx (hY hd) host)) (hin : InT (.static (hY hd)))
    {q : Nat} (hst : (S.take q).reverse = as) (hcat : catS (S.drop q) ≤ 8) (hc : callO g hd as mem (pc + 3) L (S.drop q) K) : AtO g h p e R s m args below meth c cells slots Z pc L S mem := by
  obtain ⟨hx, hb, hml, hown, hrm, hK, hT, hE, -, -, -⟩ := C
  intro H locs ls hP hS hl hLo hSo
  have hS0 := rev_split hst
  have hstack : S.map (vvO g) = (as.map (vvO g)).reverse ++ (S.drop q).map (vvO g) := by
    conv => lhs; rw [hS0]
    rw [List.map_append, List.map_reverse]
  rw [hstack]
  refine after_O hk hS hl hLo (ok_drop q hSo) hc (fun P hM => ?_) (a := (as.map (vvO g)).toArray)
  rcases hlk with hlk | ⟨host, hlk⟩
  · exact va_runS (n := n) (As := as.map (vvO g)) ⟨hx, hb, hml, hown, fun w hw => by cases hw⟩ (Ts := []) hM ⟨callB_O ⟨hrm.1, hrm.2.1⟩ hT hok hr1 hr2 hlk, hT.use hin⟩ ⟨PcO.blind, fun U hU hW => pre_O (fun v hv => hSo v (by rw [← hst] at hv; exact List.mem_of_mem_take (List.mem_reverse.mp hv))) hP hS hK hT hE U hU hW⟩ rfl (by rw [List.length_map]; exact hn) hl.1 rfl (lv_room (by rw [catS_sum]; exact hcat)) hdc ⟨hrm.2.2.1, hrm.2.2.2⟩
  · exact va_runSN (n := n) (As := as.map (vvO g)) ⟨hx, hb, hml, hown, fun w hw => by cases hw⟩ (Ts := []) hM ⟨callN_O ⟨hrm.1, hrm.2.1⟩ hT hok hr1 hr2 hlk, hT.use hin, trivial⟩ ⟨PcO.blind, fun U hU hW => pre_O (fun v hv => hSo v (by rw [← hst] at hv; exact List.mem_of_mem_take (List.mem_reverse.mp hv))) hP hS hK hT hE U hU hW⟩ rfl (by rw [List.length_map]; exact hn) hl.1 rfl (lv_room (by rw [catS_sum]; exact hcat)) hdc ⟨hrm.2.2.1, hrm.2.2.2⟩
theorem s_copy (C : Okc g h Q p e R s m args below meth c cells slots Z) {idx k i k' i' : Nat} {sp dp n : Int32} (hd : decode (hB h) pc = .ok (.invokestatic idx, 3)) (hlk : InT (.methodLink (hY h).cls idx arraycopyName)) (hnat : InT (.native arraycopyName)) (hst : InT (.static arraycopyName)) (hini : InT (.initialized "java/lang/System")) (hfr : 1 ≤ hF h) (hlo : 8 + (nativeFrameWords "java/lang/System" "arraycopy" 5 + 11) ≤ hL h) (hcat : catS S ≤ 8)
    (h1 : sp = 0 ∧ dp = 0 ∧ n = 5) (hk : AtO g h p e R s m args below meth c cells slots Z (pc + 3) L S (fun o => if o = (3, k', i') then va_cpy (mem (3, k, i)) (mem (3, k', i')) 0 0 5 else mem o)) : AtO g h p e R s m args below meth c cells slots Z pc L (vI n :: vI dp :: vO 3 k' i' :: vI sp :: vO 3 k i :: S) mem := by
  obtain ⟨hx, hb, hml, hown, hrm, hK, hT, hE, -, -, -⟩ := C
  intro H locs ls hP hS hl hLo hSo
  obtain ⟨rfl, rfl, rfl⟩ := h1
  have ho1 : okO 3 k' i' = true := okS_h (okS_t (okS_t hSo))
  have ho0 : okO 3 k i = true := okS_h (okS_t (okS_t (okS_t (okS_t hSo))))
  have hc0 := wsO_at (g := g) (mem := mem) ho0
  have hc1 := wsO_at (g := g) (mem := mem) ho1
  rw [cellO_arr rfl rfl] at hc0 hc1
  refine va_copyi (D := gD g) (cl := clsL) (A := gA g) (f := mem (3, k, i)) (g := mem (3, k', i')) (n0 := 5) (n1 := 5) (c0 := gC g 0) (c1 := gC g 0) (ty := .int) hx hb (hml.trans hl.1.symm) hown (hT.use hlk) (hT.use hnat) (hT.use hst) (hT.use hini) hK hP (wsO_D g mem) hS (ordO 3 k i) (ordO 3 k' i') 0 0 hc0 hc1 (tysO_at (by decide)) (tysO_at (by decide)) rfl (by decide) (by decide) (by decide) (by decide) (by decide) (fun _ _ => rfl) (Nat.le_trans hfr hrm.1) (by rw [catS_sum]; have := hrm.2.1; omega) hd (fun H1 locs1 hP1 hD1 hS1 => ?_)
  rw [wsO_set (mem' := fun o => if o = (3, k', i') then va_cpy (mem (3, k, i)) (mem (3, k', i')) 0 0 5 else mem o) ho1 (fun o ho => if_neg ho) (by rw [cellO_arr rfl rfl, if_pos rfl]; rfl)] at hP1
  exact hk H1 locs1 ls hP1 hS1 hl hLo (okS_t (okS_t (okS_t (okS_t (okS_t hSo)))))
theorem s_max (C : Okc g h Q p e R s m args below meth c cells slots Z) {idx : Nat} {x y : Int32} (hd : decode (hB h) pc = .ok (.invokestatic idx, 3)) (hlk : InT (.methodLink (hY h).cls idx Lib.Math.max.name)) (hst : InT (.static Lib.Math.max.name)) (hini : InT (.initialized "java/lang/Math")) (hco : InT (.code Lib.Math.max.name Lib.Math.max.code 2 (some .int))) (hfr : 1 ≤ hF h) (hlo : 21 ≤ hL h) (hcat : catS S ≤ 8)
    (hk : AtO g h p e R s m args below meth c cells slots Z (pc + 3) L (vI (if x < y then y else x) :: S) mem) : AtO g h p e R s m args below meth c cells slots Z pc L (vI y :: vI x :: S) mem := by
  obtain ⟨hx, hb, hml, hown, hrm, hK, hT, hE, -, -, -⟩ := C
  intro H locs ls hP hS hl hLo hSo
  exact va_mmax hx hb (hml.trans hl.1.symm) hown (hT.use hlk) (hT.use hst) (hT.use hini) (hT.use hco) (Nat.le_trans hfr hrm.1) (by rw [catS_sum]; have := hrm.2.1; omega) hrm.2.2.1 hrm.2.2.2 hd (hk H locs ls hP hS hl hLo (okS_c trivial (okS_t (okS_t hSo))))
theorem s_min (C : Okc g h Q p e R s m args below meth c cells slots Z) {idx : Nat} {x y : Int32} (hd : decode (hB h) pc = .ok (.invokestatic idx, 3)) (hlk : InT (.methodLink (hY h).cls idx Lib.Math.min.name)) (hst : InT (.static Lib.Math.min.name)) (hini : InT (.initialized "java/lang/Math")) (hco : InT (.code Lib.Math.min.name Lib.Math.min.code 2 (some .int))) (hfr : 1 ≤ hF h) (hlo : 21 ≤ hL h) (hcat : catS S ≤ 8)
    (hk : AtO g h p e R s m args below meth c cells slots Z (pc + 3) L (vI (if y < x then y else x) :: S) mem) : AtO g h p e R s m args below meth c cells slots Z pc L (vI y :: vI x :: S) mem := by
  obtain ⟨hx, hb, hml, hown, hrm, hK, hT, hE, -, -, -⟩ := C
  intro H locs ls hP hS hl hLo hSo
  exact va_mmin hx hb (hml.trans hl.1.symm) hown (hT.use hlk) (hT.use hst) (hT.use hini) (hT.use hco) (Nat.le_trans hfr hrm.1) (by rw [catS_sum]; have := hrm.2.1; omega) hrm.2.2.1 hrm.2.2.2 hd (hk H locs ls hP hS hl hLo (okS_c trivial (okS_t (okS_t hSo))))
theorem s_iret (C : Okc g h Q p e R s m args below meth c cells slots Z) {x : Int32} (hd : decode (hB h) pc = .ok (.ireturn, 1)) (hq : rtC (hR h) x (Q (some (vI x)) mem)) : AtO g h p e R s m args below meth c cells slots Z pc L [vI x] mem := by
  obtain ⟨hx, hb, hml, hown, hrm, hK, hT, hE, hq1, hq2, hq3⟩ := C
  intro H locs ls hP hS hl hLo hSo
  exact hq1 H locs ls pc x mem hd hq hP hS
theorem s_vret (C : Okc g h Q p e R s m args below meth c cells slots Z) (hd : decode (hB h) pc = .ok (.return_, 1)) (hq : vtC (hR h) (Q none mem)) : AtO g h p e R s m args below meth c cells slots Z pc L [] mem := by
  obtain ⟨hx, hb, hml, hown, hrm, hK, hT, hE, hq1, hq2, hq3⟩ := C
  intro H locs ls hP hS hl hLo hSo
  exact hq2 H locs ls pc mem hd hq hP hS
theorem s_aret (C : Okc g h Q p e R s m args below meth c cells slots Z) {t k i : Nat} (hd : decode (hB h) pc = .ok (.areturn, 1)) (hq : atC (hR h) (Q (some (vO t k i)) mem)) : AtO g h p e R s m args below meth c cells slots Z pc L [vO t k i] mem := by
  obtain ⟨hx, hb, hml, hown, hrm, hK, hT, hE, hq1, hq2, hq3⟩ := C
  intro H locs ls hP hS hl hLo hSo
  exact hq3 H locs ls pc t k i mem hd (okS_h hSo) hq hP hS
end SNC
end
section
/-! what a method's table must say of the bytes and of the tables; the whole step; from the small machine to a contract -/
def lenI (en : En) : Nat := match eI en with
  | .bipush _ => 2
  | .sipush _ => 3
  | .ldc_w _ => 3
  | .ldc2_w _ => 3
  | .ldc _ => 2
  | .iload _ => 2
  | .lload _ => 2
  | .aload _ => 2
  | .istore _ => 2
  | .lstore _ => 2
  | .astore _ => 2
  | .iinc _ _ => 3
  | .ifCond _ _ => 3
  | .if_icmp _ _ => 3
  | .goto _ => 3
  | .ifnonnull _ => 3
  | .getfield _ => 3
  | .putfield _ => 3
  | .getstatic _ => 3
  | .invokevirtual _ => 3
  | .invokestatic _ => 3
  | .tableswitch .. => eB en
  | .lookupswitch .. => eB en
  | _ => 1
def swT (x : Int32) (sw : List (Int32 × Nat)) (d : Nat) : Nat := match sw with
  | [] => d
  | q :: r => if x = q.1 then q.2 else swT x r d
theorem swc_T {x : Int32} {d : Nat} {F : Nat → Prop} : ∀ {sw : List (Int32 × Nat)}, swc x sw d F → F (swT x sw d)
  | [], h => h
  | q :: r, h => by
    unfold swT
    by_cases hx : x = q.1
    · rw [if_pos hx]
      exact h.1 hx
    · rw [if_neg hx]
      exact swc_T (h.2 hx)
def LkF (own : String) (idx ci j : Nat) : Prop := InT (.fieldLink own idx (clsT ci j).1 (clsT ci j).2.1 (clsT ci j).2.2.1)
def xtE (h : Hd) (en : En) (pc : Nat) : Prop := match eI en with
  | .iconst n => eC en = vI (Int32.ofInt n)
  | .bipush n => eC en = vI (Int8.ofInt n).toInt32
  | .sipush n => eC en = vI (Int16.ofInt n).toInt32
  | .lconst n => eC en = vJ (Int64.ofNat n)
  | .ldc_w n => ∃ x, eC en = vI x ∧ InT (.constant (hY h).cls n x)
  | .ldc2_w n => ∃ x, eC en = vJ x ∧ InT (.constantLong (hY h).cls n x)
  | .ldc n => n = strP (eA en) ∧ (hY h).cls = "NurseryPlaces$Pad" ∧ eA en < 5
  | .iload a => a = eA en
  | .lload a => a = eA en
  | .aload a => a = eA en
  | .iload_n n => (n : Nat) = eA en
  | .lload_n n => (n : Nat) = eA en
  | .aload_n n => (n : Nat) = eA en
  | .istore a => a = eA en ∧ eA en < hM h
  | .astore a => a = eA en ∧ eA en < hM h
  | .lstore a => a = eA en ∧ eA en + 1 < hM h
  | .istore_n n => (n : Nat) = eA en ∧ eA en < hM h
  | .astore_n n => (n : Nat) = eA en ∧ eA en < hM h
  | .lstore_n n => (n : Nat) = eA en ∧ eA en + 1 < hM h
  | .iinc a n => a = eA en ∧ eA en < hM h ∧ eC en = vI (Int32.ofInt n)
  | .ifCond _ off => (pc : Int) + off = (eA en : Int)
  | .if_icmp _ off => (pc : Int) + off = (eA en : Int)
  | .goto off => (pc : Int) + off = (eA en : Int)
  | .ifnonnull off => (pc : Int) + off = (eA en : Int)
  | .tableswitch dflt lo hi offs => ∀ x : Int32, ((x.toInt < lo ∨ hi < x.toInt) ∧ (pc : Int) + dflt = (swT x (eS en) (eA en) : Int)) ∨ (¬ x.toInt < lo ∧ ¬ hi < x.toInt ∧ ∃ off, offs[(x.toInt - lo).toNat]? = some off ∧ (pc : Int) + off = (swT x (eS en) (eA en) : Int))
  | .lookupswitch dflt ps => (ps.toList.zip (ps.toList.drop 1)).all (fun (a, next) => a.1 < next.1) = true ∧ ∀ x : Int32, (pc : Int) + Op.lookupswitch.offset ps.toList dflt x.toInt = (swT x (eS en) (eA en) : Int)
  | .getfield idx => (eA en = 100 ∧ eB en = 0 ∧ InT (.fieldLink (hY h).cls idx "java/lang/String" "value" "[B")) ∨ (eA en = 100 ∧ eB en = 1 ∧ InT (.fieldLink (hY h).cls idx "java/lang/String" "coder" "B")) ∨ (eA en < 8 ∧ LkF (hY h).cls idx (eA en) (eB en))
  | .putfield idx => (clsT (eA en) (eB en)).2.2.2 = false ∧ LkF (hY h).cls idx (eA en) (eB en)
  | .getstatic idx => (eC en = vO 22 0 0 ∧ ∃ host, InT (.fieldLinkNest (hY h).cls idx "NurseryPlaces" "LOWEST_SETTING" "[I" host)) ∨ (eC en = vO 22 1 0 ∧ ∃ host, InT (.fieldLinkNest (hY h).cls idx "NurseryPlaces" "HIGHEST_SETTING" "[I" host)) ∨ (eC en = vI 1 ∧ InT (.fieldLink (hY h).cls idx "java/lang/String" "COMPACT_STRINGS" "Z")) ∨ (eC en = vO 25 0 0 ∧ InT (.fieldLink (hY h).cls idx "jdk/internal/util/Preconditions" "SIOOBE_FORMATTER" "Ljava/util/function/BiFunction;"))
  | .invokevirtual idx => HdOk (eH en) (eB en - 1) ∧ 0 < eB en ∧ hF (eH en) + 1 ≤ hF h ∧ 8 + (hM (eH en) + 11) + hL (eH en) ≤ hL h ∧ InT (.methodLink (hY h).cls idx (hY (eH en))) ∧ InT (.instanceMethod (hY (eH en))) ∧ InT (.selects (hY (eH en)).cls (hY (eH en)) (hY (eH en))) ∧ ((eA en = 100 ∧ (hY (eH en)).cls = "java/lang/String") ∨ (eA en < 8 ∧ (hY (eH en)).cls = clsN (eA en)))
  | .invokestatic idx => (eA en = 9 ∧ InT (.methodLink (hY h).cls idx arraycopyName) ∧ 1 ≤ hF h ∧ 8 + (nativeFrameWords "java/lang/System" "arraycopy" 5 + 11) ≤ hL h) ∨ (eA en = 7 ∧ InT (.methodLink (hY h).cls idx Lib.Math.max.name) ∧ 1 ≤ hF h ∧ 21 ≤ hL h) ∨ (eA en = 8 ∧ InT (.methodLink (hY h).cls idx Lib.Math.min.name) ∧ 1 ≤ hF h ∧ 21 ≤ hL h) ∨ (eA en = 0 ∧ HdOk (eH en) (eB en) ∧ hF (eH en) + 1 ≤ hF h ∧ 8 + (hM (eH en) + 11) + hL (eH en) ≤ hL h ∧ (InT (.methodLink (hY h).cls idx (hY (eH en))) ∨ ∃ host, InT (.methodLinkNest (hY h).cls idx (hY (eH en)) host)) ∧ InT (.static (hY (eH en))))
  | _ => True
def okE (h : Hd) (en : En) (pc : Nat) : Prop := decode (hB h) pc = .ok (eI en, lenI en) ∧ xtE h en pc
theorem pI_el {S : List Vl} {F : Int32 → List Vl → Prop} (h : pI S F) : ∃ x r, S = vI x :: r ∧ F x r := by
  obtain _ | ⟨x | x | x, r⟩ := S <;> first | exact ⟨_, _, rfl, h⟩ | exact h.elim
theorem pJ_el {S : List Vl} {F : Int64 → List Vl → Prop} (h : pJ S F) : ∃ x r, S = vJ x :: r ∧ F x r := by
  obtain _ | ⟨x | x | x, r⟩ := S <;> first | exact ⟨_, _, rfl, h⟩ | exact h.elim
theorem pO_el {S : List Vl} {F : Nat → Nat → Nat → List Vl → Prop} (h : pO S F) : ∃ t k i r, S = vO t k i :: r ∧ F t k i r := by
  obtain _ | ⟨x | x | ⟨t, k, i⟩, r⟩ := S <;> first | exact ⟨_, _, _, _, rfl, h⟩ | exact h.elim
theorem p1_el {S : List Vl} {F : Vl → List Vl → Prop} (h : p1 S F) : ∃ v r, S = v :: r ∧ catV v = 1 ∧ F v r := by
  obtain _ | ⟨x | x | ⟨t, k, i⟩, r⟩ := S <;> first | exact ⟨_, _, rfl, rfl, h⟩ | exact h.elim
theorem cI_el {v : Option Vl} {F : Int32 → Prop} (h : cI v F) : ∃ x, v = some (vI x) ∧ F x := by
  obtain _ | x | x | x := v <;> first | exact ⟨_, rfl, h⟩ | exact h.elim
theorem cJ_el {v : Option Vl} {F : Int64 → Prop} (h : cJ v F) : ∃ x, v = some (vJ x) ∧ F x := by
  obtain _ | x | x | x := v <;> first | exact ⟨_, rfl, h⟩ | exact h.elim
theorem cO_el {v : Option Vl} {F : Nat → Nat → Nat → Prop} (h : cO v F) : ∃ t k i, v = some (vO t k i) ∧ F t k i := by
  obtain _ | x | x | ⟨t, k, i⟩ := v <;> first | exact ⟨_, _, _, rfl, h⟩ | exact h.elim
theorem bt_el {b : Bool} {P : Prop} (h : bt b P) : b = true ∧ P := by
  cases b
  · exact h.elim
  · exact ⟨rfl, h⟩
theorem brk_map {c : Jvm.ClassFile.Cond} {x y : Int32} {A B A' B' : Prop} (h : brk c x y A B) (ha : A → A') (hb : B → B') : brk c x y A' B' := by
  cases c <;> exact ⟨fun q => ha (h.1 q), fun q => hb (h.2 q)⟩
theorem InT_nat : InT (.native arraycopyName) ∧ InT (.static arraycopyName) ∧ InT (.initialized "java/lang/System") := ⟨InT.of 389 rfl rfl, InT.of 388 rfl rfl, InT.of 60 rfl rfl⟩
set_option maxRecDepth 100000 in
theorem InT_max : InT (.static Lib.Math.max.name) ∧ InT (.code Lib.Math.max.name Lib.Math.max.code 2 (some .int)) := ⟨InT.of 626 rfl rfl, InT.of 627 rfl rfl⟩
set_option maxRecDepth 100000 in
theorem InT_min : InT (.static Lib.Math.min.name) ∧ InT (.code Lib.Math.min.name Lib.Math.min.code 2 (some .int)) := ⟨InT.of 536 rfl rfl, InT.of 537 rfl rfl⟩
theorem InT_mi : InT (.initialized "java/lang/Math") := InT.of 63 rfl rfl
section SNS
variable {g : Wg} {h : Hd} {Q : Option Vl → Mm → Prop} {p : Program} {e : Env} {R : Room} {s : State} {m : MethodId} {args : Array Value} {below : List Frame} {meth : Method} {c : Code} {cells slots : Nat} {Z : State → Prop} {pc : Nat} {L : Lc} {S : List Vl} {mem : Mm}
set_option maxHeartbeats 4000000 in
theorem stp_sound (C : Okc g h Q p e R s m args below meth c cells slots Z) {K : Nat → Lc → List Vl → Mm → Prop} (hk : ∀ pc L S mem, K pc L S mem → AtO g h p e R s m args below meth c cells slots Z pc L S mem) {en : En} (ho : okE h en pc) (hs : stp g h Q K en pc L S mem) : AtO g h p e R s m args below meth c cells slots Z pc L S mem := by
  obtain ⟨hd, hx⟩ := ho
  obtain ⟨ins, a, b, cst, hd2, sw⟩ := en
  cases ins <;> try exact False.elim hs
  case iconst n =>
    obtain ⟨x, hx2, z1⟩ := cI_el (hs : cI _ _)
    have hx3 : cst = _ := hx
    rw [hx3] at hx2
    cases hx2
    exact s_iconst C hd rfl (hk _ _ _ _ z1)
  case bipush n =>
    obtain ⟨x, hx2, z1⟩ := cI_el (hs : cI _ _)
    have hx3 : cst = _ := hx
    rw [hx3] at hx2
    cases hx2
    exact s_bipush C hd rfl (hk _ _ _ _ z1)
  case sipush n =>
    obtain ⟨x, hx2, z1⟩ := cI_el (hs : cI _ _)
    have hx3 : cst = _ := hx
    rw [hx3] at hx2
    cases hx2
    exact s_sipush C hd rfl (hk _ _ _ _ z1)
  case lconst n =>
    obtain ⟨x, hx2, z1⟩ := cJ_el (hs : cJ _ _)
    have hx3 : cst = _ := hx
    rw [hx3] at hx2
    cases hx2
    exact s_lconst C hd rfl (hk _ _ _ _ z1)
  case ldc_w n =>
    obtain ⟨x, hx2, z1⟩ := cI_el (hs : cI _ _)
    obtain ⟨y, hy, hw⟩ := hx
    have hy : cst = vI y := hy
    rw [hy] at hx2
    cases hx2
    exact s_ldcw C hd hw (hk _ _ _ _ z1)
  case ldc2_w n =>
    obtain ⟨x, hx2, z1⟩ := cJ_el (hs : cJ _ _)
    obtain ⟨y, hy, hw⟩ := hx
    have hy : cst = vJ y := hy
    rw [hy] at hx2
    cases hx2
    exact s_ldc2 C hd hw (hk _ _ _ _ z1)
  case ldc n =>
    obtain ⟨h1, h2, h3⟩ := hx
    have h1 : n = strP a := h1
    subst h1
    exact s_ldcS C hd h2 h3 (hk _ _ _ _ hs)
  case aconst_null  =>
    exact s_null C hd (hk _ _ _ _ hs)
  case iload n =>
    obtain ⟨x, hx2, hz⟩ := cI_el (hs : cI _ _)
    have hx3 : n = a := hx
    subst hx3
    exact s_iload C hd hx2 (hk _ _ _ _ hz)
  case iload_n n =>
    obtain ⟨x, hx2, z1⟩ := cI_el (hs : cI _ _)
    exact s_iload_n C hd hx hx2 (hk _ _ _ _ z1)
  case lload n =>
    obtain ⟨x, hx2, hz⟩ := cJ_el (hs : cJ _ _)
    have hx3 : n = a := hx
    subst hx3
    exact s_lload C hd hx2 (hk _ _ _ _ hz)
  case lload_n n =>
    obtain ⟨x, hx2, z1⟩ := cJ_el (hs : cJ _ _)
    exact s_lload_n C hd hx hx2 (hk _ _ _ _ z1)
  case aload n =>
    obtain ⟨t, k, i, hx2, hz⟩ := cO_el (hs : cO _ _)
    have hx3 : n = a := hx
    subst hx3
    exact s_aload C hd hx2 (hk _ _ _ _ hz)
  case aload_n n =>
    obtain ⟨t, k, i, hx2, z1⟩ := cO_el (hs : cO _ _)
    exact s_aload_n C hd hx hx2 (hk _ _ _ _ z1)
  case istore n =>
    obtain ⟨x, r, rfl, z1⟩ := pI_el (hs : pI _ _)
    obtain ⟨h1, h2⟩ := hx
    have hx3 : n = a := h1
    subst hx3
    exact s_istore C hd h2 (hk _ _ _ _ z1)
  case istore_n n =>
    obtain ⟨x, r, rfl, z1⟩ := pI_el (hs : pI _ _)
    obtain ⟨h1, h2⟩ := hx
    exact s_istore_n C hd h1 h2 (hk _ _ _ _ z1)
  case lstore n =>
    obtain ⟨x, r, rfl, z1⟩ := pJ_el (hs : pJ _ _)
    obtain ⟨h1, h2⟩ := hx
    have hx3 : n = a := h1
    subst hx3
    exact s_lstore C hd h2 (hk _ _ _ _ z1)
  case lstore_n n =>
    obtain ⟨x, r, rfl, z1⟩ := pJ_el (hs : pJ _ _)
    obtain ⟨h1, h2⟩ := hx
    exact s_lstore_n C hd h1 h2 (hk _ _ _ _ z1)
  case astore n =>
    obtain ⟨t, k, i, r, rfl, z1⟩ := pO_el (hs : pO _ _)
    obtain ⟨h1, h2⟩ := hx
    have hx3 : n = a := h1
    subst hx3
    exact s_astore C hd h2 (hk _ _ _ _ z1)
  case astore_n n =>
    obtain ⟨t, k, i, r, rfl, z1⟩ := pO_el (hs : pO _ _)
    obtain ⟨h1, h2⟩ := hx
    exact s_astore_n C hd h1 h2 (hk _ _ _ _ z1)
  case iinc n z =>
    obtain ⟨x, hx2, z1⟩ := cI_el (hs : cI _ _)
    obtain ⟨y, hy2, z2⟩ := cI_el z1
    obtain ⟨h1, h2, h3⟩ := hx
    have hx3 : n = a := h1
    subst hx3
    have h3 : cst = _ := h3
    rw [h3] at hy2
    cases hy2
    exact s_iinc C hd hx2 rfl h2 (hk _ _ _ _ z2)
  case iadd  =>
    obtain ⟨y, r, rfl, z1⟩ := pI_el (hs : pI _ _)
    obtain ⟨x, r, rfl, z2⟩ := pI_el z1
    exact s_iadd C hd (hk _ _ _ _ z2)
  case isub  =>
    obtain ⟨y, r, rfl, z1⟩ := pI_el (hs : pI _ _)
    obtain ⟨x, r, rfl, z2⟩ := pI_el z1
    exact s_isub C hd (hk _ _ _ _ z2)
  case imul  =>
    obtain ⟨y, r, rfl, z1⟩ := pI_el (hs : pI _ _)
    obtain ⟨x, r, rfl, z2⟩ := pI_el z1
    exact s_imul C hd (hk _ _ _ _ z2)
  case iand  =>
    obtain ⟨y, r, rfl, z1⟩ := pI_el (hs : pI _ _)
    obtain ⟨x, r, rfl, z2⟩ := pI_el z1
    exact s_iand C hd (hk _ _ _ _ z2)
  case ior  =>
    obtain ⟨y, r, rfl, z1⟩ := pI_el (hs : pI _ _)
    obtain ⟨x, r, rfl, z2⟩ := pI_el z1
    exact s_ior C hd (hk _ _ _ _ z2)
  case ixor  =>
    obtain ⟨y, r, rfl, z1⟩ := pI_el (hs : pI _ _)
    obtain ⟨x, r, rfl, z2⟩ := pI_el z1
    exact s_ixor C hd (hk _ _ _ _ z2)
  case ishl  =>
    obtain ⟨y, r, rfl, z1⟩ := pI_el (hs : pI _ _)
    obtain ⟨x, r, rfl, z2⟩ := pI_el z1
    exact s_ishl C hd (hk _ _ _ _ z2)
  case ishr  =>
    obtain ⟨y, r, rfl, z1⟩ := pI_el (hs : pI _ _)
    obtain ⟨x, r, rfl, z2⟩ := pI_el z1
    exact s_ishr C hd (hk _ _ _ _ z2)
  case iushr  =>
    obtain ⟨y, r, rfl, z1⟩ := pI_el (hs : pI _ _)
    obtain ⟨x, r, rfl, z2⟩ := pI_el z1
    exact s_iushr C hd (hk _ _ _ _ z2)
  case idiv  =>
    obtain ⟨y, r, rfl, z1⟩ := pI_el (hs : pI _ _)
    obtain ⟨x, r, rfl, hne, z2⟩ := pI_el z1
    exact s_idiv C hd hne (hk _ _ _ _ z2)
  case irem  =>
    obtain ⟨y, r, rfl, z1⟩ := pI_el (hs : pI _ _)
    obtain ⟨x, r, rfl, hne, z2⟩ := pI_el z1
    exact s_irem C hd hne (hk _ _ _ _ z2)
  case land  =>
    obtain ⟨y, r, rfl, z1⟩ := pJ_el (hs : pJ _ _)
    obtain ⟨x, r, rfl, z2⟩ := pJ_el z1
    exact s_land C hd (hk _ _ _ _ z2)
  case lor  =>
    obtain ⟨y, r, rfl, z1⟩ := pJ_el (hs : pJ _ _)
    obtain ⟨x, r, rfl, z2⟩ := pJ_el z1
    exact s_lor C hd (hk _ _ _ _ z2)
  case lcmp  =>
    obtain ⟨y, r, rfl, z1⟩ := pJ_el (hs : pJ _ _)
    obtain ⟨x, r, rfl, z2⟩ := pJ_el z1
    exact s_lcmp C hd (hk _ _ _ _ z2)
  case lushr  =>
    obtain ⟨y, r, rfl, z1⟩ := pI_el (hs : pI _ _)
    obtain ⟨x, r, rfl, z2⟩ := pJ_el z1
    exact s_lushr C hd (hk _ _ _ _ z2)
  case lshl  =>
    obtain ⟨y, r, rfl, z1⟩ := pI_el (hs : pI _ _)
    obtain ⟨x, r, rfl, z2⟩ := pJ_el z1
    exact s_lshl C hd (hk _ _ _ _ z2)
  case l2i  =>
    obtain ⟨y, r, rfl, z1⟩ := pJ_el (hs : pJ _ _)
    exact s_l2i C hd (hk _ _ _ _ z1)
  case i2l  =>
    obtain ⟨y, r, rfl, z1⟩ := pI_el (hs : pI _ _)
    exact s_i2l C hd (hk _ _ _ _ z1)
  case i2c  =>
    obtain ⟨y, r, rfl, z1⟩ := pI_el (hs : pI _ _)
    exact s_i2c C hd (hk _ _ _ _ z1)
  case dup  =>
    obtain ⟨v, r, rfl, hc, z1⟩ := p1_el (S := S) (F := fun v S => K (pc + 1) L (v :: v :: S) mem) hs
    exact s_dup C hd hc (hk _ _ _ _ z1)
  case pop  =>
    obtain ⟨v, r, rfl, hc, z1⟩ := p1_el (S := S) (F := fun v S => K (pc + 1) L S mem) hs
    exact s_pop C hd hc (hk _ _ _ _ z1)
  case dup_x1  =>
    obtain ⟨v, r, rfl, hc, z1⟩ := p1_el (S := S) (F := fun v S => p1 S fun w S => K (pc + 1) L (v :: w :: v :: S) mem) hs
    obtain ⟨w, r, rfl, hc2, z2⟩ := p1_el z1
    exact s_dup_x1 C hd hc hc2 (hk _ _ _ _ z2)
  case dup2  =>
    obtain ⟨v, r, rfl, hc, z1⟩ := p1_el (S := S) (F := fun v S => p1 S fun w S => K (pc + 1) L (v :: w :: v :: w :: S) mem) hs
    obtain ⟨w, r, rfl, hc2, z2⟩ := p1_el z1
    exact s_dup2 C hd hc hc2 (hk _ _ _ _ z2)
  case ifCond cc off =>
    obtain ⟨x, r, rfl, z1⟩ := pI_el (hs : pI _ _)
    exact s_if C hd hx (brk_map z1 (hk _ _ _ _) (hk _ _ _ _))
  case if_icmp cc off =>
    obtain ⟨y, r, rfl, z1⟩ := pI_el (hs : pI _ _)
    obtain ⟨x, r, rfl, z2⟩ := pI_el z1
    exact s_icmp C hd hx (brk_map z2 (hk _ _ _ _) (hk _ _ _ _))
  case goto off =>
    exact s_goto C hd hx (hk _ _ _ _ hs)
  case ifnonnull off =>
    obtain ⟨t, k, i, r, rfl, z1⟩ := pO_el (hs : pO _ _)
    refine s_ifnonnull C hd hx (fun q => ?_) (fun q => ?_) (fun q => ?_)
    · subst q
      exact z1.elim
    · subst q
      exact hk _ _ _ _ z1
    · split at z1
      · exact absurd rfl q
      · exact z1.elim
      · exact hk _ _ _ _ z1
  case tableswitch dflt lo hi offs =>
    obtain ⟨x, r, rfl, z1⟩ := pI_el (hs : pI _ _)
    have h1 := hk _ _ _ _ (swc_T z1)
    intro H locs ls hP hS hl hLo hSo
    have h2 := h1 H locs ls hP hS hl hLo (okS_t hSo)
    obtain ⟨hx0, hb, -⟩ := C
    rcases hx x with ⟨h3, h4⟩ | ⟨h3, h4, off, h5, h6⟩
    · exact lv_tableOut hx0 hb hd h3 h4 h2
    · exact lv_tableIn hx0 hb hd h3 h4 h5 h6 h2
  case lookupswitch dflt ps =>
    obtain ⟨x, r, rfl, z1⟩ := pI_el (hs : pI _ _)
    have h1 := hk _ _ _ _ (swc_T z1)
    intro H locs ls hP hS hl hLo hSo
    have h2 := h1 H locs ls hP hS hl hLo (okS_t hSo)
    obtain ⟨hx0, hb, -⟩ := C
    exact lv_lookup hx0 hb hd hx.1 rfl (hx.2 x) h2
  case getfield idx =>
    obtain ⟨t, k, i, r, rfl, z1⟩ := pO_el (hs : pO _ _)
    rcases hx with ⟨h1, h2, h3⟩ | ⟨h1, h2, h3⟩ | ⟨h1, h3⟩
    · have h1 : a = 100 := h1
      have h2 : b = 0 := h2
      subst h1; subst h2
      obtain ⟨h4, z2⟩ := bt_el (z1 : bt _ _)
      have h4 := Nat.eq_of_beq_eq_true h4
      subst h4
      exact s_strV C hd h3 (hk _ _ _ _ z2)
    · have h1 : a = 100 := h1
      have h2 : b = 1 := h2
      subst h1; subst h2
      obtain ⟨h4, z3⟩ := bt_el (z1 : bt _ _)
      have h4 := Nat.eq_of_beq_eq_true h4
      subst h4
      exact s_strC C hd h3 (hk _ _ _ _ z3)
    · have h1 : a < 8 := h1
      dsimp only [eA] at z1
      split at z1
      · omega
      · obtain ⟨h4, z4⟩ := bt_el (z1 : bt _ _)
        exact s_getfield C hd h4 h3 (hk _ _ _ _ z4)
  case putfield idx =>
    obtain ⟨x, r, rfl, z1⟩ := pI_el (hs : pI _ _)
    obtain ⟨t, k, i, r, rfl, z2⟩ := pO_el z1
    obtain ⟨h4, z3⟩ := bt_el z2
    obtain ⟨h1, h2⟩ := hx
    simp only [Bool.and_eq_true] at h4
    obtain ⟨hc1, hc2, hc3⟩ := okF_sp h4.1
    obtain ⟨h5, h6, z4⟩ := nrC_sp z3 (cls_kind hc3 hc2 h1)
    exact s_putfield C hd h4.1 (Option.isNone_iff_eq_none.mp h4.2) h1 h2 h5 h6 (hk _ _ _ _ z4)
  case getstatic idx =>
    have hs := hk _ _ _ _ hs
    dsimp only [eC] at hs hx
    rcases hx with ⟨h1, host, h2⟩ | ⟨h1, host, h2⟩ | ⟨h1, h2⟩ | ⟨h1, h2⟩
    · have h1 : cst = _ := h1
      rw [h1] at hs
      exact s_stat0 C hd h2 hs
    · have h1 : cst = _ := h1
      rw [h1] at hs
      exact s_stat1 C hd h2 hs
    · have h1 : cst = _ := h1
      rw [h1] at hs
      exact s_stat2 C hd h2 hs
    · have h1 : cst = _ := h1
      rw [h1] at hs
      exact s_stat3 C hd h2 hs
  case aaload  =>
    obtain ⟨x, r, rfl, z1⟩ := pI_el (hs : pI _ _)
    obtain ⟨t, k, i, r, rfl, z2⟩ := pO_el z1
    obtain ⟨h4, h5, z3⟩ := bt_el z2
    exact s_aaload C hd h4 h5 (hk _ _ _ _ z3)
  case iaload  =>
    obtain ⟨x, r, rfl, z1⟩ := pI_el (hs : pI _ _)
    obtain ⟨t, k, i, r, rfl, z2⟩ := pO_el z1
    split at z2
    · exact s_script C hd z2.1 (hk _ _ _ _ z2.2)
    · exact s_statA C hd z2.1 (hk _ _ _ _ z2.2)
    · obtain ⟨h4, h5, z3⟩ := bt_el z2
      exact s_iaload C hd h4 h5 (hk _ _ _ _ z3)
  case iastore  =>
    obtain ⟨v, r, rfl, z1⟩ := pI_el (hs : pI _ _)
    obtain ⟨x, r, rfl, z2⟩ := pI_el z1
    obtain ⟨t, k, i, r, rfl, z3⟩ := pO_el z2
    obtain ⟨h4, h5, z4⟩ := bt_el z3
    exact s_iastore C hd h4 h5 (hk _ _ _ _ z4)
  case baload  =>
    obtain ⟨x, r, rfl, z1⟩ := pI_el (hs : pI _ _)
    obtain ⟨t, k, i, r, rfl, z2⟩ := pO_el z1
    split at z2
    · exact s_strA C hd z2.1 (hk _ _ _ _ z2.2)
    · obtain ⟨h4, h5, z3⟩ := bt_el z2
      exact s_zaload C hd h4 h5 (hk _ _ _ _ z3)
  case bastore  =>
    obtain ⟨v, r, rfl, z1⟩ := pI_el (hs : pI _ _)
    obtain ⟨x, r, rfl, z2⟩ := pI_el z1
    obtain ⟨t, k, i, r, rfl, z3⟩ := pO_el z2
    obtain ⟨h4, h5, z4⟩ := bt_el z3
    exact s_zastore C hd h4 h5 (hk _ _ _ _ z4)
  case caload  =>
    obtain ⟨x, r, rfl, z1⟩ := pI_el (hs : pI _ _)
    obtain ⟨t, k, i, r, rfl, z2⟩ := pO_el z1
    obtain ⟨h4, h5, z3⟩ := bt_el z2
    exact s_caload C hd (Nat.eq_of_beq_eq_true h4) h5 (hk _ _ _ _ z3)
  case castore  =>
    obtain ⟨v, r, rfl, z1⟩ := pI_el (hs : pI _ _)
    obtain ⟨x, r, rfl, z2⟩ := pI_el z1
    obtain ⟨t, k, i, r, rfl, z3⟩ := pO_el z2
    obtain ⟨h4, h5, z4⟩ := bt_el z3
    exact s_castore C hd (Nat.eq_of_beq_eq_true h4) h5 (hk _ _ _ _ z4)
  case arraylength  =>
    obtain ⟨t, k, i, r, rfl, z1⟩ := pO_el (hs : pO _ _)
    split at z1
    · exact s_scriptL C hd (hk _ _ _ _ z1)
    · exact s_strL C hd (hk _ _ _ _ z1)
    · obtain ⟨h4, z2⟩ := bt_el z1
      exact s_alen C hd h4 (hk _ _ _ _ z2)
  case invokevirtual idx =>
    obtain ⟨h1, z1⟩ := bt_el (hs : bt _ _)
    simp only [Bool.and_eq_true] at h1
    obtain ⟨x1, x0, x2, x3, x4, x5, x6, x7⟩ := hx
    dsimp only [eA, eB, eH] at *
    split at z1
    · rename_i t k i as hst
      obtain ⟨h2, z2⟩ := bt_el z1
      have hlen : as.length = b - 1 := by
        have h9 := congrArg List.length hst
        rw [List.length_reverse, List.length_take, List.length_cons] at h9
        have h8 := Nat.le_of_ble_eq_true h1.1
        omega
      refine s_callV C hk (ci := a) hd x1 hlen x2 x3 x4 x5 x6 hst (Nat.le_of_ble_eq_true h1.2) ?_ z2
      rcases x7 with ⟨y1, y2⟩ | ⟨y1, y2⟩
      · subst y1
        exact Or.inl ⟨rfl, Nat.eq_of_beq_eq_true h2, y2⟩
      · split at h2
        · omega
        · simp only [Bool.and_eq_true] at h2
          exact Or.inr ⟨Nat.eq_of_beq_eq_true h2.1, y1, y2⟩
    · exact z1.elim
  case invokestatic idx =>
    rcases hx with ⟨x0, x1, x2, x3⟩ | ⟨x0, x1, x2, x3⟩ | ⟨x0, x1, x2, x3⟩ | ⟨x0, x1, x2, x3, x4, x5⟩
    · have x0 : a = 9 := x0
      subst x0
      obtain ⟨n, r, rfl, z1⟩ := pI_el (hs : pI _ _)
      obtain ⟨dp, r, rfl, z2⟩ := pI_el z1
      obtain ⟨t2, k2, i2, r, rfl, z3⟩ := pO_el z2
      obtain ⟨sp, r, rfl, z4⟩ := pI_el z3
      obtain ⟨t, k, i, r, rfl, z5⟩ := pO_el z4
      obtain ⟨h1, z6⟩ := bt_el z5
      simp only [Bool.and_eq_true] at h1
      obtain ⟨⟨h1, h2⟩, h3⟩ := h1
      have h1 := Nat.eq_of_beq_eq_true h1
      have h2 := Nat.eq_of_beq_eq_true h2
      subst h1; subst h2
      exact s_copy C hd x1 InT_nat.1 InT_nat.2.1 InT_nat.2.2 x2 x3 (Nat.le_of_ble_eq_true h3) z6.1 (hk _ _ _ _ z6.2)
    · have x0 : a = 7 := x0
      subst x0
      obtain ⟨y, r, rfl, z7⟩ := pI_el (hs : pI _ _)
      obtain ⟨x, r, rfl, z8⟩ := pI_el z7
      obtain ⟨h1, z9⟩ := bt_el z8
      exact s_max C hd x1 InT_max.1 InT_mi InT_max.2 x2 x3 (Nat.le_of_ble_eq_true h1) (hk _ _ _ _ z9)
    · have x0 : a = 8 := x0
      subst x0
      obtain ⟨y, r, rfl, z10⟩ := pI_el (hs : pI _ _)
      obtain ⟨x, r, rfl, z11⟩ := pI_el z10
      obtain ⟨h1, z12⟩ := bt_el z11
      exact s_min C hd x1 InT_min.1 InT_mi InT_min.2 x2 x3 (Nat.le_of_ble_eq_true h1) (hk _ _ _ _ z12)
    · have x0 : a = 0 := x0
      subst x0
      obtain ⟨h1, z13⟩ := bt_el (hs : bt _ _)
      simp only [Bool.and_eq_true] at h1
      refine s_callS C hk hd x1 ?_ x2 x3 x4 x5 rfl (Nat.le_of_ble_eq_true h1.2) z13
      rw [List.length_reverse, List.length_take]
      have h8 := Nat.le_of_ble_eq_true h1.1
      dsimp only [eB] at *
      omega
  case ireturn  =>
    obtain ⟨x, r, rfl, z1⟩ := pI_el (hs : pI _ _)
    split at z1
    · exact s_iret C hd z1
    · exact z1.elim
  case areturn  =>
    obtain ⟨t, k, i, r, rfl, z1⟩ := pO_el (hs : pO _ _)
    split at z1
    · exact s_aret C hd (bt_el z1).2
    · exact z1.elim
  case return_  =>
    cases S with
    | nil => exact s_vret C hd hs
    | cons v r => exact False.elim hs
end SNS
end
section
/-! FROM THE SMALL MACHINE TO A CONTRACT -/
def Go (g : Wg) (h : Hd) (Q : Option Vl → Mm → Prop) (pc : Nat) (L : Lc) (S : List Vl) (mem : Mm) : Prop :=
  ∀ (p : Program) (e : Env) (R : Room) (s : State) (m : MethodId) (args : Array Value) (below : List Frame) (meth : Method) (c : Code) (cells slots : Nat) (Z : State → Prop), Okc g h Q p e R s m args below meth c cells slots Z → AtO g h p e R s m args below meth c cells slots Z pc L S mem
def okCd (h : Hd) (cd : List (Option En)) : Prop := ∀ (pc : Nat) (en : En), cd[pc]? = some (some en) → okE h en pc
theorem go_sound {g : Wg} {h : Hd} {Q : Option Vl → Mm → Prop} {cd : List (Option En)} {cut : List Nat} {K : Nat → Lc → List Vl → Mm → Prop} (hcd : okCd h cd) (hK : ∀ pc L S mem, K pc L S mem → Go g h Q pc L S mem) :
    ∀ (n : Nat) (b : Bool) (pc : Nat) (L : Lc) (S : List Vl) (mem : Mm), go g h Q cd cut K n b pc L S mem → Go g h Q pc L S mem := by
  intro n
  induction n with
  | zero => exact fun b pc L S mem hg => hK _ _ _ _ hg
  | succ n ih =>
    intro b pc L S mem hg
    unfold go at hg
    split at hg
    · exact hK _ _ _ _ hg
    · split at hg
      · rename_i en hen
        intro p e R s m args below meth c cells slots Z C
        exact stp_sound C (fun pc L S mem hz => ih true pc L S mem hz p e R s m args below meth c cells slots Z C) (hcd pc en hen) hg
      · exact hg.elim
/-- from a place on, to the next cuts -/
theorem Go.cut {g : Wg} {h : Hd} {Q : Option Vl → Mm → Prop} {cd : List (Option En)} (hcd : okCd h cd) (cut : List Nat) (n : Nat) {pc : Nat} {L : Lc} {S : List Vl} {mem : Mm} (hg : go g h Q cd cut (Go g h Q) n false pc L S mem) : Go g h Q pc L S mem := go_sound hcd (fun _ _ _ _ q => q) n false pc L S mem hg
theorem Go.sub {g : Wg} {h : Hd} {Q : Option Vl → Mm → Prop} {pc : Nat} {L L' : Lc} {S : List Vl} {mem : Mm} (hs : ∀ q ∈ L', q ∈ L) (hg : Go g h Q pc L' S mem) : Go g h Q pc L S mem := by
  intro p e R s m args below meth c cells slots Z C H locs ls hP hS hl hLo hSo
  refine hg p e R s m args below meth c cells slots Z C H locs ls hP hS ⟨hl.1, hl.2.1, fun q hq => ?_⟩ (fun q hq => hLo q (hs q hq)) hSo
  obtain ⟨q0, h1, rfl⟩ := List.mem_map.mp hq
  exact hl.2.2 _ (List.mem_map.mpr ⟨q0, hs q0 h1, rfl⟩)
/-- fewer locals, by their places -/
theorem Go.pick {g : Wg} {h : Hd} {Q : Option Vl → Mm → Prop} {pc : Nat} {L L' : Lc} {S : List Vl} {mem : Mm} (ks : List Nat) (hs : ks.filterMap (fun i => L[i]?) = L') (hg : Go g h Q pc L' S mem) : Go g h Q pc L S mem := by
  refine Go.sub (fun q hq => ?_) hg
  rw [← hs] at hq
  obtain ⟨k, -, hk⟩ := List.mem_filterMap.mp hq
  exact List.mem_of_getElem? hk
theorem Go.mono {g : Wg} {h : Hd} {Q Q' : Option Vl → Mm → Prop} {pc : Nat} {L : Lc} {S : List Vl} {mem : Mm} (hq : ∀ r m', Q r m' → Q' r m') (hg : Go g h Q pc L S mem) : Go g h Q' pc L S mem := by
  intro p e R s m args below meth c cells slots Z C
  refine hg p e R s m args below meth c cells slots Z ?_
  obtain ⟨h1, h2, h3, h4, h5, h6, h7, h8, h9, h10, h11⟩ := C
  refine ⟨h1, h2, h3, h4, h5, h6, h7, h8, fun H locs ls pc x mem hd hr => h9 H locs ls pc x mem hd ?_, fun H locs ls pc mem hd hr => h10 H locs ls pc mem hd ?_, fun H locs ls pc t k i mem hd ho hr => h11 H locs ls pc t k i mem hd ho ?_⟩
  rotate_left
  · unfold vtC at hr ⊢
    split at hr
    · exact hq _ _ hr
    · exact hr.elim
  · unfold atC at hr ⊢
    split at hr
    · exact hq _ _ hr
    · exact hr.elim
  unfold rtC at hr ⊢
  split at hr
  · exact hq _ _ hr
  · exact ⟨hr.1, hq _ _ hr.2⟩
  · exact ⟨hr.1, hq _ _ hr.2⟩
  · exact ⟨hr.1, hq _ _ hr.2⟩
  · exact hr.elim
def argL (n : Nat) (as : List Vl) : Lc := match as with
  | [] => []
  | v :: r => (n, v) :: argL (match isJ v with
    | true => n + 2
    | false => n + 1) r
def argN (as : List Vl) : Nat := match as with
  | [] => 0
  | v :: r => (match isJ v with
    | true => 2
    | false => 1) + argN r
theorem argL_map (g : Wg) : ∀ (as : List Vl) (n : Nat), lv_args n (as.map (vvO g)) = (argL n as).map (fun q => (q.1, vvO g q.2))
  | [], _ => rfl
  | v :: r, n => by
    rw [List.map_cons]
    unfold lv_args argL
    rw [List.map_cons, vvO_cat]
    obtain x | x | x := v
    · exact congrArg (fun l => (n, vvO g (vI x)) :: l) (argL_map g r (n + 1))
    · exact congrArg (fun l => (n, vvO g (vJ x)) :: l) (argL_map g r (n + 2))
    · exact congrArg (fun l => (n, vvO g (.inr (.inr x))) :: l) (argL_map g r (n + 1))
theorem argN_len (g : Wg) : ∀ as : List Vl, (lg_sl (as.map (vvO g))).length = argN as
  | [] => rfl
  | v :: r => by
    have ih := argN_len g r
    unfold lg_sl at ih ⊢
    rw [List.map_cons, List.flatMap_cons, List.length_append, ih, vvO_cat]
    obtain x | x | x := v <;> rfl
theorem argL_ok : ∀ (as : List Vl) (n : Nat), (∀ v ∈ as, okV v) → ∀ q ∈ argL n as, okV q.2
  | [], _, _, q, hq => by cases hq
  | v :: r, n, h, q, hq => by
    unfold argL at hq
    rcases List.mem_cons.mp hq with rfl | hq
    · exact okS_h h
    · exact argL_ok r _ (okS_t h) q hq
theorem Runs.ofGo {g : Wg} {h : Hd} {as : List Vl} {mem : Mm} {Q : Option Vl → Mm → Prop} (hpl : plainName (hY h).cls = true) (hn : argN as ≤ hM h) (hG : Go g h Q 0 (argL 0 as) [] mem) : Runs g h as mem Q := by
  refine Met.ofW (cc := hB h) (maxL := hM h) (ret := hR h) hpl rfl ?_
  intro p e s m args below meth c s₁ B hml hv
  obtain ⟨rfl, hav, hP, hK, hT, hE⟩ := hv
  have hr := B.returns
  have hlocks := B.notSynchronized
  have hout : ∀ (H : Heap) (locs : List Loc) (r : Option Vl) (m' : Mm) (t : State), Q r m' → okA r → va_P (gD g) clsL (wsO g m') H → va_S (gA g) s.heap H locs → t.heap = H → s.WarmedH t.vm → QcO g Q (as.map (vvO g)).toArray s (.returned (r.map (vvO g))) t :=
    fun H locs r m' t hq hok hP1 hS1 ht hW => ⟨⟨r, m', rfl, hq, hok, wdO.warm (mem := mem) hW ht hP1 hS1 hK hT hE⟩, hS1.F ht⟩
  have C : Okc g h Q p e (headSpec [Cond.code (hY h) (hB h) (hM h) (hR h)] { frames := hF h, cells := 0, slots := 0, locals := hL h }).room s m (as.map (vvO g)).toArray below meth c 0 0 (MQ below (QcO g Q) (as.map (vvO g)).toArray s 0 0 (gA g)) := by
    refine ⟨B.exec, B.bytes, hml, findClass_of_methodNamed B.named, ⟨Nat.le_refl _, Nat.le_refl _, Nat.zero_le _, Nat.zero_le _⟩, hK, hT, hE, ?_, ?_, ?_⟩
    · intro H locs ls pc x mem' hd hq hP1 hS1
      have key : ∀ ty, hR h = some ty → narrow ty (.int x) = .int x → Q (some (vI x)) mem' → W p (gL g) e (headSpec [Cond.code (hY h) (hB h) (hM h) (hR h)] { frames := hF h, cells := 0, slots := 0, locals := hL h }).room s m (as.map (vvO g)).toArray below meth c H locs 0 0 (MQ below (QcO g Q) (as.map (vvO g)).toArray s 0 0 (gA g)) (F0 m pc ls [.int x]) :=
        fun ty h1 h2 h3 => W.zret (ty := ty) B.exec B.bytes (hr.trans h1) h2 (fun t ht hW => hout H locs (some (vI x)) mem' t h3 trivial hP1 hS1 ht hW) hS1.2.2 hd
      unfold rtC at hq
      split at hq
      · rename_i hh
        exact key _ hh rfl hq
      · rename_i hh
        obtain ⟨rfl | rfl, hq⟩ := hq <;> exact key _ hh rfl hq
      · rename_i hh
        obtain ⟨h1, h2, h3⟩ := nrC_sp (ty := .char) (x := x) (P := Q (some (vI x)) mem') hq ⟨0, Or.inr (Or.inr rfl), rfl⟩
        exact key _ hh h1 h3
      · rename_i hh
        obtain ⟨rfl, hq⟩ := hq
        exact key _ hh rfl hq
      · exact hq.elim
    · intro H locs ls pc mem' hd hq hP1 hS1
      have hrn : hR h = none ∧ Q none mem' := by
        unfold vtC at hq
        split at hq
        · rename_i hh
          exact ⟨hh, hq⟩
        · exact hq.elim
      obtain ⟨hrn, hq⟩ := hrn
      exact W.vret B.exec B.bytes (hr.trans hrn) (fun t ht hW => hout H locs none mem' t hq trivial hP1 hS1 ht hW) hS1.2.2 hd
    · intro H locs ls pc t k i mem' hd hok hq hP1 hS1
      have hrn : (∃ n, hR h = some (.object n)) ∧ Q (some (vO t k i)) mem' := by
        unfold atC at hq
        split at hq
        · rename_i hh
          exact ⟨⟨_, hh⟩, hq⟩
        · exact hq.elim
      obtain ⟨⟨n, hrn⟩, hq⟩ := hrn
      exact W.aret B.exec B.bytes (hr.trans hrn) (Or.inl ⟨n, rfl⟩) (vvO_or g t k i) (fun t2 ht hW => hout H locs (some (vO t k i)) mem' t2 hq hok hP1 hS1 ht hW) hS1.2.2 hd
  have hl := lv_entry (as.map (vvO g)) (n := hM h) (by rw [argN_len]; exact hn)
  rw [argL_map] at hl
  rw [lg_entry_eq]
  exact hG p e _ s m _ below meth c 0 0 _ C s.heap [] _ hP va_S.rf hl (argL_ok as 0 hav) (fun _ hv => by cases hv)
end
section
/-! a method's table, checked a row at a time -/
theorem fm_tab : ∀ (os : List Int) (sw : List (Int32 × Nat)) (pc : Nat) (lo : Int) (x : Int32) (d : Nat), (os.zip (List.range os.length)).length = os.length → sw.length = os.length → (∀ (i : Nat) (o : Int) (q : Int32 × Nat), os[i]? = some o → sw[i]? = some q → q.1.toInt = lo + i ∧ (pc : Int) + o = (q.2 : Int)) →
    ((x.toInt < lo ∨ lo + os.length ≤ x.toInt) → swT x sw d = d) ∧ (lo ≤ x.toInt → x.toInt < lo + os.length → ∃ off, os[(x.toInt - lo).toNat]? = some off ∧ (pc : Int) + off = (swT x sw d : Int)) := by
  intro os
  induction os with
  | nil =>
    intro sw pc lo x d _ hl _
    have hs : sw = [] := List.length_eq_zero_iff.mp hl
    subst hs
    exact ⟨fun _ => rfl, fun h1 h2 => by simp at h2; omega⟩
  | cons o os ih =>
    intro sw pc lo x d _ hl hc
    obtain _ | ⟨q, r⟩ := sw
    · cases hl
    · have h0 := hc 0 o q rfl rfl
      have ih2 := ih r pc (lo + 1) x d (by simp) (by simpa using hl) (fun i o2 q2 h1 h2 => by
        have h3 := hc (i + 1) o2 q2 (by simpa using h1) (by simpa using h2)
        refine ⟨?_, h3.2⟩
        rw [h3.1]
        push_cast
        omega)
      have hne : x.toInt ≠ lo → x ≠ q.1 := fun h e => h (by rw [e, h0.1]; simp)
      refine ⟨fun h => ?_, fun h1 h2 => ?_⟩
      · have hx : x ≠ q.1 := hne (by simp at h; omega)
        unfold swT
        rw [if_neg hx]
        exact ih2.1 (by simp at h; omega)
      · by_cases he : x.toInt = lo
        · have hx : x = q.1 := Int32.toInt_inj.mp (by rw [he, h0.1]; simp)
          refine ⟨o, by rw [he]; simp, ?_⟩
          unfold swT
          rw [if_pos hx]
          exact h0.2
        · obtain ⟨off, h3, h4⟩ := ih2.2 (by omega) (by simp at h2; omega)
          refine ⟨off, ?_, ?_⟩
          · rw [show (x.toInt - lo).toNat = (x.toInt - (lo + 1)).toNat + 1 by omega]
            simpa using h3
          · unfold swT
            rw [if_neg (hne he)]
            exact h4
def chkT (pc : Nat) (lo : Int) (os : List Int) (sw : List (Int32 × Nat)) : Bool := decide (sw.length = os.length) && (List.range os.length).all (fun i => match os[i]?, sw[i]? with
  | some o, some q => decide (q.1.toInt = lo + i) && decide ((pc : Int) + o = (q.2 : Int))
  | _, _ => false)
theorem sw_tab {pc : Nat} {dflt lo hi : Int} {offs : Array Int} {sw : List (Int32 × Nat)} {d : Nat} (h1 : chkT pc lo offs.toList sw = true) (h2 : hi = lo + offs.toList.length - 1) (h3 : (pc : Int) + dflt = (d : Int)) (x : Int32) :
    ((x.toInt < lo ∨ hi < x.toInt) ∧ (pc : Int) + dflt = (swT x sw d : Int)) ∨ (¬ x.toInt < lo ∧ ¬ hi < x.toInt ∧ ∃ off, offs[(x.toInt - lo).toNat]? = some off ∧ (pc : Int) + off = (swT x sw d : Int)) := by
  unfold chkT at h1
  simp only [Bool.and_eq_true, decide_eq_true_eq] at h1
  obtain ⟨h4, h5⟩ := h1
  have key := fm_tab offs.toList sw pc lo x d (by simp) h4 (fun i o q hi hq => by
    have h6 := List.all_eq_true.mp h5 i (List.mem_range.mpr (List.getElem?_eq_some_iff.mp hi).1)
    rw [hi, hq] at h6
    simpa using h6)
  by_cases hx : x.toInt < lo ∨ hi < x.toInt
  · exact Or.inl ⟨hx, by rw [key.1 (by omega)]; exact h3⟩
  · obtain ⟨off, h6, h7⟩ := key.2 (by omega) (by omega)
    exact Or.inr ⟨by omega, by omega, off, by rw [← Array.getElem?_toList]; exact h6, h7⟩
def chkL (pc : Nat) (ps : List (Int × Int)) (sw : List (Int32 × Nat)) : Bool := match ps, sw with
  | [], [] => true
  | p :: ps, q :: r => decide (q.1.toInt = p.1) && (decide ((pc : Int) + p.2 = (q.2 : Int)) && chkL pc ps r)
  | _, _ => false
theorem fm_lku {pc : Nat} {dflt : Int} {d : Nat} (h3 : (pc : Int) + dflt = (d : Int)) (x : Int32) : ∀ (ps : List (Int × Int)) (sw : List (Int32 × Nat)), chkL pc ps sw = true → (pc : Int) + Op.lookupswitch.offset ps dflt x.toInt = (swT x sw d : Int)
  | [], [], _ => by
    unfold swT
    rw [← h3]
    rfl
  | [], _ :: _, h => by cases h
  | _ :: _, [], h => by cases h
  | (a, o) :: ps, q :: r, h => by
    unfold chkL at h
    simp only [Bool.and_eq_true, decide_eq_true_eq] at h
    obtain ⟨h1, h2, h4⟩ := h
    rw [Op.lookupswitch.offset_cons]
    unfold swT
    by_cases hx : x = q.1
    · rw [if_pos hx, if_pos (by rw [hx, h1])]
      exact h2
    · rw [if_neg hx, if_neg (fun e => hx (Int32.toInt_inj.mp (by rw [h1]; exact e.symm)))]
      exact fm_lku h3 x ps r h4
theorem sw_lku {pc : Nat} {dflt : Int} {ps : Array (Int × Int)} {sw : List (Int32 × Nat)} {d : Nat} (h1 : chkL pc ps.toList sw = true) (h2 : (ps.toList.zip (ps.toList.drop 1)).all (fun (a, next) => a.1 < next.1) = true) (h3 : (pc : Int) + dflt = (d : Int)) :
    (ps.toList.zip (ps.toList.drop 1)).all (fun (a, next) => a.1 < next.1) = true ∧ ∀ x : Int32, (pc : Int) + Op.lookupswitch.offset ps.toList dflt x.toInt = (swT x sw d : Int) := ⟨h2, fun x => fm_lku h3 x _ _ h1⟩
def decA (h : Hd) (pc : Nat) (cd : List (Option En)) : Bool := match cd with
  | [] => true
  | none :: r => decA h (pc + 1) r
  | some en :: r => decide (decode (hB h) pc = .ok (eI en, lenI en)) && decA h (pc + 1) r
def xtA (h : Hd) (pc : Nat) (cd : List (Option En)) : Prop := match cd with
  | [] => True
  | none :: r => xtA h (pc + 1) r
  | some en :: r => xtE h en pc ∧ xtA h (pc + 1) r
theorem okCd_of0 {h : Hd} : ∀ (cd : List (Option En)) (n : Nat), decA h n cd = true → xtA h n cd → ∀ (pc : Nat) (en : En), cd[pc]? = some (some en) → okE h en (n + pc)
  | [], _, _, _, pc, en, hp => by simp at hp
  | none :: r, n, h1, h2, pc, en, hp => by
    cases pc with
    | zero => simp at hp
    | succ pc =>
      have := okCd_of0 r (n + 1) h1 h2 pc en (by simpa using hp)
      rw [show n + (pc + 1) = n + 1 + pc by omega]
      exact this
  | some e2 :: r, n, h1, h2, pc, en, hp => by
    unfold decA at h1
    simp only [Bool.and_eq_true, decide_eq_true_eq] at h1
    cases pc with
    | zero =>
      have he : e2 = en := by simpa using hp
      subst he
      exact ⟨h1.1, h2.1⟩
    | succ pc =>
      have := okCd_of0 r (n + 1) h1.2 h2.2 pc en (by simpa using hp)
      rw [show n + (pc + 1) = n + 1 + pc by omega]
      exact this
theorem okCd_of {h : Hd} {cd : List (Option En)} (h1 : decA h 0 cd = true) (h2 : xtA h 0 cd) : okCd h cd := fun pc en hp => by
  have := okCd_of0 cd 0 h1 h2 pc en hp
  rw [Nat.zero_add] at this
  exact this
abbrev e0 (i : Instr) : Option En := some (i, 0, 0, vI 0, noH, [])
abbrev e1 (i : Instr) (a : Nat) : Option En := some (i, a, 0, vI 0, noH, [])
abbrev e2 (i : Instr) (a b : Nat) : Option En := some (i, a, b, vI 0, noH, [])
abbrev eK (i : Instr) (c : Vl) : Option En := some (i, 0, 0, c, noH, [])
abbrev e1K (i : Instr) (a : Nat) (c : Vl) : Option En := some (i, a, 0, c, noH, [])
abbrev eM (i : Instr) (a b : Nat) (h : Hd) : Option En := some (i, a, b, vI 0, h, [])
abbrev eW (i : Instr) (a b : Nat) (sw : List (Int32 × Nat)) : Option En := some (i, a, b, vI 0, noH, sw)
end
