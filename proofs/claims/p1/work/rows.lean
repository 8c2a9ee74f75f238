section
-- ===== PART A: goes FIRST, ahead of the names: the tables' words, and 'selects' of the private methods out of them =====
/-- a private method of a class that the tables say can be made, by its rows of tables_1 -/
def lw_okq (q : MethodName × Nat) : Prop := (q.1.cls ≠ "java/lang/invoke/MethodHandle" ∧ q.1.cls ≠ "java/lang/invoke/VarHandle") ∧ Cond.instantiable q.1.cls q.2 ∈ tables_1 ∧ Cond.privateMethod q.1 ∈ tables_1 ∧ Cond.instanceMethod q.1 ∈ tables_1
theorem lw_p0 : lw_okq (⟨"FractionRun$Reader", "readItem", "(LFractionRun$Text;ILFractionRun$Fractions;)I"⟩, 1) := ⟨⟨by decide +kernel, by decide +kernel⟩, List.mem_of_getElem? (i := 42) (by decide +kernel), List.mem_of_getElem? (i := 254) (by decide +kernel), List.mem_of_getElem? (i := 255) (by decide +kernel)⟩
theorem lw_p1 : lw_okq (⟨"FractionRun$Reader", "readNumbers", "(LFractionRun$Text;II)I"⟩, 1) := ⟨⟨by decide +kernel, by decide +kernel⟩, List.mem_of_getElem? (i := 42) (by decide +kernel), List.mem_of_getElem? (i := 262) (by decide +kernel), List.mem_of_getElem? (i := 263) (by decide +kernel)⟩
theorem lw_p2 : lw_okq (⟨"FractionRun$Reader", "readFigures", "(LFractionRun$Text;II)I"⟩, 1) := ⟨⟨by decide +kernel, by decide +kernel⟩, List.mem_of_getElem? (i := 42) (by decide +kernel), List.mem_of_getElem? (i := 266) (by decide +kernel), List.mem_of_getElem? (i := 267) (by decide +kernel)⟩
theorem lw_p3 : lw_okq (⟨"FractionRun$State", "forgetSteps", "()V"⟩, 7) := ⟨⟨by decide +kernel, by decide +kernel⟩, List.mem_of_getElem? (i := 87) (by decide +kernel), List.mem_of_getElem? (i := 295) (by decide +kernel), List.mem_of_getElem? (i := 296) (by decide +kernel)⟩
theorem lw_p4 : lw_okq (⟨"FractionRun", "isTold", "(I)Z"⟩, 15) := ⟨⟨by decide +kernel, by decide +kernel⟩, List.mem_of_getElem? (i := 18) (by decide +kernel), List.mem_of_getElem? (i := 379) (by decide +kernel), List.mem_of_getElem? (i := 380) (by decide +kernel)⟩
theorem lw_p5 : lw_okq (⟨"FractionRun$State", "multiplyByFraction", "(LFractionRun$Fractions;I)V"⟩, 7) := ⟨⟨by decide +kernel, by decide +kernel⟩, List.mem_of_getElem? (i := 87) (by decide +kernel), List.mem_of_getElem? (i := 435) (by decide +kernel), List.mem_of_getElem? (i := 436) (by decide +kernel)⟩
theorem lw_p6 : lw_okq (⟨"FractionRun$Course", "note", "(ILFractionRun$State;)V"⟩, 2) := ⟨⟨by decide +kernel, by decide +kernel⟩, List.mem_of_getElem? (i := 167) (by decide +kernel), List.mem_of_getElem? (i := 499) (by decide +kernel), List.mem_of_getElem? (i := 500) (by decide +kernel)⟩
theorem lw_p7 : lw_okq (⟨"FractionRun$Course", "isAlike", "(II)Z"⟩, 2) := ⟨⟨by decide +kernel, by decide +kernel⟩, List.mem_of_getElem? (i := 167) (by decide +kernel), List.mem_of_getElem? (i := 509) (by decide +kernel), List.mem_of_getElem? (i := 510) (by decide +kernel)⟩
theorem lw_p8 : lw_okq (⟨"FractionRun", "findBestOrder", "()I"⟩, 15) := ⟨⟨by decide +kernel, by decide +kernel⟩, List.mem_of_getElem? (i := 18) (by decide +kernel), List.mem_of_getElem? (i := 538) (by decide +kernel), List.mem_of_getElem? (i := 539) (by decide +kernel)⟩
theorem lw_p9 : lw_okq (⟨"FractionRun$State", "swap", "(II)V"⟩, 7) := ⟨⟨by decide +kernel, by decide +kernel⟩, List.mem_of_getElem? (i := 87) (by decide +kernel), List.mem_of_getElem? (i := 551) (by decide +kernel), List.mem_of_getElem? (i := 552) (by decide +kernel)⟩
theorem lw_p10 : lw_okq (⟨"FractionRun", "powerAtRestFrom", "(II)I"⟩, 15) := ⟨⟨by decide +kernel, by decide +kernel⟩, List.mem_of_getElem? (i := 18) (by decide +kernel), List.mem_of_getElem? (i := 559) (by decide +kernel), List.mem_of_getElem? (i := 560) (by decide +kernel)⟩
theorem lw_p11 : lw_okq (⟨"FractionRun", "mayHaveBeenUsedLast", "(I)Z"⟩, 15) := ⟨⟨by decide +kernel, by decide +kernel⟩, List.mem_of_getElem? (i := 18) (by decide +kernel), List.mem_of_getElem? (i := 575) (by decide +kernel), List.mem_of_getElem? (i := 576) (by decide +kernel)⟩
theorem lw_p12 : lw_okq (⟨"FractionRun", "leadsHere", "(III)Z"⟩, 15) := ⟨⟨by decide +kernel, by decide +kernel⟩, List.mem_of_getElem? (i := 18) (by decide +kernel), List.mem_of_getElem? (i := 579) (by decide +kernel), List.mem_of_getElem? (i := 580) (by decide +kernel)⟩
theorem lw_p13 : lw_okq (⟨"FractionRun", "findKinds", "(I)I"⟩, 15) := ⟨⟨by decide +kernel, by decide +kernel⟩, List.mem_of_getElem? (i := 18) (by decide +kernel), List.mem_of_getElem? (i := 595) (by decide +kernel), List.mem_of_getElem? (i := 596) (by decide +kernel)⟩
theorem lw_p14 : lw_okq (⟨"FractionRun", "tellsWhatWasSeen", "(I)Z"⟩, 15) := ⟨⟨by decide +kernel, by decide +kernel⟩, List.mem_of_getElem? (i := 18) (by decide +kernel), List.mem_of_getElem? (i := 602) (by decide +kernel), List.mem_of_getElem? (i := 603) (by decide +kernel)⟩
theorem lw_p15 : lw_okq (⟨"FractionRun", "greatestPart", "(II)I"⟩, 15) := ⟨⟨by decide +kernel, by decide +kernel⟩, List.mem_of_getElem? (i := 18) (by decide +kernel), List.mem_of_getElem? (i := 616) (by decide +kernel), List.mem_of_getElem? (i := 617) (by decide +kernel)⟩
def lw_privs_1 : List (MethodName × Nat) := [(⟨"FractionRun$Reader", "readItem", "(LFractionRun$Text;ILFractionRun$Fractions;)I"⟩, 1), (⟨"FractionRun$Reader", "readNumbers", "(LFractionRun$Text;II)I"⟩, 1), (⟨"FractionRun$Reader", "readFigures", "(LFractionRun$Text;II)I"⟩, 1), (⟨"FractionRun$State", "forgetSteps", "()V"⟩, 7), (⟨"FractionRun", "isTold", "(I)Z"⟩, 15), (⟨"FractionRun$State", "multiplyByFraction", "(LFractionRun$Fractions;I)V"⟩, 7), (⟨"FractionRun$Course", "note", "(ILFractionRun$State;)V"⟩, 2), (⟨"FractionRun$Course", "isAlike", "(II)Z"⟩, 2), (⟨"FractionRun", "findBestOrder", "()I"⟩, 15), (⟨"FractionRun$State", "swap", "(II)V"⟩, 7), (⟨"FractionRun", "powerAtRestFrom", "(II)I"⟩, 15), (⟨"FractionRun", "mayHaveBeenUsedLast", "(I)Z"⟩, 15), (⟨"FractionRun", "leadsHere", "(III)Z"⟩, 15), (⟨"FractionRun", "findKinds", "(I)I"⟩, 15), (⟨"FractionRun", "tellsWhatWasSeen", "(I)Z"⟩, 15), (⟨"FractionRun", "greatestPart", "(II)I"⟩, 15)]
theorem lw_r1 : ∀ q ∈ lw_privs_1, lw_okq q := List.forall_mem_cons.mpr ⟨lw_p0, List.forall_mem_cons.mpr ⟨lw_p1, List.forall_mem_cons.mpr ⟨lw_p2, List.forall_mem_cons.mpr ⟨lw_p3, List.forall_mem_cons.mpr ⟨lw_p4, List.forall_mem_cons.mpr ⟨lw_p5, List.forall_mem_cons.mpr ⟨lw_p6, List.forall_mem_cons.mpr ⟨lw_p7, List.forall_mem_cons.mpr ⟨lw_p8, List.forall_mem_cons.mpr ⟨lw_p9, List.forall_mem_cons.mpr ⟨lw_p10, List.forall_mem_cons.mpr ⟨lw_p11, List.forall_mem_cons.mpr ⟨lw_p12, List.forall_mem_cons.mpr ⟨lw_p13, List.forall_mem_cons.mpr ⟨lw_p14, List.forall_mem_cons.mpr ⟨lw_p15, fun _ h => absurd h List.not_mem_nil⟩⟩⟩⟩⟩⟩⟩⟩⟩⟩⟩⟩⟩⟩⟩⟩
theorem lw_p16 : lw_okq (⟨"FractionRun", "valueOfTurns", "(IIII)I"⟩, 15) := ⟨⟨by decide +kernel, by decide +kernel⟩, List.mem_of_getElem? (i := 18) (by decide +kernel), List.mem_of_getElem? (i := 624) (by decide +kernel), List.mem_of_getElem? (i := 625) (by decide +kernel)⟩
theorem lw_p17 : lw_okq (⟨"FractionRun", "stepsToRestBehind", "(II)I"⟩, 15) := ⟨⟨by decide +kernel, by decide +kernel⟩, List.mem_of_getElem? (i := 18) (by decide +kernel), List.mem_of_getElem? (i := 628) (by decide +kernel), List.mem_of_getElem? (i := 629) (by decide +kernel)⟩
theorem lw_p18 : lw_okq (⟨"FractionRun", "drawn", "(I)I"⟩, 15) := ⟨⟨by decide +kernel, by decide +kernel⟩, List.mem_of_getElem? (i := 18) (by decide +kernel), List.mem_of_getElem? (i := 652) (by decide +kernel), List.mem_of_getElem? (i := 653) (by decide +kernel)⟩
theorem lw_p19 : lw_okq (⟨"FractionRunModel", "tells", "(III)V"⟩, 24) := ⟨⟨by decide +kernel, by decide +kernel⟩, List.mem_of_getElem? (i := 686) (by decide +kernel), List.mem_of_getElem? (i := 692) (by decide +kernel), List.mem_of_getElem? (i := 693) (by decide +kernel)⟩
theorem lw_p20 : lw_okq (⟨"FractionRunModel", "settles", "()V"⟩, 24) := ⟨⟨by decide +kernel, by decide +kernel⟩, List.mem_of_getElem? (i := 686) (by decide +kernel), List.mem_of_getElem? (i := 702) (by decide +kernel), List.mem_of_getElem? (i := 703) (by decide +kernel)⟩
theorem lw_p21 : lw_okq (⟨"FractionRunModel", "reads", "()V"⟩, 24) := ⟨⟨by decide +kernel, by decide +kernel⟩, List.mem_of_getElem? (i := 686) (by decide +kernel), List.mem_of_getElem? (i := 796) (by decide +kernel), List.mem_of_getElem? (i := 797) (by decide +kernel)⟩
theorem lw_p22 : lw_okq (⟨"FractionRunModel", "letterAt", "(I)I"⟩, 24) := ⟨⟨by decide +kernel, by decide +kernel⟩, List.mem_of_getElem? (i := 686) (by decide +kernel), List.mem_of_getElem? (i := 800) (by decide +kernel), List.mem_of_getElem? (i := 801) (by decide +kernel)⟩
theorem lw_p23 : lw_okq (⟨"FractionRunModel", "fraction", "()V"⟩, 24) := ⟨⟨by decide +kernel, by decide +kernel⟩, List.mem_of_getElem? (i := 686) (by decide +kernel), List.mem_of_getElem? (i := 804) (by decide +kernel), List.mem_of_getElem? (i := 805) (by decide +kernel)⟩
theorem lw_p24 : lw_okq (⟨"FractionRunModel", "number", "(II)I"⟩, 24) := ⟨⟨by decide +kernel, by decide +kernel⟩, List.mem_of_getElem? (i := 686) (by decide +kernel), List.mem_of_getElem? (i := 808) (by decide +kernel), List.mem_of_getElem? (i := 809) (by decide +kernel)⟩
theorem lw_p25 : lw_okq (⟨"FractionRunModel", "more", "(II)I"⟩, 24) := ⟨⟨by decide +kernel, by decide +kernel⟩, List.mem_of_getElem? (i := 686) (by decide +kernel), List.mem_of_getElem? (i := 815) (by decide +kernel), List.mem_of_getElem? (i := 816) (by decide +kernel)⟩
theorem lw_p26 : lw_okq (⟨"FractionRunModel", "start", "()V"⟩, 24) := ⟨⟨by decide +kernel, by decide +kernel⟩, List.mem_of_getElem? (i := 686) (by decide +kernel), List.mem_of_getElem? (i := 822) (by decide +kernel), List.mem_of_getElem? (i := 823) (by decide +kernel)⟩
theorem lw_p27 : lw_okq (⟨"FractionRunModel", "isFraction", "(I)Z"⟩, 24) := ⟨⟨by decide +kernel, by decide +kernel⟩, List.mem_of_getElem? (i := 686) (by decide +kernel), List.mem_of_getElem? (i := 834) (by decide +kernel), List.mem_of_getElem? (i := 835) (by decide +kernel)⟩
theorem lw_p28 : lw_okq (⟨"FractionRunModel", "side", "(IZ)I"⟩, 24) := ⟨⟨by decide +kernel, by decide +kernel⟩, List.mem_of_getElem? (i := 686) (by decide +kernel), List.mem_of_getElem? (i := 839) (by decide +kernel), List.mem_of_getElem? (i := 840) (by decide +kernel)⟩
theorem lw_p29 : lw_okq (⟨"FractionRunModel", "placeOf", "(II)I"⟩, 24) := ⟨⟨by decide +kernel, by decide +kernel⟩, List.mem_of_getElem? (i := 686) (by decide +kernel), List.mem_of_getElem? (i := 843) (by decide +kernel), List.mem_of_getElem? (i := 844) (by decide +kernel)⟩
theorem lw_p30 : lw_okq (⟨"FractionRunModel", "can", "(II)Z"⟩, 24) := ⟨⟨by decide +kernel, by decide +kernel⟩, List.mem_of_getElem? (i := 686) (by decide +kernel), List.mem_of_getElem? (i := 847) (by decide +kernel), List.mem_of_getElem? (i := 848) (by decide +kernel)⟩
theorem lw_p31 : lw_okq (⟨"FractionRunModel", "fits", "(II)Z"⟩, 24) := ⟨⟨by decide +kernel, by decide +kernel⟩, List.mem_of_getElem? (i := 686) (by decide +kernel), List.mem_of_getElem? (i := 854) (by decide +kernel), List.mem_of_getElem? (i := 855) (by decide +kernel)⟩
def lw_privs_2 : List (MethodName × Nat) := [(⟨"FractionRun", "valueOfTurns", "(IIII)I"⟩, 15), (⟨"FractionRun", "stepsToRestBehind", "(II)I"⟩, 15), (⟨"FractionRun", "drawn", "(I)I"⟩, 15), (⟨"FractionRunModel", "tells", "(III)V"⟩, 24), (⟨"FractionRunModel", "settles", "()V"⟩, 24), (⟨"FractionRunModel", "reads", "()V"⟩, 24), (⟨"FractionRunModel", "letterAt", "(I)I"⟩, 24), (⟨"FractionRunModel", "fraction", "()V"⟩, 24), (⟨"FractionRunModel", "number", "(II)I"⟩, 24), (⟨"FractionRunModel", "more", "(II)I"⟩, 24), (⟨"FractionRunModel", "start", "()V"⟩, 24), (⟨"FractionRunModel", "isFraction", "(I)Z"⟩, 24), (⟨"FractionRunModel", "side", "(IZ)I"⟩, 24), (⟨"FractionRunModel", "placeOf", "(II)I"⟩, 24), (⟨"FractionRunModel", "can", "(II)Z"⟩, 24), (⟨"FractionRunModel", "fits", "(II)Z"⟩, 24)]
theorem lw_r2 : ∀ q ∈ lw_privs_2, lw_okq q := List.forall_mem_cons.mpr ⟨lw_p16, List.forall_mem_cons.mpr ⟨lw_p17, List.forall_mem_cons.mpr ⟨lw_p18, List.forall_mem_cons.mpr ⟨lw_p19, List.forall_mem_cons.mpr ⟨lw_p20, List.forall_mem_cons.mpr ⟨lw_p21, List.forall_mem_cons.mpr ⟨lw_p22, List.forall_mem_cons.mpr ⟨lw_p23, List.forall_mem_cons.mpr ⟨lw_p24, List.forall_mem_cons.mpr ⟨lw_p25, List.forall_mem_cons.mpr ⟨lw_p26, List.forall_mem_cons.mpr ⟨lw_p27, List.forall_mem_cons.mpr ⟨lw_p28, List.forall_mem_cons.mpr ⟨lw_p29, List.forall_mem_cons.mpr ⟨lw_p30, List.forall_mem_cons.mpr ⟨lw_p31, fun _ h => absurd h List.not_mem_nil⟩⟩⟩⟩⟩⟩⟩⟩⟩⟩⟩⟩⟩⟩⟩⟩
theorem lw_p32 : lw_okq (⟨"FractionRunModel", "who", "(II)I"⟩, 24) := ⟨⟨by decide +kernel, by decide +kernel⟩, List.mem_of_getElem? (i := 686) (by decide +kernel), List.mem_of_getElem? (i := 868) (by decide +kernel), List.mem_of_getElem? (i := 869) (by decide +kernel)⟩
theorem lw_p33 : lw_okq (⟨"FractionRunModel", "known", "()V"⟩, 24) := ⟨⟨by decide +kernel, by decide +kernel⟩, List.mem_of_getElem? (i := 686) (by decide +kernel), List.mem_of_getElem? (i := 872) (by decide +kernel), List.mem_of_getElem? (i := 873) (by decide +kernel)⟩
theorem lw_p34 : lw_okq (⟨"FractionRunModel", "copies", "(II)V"⟩, 24) := ⟨⟨by decide +kernel, by decide +kernel⟩, List.mem_of_getElem? (i := 686) (by decide +kernel), List.mem_of_getElem? (i := 876) (by decide +kernel), List.mem_of_getElem? (i := 877) (by decide +kernel)⟩
theorem lw_p35 : lw_okq (⟨"FractionRunModel", "step", "(I)I"⟩, 24) := ⟨⟨by decide +kernel, by decide +kernel⟩, List.mem_of_getElem? (i := 686) (by decide +kernel), List.mem_of_getElem? (i := 880) (by decide +kernel), List.mem_of_getElem? (i := 881) (by decide +kernel)⟩
theorem lw_p36 : lw_okq (⟨"FractionRunModel", "uses", "(II)V"⟩, 24) := ⟨⟨by decide +kernel, by decide +kernel⟩, List.mem_of_getElem? (i := 686) (by decide +kernel), List.mem_of_getElem? (i := 884) (by decide +kernel), List.mem_of_getElem? (i := 885) (by decide +kernel)⟩
theorem lw_p37 : lw_okq (⟨"FractionRunModel", "moves", "(III)V"⟩, 24) := ⟨⟨by decide +kernel, by decide +kernel⟩, List.mem_of_getElem? (i := 686) (by decide +kernel), List.mem_of_getElem? (i := 898) (by decide +kernel), List.mem_of_getElem? (i := 899) (by decide +kernel)⟩
theorem lw_p38 : lw_okq (⟨"FractionRunModel", "drops", "(II)V"⟩, 24) := ⟨⟨by decide +kernel, by decide +kernel⟩, List.mem_of_getElem? (i := 686) (by decide +kernel), List.mem_of_getElem? (i := 906) (by decide +kernel), List.mem_of_getElem? (i := 907) (by decide +kernel)⟩
theorem lw_p39 : lw_okq (⟨"FractionRunModel", "goes", "(II)V"⟩, 24) := ⟨⟨by decide +kernel, by decide +kernel⟩, List.mem_of_getElem? (i := 686) (by decide +kernel), List.mem_of_getElem? (i := 919) (by decide +kernel), List.mem_of_getElem? (i := 920) (by decide +kernel)⟩
theorem lw_p40 : lw_okq (⟨"FractionRunModel", "restsBy", "(I)I"⟩, 24) := ⟨⟨by decide +kernel, by decide +kernel⟩, List.mem_of_getElem? (i := 686) (by decide +kernel), List.mem_of_getElem? (i := 931) (by decide +kernel), List.mem_of_getElem? (i := 932) (by decide +kernel)⟩
theorem lw_p41 : lw_okq (⟨"FractionRunModel", "alike", "(II)Z"⟩, 24) := ⟨⟨by decide +kernel, by decide +kernel⟩, List.mem_of_getElem? (i := 686) (by decide +kernel), List.mem_of_getElem? (i := 940) (by decide +kernel), List.mem_of_getElem? (i := 941) (by decide +kernel)⟩
theorem lw_p42 : lw_okq (⟨"FractionRunModel", "orders", "(III)V"⟩, 24) := ⟨⟨by decide +kernel, by decide +kernel⟩, List.mem_of_getElem? (i := 686) (by decide +kernel), List.mem_of_getElem? (i := 965) (by decide +kernel), List.mem_of_getElem? (i := 966) (by decide +kernel)⟩
theorem lw_p43 : lw_okq (⟨"FractionRunModel", "mapOf", "(II)I"⟩, 24) := ⟨⟨by decide +kernel, by decide +kernel⟩, List.mem_of_getElem? (i := 686) (by decide +kernel), List.mem_of_getElem? (i := 974) (by decide +kernel), List.mem_of_getElem? (i := 975) (by decide +kernel)⟩
theorem lw_p44 : lw_okq (⟨"FractionRunModel", "came", "(II)Z"⟩, 24) := ⟨⟨by decide +kernel, by decide +kernel⟩, List.mem_of_getElem? (i := 686) (by decide +kernel), List.mem_of_getElem? (i := 986) (by decide +kernel), List.mem_of_getElem? (i := 987) (by decide +kernel)⟩
theorem lw_p45 : lw_okq (⟨"FractionRunModel", "isWho", "(I)Z"⟩, 24) := ⟨⟨by decide +kernel, by decide +kernel⟩, List.mem_of_getElem? (i := 686) (by decide +kernel), List.mem_of_getElem? (i := 995) (by decide +kernel), List.mem_of_getElem? (i := 996) (by decide +kernel)⟩
theorem lw_p46 : lw_okq (⟨"FractionRunModel", "kindsOf", "(I)I"⟩, 24) := ⟨⟨by decide +kernel, by decide +kernel⟩, List.mem_of_getElem? (i := 686) (by decide +kernel), List.mem_of_getElem? (i := 1007) (by decide +kernel), List.mem_of_getElem? (i := 1008) (by decide +kernel)⟩
theorem lw_p47 : lw_okq (⟨"FractionRunModel", "isSo", "()Z"⟩, 24) := ⟨⟨by decide +kernel, by decide +kernel⟩, List.mem_of_getElem? (i := 686) (by decide +kernel), List.mem_of_getElem? (i := 1011) (by decide +kernel), List.mem_of_getElem? (i := 1012) (by decide +kernel)⟩
def lw_privs_3 : List (MethodName × Nat) := [(⟨"FractionRunModel", "who", "(II)I"⟩, 24), (⟨"FractionRunModel", "known", "()V"⟩, 24), (⟨"FractionRunModel", "copies", "(II)V"⟩, 24), (⟨"FractionRunModel", "step", "(I)I"⟩, 24), (⟨"FractionRunModel", "uses", "(II)V"⟩, 24), (⟨"FractionRunModel", "moves", "(III)V"⟩, 24), (⟨"FractionRunModel", "drops", "(II)V"⟩, 24), (⟨"FractionRunModel", "goes", "(II)V"⟩, 24), (⟨"FractionRunModel", "restsBy", "(I)I"⟩, 24), (⟨"FractionRunModel", "alike", "(II)Z"⟩, 24), (⟨"FractionRunModel", "orders", "(III)V"⟩, 24), (⟨"FractionRunModel", "mapOf", "(II)I"⟩, 24), (⟨"FractionRunModel", "came", "(II)Z"⟩, 24), (⟨"FractionRunModel", "isWho", "(I)Z"⟩, 24), (⟨"FractionRunModel", "kindsOf", "(I)I"⟩, 24), (⟨"FractionRunModel", "isSo", "()Z"⟩, 24)]
theorem lw_r3 : ∀ q ∈ lw_privs_3, lw_okq q := List.forall_mem_cons.mpr ⟨lw_p32, List.forall_mem_cons.mpr ⟨lw_p33, List.forall_mem_cons.mpr ⟨lw_p34, List.forall_mem_cons.mpr ⟨lw_p35, List.forall_mem_cons.mpr ⟨lw_p36, List.forall_mem_cons.mpr ⟨lw_p37, List.forall_mem_cons.mpr ⟨lw_p38, List.forall_mem_cons.mpr ⟨lw_p39, List.forall_mem_cons.mpr ⟨lw_p40, List.forall_mem_cons.mpr ⟨lw_p41, List.forall_mem_cons.mpr ⟨lw_p42, List.forall_mem_cons.mpr ⟨lw_p43, List.forall_mem_cons.mpr ⟨lw_p44, List.forall_mem_cons.mpr ⟨lw_p45, List.forall_mem_cons.mpr ⟨lw_p46, List.forall_mem_cons.mpr ⟨lw_p47, fun _ h => absurd h List.not_mem_nil⟩⟩⟩⟩⟩⟩⟩⟩⟩⟩⟩⟩⟩⟩⟩⟩
theorem lw_p48 : lw_okq (⟨"FractionRunModel", "powersOf", "(I)I"⟩, 24) := ⟨⟨by decide +kernel, by decide +kernel⟩, List.mem_of_getElem? (i := 686) (by decide +kernel), List.mem_of_getElem? (i := 1041) (by decide +kernel), List.mem_of_getElem? (i := 1042) (by decide +kernel)⟩
def lw_privs_4 : List (MethodName × Nat) := [(⟨"FractionRunModel", "powersOf", "(I)I"⟩, 24)]
theorem lw_r4 : ∀ q ∈ lw_privs_4, lw_okq q := List.forall_mem_cons.mpr ⟨lw_p48, fun _ h => absurd h List.not_mem_nil⟩
def lw_privs : List (MethodName × Nat) := lw_privs_1 ++ (lw_privs_2 ++ (lw_privs_3 ++ (lw_privs_4)))
def lw_tbl : List Cond := k2_sels lw_privs ++ tables_1
theorem lw_privs_ok : ∀ q ∈ lw_privs, lw_okq q := by
  show ∀ q ∈ lw_privs_1 ++ (lw_privs_2 ++ (lw_privs_3 ++ (lw_privs_4))), lw_okq q
  exact List.forall_mem_append.mpr ⟨lw_r1, List.forall_mem_append.mpr ⟨lw_r2, List.forall_mem_append.mpr ⟨lw_r3, lw_r4⟩⟩⟩
end
section
/-! names of the classes, their fields (starting text: the printed names) -/
def RX0 : String := "FractionRun$Course"
def TX0 : u_T := fun k => match k with
  | 0 => ("FractionRun$Course", "numbers", "[J", true)
  | _ => ("FractionRun$Course", "usedBits", "[I", true)
def tyX0 : Nat → FieldType := fun k => match k with
  | 0 => .array .long
  | _ => .array .int
theorem nmX0 : ∀ a, a < 2 → ∀ b, b < 2 → a ≠ b → (TX0 a).2.1 ≠ (TX0 b).2.1 := by decide +kernel
theorem tyX0_ok : ∀ k, k < 2 → parseFieldDescriptor (TX0 k).2.2.1 = some (tyX0 k) := by decide +kernel
def RX1 : String := "FractionRun$Fractions"
def TX1 : u_T := fun k => match k with
  | 0 => ("FractionRun$Fractions", "kinds", "[I", true)
  | 1 => ("FractionRun$Fractions", "uppers", "[I", true)
  | 2 => ("FractionRun$Fractions", "lowers", "[I", true)
  | 3 => ("FractionRun$Fractions", "changes", "[I", true)
  | 4 => ("FractionRun$Fractions", "startPowers", "[I", true)
  | _ => ("FractionRun$Fractions", "size", "I", false)
def tyX1 : Nat → FieldType := fun k => match k with
  | 0 => .array .int
  | 1 => .array .int
  | 2 => .array .int
  | 3 => .array .int
  | 4 => .array .int
  | _ => .int
theorem nmX1 : ∀ a, a < 6 → ∀ b, b < 6 → a ≠ b → (TX1 a).2.1 ≠ (TX1 b).2.1 := by decide +kernel
theorem tyX1_ok : ∀ k, k < 6 → parseFieldDescriptor (TX1 k).2.2.1 = some (tyX1 k) := by decide +kernel
def RX2 : String := "FractionRun$Kept"
def TX2 : u_T := fun k => match k with
  | 0 => ("FractionRun$Kept", "states", "[LFractionRun$State;", true)
  | 1 => ("FractionRun$Kept", "texts", "[LFractionRun$Text;", true)
  | _ => ("FractionRun$Kept", "size", "I", false)
def tyX2 : Nat → FieldType := fun k => match k with
  | 0 => .array (.object "FractionRun$State")
  | 1 => .array (.object "FractionRun$Text")
  | _ => .int
theorem nmX2 : ∀ a, a < 3 → ∀ b, b < 3 → a ≠ b → (TX2 a).2.1 ≠ (TX2 b).2.1 := by decide +kernel
theorem tyX2_ok : ∀ k, k < 3 → parseFieldDescriptor (TX2 k).2.2.1 = some (tyX2 k) := by decide +kernel
def RX3 : String := "FractionRun$Past"
def TX3 : u_T := fun k => match k with
  | 0 => ("FractionRun$Past", "states", "[LFractionRun$State;", true)
  | 1 => ("FractionRun$Past", "next", "I", false)
  | _ => ("FractionRun$Past", "size", "I", false)
def tyX3 : Nat → FieldType := fun k => match k with
  | 0 => .array (.object "FractionRun$State")
  | 1 => .int
  | _ => .int
theorem nmX3 : ∀ a, a < 3 → ∀ b, b < 3 → a ≠ b → (TX3 a).2.1 ≠ (TX3 b).2.1 := by decide +kernel
theorem tyX3_ok : ∀ k, k < 3 → parseFieldDescriptor (TX3 k).2.2.1 = some (tyX3 k) := by decide +kernel
def RX4 : String := "FractionRun$Reader"
def TX4 : u_T := fun k => match k with
  | _ => ("FractionRun$Reader", "numbers", "[I", true)
def tyX4 : Nat → FieldType := fun k => match k with
  | _ => .array .int
theorem nmX4 : ∀ a, a < 1 → ∀ b, b < 1 → a ≠ b → (TX4 a).2.1 ≠ (TX4 b).2.1 := by decide +kernel
theorem tyX4_ok : ∀ k, k < 1 → parseFieldDescriptor (TX4 k).2.2.1 = some (tyX4 k) := by decide +kernel
def RX5 : String := "FractionRun$State"
def TX5 : u_T := fun k => match k with
  | 0 => ("FractionRun$State", "powers", "[I", true)
  | 1 => ("FractionRun$State", "row", "[I", true)
  | 2 => ("FractionRun$State", "rowSize", "I", false)
  | 3 => ("FractionRun$State", "usedBits", "I", false)
  | 4 => ("FractionRun$State", "step", "I", false)
  | 5 => ("FractionRun$State", "ended", "Z", false)
  | _ => ("FractionRun$State", "timesInStep", "I", false)
def tyX5 : Nat → FieldType := fun k => match k with
  | 0 => .array .int
  | 1 => .array .int
  | 2 => .int
  | 3 => .int
  | 4 => .int
  | 5 => .boolean
  | _ => .int
theorem nmX5 : ∀ a, a < 7 → ∀ b, b < 7 → a ≠ b → (TX5 a).2.1 ≠ (TX5 b).2.1 := by decide +kernel
theorem tyX5_ok : ∀ k, k < 7 → parseFieldDescriptor (TX5 k).2.2.1 = some (tyX5 k) := by decide +kernel
def RX6 : String := "FractionRun$Text"
def TX6 : u_T := fun k => match k with
  | 0 => ("FractionRun$Text", "letters", "[C", true)
  | _ => ("FractionRun$Text", "size", "I", false)
def tyX6 : Nat → FieldType := fun k => match k with
  | 0 => .array .char
  | _ => .int
theorem nmX6 : ∀ a, a < 2 → ∀ b, b < 2 → a ≠ b → (TX6 a).2.1 ≠ (TX6 b).2.1 := by decide +kernel
theorem tyX6_ok : ∀ k, k < 2 → parseFieldDescriptor (TX6 k).2.2.1 = some (tyX6 k) := by decide +kernel
def RX7 : String := "FractionRun"
def TX7 : u_T := fun k => match k with
  | 0 => ("FractionRun", "text", "LFractionRun$Text;", true)
  | 1 => ("FractionRun", "reader", "LFractionRun$Reader;", true)
  | 2 => ("FractionRun", "told", "LFractionRun$Fractions;", true)
  | 3 => ("FractionRun", "draft", "LFractionRun$Fractions;", true)
  | 4 => ("FractionRun", "now", "LFractionRun$State;", true)
  | 5 => ("FractionRun", "trial", "LFractionRun$State;", true)
  | 6 => ("FractionRun", "goal", "LFractionRun$State;", true)
  | 7 => ("FractionRun", "past", "LFractionRun$Past;", true)
  | 8 => ("FractionRun", "kept", "LFractionRun$Kept;", true)
  | 9 => ("FractionRun", "seenStep", "[I", true)
  | 10 => ("FractionRun", "seenFraction", "[I", true)
  | 11 => ("FractionRun", "seenCount", "I", false)
  | 12 => ("FractionRun", "uses", "[I", true)
  | 13 => ("FractionRun", "course", "LFractionRun$Course;", true)
  | _ => ("FractionRun", "bestOrder", "[I", true)
def tyX7 : Nat → FieldType := fun k => match k with
  | 0 => .object "FractionRun$Text"
  | 1 => .object "FractionRun$Reader"
  | 2 => .object "FractionRun$Fractions"
  | 3 => .object "FractionRun$Fractions"
  | 4 => .object "FractionRun$State"
  | 5 => .object "FractionRun$State"
  | 6 => .object "FractionRun$State"
  | 7 => .object "FractionRun$Past"
  | 8 => .object "FractionRun$Kept"
  | 9 => .array .int
  | 10 => .array .int
  | 11 => .int
  | 12 => .array .int
  | 13 => .object "FractionRun$Course"
  | _ => .array .int
theorem nmX7 : ∀ a, a < 15 → ∀ b, b < 15 → a ≠ b → (TX7 a).2.1 ≠ (TX7 b).2.1 := by decide +kernel
theorem tyX7_ok : ∀ k, k < 15 → parseFieldDescriptor (TX7 k).2.2.1 = some (tyX7 k) := by decide +kernel
def RX8 : String := "FractionRunModel"
def TX8 : u_T := fun k => match k with
  | 0 => ("FractionRunModel", "fractions", "I", false)
  | 1 => ("FractionRunModel", "kind", "[I", true)
  | 2 => ("FractionRunModel", "change", "[I", true)
  | 3 => ("FractionRunModel", "newFractions", "I", false)
  | 4 => ("FractionRunModel", "newKind", "[I", true)
  | 5 => ("FractionRunModel", "newChange", "[I", true)
  | 6 => ("FractionRunModel", "newPower", "[I", true)
  | 7 => ("FractionRunModel", "slot", "[I", true)
  | 8 => ("FractionRunModel", "done", "I", false)
  | 9 => ("FractionRunModel", "kept", "I", false)
  | 10 => ("FractionRunModel", "length", "I", false)
  | 11 => ("FractionRunModel", "text", "[B", true)
  | 12 => ("FractionRunModel", "next", "I", false)
  | 13 => ("FractionRunModel", "place", "I", false)
  | 14 => ("FractionRunModel", "isWrong", "Z", false)
  | 15 => ("FractionRunModel", "seens", "I", false)
  | 16 => ("FractionRunModel", "seenWhen", "[I", true)
  | 17 => ("FractionRunModel", "seenWho", "[I", true)
  | 18 => ("FractionRunModel", "twice", "I", false)
  | 19 => ("FractionRunModel", "path", "[I", true)
  | 20 => ("FractionRunModel", "sorted", "[I", true)
  | 21 => ("FractionRunModel", "best", "[I", true)
  | 22 => ("FractionRunModel", "whoBy", "[I", true)
  | _ => ("FractionRunModel", "worth", "[I", true)
def tyX8 : Nat → FieldType := fun k => match k with
  | 0 => .int
  | 1 => .array .int
  | 2 => .array .int
  | 3 => .int
  | 4 => .array .int
  | 5 => .array .int
  | 6 => .array .int
  | 7 => .array .int
  | 8 => .int
  | 9 => .int
  | 10 => .int
  | 11 => .array .byte
  | 12 => .int
  | 13 => .int
  | 14 => .boolean
  | 15 => .int
  | 16 => .array .int
  | 17 => .array .int
  | 18 => .int
  | 19 => .array .int
  | 20 => .array .int
  | 21 => .array .int
  | 22 => .array .int
  | _ => .array .int
theorem nmX8 : ∀ a, a < 24 → ∀ b, b < 24 → a ≠ b → (TX8 a).2.1 ≠ (TX8 b).2.1 := by decide +kernel
theorem tyX8_ok : ∀ k, k < 24 → parseFieldDescriptor (TX8 k).2.2.1 = some (tyX8 k) := by decide +kernel
end
section
/-! THE FRAME: worlds whose cells are numbered from 0 on (cell k lies at the address B + k, B: the heap's size at the law's entry), a judgement WP for a frame of a method, MT for a call of one, and a row for each instruction. -/
abbrev XC : Type := (Nat × Nat × (Nat → Int32)) ⊕ ((Nat × (Nat → Int64)) ⊕ ((Nat × Nat × (Nat → Option Nat)) ⊕ (Nat × List Value)))
abbrev xi (t n : Nat) (f : Nat → Int32) : XC := .inl (t, n, f)
abbrev xl (n : Nat) (g : Nat → Int64) : XC := .inr (.inl (n, g))
abbrev xr (t n : Nat) (r : Nat → Option Nat) : XC := .inr (.inr (.inl (t, n, r)))
abbrev xo (ci : Nat) (fs : List Value) : XC := .inr (.inr (.inr (ci, fs)))
/-- a world: how many cells, how many slots were made, what the cells hold -/
abbrev XW : Type := Nat × Nat × (Nat → XC)
def xup (w : Nat → XC) (k : Nat) (c : XC) : Nat → XC := fun j => if j = k then c else w j
def xput (w : XW) (k : Nat) (c : XC) : XW := (w.1, w.2.1, xup w.2.2 k c)
def xpush (w : XW) (n : Nat) (c : XC) : XW := (w.1 + 1, w.2.1 + n, xup w.2.2 w.1 c)
def xat (w : XW) (k : Nat) (c : XC) : Prop := k < w.1 ∧ w.2.2 k = c
/-- the classes whose objects the worlds hold -/
abbrev classes : List vw_C := [(RX0, TX0, 2), (RX1, TX1, 6), (RX2, TX2, 3), (RX3, TX3, 3), (RX4, TX4, 1), (RX5, TX5, 7), (RX6, TX6, 2), (RX7, TX7, 15), (RX8, TX8, 24)]
/-- the context: the law's entry state, the addresses of cells outside, what int arrays lie there, the classes' numbers, the array classes' numbers -/
abbrev CX : Type := State × (UInt32 → Nat) × (UInt32 → Nat × (Nat → Int32)) × va_G × (Nat → ClassId)
abbrev cB (K : CX) : Nat := K.1.heap.size
abbrev cD (K : CX) : va_G := K.2.2.2.1
abbrev cI (K : CX) : Nat → ClassId := K.2.2.2.2
abbrev cA (K : CX) : Nat → Prop := fun q => K.1.heap.size ≤ q
/-- a value as the machine has it: a reference to the cell k lies at B + k; a float stands for a reference outside -/
def cv (K : CX) (v : Value) : Value := match v with
  | .ref k => .ref (cB K + k)
  | .float u => .ref (K.2.1 u)
  | v => v
def cvr (K : CX) (r : Option Nat) : Value := match r with
  | none => .null
  | some k => .ref (cB K + k)
def xcell (K : CX) (a : Nat) (c : XC) (H : Heap) : Prop := match c with
  | .inl q => H[a]? = some (arrV (cI K q.1) q.2.1 (fun j => .int (q.2.2 j)))
  | .inr (.inl q) => H[a]? = some (arrV (cI K 3) q.1 (fun j => .long (q.2 j)))
  | .inr (.inr (.inl q)) => H[a]? = some (arrV (cI K (4 + q.1)) q.2.1 (fun j => cvr K (q.2.2 j)))
  | .inr (.inr (.inr q)) => ∃ r : vw_C, classes[q.1]? = some r ∧ t_OB a ((cD K).1 q.1) r.2.2 ((cD K).2 q.1) H (vp_V (q.2.map (cv K)))
theorem xcell.kept {K : CX} {a : Nat} {c : XC} {H H1 : Heap} (h : xcell K a c H) (hq : H1[a]? = H[a]?) : xcell K a c H1 := by
  rcases c with q | q | q | q
  · exact hq.trans h
  · exact hq.trans h
  · exact hq.trans h
  · obtain ⟨r, h1, h2⟩ := h
    exact ⟨r, h1, h2.kept hq⟩
/-- the heap holds the world -/
def rep (K : CX) (w : XW) (H : Heap) : Prop := H.size = cB K + w.1 ∧ (∀ k, k < w.1 → xcell K (cB K + k) (w.2.2 k) H) ∧ ∀ q, q < cB K → H[q]? = K.1.heap[q]?
theorem rep.put {K : CX} {w : XW} {H H1 : Heap} {k : Nat} {c : XC} (h : rep K w H) (z : H1.size = H.size) (hc : xcell K (cB K + k) c H1) (oq : ∀ q, q ≠ cB K + k → H1[q]? = H[q]?) : rep K (xput w k c) H1 := by
  refine ⟨z.trans h.1, fun j hj => ?_, fun q hq => (oq q (by omega)).trans (h.2.2 q hq)⟩
  show xcell K (cB K + j) (if j = k then c else w.2.2 j) H1
  by_cases e : j = k
  · rw [if_pos e, e]; exact hc
  · rw [if_neg e]
    exact (h.2.1 j hj).kept (oq _ (by omega))
theorem rep.push {K : CX} {w : XW} {H H1 : Heap} {n : Nat} {c : XC} (h : rep K w H) (z : H1.size = H.size + 1) (hc : xcell K H.size c H1) (oq : ∀ q, q < H.size → H1[q]? = H[q]?) : rep K (xpush w n c) H1 := by
  have hs := h.1
  refine ⟨by show H1.size = cB K + (w.1 + 1); omega, fun j hj => ?_, fun q hq => (oq q (by omega)).trans (h.2.2 q hq)⟩
  show xcell K (cB K + j) (if j = w.1 then c else w.2.2 j) H1
  by_cases e : j = w.1
  · rw [if_pos e, e, ← hs]; exact hc
  · rw [if_neg e]
    have hj' : j < w.1 + 1 := hj
    exact (h.2.1 j (by omega)).kept (oq _ (by omega))
/-- the words of the tables that can be carried from state to state -/
def TBL : List Cond := lw_tbl.filter goodWord
theorem tb {w : Cond} (i : Nat) (h : lw_tbl[i]? = some w) (hg : goodWord w = true) : w ∈ TBL := List.mem_filter.mpr ⟨List.mem_of_getElem? h, hg⟩
abbrev MR : Type := MethodName × ByteArray × Nat × Option FieldType
abbrev cdw (y : MR) : Cond := Cond.code y.1 y.2.1 y.2.2.1 y.2.2.2
def wsM (y : MR) : List Cond := cdw y :: TBL
theorem wsM_in {y : MR} {w : Cond} (h : w ∈ TBL) : w ∈ wsM y := List.mem_cons_of_mem _ h
theorem wsM_good {y z : MR} (h : cdw z ∈ TBL) : GoodIn (wsM y) (wsM z) := by
  have key : ∀ w ∈ TBL, w ∈ wsM y ∧ ((w.onTables && w.keeps) = true ∨ ∃ ty, w = .arrayClass ty) := fun w hw => ⟨wsM_in hw, good_of_word (List.mem_filter.mp hw).2⟩
  intro w hw
  rcases List.mem_cons.mp hw with e | e
  · subst e; exact key _ h
  · exact key w e
/-- the nest's words: methods, then the one field -/
abbrev NWm : List (String × Nat × MethodName) := [("FractionRun", 9, ⟨"FractionRun$Text", "<init>", "()V"⟩), ("FractionRun", 18, ⟨"FractionRun$Reader", "<init>", "()V"⟩), ("FractionRun", 25, ⟨"FractionRun$Fractions", "<init>", "()V"⟩), ("FractionRun", 35, ⟨"FractionRun$State", "<init>", "()V"⟩), ("FractionRun$Past", 17, ⟨"FractionRun$State", "<init>", "()V"⟩), ("FractionRun$Kept", 23, ⟨"FractionRun$State", "<init>", "()V"⟩), ("FractionRun$Kept", 24, ⟨"FractionRun$Text", "<init>", "()V"⟩), ("FractionRun", 72, ⟨"FractionRun$Course", "<init>", "()V"⟩), ("FractionRun$Fractions", 38, ⟨"FractionRun", "greatestDivisor", "(II)I"⟩)]
def nst (U : State) : Prop := (∀ q ∈ NWm, va_Nw (.methodLinkNest q.1 q.2.1 q.2.2 "FractionRun") U) ∧ va_Nw (.fieldLinkNest "FractionRun$Fractions" 51 "FractionRun" "PRIMES" "[I" "FractionRun") U
theorem nst.warm {s U : State} (h : nst s) (hW : s.WarmedH U.vm) : nst U := ⟨fun q hq => va_Nw.warmM hW (h.1 q hq), va_Nw.warmF hW h.2⟩
abbrev tysK (K : CX) : List (ClassId × FieldType) := [(cI K 0, .int), (cI K 1, .char), (cI K 2, .byte), (cI K 3, .long), (cI K 4, .object "FractionRun$State"), (cI K 5, .object "FractionRun$Text")]
/-- the formatter that String.checkIndex carries: null, or a reference outside -/
def fv (K : CX) : Value := if K.2.1 5 = 0 then .null else .float 4
/-- the one String constant, and what String's own code reads -/
def strs (K : CX) (U : State) : Prop := va_O "java/lang/String" (K.2.1 2) (cA K) U K.1.heap ∧ va_OF "java/lang/String" "coder" "B" (.int 0) (K.2.1 2) (cA K) U K.1.heap ∧ va_OF "java/lang/String" "value" "[B" (.ref (K.2.1 3)) (K.2.1 2) (cA K) U K.1.heap ∧ va_T .byte (K.2.1 3) (K.2.2.1 3).1 (fun j => .int ((K.2.2.1 3).2 j)) (cA K) U K.1.heap ∧ vk_R "FractionRun" 80 "f455,33,0;f11,13,0;f1,11,0;f3,7,0;f11,2,0;f1,3,0;s72;" (K.2.1 2) U ∧ va_Z "java/lang/String" "COMPACT_STRINGS" "Z" (.int 1) (cA K) U K.1.heap ∧ va_Z "jdk/internal/util/Preconditions" "SIOOBE_FORMATTER" "Ljava/util/function/BiFunction;" (cv K (fv K)) (cA K) U K.1.heap
theorem strs.warm {K : CX} {s U : State} (h : strs K s) (hW : s.WarmedH U.vm) : strs K U := ⟨h.1.moved hW.alike, h.2.1.moved hW.alike, h.2.2.1.moved hW.alike, h.2.2.2.1.moved hW.alike, h.2.2.2.2.1.warm hW, h.2.2.2.2.2.1.moved hW.alike, h.2.2.2.2.2.2.moved hW.alike⟩
theorem strs.same {K : CX} {u U : State} (h : strs K u) (e : u.vm = U.vm) : strs K U := by
  have ha : u.vm.Alike U.vm := by rw [e]; exact Vm.Alike.refl _
  exact ⟨h.1.moved ha, h.2.1.moved ha, h.2.2.1.moved ha, h.2.2.2.1.moved ha, h.2.2.2.2.1.same e.symm, h.2.2.2.2.2.1.moved ha, h.2.2.2.2.2.2.moved ha⟩
/-- what holds of the tables and of what lies outside, in every state -/
def cxs (K : CX) (U : State) : Prop := va_K (cD K) classes (tysK K) U ∧ nst U ∧ va_Z "FractionRun" "PRIMES" "[I" (.ref (K.2.1 1)) (cA K) U K.1.heap ∧ (∀ u : UInt32, u = 0 ∨ u = 1 → va_T .int (K.2.1 u) (K.2.2.1 u).1 (fun j => .int ((K.2.2.1 u).2 j)) (cA K) U K.1.heap) ∧ va_AO "FractionRun$State" U ∧ va_AO "FractionRun$Text" U ∧ strs K U
theorem cxs.warm {K : CX} {s U : State} (h : cxs K s) (hW : s.WarmedH U.vm) : cxs K U := ⟨va_K.moved hW.alike h.1, h.2.1.warm hW, h.2.2.1.moved hW.alike, fun u hu => (h.2.2.2.1 u hu).moved hW.alike, h.2.2.2.2.1.moved hW.alike, h.2.2.2.2.2.1.moved hW.alike, h.2.2.2.2.2.2.warm hW⟩
theorem nst.same {u U : State} (h : nst u) (e : u.vm = U.vm) : nst U := ⟨fun q hq => va_Nw.same rfl e (h.1 q hq), va_Nw.same rfl e h.2⟩
/-- what holds all along in a frame of the method y -/
def Stn (K : CX) (y : MR) (p : Program) (s : State) (m : MethodId) (args : Array Value) (meth : Method) (c : Code) : Prop :=
  p.tables.exec = Jvm.exec ∧ c.code = y.2.1 ∧ c.maxLocals = y.2.2.1 ∧ s.vm.findClass y.1.cls = some m.cls ∧ (∀ w ∈ wsM y, w.before args s = true) ∧ meth.sig.returnType = y.2.2.2 ∧ meth.locks = false ∧ meth.name = y.1.name ∧ cxs K s ∧ (cB K ≤ s.heap.size ∧ ∀ q, q < cB K → s.heap[q]? = K.1.heap[q]?)
/-- the locals -/
def lok (K : CX) (L : List (Option Value)) (ls : Array Slot) : Prop := ls.size = L.length ∧ lv_wf ls ∧ ∀ (i : Nat) (v : Value), L[i]? = some (some v) → ls[i]? = some (.val (cv K v))
def QW (K : CX) (r : Option Value) (w : XW) : Array Value → State → Outcome → State → Prop := fun _ _ o t => o = .returned (r.map (cv K)) ∧ rep K w t.heap
def WP (K : CX) (l : Launch) (y : MR) (fr lo n0 k0 : Nat) (r : Option Value) (w' : XW) (pc : Nat) (L : List (Option Value)) (S : List Value) (w : XW) : Prop :=
  w.1 ≤ w'.1 ∧ w.2.1 ≤ w'.2.1 ∧ (n0 ≤ w.1 → k0 ≤ w.2.1 → ∀ (p : Program) (e : Env) (s : State) (m : MethodId) (args : Array Value) (below : List Frame) (meth : Method) (c : Code) (H : Heap) (locs : List Loc) (ls : Array Slot) (R : Room), fr ≤ R.frames → lo ≤ R.locals → w'.1 - n0 ≤ R.cells → w'.2.1 - k0 ≤ R.slots →
    Stn K y p s m args meth c → rep K w H → (∀ q ∈ locs, cA K q.base) → lok K L ls →
    W p l e R s m args below meth c H locs (w.1 - n0) (w.2.1 - k0) (MQ below (QW K r w') args s (w'.1 - n0) (w'.2.1 - k0) (cA K)) (F0 m pc ls (S.map (cv K))))
def PM (K : CX) (as : List Value) (w : XW) : Array Value → State → Prop := fun v U => v = (as.map (cv K)).toArray ∧ rep K w U.heap ∧ cxs K U
def MT (K : CX) (l : Launch) (y : MR) (fr lo : Nat) (as : List Value) (w : XW) (r : Option Value) (w' : XW) : Prop :=
  w.1 ≤ w'.1 ∧ w.2.1 ≤ w'.2.1 ∧ Met l y.1 (wsM y) ({ frames := fr, cells := w'.1 - w.1, slots := w'.2.1 - w.2.1, locals := lo } : Room) (PM K as w) (QW K r w') (w'.1 - w.1) (w'.2.1 - w.2.1) (cA K)
section WPR
variable {K : CX} {l : Launch} {y : MR} {fr lo n0 k0 : Nat} {r : Option Value} {w' : XW} {pc : Nat} {L L1 : List (Option Value)} {S S1 : List Value} {w w1 : XW} {pc1 : Nat}
theorem WP.lift (h1 : w.1 ≤ w1.1) (h2 : w.2.1 ≤ w1.2.1)
    (h : ∀ (p : Program) (e : Env) (s : State) (m : MethodId) (args : Array Value) (below : List Frame) (meth : Method) (c : Code) (H : Heap) (locs : List Loc) (ls : Array Slot) (R : Room) (Q : State → Prop), Stn K y p s m args meth c → rep K w H → (∀ q ∈ locs, cA K q.base) → lok K L ls → fr ≤ R.frames → lo ≤ R.locals → w1.1 - n0 ≤ R.cells → w1.2.1 - k0 ≤ R.slots → n0 ≤ w.1 → k0 ≤ w.2.1 →
      (∀ (H1 : Heap) (locs1 : List Loc) (ls1 : Array Slot), rep K w1 H1 → (∀ q ∈ locs1, cA K q.base) → lok K L1 ls1 → W p l e R s m args below meth c H1 locs1 (w1.1 - n0) (w1.2.1 - k0) Q (F0 m pc1 ls1 (S1.map (cv K)))) →
      W p l e R s m args below meth c H locs (w.1 - n0) (w.2.1 - k0) Q (F0 m pc ls (S.map (cv K))))
    (k : WP K l y fr lo n0 k0 r w' pc1 L1 S1 w1) : WP K l y fr lo n0 k0 r w' pc L S w := by
  obtain ⟨a1, a2, a3⟩ := k
  refine ⟨Nat.le_trans h1 a1, Nat.le_trans h2 a2, fun b1 b2 p e s m args below meth c H locs ls R r1 r2 r3 r4 X hr hl hL => ?_⟩
  exact h p e s m args below meth c H locs ls R _ X hr hl hL r1 r2 (Nat.le_trans (Nat.sub_le_sub_right a1 n0) r3) (Nat.le_trans (Nat.sub_le_sub_right a2 k0) r4) b1 b2 (fun H1 locs1 ls1 g1 g2 g3 => a3 (Nat.le_trans b1 h1) (Nat.le_trans b2 h2) p e s m args below meth c H1 locs1 ls1 R r1 r2 r3 r4 X g1 g2 g3)
/-- a row of the machine that touches neither heap nor locals -/
theorem WP.go (h : ∀ (p : Program) (e : Env) (s : State) (m : MethodId) (args : Array Value) (below : List Frame) (meth : Method) (c : Code) (H : Heap) (locs : List Loc) (ls : Array Slot) (R : Room) (cells slots : Nat) (Q : State → Prop), Stn K y p s m args meth c → rep K w H → lok K L ls →
      W p l e R s m args below meth c H locs cells slots Q (F0 m pc1 ls (S1.map (cv K))) → W p l e R s m args below meth c H locs cells slots Q (F0 m pc ls (S.map (cv K))))
    (k : WP K l y fr lo n0 k0 r w' pc1 L S1 w) : WP K l y fr lo n0 k0 r w' pc L S w :=
  WP.lift (Nat.le_refl _) (Nat.le_refl _) (fun p e s m args below meth c H locs ls R Q X hr hl hL _ _ _ _ _ _ kk => h p e s m args below meth c H locs ls R _ _ Q X hr hL (kk H locs ls hr hl hL)) k
def lsub : List (Option Value) → List (Option Value) → Prop
  | [], [] => True
  | none :: a, _ :: b => lsub a b
  | some v :: a, some v' :: b => v = v' ∧ lsub a b
  | _, _ => False
theorem lsub_spec : ∀ (a b : List (Option Value)), lsub a b → a.length = b.length ∧ ∀ (i : Nat) (v : Value), a[i]? = some (some v) → b[i]? = some (some v)
  | [], [], _ => ⟨rfl, fun i v h => by simp at h⟩
  | [], _ :: _, h => h.elim
  | none :: a, [], h => h.elim
  | some _ :: a, [], h => h.elim
  | some _ :: a, none :: b, h => h.elim
  | none :: a, x :: b, h => by
    obtain ⟨h1, h2⟩ := lsub_spec a b h
    refine ⟨by simp [h1], fun i v hi => ?_⟩
    cases i with
    | zero => simp at hi
    | succ i => rw [List.getElem?_cons_succ] at hi ⊢; exact h2 i v hi
  | some v0 :: a, some v1 :: b, h => by
    obtain ⟨h0, h⟩ := h
    obtain ⟨h1, h2⟩ := lsub_spec a b h
    refine ⟨by simp [h1], fun i v hi => ?_⟩
    cases i with
    | zero => rw [List.getElem?_cons_zero] at hi ⊢; rw [← h0]; exact hi
    | succ i => rw [List.getElem?_cons_succ] at hi ⊢; exact h2 i v hi
/-- fewer locals -/
theorem WP.weak (hs : lsub L1 L) (k : WP K l y fr lo n0 k0 r w' pc L1 S w) : WP K l y fr lo n0 k0 r w' pc L S w := by
  obtain ⟨e1, e2⟩ := lsub_spec _ _ hs
  exact WP.lift (Nat.le_refl _) (Nat.le_refl _) (fun p e s m args below meth c H locs ls R Q X hr hl hL _ _ _ _ _ _ kk => kk H locs ls hr hl ⟨hL.1.trans e1.symm, hL.2.1, fun i v h => hL.2.2 i v (e2 i v h)⟩) k
theorem wp_iconst {n : Int} {v : Int32} (hd : decode y.2.1 pc = .ok (.iconst n, 1)) (hv : Int32.ofInt n = v) (k : WP K l y fr lo n0 k0 r w' (pc + 1) L (.int v :: S) w) : WP K l y fr lo n0 k0 r w' pc L S w :=
  WP.go (fun p e s m args below meth c H locs ls R cells slots Q X hr hL kk => lv_iconst X.1 X.2.1 hd hv kk) k
theorem wp_bipush {n : Int} {v : Int32} (hd : decode y.2.1 pc = .ok (.bipush n, 2)) (hv : (Int8.ofInt n).toInt32 = v) (k : WP K l y fr lo n0 k0 r w' (pc + 2) L (.int v :: S) w) : WP K l y fr lo n0 k0 r w' pc L S w :=
  WP.go (fun p e s m args below meth c H locs ls R cells slots Q X hr hL kk => lv_bipush X.1 X.2.1 hd hv kk) k
theorem wp_sipush {n : Int} {v : Int32} (hd : decode y.2.1 pc = .ok (.sipush n, 3)) (hv : (Int16.ofInt n).toInt32 = v) (k : WP K l y fr lo n0 k0 r w' (pc + 3) L (.int v :: S) w) : WP K l y fr lo n0 k0 r w' pc L S w :=
  WP.go (fun p e s m args below meth c H locs ls R cells slots Q X hr hL kk => lv_sipush X.1 X.2.1 hd hv kk) k
theorem wp_lconst {n : Fin 2} {v : Int64} (hd : decode y.2.1 pc = .ok (.lconst n, 1)) (hv : Int64.ofNat (n : Nat) = v) (k : WP K l y fr lo n0 k0 r w' (pc + 1) L (.long v :: S) w) : WP K l y fr lo n0 k0 r w' pc L S w :=
  WP.go (fun p e s m args below meth c H locs ls R cells slots Q X hr hL kk => lv_lconst X.1 X.2.1 hd hv kk) k
theorem wp_ldc {i : Nat} {v : Int32} (hc : Cond.constant y.1.cls i v ∈ TBL) (hd : decode y.2.1 pc = .ok (.ldc i, 2)) (k : WP K l y fr lo n0 k0 r w' (pc + 2) L (.int v :: S) w) : WP K l y fr lo n0 k0 r w' pc L S w :=
  WP.go (fun p e s m args below meth c H locs ls R cells slots Q X hr hL kk => lv_ldc X.1 X.2.1 X.2.2.2.1 (X.2.2.2.2.1 _ (wsM_in hc)) hd kk) k
theorem wp_ldc2 {i : Nat} {v : Int64} (hc : Cond.constantLong y.1.cls i v ∈ TBL) (hd : decode y.2.1 pc = .ok (.ldc2_w i, 3)) (k : WP K l y fr lo n0 k0 r w' (pc + 3) L (.long v :: S) w) : WP K l y fr lo n0 k0 r w' pc L S w :=
  WP.go (fun p e s m args below meth c H locs ls R cells slots Q X hr hL kk => lv_ldc2 X.1 X.2.1 X.2.2.2.1 (X.2.2.2.2.1 _ (wsM_in hc)) hd kk) k
theorem wp_iload_n {j : Fin 4} {x : Int32} (hd : decode y.2.1 pc = .ok (.iload_n j, 1)) (h : L[(j : Nat)]? = some (some (.int x))) (k : WP K l y fr lo n0 k0 r w' (pc + 1) L (.int x :: S) w) : WP K l y fr lo n0 k0 r w' pc L S w :=
  WP.go (fun p e s m args below meth c H locs ls R cells slots Q X hr hL kk => lv_iload_n X.1 X.2.1 hd rfl (hL.2.2 _ _ h) kk) k
theorem wp_iload {i : Nat} {x : Int32} (hd : decode y.2.1 pc = .ok (.iload i, 2)) (h : L[i]? = some (some (.int x))) (k : WP K l y fr lo n0 k0 r w' (pc + 2) L (.int x :: S) w) : WP K l y fr lo n0 k0 r w' pc L S w :=
  WP.go (fun p e s m args below meth c H locs ls R cells slots Q X hr hL kk => lv_iload X.1 X.2.1 hd (hL.2.2 _ _ h) kk) k
theorem wp_lload_n {j : Fin 4} {x : Int64} (hd : decode y.2.1 pc = .ok (.lload_n j, 1)) (h : L[(j : Nat)]? = some (some (.long x))) (k : WP K l y fr lo n0 k0 r w' (pc + 1) L (.long x :: S) w) : WP K l y fr lo n0 k0 r w' pc L S w :=
  WP.go (fun p e s m args below meth c H locs ls R cells slots Q X hr hL kk => lv_lload_n X.1 X.2.1 hd rfl (hL.2.2 _ _ h) kk) k
theorem wp_lload {i : Nat} {x : Int64} (hd : decode y.2.1 pc = .ok (.lload i, 2)) (h : L[i]? = some (some (.long x))) (k : WP K l y fr lo n0 k0 r w' (pc + 2) L (.long x :: S) w) : WP K l y fr lo n0 k0 r w' pc L S w :=
  WP.go (fun p e s m args below meth c H locs ls R cells slots Q X hr hL kk => lv_lload X.1 X.2.1 hd (hL.2.2 _ _ h) kk) k
theorem wp_aload_n {j : Fin 4} {x : Nat} (hd : decode y.2.1 pc = .ok (.aload_n j, 1)) (h : L[(j : Nat)]? = some (some (.ref x))) (k : WP K l y fr lo n0 k0 r w' (pc + 1) L (.ref x :: S) w) : WP K l y fr lo n0 k0 r w' pc L S w :=
  WP.go (fun p e s m args below meth c H locs ls R cells slots Q X hr hL kk => lv_aload_n X.1 X.2.1 hd rfl (hL.2.2 _ _ h) kk) k
theorem wp_aload {i : Nat} {x : Nat} (hd : decode y.2.1 pc = .ok (.aload i, 2)) (h : L[i]? = some (some (.ref x))) (k : WP K l y fr lo n0 k0 r w' (pc + 2) L (.ref x :: S) w) : WP K l y fr lo n0 k0 r w' pc L S w :=
  WP.go (fun p e s m args below meth c H locs ls R cells slots Q X hr hL kk => lv_aload X.1 X.2.1 hd (hL.2.2 _ _ h) kk) k
theorem wp_xload_n {j : Fin 4} {x : UInt32} (hd : decode y.2.1 pc = .ok (.aload_n j, 1)) (h : L[(j : Nat)]? = some (some (.float x))) (k : WP K l y fr lo n0 k0 r w' (pc + 1) L (.float x :: S) w) : WP K l y fr lo n0 k0 r w' pc L S w :=
  WP.go (fun p e s m args below meth c H locs ls R cells slots Q X hr hL kk => lv_aload_n X.1 X.2.1 hd rfl (hL.2.2 _ _ h) kk) k
end WPR
end
section
/-! rows of stores, arithmetic, branches -/
section WPS
variable {K : CX} {l : Launch} {y : MR} {fr lo n0 k0 : Nat} {r : Option Value} {w' : XW} {pc : Nat} {L L1 : List (Option Value)} {S S1 : List Value} {w w1 : XW} {pc1 : Nat}
theorem cv_cat (v : Value) : (cv K v).category = v.category := by cases v <;> rfl
def isL (o : Option (Option Value)) : Bool := match o with
  | some (some v) => v.category == 2
  | _ => false
def kill (L : List (Option Value)) (i : Nat) : List (Option Value) := match i with
  | 0 => L
  | j + 1 => if isL L[j]? = true then L.set j none else L
def lset1 (L : List (Option Value)) (i : Nat) (v : Value) : List (Option Value) := (kill L i).set i (some v)
def lset2 (L : List (Option Value)) (i : Nat) (v : Value) : List (Option Value) := ((kill L i).set i (some v)).set (i + 1) none
theorem kill_len (L : List (Option Value)) (i : Nat) : (kill L i).length = L.length := by
  cases i with
  | zero => rfl
  | succ j =>
    simp only [kill]
    split
    · exact List.length_set
    · rfl
theorem kill_spec {i j : Nat} {u : Value} (h : (kill L i)[j]? = some (some u)) : L[j]? = some (some u) ∧ ¬ (j + 1 = i ∧ u.category = 2) := by
  cases i with
  | zero => exact ⟨h, fun q => by omega⟩
  | succ i =>
    simp only [kill] at h
    split at h
    · by_cases e : i = j
      · subst e
        exact absurd h (by
          by_cases z : i < L.length
          · rw [List.getElem?_set_self z]; intro q; cases q
          · rw [List.getElem?_eq_none (by rw [List.length_set]; omega)]; intro q; cases q)
      · rw [List.getElem?_set_ne e] at h
        exact ⟨h, fun q => by omega⟩
    · rename_i hn
      refine ⟨h, fun q => ?_⟩
      have e : j = i := by omega
      subst e
      rw [h] at hn
      exact hn (by simp [isL, q.2])
def lvo (K : CX) (L : List (Option Value)) : List (Nat × Value) := (List.range L.length).filterMap (fun i => match L[i]? with | some (some v) => some (i, cv K v) | _ => none)
theorem lvo_mem {i : Nat} {v : Value} (h : L[i]? = some (some v)) : (i, cv K v) ∈ lvo K L := by
  refine List.mem_filterMap.mpr ⟨i, List.mem_range.mpr (List.getElem?_eq_some_iff.mp h).1, ?_⟩
  rw [h]
theorem lok.has {ls : Array Slot} (h : lok K L ls) : lv_has ls L.length (lvo K L) := by
  refine ⟨h.1, h.2.1, fun q hq => ?_⟩
  obtain ⟨i, -, hi⟩ := List.mem_filterMap.mp hq
  split at hi
  · rename_i v hv
    cases hi
    exact h.2.2 i v hv
  · cases hi
theorem lok_store1 {ls : Array Slot} {i : Nat} {v : Value} (hi : i < L.length) (h : lv_has ls L.length ((i, cv K v) :: (lvo K L).filter (fun q => !(q.1 == i) && !(q.1 + 1 == i && q.2.category == 2)))) : lok K (lset1 L i v) ls := by
  refine ⟨by rw [h.1, lset1, List.length_set, kill_len], h.2.1, fun j u hj => ?_⟩
  by_cases e : i = j
  · subst e
    rw [lset1, List.getElem?_set_self (by rw [kill_len]; exact hi)] at hj
    cases hj
    exact h.2.2 _ List.mem_cons_self
  · rw [lset1, List.getElem?_set_ne e] at hj
    obtain ⟨h1, h2⟩ := kill_spec hj
    refine h.2.2 (j, cv K u) (List.mem_cons_of_mem _ (List.mem_filter.mpr ⟨lvo_mem h1, ?_⟩))
    have e1 : (j == i) = false := by simp; omega
    have e2 : (j + 1 == i && (cv K u).category == 2) = false := by
      rw [cv_cat]
      by_cases q : j + 1 = i
      · have q2 : ¬ u.category = 2 := fun z => h2 ⟨q, z⟩
        simp [q2]
      · simp [q]
    simp only [e1, e2]; rfl
theorem lok_store2 {ls : Array Slot} {i : Nat} {v : Value} (hi : i + 1 < L.length) (h : lv_has ls L.length ((i, cv K v) :: (lvo K L).filter (fun q => !(q.1 == i) && (!(q.1 == i + 1) && !(q.1 + 1 == i && q.2.category == 2))))) : lok K (lset2 L i v) ls := by
  refine ⟨by rw [h.1, lset2, List.length_set, List.length_set, kill_len], h.2.1, fun j u hj => ?_⟩
  by_cases e0 : i + 1 = j
  · subst e0
    rw [lset2, List.getElem?_set_self (by rw [List.length_set, kill_len]; exact hi)] at hj
    cases hj
  rw [lset2, List.getElem?_set_ne e0] at hj
  by_cases e : i = j
  · subst e
    rw [List.getElem?_set_self (by rw [kill_len]; omega)] at hj
    cases hj
    exact h.2.2 _ List.mem_cons_self
  · rw [List.getElem?_set_ne e] at hj
    obtain ⟨h1, h2⟩ := kill_spec hj
    refine h.2.2 (j, cv K u) (List.mem_cons_of_mem _ (List.mem_filter.mpr ⟨lvo_mem h1, ?_⟩))
    have e1 : (j == i) = false := by simp; omega
    have e3 : (j == i + 1) = false := by simp; omega
    have e2 : (j + 1 == i && (cv K u).category == 2) = false := by
      rw [cv_cat]
      by_cases q : j + 1 = i
      · have q2 : ¬ u.category = 2 := fun z => h2 ⟨q, z⟩
        simp [q2]
      · simp [q]
    simp only [e1, e2, e3]; rfl
theorem WP.loc (h : ∀ (p : Program) (e : Env) (s : State) (m : MethodId) (args : Array Value) (below : List Frame) (meth : Method) (c : Code) (H : Heap) (locs : List Loc) (ls : Array Slot) (R : Room) (cells slots : Nat) (Q : State → Prop), Stn K y p s m args meth c → lok K L ls →
      (∀ ls1, lok K L1 ls1 → W p l e R s m args below meth c H locs cells slots Q (F0 m pc1 ls1 (S1.map (cv K)))) → W p l e R s m args below meth c H locs cells slots Q (F0 m pc ls (S.map (cv K))))
    (k : WP K l y fr lo n0 k0 r w' pc1 L1 S1 w) : WP K l y fr lo n0 k0 r w' pc L S w :=
  WP.lift (Nat.le_refl _) (Nat.le_refl _) (fun p e s m args below meth c H locs ls R Q X hr hl hL _ _ _ _ _ _ kk => h p e s m args below meth c H locs ls R _ _ Q X hL (fun ls1 h1 => kk H locs ls1 hr hl h1)) k
theorem wp_istore_n {j : Fin 4} {x : Int32} (hd : decode y.2.1 pc = .ok (.istore_n j, 1)) (hi : (j : Nat) < L.length) (hs : lset1 L j (.int x) = L1) (k : WP K l y fr lo n0 k0 r w' (pc + 1) L1 S w) : WP K l y fr lo n0 k0 r w' pc L (.int x :: S) w :=
  WP.loc (fun p e s m args below meth c H locs ls R cells slots Q X hL kk => lv_istore_n X.1 X.2.1 hd rfl hL.has hi rfl (fun ls1 h1 => kk ls1 (hs ▸ lok_store1 (v := .int x) hi h1))) k
theorem wp_istore {i : Nat} {x : Int32} (hd : decode y.2.1 pc = .ok (.istore i, 2)) (hi : i < L.length) (hs : lset1 L i (.int x) = L1) (k : WP K l y fr lo n0 k0 r w' (pc + 2) L1 S w) : WP K l y fr lo n0 k0 r w' pc L (.int x :: S) w :=
  WP.loc (fun p e s m args below meth c H locs ls R cells slots Q X hL kk => lv_istore X.1 X.2.1 hd hL.has hi rfl (fun ls1 h1 => kk ls1 (hs ▸ lok_store1 (v := .int x) hi h1))) k
theorem wp_astore_n {j : Fin 4} {x : Nat} (hd : decode y.2.1 pc = .ok (.astore_n j, 1)) (hi : (j : Nat) < L.length) (hs : lset1 L j (.ref x) = L1) (k : WP K l y fr lo n0 k0 r w' (pc + 1) L1 S w) : WP K l y fr lo n0 k0 r w' pc L (.ref x :: S) w :=
  WP.loc (fun p e s m args below meth c H locs ls R cells slots Q X hL kk => lv_astore_n X.1 X.2.1 hd rfl hL.has hi rfl (fun ls1 h1 => kk ls1 (hs ▸ lok_store1 (v := .ref x) hi h1))) k
theorem wp_astore {i : Nat} {x : Nat} (hd : decode y.2.1 pc = .ok (.astore i, 2)) (hi : i < L.length) (hs : lset1 L i (.ref x) = L1) (k : WP K l y fr lo n0 k0 r w' (pc + 2) L1 S w) : WP K l y fr lo n0 k0 r w' pc L (.ref x :: S) w :=
  WP.loc (fun p e s m args below meth c H locs ls R cells slots Q X hL kk => lv_astore X.1 X.2.1 hd hL.has hi rfl (fun ls1 h1 => kk ls1 (hs ▸ lok_store1 (v := .ref x) hi h1))) k
theorem wp_lstore_n {j : Fin 4} {x : Int64} (hd : decode y.2.1 pc = .ok (.lstore_n j, 1)) (hi : (j : Nat) + 1 < L.length) (hs : lset2 L j (.long x) = L1) (k : WP K l y fr lo n0 k0 r w' (pc + 1) L1 S w) : WP K l y fr lo n0 k0 r w' pc L (.long x :: S) w :=
  WP.loc (fun p e s m args below meth c H locs ls R cells slots Q X hL kk => lv_lstore_n X.1 X.2.1 hd rfl hL.has hi rfl (fun ls1 h1 => kk ls1 (hs ▸ lok_store2 (v := .long x) hi h1))) k
theorem wp_lstore {i : Nat} {x : Int64} (hd : decode y.2.1 pc = .ok (.lstore i, 2)) (hi : i + 1 < L.length) (hs : lset2 L i (.long x) = L1) (k : WP K l y fr lo n0 k0 r w' (pc + 2) L1 S w) : WP K l y fr lo n0 k0 r w' pc L (.long x :: S) w :=
  WP.loc (fun p e s m args below meth c H locs ls R cells slots Q X hL kk => lv_lstore X.1 X.2.1 hd hL.has hi rfl (fun ls1 h1 => kk ls1 (hs ▸ lok_store2 (v := .long x) hi h1))) k
theorem wp_iinc {i : Nat} {n : Int} {x v : Int32} (hd : decode y.2.1 pc = .ok (.iinc i n, 3)) (hi : i < L.length) (h : L[i]? = some (some (.int x))) (hv : x + Int32.ofInt n = v) (hs : lset1 L i (.int v) = L1) (k : WP K l y fr lo n0 k0 r w' (pc + 3) L1 S w) : WP K l y fr lo n0 k0 r w' pc L S w := by
  obtain ⟨q, hq⟩ := List.getElem?_of_mem (lvo_mem (K := K) h)
  exact WP.loc (fun p e s m args below meth c H locs ls R cells slots Q X hL kk => lv_iinc X.1 X.2.1 hd hL.has hq hv hi rfl (fun ls1 h1 => kk ls1 (hs ▸ lok_store1 (v := .int v) hi h1))) k
theorem wp_iadd {x y0 : Int32} (hd : decode y.2.1 pc = .ok (.iadd, 1)) (k : WP K l y fr lo n0 k0 r w' (pc + 1) L (.int (x + y0) :: S) w) : WP K l y fr lo n0 k0 r w' pc L (.int y0 :: .int x :: S) w :=
  WP.go (fun p e s m args below meth c H locs ls R cells slots Q X hr hL kk => lv_iadd X.1 X.2.1 hd kk) k
theorem wp_isub {x y0 : Int32} (hd : decode y.2.1 pc = .ok (.isub, 1)) (k : WP K l y fr lo n0 k0 r w' (pc + 1) L (.int (x - y0) :: S) w) : WP K l y fr lo n0 k0 r w' pc L (.int y0 :: .int x :: S) w :=
  WP.go (fun p e s m args below meth c H locs ls R cells slots Q X hr hL kk => lv_isub X.1 X.2.1 hd kk) k
theorem wp_imul {x y0 : Int32} (hd : decode y.2.1 pc = .ok (.imul, 1)) (k : WP K l y fr lo n0 k0 r w' (pc + 1) L (.int (x * y0) :: S) w) : WP K l y fr lo n0 k0 r w' pc L (.int y0 :: .int x :: S) w :=
  WP.go (fun p e s m args below meth c H locs ls R cells slots Q X hr hL kk => lv_imul X.1 X.2.1 hd kk) k
theorem wp_iand {x y0 : Int32} (hd : decode y.2.1 pc = .ok (.iand, 1)) (k : WP K l y fr lo n0 k0 r w' (pc + 1) L (.int (x &&& y0) :: S) w) : WP K l y fr lo n0 k0 r w' pc L (.int y0 :: .int x :: S) w :=
  WP.go (fun p e s m args below meth c H locs ls R cells slots Q X hr hL kk => lv_iand X.1 X.2.1 hd kk) k
theorem wp_ior {x y0 : Int32} (hd : decode y.2.1 pc = .ok (.ior, 1)) (k : WP K l y fr lo n0 k0 r w' (pc + 1) L (.int (x ||| y0) :: S) w) : WP K l y fr lo n0 k0 r w' pc L (.int y0 :: .int x :: S) w :=
  WP.go (fun p e s m args below meth c H locs ls R cells slots Q X hr hL kk => lv_ior X.1 X.2.1 hd kk) k
theorem wp_ixor {x y0 : Int32} (hd : decode y.2.1 pc = .ok (.ixor, 1)) (k : WP K l y fr lo n0 k0 r w' (pc + 1) L (.int (x ^^^ y0) :: S) w) : WP K l y fr lo n0 k0 r w' pc L (.int y0 :: .int x :: S) w :=
  WP.go (fun p e s m args below meth c H locs ls R cells slots Q X hr hL kk => lv_ixor X.1 X.2.1 hd kk) k
theorem wp_ishl {x y0 : Int32} (hd : decode y.2.1 pc = .ok (.ishl, 1)) (k : WP K l y fr lo n0 k0 r w' (pc + 1) L (.int (x <<< (y0 &&& 31)) :: S) w) : WP K l y fr lo n0 k0 r w' pc L (.int y0 :: .int x :: S) w :=
  WP.go (fun p e s m args below meth c H locs ls R cells slots Q X hr hL kk => lv_ishl X.1 X.2.1 hd kk) k
theorem wp_ishr {x y0 : Int32} (hd : decode y.2.1 pc = .ok (.ishr, 1)) (k : WP K l y fr lo n0 k0 r w' (pc + 1) L (.int (x >>> (y0 &&& 31)) :: S) w) : WP K l y fr lo n0 k0 r w' pc L (.int y0 :: .int x :: S) w :=
  WP.go (fun p e s m args below meth c H locs ls R cells slots Q X hr hL kk => lv_ishr X.1 X.2.1 hd kk) k
theorem wp_idiv {x y0 : Int32} (hd : decode y.2.1 pc = .ok (.idiv, 1)) (hne : ¬ y0 = 0) (k : WP K l y fr lo n0 k0 r w' (pc + 1) L (.int (x / y0) :: S) w) : WP K l y fr lo n0 k0 r w' pc L (.int y0 :: .int x :: S) w :=
  WP.go (fun p e s m args below meth c H locs ls R cells slots Q X hr hL kk => lv_idiv X.1 X.2.1 hd hne kk) k
theorem wp_irem {x y0 : Int32} (hd : decode y.2.1 pc = .ok (.irem, 1)) (hne : ¬ y0 = 0) (k : WP K l y fr lo n0 k0 r w' (pc + 1) L (.int (x - x / y0 * y0) :: S) w) : WP K l y fr lo n0 k0 r w' pc L (.int y0 :: .int x :: S) w :=
  WP.go (fun p e s m args below meth c H locs ls R cells slots Q X hr hL kk => lv_irem X.1 X.2.1 hd hne kk) k
theorem wp_ladd {x y0 : Int64} (hd : decode y.2.1 pc = .ok (.ladd, 1)) (k : WP K l y fr lo n0 k0 r w' (pc + 1) L (.long (x + y0) :: S) w) : WP K l y fr lo n0 k0 r w' pc L (.long y0 :: .long x :: S) w :=
  WP.go (fun p e s m args below meth c H locs ls R cells slots Q X hr hL kk => lv_ladd X.1 X.2.1 hd kk) k
theorem wp_lmul {x y0 : Int64} (hd : decode y.2.1 pc = .ok (.lmul, 1)) (k : WP K l y fr lo n0 k0 r w' (pc + 1) L (.long (x * y0) :: S) w) : WP K l y fr lo n0 k0 r w' pc L (.long y0 :: .long x :: S) w :=
  WP.go (fun p e s m args below meth c H locs ls R cells slots Q X hr hL kk => lv_lmul X.1 X.2.1 hd kk) k
theorem wp_lor {x y0 : Int64} (hd : decode y.2.1 pc = .ok (.lor, 1)) (k : WP K l y fr lo n0 k0 r w' (pc + 1) L (.long (x ||| y0) :: S) w) : WP K l y fr lo n0 k0 r w' pc L (.long y0 :: .long x :: S) w :=
  WP.go (fun p e s m args below meth c H locs ls R cells slots Q X hr hL kk => lv_lor X.1 X.2.1 hd kk) k
theorem wp_lrem {x y0 : Int64} (hd : decode y.2.1 pc = .ok (.lrem, 1)) (hne : ¬ y0 = 0) (k : WP K l y fr lo n0 k0 r w' (pc + 1) L (.long (x - x / y0 * y0) :: S) w) : WP K l y fr lo n0 k0 r w' pc L (.long y0 :: .long x :: S) w :=
  WP.go (fun p e s m args below meth c H locs ls R cells slots Q X hr hL kk => lv_lrem X.1 X.2.1 hd hne kk) k
theorem wp_ineg {x : Int32} (hd : decode y.2.1 pc = .ok (.ineg, 1)) (k : WP K l y fr lo n0 k0 r w' (pc + 1) L (.int (-x) :: S) w) : WP K l y fr lo n0 k0 r w' pc L (.int x :: S) w :=
  WP.go (fun p e s m args below meth c H locs ls R cells slots Q X hr hL kk => lv_ineg X.1 X.2.1 hd kk) k
theorem wp_i2l {x : Int32} (hd : decode y.2.1 pc = .ok (.i2l, 1)) (k : WP K l y fr lo n0 k0 r w' (pc + 1) L (.long x.toInt64 :: S) w) : WP K l y fr lo n0 k0 r w' pc L (.int x :: S) w :=
  WP.go (fun p e s m args below meth c H locs ls R cells slots Q X hr hL kk => lv_i2l X.1 X.2.1 hd rfl kk) k
theorem wp_l2i {x : Int64} (hd : decode y.2.1 pc = .ok (.l2i, 1)) (k : WP K l y fr lo n0 k0 r w' (pc + 1) L (.int x.toInt32 :: S) w) : WP K l y fr lo n0 k0 r w' pc L (.long x :: S) w :=
  WP.go (fun p e s m args below meth c H locs ls R cells slots Q X hr hL kk => lv_l2i X.1 X.2.1 hd rfl kk) k
theorem wp_dup {v : Value} (hd : decode y.2.1 pc = .ok (.dup, 1)) (hv : v.category = 1) (k : WP K l y fr lo n0 k0 r w' (pc + 1) L (v :: v :: S) w) : WP K l y fr lo n0 k0 r w' pc L (v :: S) w :=
  WP.go (fun p e s m args below meth c H locs ls R cells slots Q X hr hL kk => lv_dup X.1 X.2.1 hd ((cv_cat v).trans hv) kk) k
theorem wp_pop {v : Value} (hd : decode y.2.1 pc = .ok (.pop, 1)) (hv : v.category = 1) (k : WP K l y fr lo n0 k0 r w' (pc + 1) L S w) : WP K l y fr lo n0 k0 r w' pc L (v :: S) w :=
  WP.go (fun p e s m args below meth c H locs ls R cells slots Q X hr hL kk => lv_pop X.1 X.2.1 hd ((cv_cat v).trans hv) kk) k
theorem wp_dup2 {v u : Value} (hd : decode y.2.1 pc = .ok (.dup2, 1)) (hv : v.category = 1) (hu : u.category = 1) (k : WP K l y fr lo n0 k0 r w' (pc + 1) L (v :: u :: v :: u :: S) w) : WP K l y fr lo n0 k0 r w' pc L (v :: u :: S) w :=
  WP.go (fun p e s m args below meth c H locs ls R cells slots Q X hr hL kk => lv_dup2_11 X.1 X.2.1 hd ((cv_cat v).trans hv) ((cv_cat u).trans hu) kk) k
theorem wp_if_eq {x : Int32} {off : Int} {tgt : Nat} (hd : decode y.2.1 pc = .ok (.ifCond .eq off, 3)) (ht : (pc : Int) + off = (tgt : Int)) (kt : x = 0 → WP K l y fr lo n0 k0 r w' tgt L S w) (kf : ¬ x = 0 → WP K l y fr lo n0 k0 r w' (pc + 3) L S w) : WP K l y fr lo n0 k0 r w' pc L (.int x :: S) w := by
  by_cases h : x = 0
  · exact WP.go (fun p e s m args below meth c H locs ls R cells slots Q X hr hL kk => lv_if_eq X.1 X.2.1 hd ht (fun _ => kk) (fun q => absurd h q)) (kt h)
  · exact WP.go (fun p e s m args below meth c H locs ls R cells slots Q X hr hL kk => lv_if_eq X.1 X.2.1 hd ht (fun q => absurd q h) (fun _ => kk)) (kf h)
theorem wp_if_lt {x : Int32} {off : Int} {tgt : Nat} (hd : decode y.2.1 pc = .ok (.ifCond .lt off, 3)) (ht : (pc : Int) + off = (tgt : Int)) (kt : x < 0 → WP K l y fr lo n0 k0 r w' tgt L S w) (kf : ¬ x < 0 → WP K l y fr lo n0 k0 r w' (pc + 3) L S w) : WP K l y fr lo n0 k0 r w' pc L (.int x :: S) w := by
  by_cases h : x < 0
  · exact WP.go (fun p e s m args below meth c H locs ls R cells slots Q X hr hL kk => lv_if_lt X.1 X.2.1 hd ht (fun _ => kk) (fun q => absurd h q)) (kt h)
  · exact WP.go (fun p e s m args below meth c H locs ls R cells slots Q X hr hL kk => lv_if_lt X.1 X.2.1 hd ht (fun q => absurd q h) (fun _ => kk)) (kf h)
theorem wp_if_ge {x : Int32} {off : Int} {tgt : Nat} (hd : decode y.2.1 pc = .ok (.ifCond .ge off, 3)) (ht : (pc : Int) + off = (tgt : Int)) (kt : 0 ≤ x → WP K l y fr lo n0 k0 r w' tgt L S w) (kf : ¬ 0 ≤ x → WP K l y fr lo n0 k0 r w' (pc + 3) L S w) : WP K l y fr lo n0 k0 r w' pc L (.int x :: S) w := by
  by_cases h : 0 ≤ x
  · exact WP.go (fun p e s m args below meth c H locs ls R cells slots Q X hr hL kk => lv_if_ge X.1 X.2.1 hd ht (fun _ => kk) (fun q => absurd h q)) (kt h)
  · exact WP.go (fun p e s m args below meth c H locs ls R cells slots Q X hr hL kk => lv_if_ge X.1 X.2.1 hd ht (fun q => absurd q h) (fun _ => kk)) (kf h)
theorem wp_if_gt {x : Int32} {off : Int} {tgt : Nat} (hd : decode y.2.1 pc = .ok (.ifCond .gt off, 3)) (ht : (pc : Int) + off = (tgt : Int)) (kt : 0 < x → WP K l y fr lo n0 k0 r w' tgt L S w) (kf : ¬ 0 < x → WP K l y fr lo n0 k0 r w' (pc + 3) L S w) : WP K l y fr lo n0 k0 r w' pc L (.int x :: S) w := by
  by_cases h : 0 < x
  · exact WP.go (fun p e s m args below meth c H locs ls R cells slots Q X hr hL kk => lv_if_gt X.1 X.2.1 hd ht (fun _ => kk) (fun q => absurd h q)) (kt h)
  · exact WP.go (fun p e s m args below meth c H locs ls R cells slots Q X hr hL kk => lv_if_gt X.1 X.2.1 hd ht (fun q => absurd q h) (fun _ => kk)) (kf h)
theorem wp_if_le {x : Int32} {off : Int} {tgt : Nat} (hd : decode y.2.1 pc = .ok (.ifCond .le off, 3)) (ht : (pc : Int) + off = (tgt : Int)) (kt : x ≤ 0 → WP K l y fr lo n0 k0 r w' tgt L S w) (kf : ¬ x ≤ 0 → WP K l y fr lo n0 k0 r w' (pc + 3) L S w) : WP K l y fr lo n0 k0 r w' pc L (.int x :: S) w := by
  by_cases h : x ≤ 0
  · exact WP.go (fun p e s m args below meth c H locs ls R cells slots Q X hr hL kk => lv_if_le X.1 X.2.1 hd ht (fun _ => kk) (fun q => absurd h q)) (kt h)
  · exact WP.go (fun p e s m args below meth c H locs ls R cells slots Q X hr hL kk => lv_if_le X.1 X.2.1 hd ht (fun q => absurd q h) (fun _ => kk)) (kf h)
theorem wp_if_ne {x : Int32} {off : Int} {tgt : Nat} (hd : decode y.2.1 pc = .ok (.ifCond .ne off, 3)) (ht : (pc : Int) + off = (tgt : Int)) (kt : ¬ x = 0 → WP K l y fr lo n0 k0 r w' tgt L S w) (kf : x = 0 → WP K l y fr lo n0 k0 r w' (pc + 3) L S w) : WP K l y fr lo n0 k0 r w' pc L (.int x :: S) w := by
  by_cases h : x = 0
  · exact WP.go (fun p e s m args below meth c H locs ls R cells slots Q X hr hL kk => lv_if_ne X.1 X.2.1 hd ht (fun q => absurd h q) (fun _ => kk)) (kf h)
  · exact WP.go (fun p e s m args below meth c H locs ls R cells slots Q X hr hL kk => lv_if_ne X.1 X.2.1 hd ht (fun _ => kk) (fun q => absurd q h)) (kt h)
theorem wp_icmp_eq {x y0 : Int32} {off : Int} {tgt : Nat} (hd : decode y.2.1 pc = .ok (.if_icmp .eq off, 3)) (ht : (pc : Int) + off = (tgt : Int)) (kt : x = y0 → WP K l y fr lo n0 k0 r w' tgt L S w) (kf : ¬ x = y0 → WP K l y fr lo n0 k0 r w' (pc + 3) L S w) : WP K l y fr lo n0 k0 r w' pc L (.int y0 :: .int x :: S) w := by
  by_cases h : x = y0
  · exact WP.go (fun p e s m args below meth c H locs ls R cells slots Q X hr hL kk => lv_icmp_eq X.1 X.2.1 hd ht (fun _ => kk) (fun q => absurd h q)) (kt h)
  · exact WP.go (fun p e s m args below meth c H locs ls R cells slots Q X hr hL kk => lv_icmp_eq X.1 X.2.1 hd ht (fun q => absurd q h) (fun _ => kk)) (kf h)
theorem wp_icmp_lt {x y0 : Int32} {off : Int} {tgt : Nat} (hd : decode y.2.1 pc = .ok (.if_icmp .lt off, 3)) (ht : (pc : Int) + off = (tgt : Int)) (kt : x < y0 → WP K l y fr lo n0 k0 r w' tgt L S w) (kf : ¬ x < y0 → WP K l y fr lo n0 k0 r w' (pc + 3) L S w) : WP K l y fr lo n0 k0 r w' pc L (.int y0 :: .int x :: S) w := by
  by_cases h : x < y0
  · exact WP.go (fun p e s m args below meth c H locs ls R cells slots Q X hr hL kk => lv_icmp_lt X.1 X.2.1 hd ht (fun _ => kk) (fun q => absurd h q)) (kt h)
  · exact WP.go (fun p e s m args below meth c H locs ls R cells slots Q X hr hL kk => lv_icmp_lt X.1 X.2.1 hd ht (fun q => absurd q h) (fun _ => kk)) (kf h)
theorem wp_icmp_ge {x y0 : Int32} {off : Int} {tgt : Nat} (hd : decode y.2.1 pc = .ok (.if_icmp .ge off, 3)) (ht : (pc : Int) + off = (tgt : Int)) (kt : y0 ≤ x → WP K l y fr lo n0 k0 r w' tgt L S w) (kf : ¬ y0 ≤ x → WP K l y fr lo n0 k0 r w' (pc + 3) L S w) : WP K l y fr lo n0 k0 r w' pc L (.int y0 :: .int x :: S) w := by
  by_cases h : y0 ≤ x
  · exact WP.go (fun p e s m args below meth c H locs ls R cells slots Q X hr hL kk => lv_icmp_ge X.1 X.2.1 hd ht (fun _ => kk) (fun q => absurd h q)) (kt h)
  · exact WP.go (fun p e s m args below meth c H locs ls R cells slots Q X hr hL kk => lv_icmp_ge X.1 X.2.1 hd ht (fun q => absurd q h) (fun _ => kk)) (kf h)
theorem wp_icmp_gt {x y0 : Int32} {off : Int} {tgt : Nat} (hd : decode y.2.1 pc = .ok (.if_icmp .gt off, 3)) (ht : (pc : Int) + off = (tgt : Int)) (kt : y0 < x → WP K l y fr lo n0 k0 r w' tgt L S w) (kf : ¬ y0 < x → WP K l y fr lo n0 k0 r w' (pc + 3) L S w) : WP K l y fr lo n0 k0 r w' pc L (.int y0 :: .int x :: S) w := by
  by_cases h : y0 < x
  · exact WP.go (fun p e s m args below meth c H locs ls R cells slots Q X hr hL kk => lv_icmp_gt X.1 X.2.1 hd ht (fun _ => kk) (fun q => absurd h q)) (kt h)
  · exact WP.go (fun p e s m args below meth c H locs ls R cells slots Q X hr hL kk => lv_icmp_gt X.1 X.2.1 hd ht (fun q => absurd q h) (fun _ => kk)) (kf h)
theorem wp_icmp_le {x y0 : Int32} {off : Int} {tgt : Nat} (hd : decode y.2.1 pc = .ok (.if_icmp .le off, 3)) (ht : (pc : Int) + off = (tgt : Int)) (kt : x ≤ y0 → WP K l y fr lo n0 k0 r w' tgt L S w) (kf : ¬ x ≤ y0 → WP K l y fr lo n0 k0 r w' (pc + 3) L S w) : WP K l y fr lo n0 k0 r w' pc L (.int y0 :: .int x :: S) w := by
  by_cases h : x ≤ y0
  · exact WP.go (fun p e s m args below meth c H locs ls R cells slots Q X hr hL kk => lv_icmp_le X.1 X.2.1 hd ht (fun _ => kk) (fun q => absurd h q)) (kt h)
  · exact WP.go (fun p e s m args below meth c H locs ls R cells slots Q X hr hL kk => lv_icmp_le X.1 X.2.1 hd ht (fun q => absurd q h) (fun _ => kk)) (kf h)
theorem wp_icmp_ne {x y0 : Int32} {off : Int} {tgt : Nat} (hd : decode y.2.1 pc = .ok (.if_icmp .ne off, 3)) (ht : (pc : Int) + off = (tgt : Int)) (kt : ¬ x = y0 → WP K l y fr lo n0 k0 r w' tgt L S w) (kf : x = y0 → WP K l y fr lo n0 k0 r w' (pc + 3) L S w) : WP K l y fr lo n0 k0 r w' pc L (.int y0 :: .int x :: S) w := by
  by_cases h : x = y0
  · exact WP.go (fun p e s m args below meth c H locs ls R cells slots Q X hr hL kk => lv_icmp_ne X.1 X.2.1 hd ht (fun q => absurd h q) (fun _ => kk)) (kf h)
  · exact WP.go (fun p e s m args below meth c H locs ls R cells slots Q X hr hL kk => lv_icmp_ne X.1 X.2.1 hd ht (fun _ => kk) (fun q => absurd q h)) (kt h)
theorem wp_goto {off : Int} {tgt : Nat} (hd : decode y.2.1 pc = .ok (.goto off, 3)) (ht : (pc : Int) + off = (tgt : Int)) (k : WP K l y fr lo n0 k0 r w' tgt L S w) : WP K l y fr lo n0 k0 r w' pc L S w :=
  WP.go (fun p e s m args below meth c H locs ls R cells slots Q X hr hL kk => lv_goto X.1 X.2.1 hd ht kk) k
theorem wp_i2c {x : Int32} (hd : decode y.2.1 pc = .ok (.i2c, 1)) (k : WP K l y fr lo n0 k0 r w' (pc + 1) L (.int (x.toUInt32 % 65536).toInt32 :: S) w) : WP K l y fr lo n0 k0 r w' pc L (.int x :: S) w :=
  WP.go (fun p e s m args below meth c H locs ls R cells slots Q X hr hL kk => lv_i2c X.1 X.2.1 hd rfl kk) k
theorem wp_i2b {x : Int32} (hd : decode y.2.1 pc = .ok (.i2b, 1)) (k : WP K l y fr lo n0 k0 r w' (pc + 1) L (.int x.toInt8.toInt32 :: S) w) : WP K l y fr lo n0 k0 r w' pc L (.int x :: S) w :=
  WP.go (fun p e s m args below meth c H locs ls R cells slots Q X hr hL kk => lv_i2b X.1 X.2.1 hd rfl kk) k
theorem wp_iushr {x y0 : Int32} (hd : decode y.2.1 pc = .ok (.iushr, 1)) (k : WP K l y fr lo n0 k0 r w' (pc + 1) L (.int (x.toUInt32 >>> (y0.toUInt32 &&& Int32.toUInt32 31)).toInt32 :: S) w) : WP K l y fr lo n0 k0 r w' pc L (.int y0 :: .int x :: S) w :=
  WP.go (fun p e s m args below meth c H locs ls R cells slots Q X hr hL kk => lv_iushr X.1 X.2.1 hd rfl kk) k
theorem wp_lshl {x : Int64} {y0 : Int32} (hd : decode y.2.1 pc = .ok (.lshl, 1)) (k : WP K l y fr lo n0 k0 r w' (pc + 1) L (.long (x <<< (y0.toInt64 &&& 63)) :: S) w) : WP K l y fr lo n0 k0 r w' pc L (.int y0 :: .long x :: S) w :=
  WP.go (fun p e s m args below meth c H locs ls R cells slots Q X hr hL kk => lv_lshl X.1 X.2.1 hd rfl kk) k
end WPS
end
section
/-! the heap: what is read and written, as computed, and the rows for it -/
def gI (w : XW) (i ci k : Nat) : Option Int32 := match w.2.2 i with
  | .inr (.inr (.inr q)) => if i < w.1 ∧ q.1 = ci then (match q.2[k]? with | some (.int x) => some x | _ => none) else none
  | _ => none
def gR (w : XW) (i ci k : Nat) : Option Nat := match w.2.2 i with
  | .inr (.inr (.inr q)) => if i < w.1 ∧ q.1 = ci then (match q.2[k]? with | some (.ref x) => some x | _ => none) else none
  | _ => none
def pV (w : XW) (i ci k : Nat) (v : Value) : Option XW := match w.2.2 i with
  | .inr (.inr (.inr q)) => if i < w.1 ∧ q.1 = ci ∧ k < q.2.length then some (xput w i (xo ci (q.2.set k v))) else none
  | _ => none
def aI (w : XW) (t i : Nat) (x : Int32) : Option Int32 := match w.2.2 i with
  | .inl q => if i < w.1 ∧ q.1 = t ∧ ¬ (x < 0 ∨ q.2.1 ≤ x.toNatClampNeg) then some (q.2.2 x.toNatClampNeg) else none
  | _ => none
def sI (w : XW) (t i : Nat) (x v : Int32) : Option XW := match w.2.2 i with
  | .inl q => if i < w.1 ∧ q.1 = t ∧ ¬ (x < 0 ∨ q.2.1 ≤ x.toNatClampNeg) then some (xput w i (xi t q.2.1 (upd q.2.2 x.toNatClampNeg v))) else none
  | _ => none
def aJ (w : XW) (i : Nat) (x : Int32) : Option Int64 := match w.2.2 i with
  | .inr (.inl q) => if i < w.1 ∧ ¬ (x < 0 ∨ q.1 ≤ x.toNatClampNeg) then some (q.2 x.toNatClampNeg) else none
  | _ => none
def sJ (w : XW) (i : Nat) (x : Int32) (v : Int64) : Option XW := match w.2.2 i with
  | .inr (.inl q) => if i < w.1 ∧ ¬ (x < 0 ∨ q.1 ≤ x.toNatClampNeg) then some (xput w i (xl q.1 (vp_updL q.2 x.toNatClampNeg v))) else none
  | _ => none
def aR (w : XW) (t i : Nat) (x : Int32) : Option Nat := match w.2.2 i with
  | .inr (.inr (.inl q)) => if i < w.1 ∧ q.1 = t ∧ ¬ (x < 0 ∨ q.2.1 ≤ x.toNatClampNeg) then q.2.2 x.toNatClampNeg else none
  | _ => none
def sR (w : XW) (t i : Nat) (x : Int32) (j ec : Nat) : Option XW := match w.2.2 i with
  | .inr (.inr (.inl q)) => (match w.2.2 j with
    | .inr (.inr (.inr o)) => if i < w.1 ∧ q.1 = t ∧ ¬ (x < 0 ∨ q.2.1 ≤ x.toNatClampNeg) ∧ j < w.1 ∧ o.1 = ec then some (xput w i (xr t q.2.1 (va_up q.2.2 x.toNatClampNeg (some j)))) else none
    | _ => none)
  | _ => none
def eI (K : CX) (u : UInt32) (x : Int32) : Option Int32 := if (u = 0 ∨ u = 1) ∧ ¬ (x < 0 ∨ (K.2.2.1 u).1 ≤ x.toNatClampNeg) then some ((K.2.2.1 u).2 x.toNatClampNeg) else none
section HP
variable {K : CX} {l : Launch} {y : MR} {fr lo n0 k0 : Nat} {r : Option Value} {w' : XW} {pc : Nat} {L L1 : List (Option Value)} {S S1 : List Value} {w w1 : XW} {pc1 : Nat}
theorem gI_spec {i ci k : Nat} {x : Int32} (h : gI w i ci k = some x) : ∃ fs, xat w i (xo ci fs) ∧ fs[k]? = some (.int x) := by
  unfold gI at h
  split at h
  · rename_i q hq
    split at h
    · rename_i hc
      obtain ⟨h1, rfl⟩ := hc
      split at h
      · rename_i x0 hx
        cases h
        exact ⟨q.2, ⟨h1, hq⟩, hx⟩
      · cases h
    · cases h
  · cases h
theorem gR_spec {i ci k : Nat} {x : Nat} (h : gR w i ci k = some x) : ∃ fs, xat w i (xo ci fs) ∧ fs[k]? = some (.ref x) := by
  unfold gR at h
  split at h
  · rename_i q hq
    split at h
    · rename_i hc
      obtain ⟨h1, rfl⟩ := hc
      split at h
      · rename_i x0 hx
        cases h
        exact ⟨q.2, ⟨h1, hq⟩, hx⟩
      · cases h
    · cases h
  · cases h
theorem pV_spec {i ci k : Nat} {v : Value} (h : pV w i ci k v = some w1) : ∃ fs, xat w i (xo ci fs) ∧ k < fs.length ∧ w1 = xput w i (xo ci (fs.set k v)) := by
  unfold pV at h
  split at h
  · rename_i q hq
    split at h
    · rename_i hc
      obtain ⟨h1, rfl, h2⟩ := hc
      cases h
      exact ⟨q.2, ⟨h1, hq⟩, h2, rfl⟩
    · cases h
  · cases h
theorem aI_spec {t i : Nat} {x v : Int32} (h : aI w t i x = some v) : ∃ n f, xat w i (xi t n f) ∧ ¬ (x < 0 ∨ n ≤ x.toNatClampNeg) ∧ v = f x.toNatClampNeg := by
  unfold aI at h
  split at h
  · rename_i q hq
    split at h
    · rename_i hc
      obtain ⟨h1, rfl, h2⟩ := hc
      cases h
      exact ⟨q.2.1, q.2.2, ⟨h1, hq⟩, h2, rfl⟩
    · cases h
  · cases h
theorem sI_spec {t i : Nat} {x v : Int32} (h : sI w t i x v = some w1) : ∃ n f, xat w i (xi t n f) ∧ ¬ (x < 0 ∨ n ≤ x.toNatClampNeg) ∧ w1 = xput w i (xi t n (upd f x.toNatClampNeg v)) := by
  unfold sI at h
  split at h
  · rename_i q hq
    split at h
    · rename_i hc
      obtain ⟨h1, rfl, h2⟩ := hc
      cases h
      exact ⟨q.2.1, q.2.2, ⟨h1, hq⟩, h2, rfl⟩
    · cases h
  · cases h
theorem aJ_spec {i : Nat} {x : Int32} {v : Int64} (h : aJ w i x = some v) : ∃ n f, xat w i (xl n f) ∧ ¬ (x < 0 ∨ n ≤ x.toNatClampNeg) ∧ v = f x.toNatClampNeg := by
  unfold aJ at h
  split at h
  · rename_i q hq
    split at h
    · rename_i hc
      obtain ⟨h1, h2⟩ := hc
      cases h
      exact ⟨q.1, q.2, ⟨h1, hq⟩, h2, rfl⟩
    · cases h
  · cases h
theorem sJ_spec {i : Nat} {x : Int32} {v : Int64} (h : sJ w i x v = some w1) : ∃ n f, xat w i (xl n f) ∧ ¬ (x < 0 ∨ n ≤ x.toNatClampNeg) ∧ w1 = xput w i (xl n (vp_updL f x.toNatClampNeg v)) := by
  unfold sJ at h
  split at h
  · rename_i q hq
    split at h
    · rename_i hc
      obtain ⟨h1, h2⟩ := hc
      cases h
      exact ⟨q.1, q.2, ⟨h1, hq⟩, h2, rfl⟩
    · cases h
  · cases h
theorem aR_spec {t i j : Nat} {x : Int32} (h : aR w t i x = some j) : ∃ n f, xat w i (xr t n f) ∧ ¬ (x < 0 ∨ n ≤ x.toNatClampNeg) ∧ f x.toNatClampNeg = some j := by
  unfold aR at h
  split at h
  · rename_i q hq
    split at h
    · rename_i hc
      obtain ⟨h1, rfl, h2⟩ := hc
      exact ⟨q.2.1, q.2.2, ⟨h1, hq⟩, h2, h⟩
    · cases h
  · cases h
theorem sR_spec {t i j ec : Nat} {x : Int32} (h : sR w t i x j ec = some w1) : ∃ n f vs, xat w i (xr t n f) ∧ xat w j (xo ec vs) ∧ ¬ (x < 0 ∨ n ≤ x.toNatClampNeg) ∧ w1 = xput w i (xr t n (va_up f x.toNatClampNeg (some j))) := by
  unfold sR at h
  split at h
  · rename_i q hq
    split at h
    · rename_i o ho
      split at h
      · rename_i hc
        obtain ⟨h1, rfl, h2, h3, rfl⟩ := hc
        cases h
        exact ⟨q.2.1, q.2.2, o.2, ⟨h1, hq⟩, ⟨h3, ho⟩, h2, rfl⟩
      · cases h
    · cases h
  · cases h
/-- a class's rows, as the tables have them -/
def okc (ci : Nat) (C : String) (T : u_T) (N : Nat) (ty : Nat → FieldType) : Prop := classes[ci]? = some (C, T, N) ∧ (∀ u ∈ u_ws C T N, u ∈ TBL) ∧ (∀ k, k < N → parseFieldDescriptor (T k).2.2.1 = some (ty k)) ∧ (∀ a, a < N → ∀ b, b < N → a ≠ b → (T a).2.1 ≠ (T b).2.1)
theorem rep.at {i : Nat} {c : XC} {H : Heap} (hr : rep K w H) (h : xat w i c) : xcell K (cB K + i) c H := by
  have h1 := hr.2.1 i h.1
  rw [h.2] at h1
  exact h1
theorem Stn.wd {p : Program} {s : State} {m : MethodId} {args : Array Value} {meth : Method} {c : Code} (X : Stn K y p s m args meth c) {u : Cond} (h : u ∈ TBL) : u.before args s = true := X.2.2.2.2.1 u (wsM_in h)
theorem wp_getV {i ci k idx : Nat} {C : String} {T : u_T} {N : Nat} {ty : Nat → FieldType} {v : Value} {fs : List Value} (ok : okc ci C T N ty) (hk : k < N) (hl : Cond.fieldLink y.1.cls idx (T k).1 (T k).2.1 (T k).2.2.1 ∈ TBL) (hd : decode y.2.1 pc = .ok (.getfield idx, 3)) (hx : xat w i (xo ci fs)) (hv : fs[k]? = some v) (kk : WP K l y fr lo n0 k0 r w' (pc + 3) L (v :: S) w) : WP K l y fr lo n0 k0 r w' pc L (.ref i :: S) w := by
  refine WP.go (fun p e s m args below meth c H locs ls R cells slots Q X hr hL k1 => ?_) kk
  have hP : va_P (cD K) classes [(cB K + i, .inr (ci, fs.map (cv K)))] H := by
    intro j q hj
    cases j with
    | zero => simp at hj; subst hj; exact hr.at hx
    | succ j => simp at hj
  exact va_get (D := cD K) (cl := classes) (Ts := wsM y) X.1 X.2.1 X.2.2.2.2.1 (fun u hu => wsM_in (ok.2.1 u hu)) X.2.2.2.1 X.2.2.2.2.2.2.2.2.1.1 hP 0 rfl ok.1 k hk (X.wd hl) (fun _ h => h) (v := cv K v) (by rw [List.getElem?_map, hv]; rfl) hd k1
theorem wp_getI {i ci k idx : Nat} {C : String} {T : u_T} {N : Nat} {ty : Nat → FieldType} {x : Int32} (ok : okc ci C T N ty) (hk : k < N) (hl : Cond.fieldLink y.1.cls idx (T k).1 (T k).2.1 (T k).2.2.1 ∈ TBL) (hd : decode y.2.1 pc = .ok (.getfield idx, 3)) (h : gI w i ci k = some x) (kk : WP K l y fr lo n0 k0 r w' (pc + 3) L (.int x :: S) w) : WP K l y fr lo n0 k0 r w' pc L (.ref i :: S) w := by
  obtain ⟨fs, h1, h2⟩ := gI_spec h
  exact wp_getV ok hk hl hd h1 h2 kk
theorem wp_getR {i ci k idx : Nat} {C : String} {T : u_T} {N : Nat} {ty : Nat → FieldType} {x : Nat} (ok : okc ci C T N ty) (hk : k < N) (hl : Cond.fieldLink y.1.cls idx (T k).1 (T k).2.1 (T k).2.2.1 ∈ TBL) (hd : decode y.2.1 pc = .ok (.getfield idx, 3)) (h : gR w i ci k = some x) (kk : WP K l y fr lo n0 k0 r w' (pc + 3) L (.ref x :: S) w) : WP K l y fr lo n0 k0 r w' pc L (.ref i :: S) w := by
  obtain ⟨fs, h1, h2⟩ := gR_spec h
  exact wp_getV ok hk hl hd h1 h2 kk
theorem lcs {locs : List Loc} {a k : Nat} (h : ∀ q ∈ locs, cA K q.base) (ha : cB K ≤ a) : ∀ q ∈ locs ++ [⟨a, k⟩], cA K q.base := by
  intro q hq
  rcases List.mem_append.mp hq with h1 | h1
  · exact h q h1
  · rw [List.mem_singleton.mp h1]; exact ha
theorem wp_putV {i ci k idx : Nat} {C : String} {T : u_T} {N : Nat} {ty : Nat → FieldType} {v : Value} (ok : okc ci C T N ty) (hk : k < N) (hfin : (T k).2.2.2 = false) (hl : Cond.fieldLink y.1.cls idx (T k).1 (T k).2.1 (T k).2.2.1 ∈ TBL) (hd : decode y.2.1 pc = .ok (.putfield idx, 3)) (hn : narrow (ty k) (cv K v) = cv K v) (hf : fits (ty k) (cv K v) = true) (h : pV w i ci k v = some w1) (kk : WP K l y fr lo n0 k0 r w' (pc + 3) L S w1) : WP K l y fr lo n0 k0 r w' pc L (v :: .ref i :: S) w := by
  obtain ⟨fs, hx, hlen, rfl⟩ := pV_spec h
  refine WP.lift (w1 := xput w i (xo ci (fs.set k v))) (Nat.le_refl _) (Nat.le_refl _) (fun p e s m args below meth c H locs ls R Q X hr hlo hL _ _ _ _ _ _ k1 => ?_) kk
  have hts := X.2.2.2.2.1
  have hin : ∀ u ∈ u_ws C T N, u ∈ wsM y := fun u hu => wsM_in (ok.2.1 u hu)
  have hK := X.2.2.2.2.2.2.2.2.1.1
  have hap := va_apart (own := y.1.cls) hts hin ty ok.2.2.1 ok.2.2.2 hK ok.1
  obtain ⟨rr, h1, cell, q1, q2, q3, q4⟩ := hr.at hx
  have hrr : rr = (C, T, N) := Option.some.inj (h1.symm.trans ok.1)
  subst hrr
  obtain ⟨hS, hfc, kC, hkC, hkind⟩ := hK.1 ci _ ok.1
  obtain ⟨cf, kf, fi, f, hi, hsl⟩ := hS k hk
  have hlay := hts _ (hin _ (u_in_lay hk))
  unfold u_lay at hlay
  rw [if_neg (by rw [hfin]; decide)] at hlay
  have hst := (u_facts hfc hkC (u_lays hts hin hk) hi).1
  have h6 := u_store hfc hkC hkind hlay hi (ok.2.2.1 k hk) hn hf
  refine W.putK X.1 X.2.1 (f := f) ⟨X.2.2.2.1, X.wd hl, ⟨_, _, _, hi⟩, hst⟩ (by rw [q2]; exact h6) q1 q3 (by rw [hsl]; exact k2_hasslot (q4 k hk)) rfl rfl hd fun H' e1 e2 e3 => ?_
  rw [hsl] at e1 ⊢
  refine k1 H' _ ls (hr.put e2 ⟨_, ok.1, ?_⟩ e3) (lcs hlo (Nat.le_add_right _ _)) hL
  show t_OB _ _ _ _ _ (vp_V ((fs.set k v).map (cv K)))
  rw [List.map_set]
  exact t_OB.to (V := updV (vp_V (fs.map (cv K))) k (cv K v)) ⟨_, e1, q2, q3, t_set q4 hap hk (cv K v)⟩ (fun j _ => vp_updV_set (by rw [List.length_map]; exact hlen) (cv K v) j)
theorem wp_putF {i ci k idx : Nat} {C : String} {T : u_T} {N : Nat} {ty : Nat → FieldType} {v : Value} (ok : okc ci C T N ty) (hk : k < N) (hfin : (T k).2.2.2 = true) (hown : (T k).1 = y.1.cls) (hini : y.1.name = "<init>") (hl : Cond.fieldLink y.1.cls idx (T k).1 (T k).2.1 (T k).2.2.1 ∈ TBL) (hd : decode y.2.1 pc = .ok (.putfield idx, 3)) (hn : narrow (ty k) (cv K v) = cv K v) (hf : fits (ty k) (cv K v) = true) (h : pV w i ci k v = some w1) (kk : WP K l y fr lo n0 k0 r w' (pc + 3) L S w1) : WP K l y fr lo n0 k0 r w' pc L (v :: .ref i :: S) w := by
  obtain ⟨fs, hx, hlen, rfl⟩ := pV_spec h
  refine WP.lift (w1 := xput w i (xo ci (fs.set k v))) (Nat.le_refl _) (Nat.le_refl _) (fun p e s m args below meth c H locs ls R Q X hr hlo hL _ _ _ _ _ _ k1 => ?_) kk
  have hts := X.2.2.2.2.1
  have hin : ∀ u ∈ u_ws C T N, u ∈ wsM y := fun u hu => wsM_in (ok.2.1 u hu)
  have hK := X.2.2.2.2.2.2.2.2.1.1
  have hap := va_apart (own := y.1.cls) hts hin ty ok.2.2.1 ok.2.2.2 hK ok.1
  obtain ⟨rr, h1, cell, q1, q2, q3, q4⟩ := hr.at hx
  have hrr : rr = (C, T, N) := Option.some.inj (h1.symm.trans ok.1)
  subst hrr
  obtain ⟨hS, hfc, kC, hkC, hkind⟩ := hK.1 ci _ ok.1
  obtain ⟨cf, kf, fi, f, hi, hsl⟩ := hS k hk
  have hlay := hts _ (hin _ (u_in_lay hk))
  unfold u_lay at hlay
  rw [if_pos hfin] at hlay
  have hst := (u_facts hfc hkC (u_lays hts hin hk) hi).1
  have hcf : m.cls = cf := by
    obtain ⟨_, _, c', _, _, _, -, -, hf', -, -, -, hown2, -⟩ := Cond.laysFinal_spec hlay
    have e1 : c' = cf := by have := hi.symm.trans hf'; simp at this; exact this.1.symm
    rw [hown] at hown2
    rw [← e1]; exact Option.some.inj (X.2.2.2.1.symm.trans hown2)
  have h6 := u_fits hfc hkC hkind (Or.inr hlay) hi (ok.2.2.1 k hk) hn hf
  refine W.putFinK X.1 X.2.1 X.2.2.2.1 (X.wd hl) hi hst hcf (X.2.2.2.2.2.2.2.1.trans hini) (by rw [q2]; exact h6) q1 q3 (by rw [hsl]; exact k2_hasslot (q4 k hk)) rfl rfl hd fun H' e1 e2 e3 => ?_
  rw [hsl] at e1 ⊢
  refine k1 H' _ ls (hr.put e2 ⟨_, ok.1, ?_⟩ e3) (lcs hlo (Nat.le_add_right _ _)) hL
  show t_OB _ _ _ _ _ (vp_V ((fs.set k v).map (cv K)))
  rw [List.map_set]
  exact t_OB.to (V := updV (vp_V (fs.map (cv K))) k (cv K v)) ⟨_, e1, q2, q3, t_set q4 hap hk (cv K v)⟩ (fun j _ => vp_updV_set (by rw [List.length_map]; exact hlen) (cv K v) j)
end HP
end
section
/-! arrays, new cells -/
section AR
variable {K : CX} {l : Launch} {y : MR} {fr lo n0 k0 : Nat} {r : Option Value} {w' : XW} {pc : Nat} {L L1 : List (Option Value)} {S S1 : List Value} {w w1 : XW} {pc1 : Nat}
theorem arin {n : Nat} {x : Int32} {cA0 : ClassId} {z : Nat → Value} (h : ¬ (x < 0 ∨ n ≤ x.toNatClampNeg)) : ¬ (x < 0 ∨ (arrV cA0 n z).slots.size ≤ x.toNatClampNeg) := by rw [arrV_size]; exact h
theorem arrd {n : Nat} {x : Int32} {cA0 : ClassId} {z : Nat → Value} (h : ¬ (x < 0 ∨ n ≤ x.toNatClampNeg)) : (arrV cA0 n z).slots[x.toNatClampNeg]? = some (z x.toNatClampNeg) := arrV_read _ _ (Nat.not_le.mp fun q => h (Or.inr q))
theorem arvm {cA0 : ClassId} {n : Nat} {z : Nat → Value} : (arrV cA0 n z).vm ≠ .unknown := fun q => by cases q
theorem wp_iald {i : Nat} {x v : Int32} (hd : decode y.2.1 pc = .ok (.iaload, 1)) (h : aI w 0 i x = some v) (kk : WP K l y fr lo n0 k0 r w' (pc + 1) L (.int v :: S) w) : WP K l y fr lo n0 k0 r w' pc L (.int x :: .ref i :: S) w := by
  obtain ⟨n, f, hx, hin, rfl⟩ := aI_spec h
  exact WP.go (fun p e s m args below meth c H locs ls R cells slots Q X hr hL k1 => W.iald X.1 X.2.1 (hr.at hx) ((X.2.2.2.2.2.2.2.2.1.1.2 0 _ rfl).1 n _) arvm (arin hin) (arrd hin) rfl rfl hd k1) kk
theorem wp_cald {i : Nat} {x v : Int32} (hd : decode y.2.1 pc = .ok (.caload, 1)) (h : aI w 1 i x = some v) (kk : WP K l y fr lo n0 k0 r w' (pc + 1) L (.int v :: S) w) : WP K l y fr lo n0 k0 r w' pc L (.int x :: .ref i :: S) w := by
  obtain ⟨n, f, hx, hin, rfl⟩ := aI_spec h
  exact WP.go (fun p e s m args below meth c H locs ls R cells slots Q X hr hL k1 => W.cald X.1 X.2.1 (hr.at hx) ((X.2.2.2.2.2.2.2.2.1.1.2 1 _ rfl).1 n _) arvm (arin hin) (arrd hin) rfl rfl hd k1) kk
theorem wp_bald {i : Nat} {x v : Int32} (hd : decode y.2.1 pc = .ok (.baload, 1)) (h : aI w 2 i x = some v) (kk : WP K l y fr lo n0 k0 r w' (pc + 1) L (.int v :: S) w) : WP K l y fr lo n0 k0 r w' pc L (.int x :: .ref i :: S) w := by
  obtain ⟨n, f, hx, hin, rfl⟩ := aI_spec h
  exact WP.go (fun p e s m args below meth c H locs ls R cells slots Q X hr hL k1 => W.bald X.1 X.2.1 (hr.at hx) ((X.2.2.2.2.2.2.2.2.1.1.2 2 _ rfl).1 n _) arvm (arin hin) (arrd hin) rfl rfl hd k1) kk
theorem wp_lald {i : Nat} {x : Int32} {v : Int64} (hd : decode y.2.1 pc = .ok (.laload, 1)) (h : aJ w i x = some v) (kk : WP K l y fr lo n0 k0 r w' (pc + 1) L (.long v :: S) w) : WP K l y fr lo n0 k0 r w' pc L (.int x :: .ref i :: S) w := by
  obtain ⟨n, f, hx, hin, rfl⟩ := aJ_spec h
  exact WP.go (fun p e s m args below meth c H locs ls R cells slots Q X hr hL k1 => W.lald X.1 X.2.1 (hr.at hx) ((X.2.2.2.2.2.2.2.2.1.1.2 3 _ rfl).1 n _) arvm (arin hin) (arrd hin) rfl rfl hd k1) kk
theorem wp_aald {t i j : Nat} {C : String} {x : Int32} (ht : (tysK K)[4 + t]? = some (cI K (4 + t), .object C)) (hd : decode y.2.1 pc = .ok (.aaload, 1)) (h : aR w t i x = some j) (kk : WP K l y fr lo n0 k0 r w' (pc + 1) L (.ref j :: S) w) : WP K l y fr lo n0 k0 r w' pc L (.int x :: .ref i :: S) w := by
  obtain ⟨n, f, hx, hin, hj⟩ := aR_spec h
  exact WP.go (fun p e s m args below meth c H locs ls R cells slots Q X hr hL k1 => W.aald (v := .ref (cB K + j)) (ty := .object C) X.1 X.2.1 (hr.at hx) ((X.2.2.2.2.2.2.2.2.1.1.2 (4 + t) _ ht).1 n _) rfl arvm (arin hin) (by rw [arrd hin]; show some (cvr K (f x.toNatClampNeg)) = _; rw [hj]; rfl) rfl rfl hd k1) kk
theorem wp_eald {u : UInt32} {x v : Int32} (hd : decode y.2.1 pc = .ok (.iaload, 1)) (h : eI K u x = some v) (kk : WP K l y fr lo n0 k0 r w' (pc + 1) L (.int v :: S) w) : WP K l y fr lo n0 k0 r w' pc L (.int x :: .float u :: S) w := by
  unfold eI at h
  split at h
  · rename_i hc
    cases h
    refine WP.go (fun p e s m args below meth c H locs ls R cells slots Q X hr hL k1 => ?_) kk
    obtain ⟨cell, h1, h2, h3, h4, h5, h6, h7⟩ := X.2.2.2.2.2.2.2.2.1.2.2.2.1 u hc.1
    have hb : K.2.1 u < cB K := (Array.getElem?_eq_some_iff.mp h1).1
    have hlt : x.toNatClampNeg < (K.2.2.1 u).1 := Nat.not_le.mp fun q => hc.2 (Or.inr q)
    exact W.iald (v := .int ((K.2.2.1 u).2 x.toNatClampNeg)) X.1 X.2.1 (by rw [hr.2.2 _ hb]; exact h1) h2 h3 (fun q => hc.2 (q.imp id (fun z => by omega))) (h6 _ hlt) rfl rfl hd k1
  · cases h
theorem wp_elen {u : UInt32} {v : Int32} (hu : u = 0 ∨ u = 1) (hv : Int32.ofNat (K.2.2.1 u).1 = v) (hd : decode y.2.1 pc = .ok (.arraylength, 1)) (kk : WP K l y fr lo n0 k0 r w' (pc + 1) L (.int v :: S) w) : WP K l y fr lo n0 k0 r w' pc L (.float u :: S) w := by
  subst hv
  refine WP.go (fun p e s m args below meth c H locs ls R cells slots Q X hr hL k1 => ?_) kk
  obtain ⟨cell, h1, h2, h3, h4, h5, h6, h7⟩ := X.2.2.2.2.2.2.2.2.1.2.2.2.1 u hu
  have hb : K.2.1 u < cB K := (Array.getElem?_eq_some_iff.mp h1).1
  exact W.alen X.1 X.2.1 (by rw [hr.2.2 _ hb]; exact h1) h2 h5 rfl rfl hd k1
theorem wp_primes {idx : Nat} (hl : Cond.fieldLink y.1.cls idx "FractionRun" "PRIMES" "[I" ∈ TBL) (hd : decode y.2.1 pc = .ok (.getstatic idx, 3)) (kk : WP K l y fr lo n0 k0 r w' (pc + 3) L (.float 1 :: S) w) : WP K l y fr lo n0 k0 r w' pc L S w := by
  refine WP.go (fun p e s m args below meth c H locs ls R cells slots Q X hr hL k1 => ?_) kk
  obtain ⟨cf, kf, fi, f, a, cell, h1, h2, h3, h4, h5, h6, h7, h8⟩ := X.2.2.2.2.2.2.2.2.1.2.2.1
  have hb : a < cB K := (Array.getElem?_eq_some_iff.mp h5).1
  exact W.gets X.1 X.2.1 X.2.2.2.1 (X.wd hl) h1 h2 h3 h4 (by rw [hr.2.2 _ hb]; exact h5) (fun e => by rw [e] at h6; cases h6) h7 rfl hd k1
theorem wp_primesN (hy : y.1.cls = "FractionRun$Fractions") (hd : decode y.2.1 pc = .ok (.getstatic 51, 3)) (kk : WP K l y fr lo n0 k0 r w' (pc + 3) L (.float 1 :: S) w) : WP K l y fr lo n0 k0 r w' pc L S w := by
  refine WP.go (fun p e s m args below meth c H locs ls R cells slots Q X hr hL k1 => ?_) kk
  obtain ⟨cf, kf, fi, f, a, cell, h1, h2, h3, h4, h5, h6, h7, h8⟩ := X.2.2.2.2.2.2.2.2.1.2.2.1
  have hb : a < cB K := (Array.getElem?_eq_some_iff.mp h5).1
  exact va_WgetsN X.1 X.2.1 (hy ▸ X.2.2.2.1) (va_Nw.use rfl X.2.2.2.2.2.2.2.2.1.2.1.2) h1 h2 h3 h4 (by rw [hr.2.2 _ hb]; exact h5) (fun e => by rw [e] at h6; cases h6) h7 rfl hd k1
theorem upd_updV {f : Nat → Int32} {k : Nat} {x : Int32} : updV (fun j => .int (f j)) k (.int x) = fun j => .int (upd f k x j) := by
  funext q
  by_cases h : q = k
  · simp [updV, upd, h]
  · simp [updV, upd, h]
theorem wp_iast {i : Nat} {x v : Int32} (hd : decode y.2.1 pc = .ok (.iastore, 1)) (h : sI w 0 i x v = some w1) (kk : WP K l y fr lo n0 k0 r w' (pc + 1) L S w1) : WP K l y fr lo n0 k0 r w' pc L (.int v :: .int x :: .ref i :: S) w := by
  obtain ⟨n, f, hx, hin, rfl⟩ := sI_spec h
  refine WP.lift (w1 := xput w i _) (Nat.le_refl _) (Nat.le_refl _) (fun p e s m args below meth c H locs ls R Q X hr hlo hL _ _ _ _ _ _ k1 => ?_) kk
  refine W.iast X.1 X.2.1 (hr.at hx) ((X.2.2.2.2.2.2.2.2.1.1.2 0 _ rfl).1 n _) arvm (arin hin) rfl rfl hd fun H1 e z oq => ?_
  refine k1 H1 _ ls (hr.put z ?_ oq) (lcs hlo (Nat.le_add_right _ _)) hL
  show H1[cB K + i]? = some (arrV _ _ _)
  rw [e, arrV_store, upd_updV]
theorem wp_cast {i : Nat} {x v : Int32} (hd : decode y.2.1 pc = .ok (.castore, 1)) (h : sI w 1 i x (vp_nar .char v) = some w1) (kk : WP K l y fr lo n0 k0 r w' (pc + 1) L S w1) : WP K l y fr lo n0 k0 r w' pc L (.int v :: .int x :: .ref i :: S) w := by
  obtain ⟨n, f, hx, hin, rfl⟩ := sI_spec h
  refine WP.lift (w1 := xput w i _) (Nat.le_refl _) (Nat.le_refl _) (fun p e s m args below meth c H locs ls R Q X hr hlo hL _ _ _ _ _ _ k1 => ?_) kk
  refine W.cast X.1 X.2.1 (hr.at hx) ((X.2.2.2.2.2.2.2.2.1.1.2 1 _ rfl).1 n _) arvm (arin hin) rfl rfl hd fun H1 e z oq => ?_
  refine k1 H1 _ ls (hr.put z ?_ oq) (lcs hlo (Nat.le_add_right _ _)) hL
  show H1[cB K + i]? = some (arrV _ _ _)
  rw [e, arrV_store, ← upd_updV]
  rfl
theorem wp_bast {i : Nat} {x v : Int32} (hd : decode y.2.1 pc = .ok (.bastore, 1)) (h : sI w 2 i x (vp_nar .byte v) = some w1) (kk : WP K l y fr lo n0 k0 r w' (pc + 1) L S w1) : WP K l y fr lo n0 k0 r w' pc L (.int v :: .int x :: .ref i :: S) w := by
  obtain ⟨n, f, hx, hin, rfl⟩ := sI_spec h
  refine WP.lift (w1 := xput w i _) (Nat.le_refl _) (Nat.le_refl _) (fun p e s m args below meth c H locs ls R Q X hr hlo hL _ _ _ _ _ _ k1 => ?_) kk
  refine W.bast X.1 X.2.1 (hr.at hx) ((X.2.2.2.2.2.2.2.2.1.1.2 2 _ rfl).1 n _) arvm (arin hin) rfl rfl hd fun H1 e z oq => ?_
  refine k1 H1 _ ls (hr.put z ?_ oq) (lcs hlo (Nat.le_add_right _ _)) hL
  show H1[cB K + i]? = some (arrV _ _ _)
  rw [e, arrV_store, ← upd_updV]
  rfl
theorem wp_last {i : Nat} {x : Int32} {v : Int64} (hd : decode y.2.1 pc = .ok (.lastore, 1)) (h : sJ w i x v = some w1) (kk : WP K l y fr lo n0 k0 r w' (pc + 1) L S w1) : WP K l y fr lo n0 k0 r w' pc L (.long v :: .int x :: .ref i :: S) w := by
  obtain ⟨n, f, hx, hin, rfl⟩ := sJ_spec h
  refine WP.lift (w1 := xput w i _) (Nat.le_refl _) (Nat.le_refl _) (fun p e s m args below meth c H locs ls R Q X hr hlo hL _ _ _ _ _ _ k1 => ?_) kk
  refine W.last X.1 X.2.1 (hr.at hx) ((X.2.2.2.2.2.2.2.2.1.1.2 3 _ rfl).1 n _) arvm (arin hin) rfl rfl hd fun H1 e z oq => ?_
  refine k1 H1 _ ls (hr.put z ?_ oq) (lcs hlo (Nat.le_add_right _ _)) hL
  show H1[cB K + i]? = some (arrV _ _ _)
  rw [e, arrV_store]
  congr 2
  funext q
  by_cases h : q = x.toNatClampNeg
  · simp [updV, vp_updL, h]
  · simp [updV, vp_updL, h]
theorem wp_aast {t i j ec : Nat} {q0 : vw_C} {x : Int32} (ht : (tysK K)[4 + t]? = some (cI K (4 + t), .object q0.1)) (hq : classes[ec]? = some q0) (hd : decode y.2.1 pc = .ok (.aastore, 1)) (h : sR w t i x j ec = some w1) (kk : WP K l y fr lo n0 k0 r w' (pc + 1) L S w1) : WP K l y fr lo n0 k0 r w' pc L (.ref j :: .int x :: .ref i :: S) w := by
  obtain ⟨n, f, vs, hx, hxj, hin, rfl⟩ := sR_spec h
  refine WP.lift (w1 := xput w i _) (Nat.le_refl _) (Nat.le_refl _) (fun p e s m args below meth c H locs ls R Q X hr hlo hL _ _ _ _ _ _ k1 => ?_) kk
  have hK := X.2.2.2.2.2.2.2.2.1.1
  obtain ⟨r', hr', cellV, g1, g2, g3, -⟩ := hr.at hxj
  have hcls := (hK.1 ec q0 hq).2
  obtain ⟨kA, comp, a1, a2, a3, -⟩ := (hK.2 (4 + t) _ ht).2
  have hcomp : comp = (cD K).1 ec := Option.some.inj (a3.symm.trans hcls.1)
  subst hcomp
  obtain ⟨kC, hkC, -⟩ := hcls.2
  refine W.aast X.1 X.2.1 (hr.at hx) (fun q h => by cases h) (fun h => by cases h) a1 a2 rfl hkC ⟨fun q => hin (Or.inl q), by rw [arrV_size]; exact Nat.not_le.mp fun q => hin (Or.inr q)⟩ g1 (fun q h => by rw [g3] at h; cases h) (by rw [g2]; exact hkC) (by rw [g2]; exact va_assign hcls) rfl rfl hd fun H1 e z oq => ?_
  refine k1 H1 _ ls (hr.put z ?_ oq) (lcs hlo (Nat.le_add_right _ _)) hL
  show H1[cB K + i]? = some (arrV _ _ _)
  rw [e, arrV_store]
  congr 2
  funext q
  by_cases h : q = x.toNatClampNeg
  · simp [updV, va_up, h, cvr]
  · simp [updV, va_up, h]
end AR
end
section
/-! new cells, calls, answers -/
section CL
variable {K : CX} {l : Launch} {y : MR} {fr lo n0 k0 : Nat} {r : Option Value} {w' : XW} {pc : Nat} {L L1 : List (Option Value)} {S S1 : List Value} {w w1 : XW} {pc1 : Nat}
theorem wp_new {ci idx : Nat} {C : String} {T : u_T} {N : Nat} {ty : Nat → FieldType} {fs : List Value} (ok : okc ci C T N ty) (hcl : Cond.classLink y.1.cls idx C ∈ TBL) (hins : Cond.instantiable C N ∈ TBL) (hini : Cond.initialized C ∈ TBL) (hd : decode y.2.1 pc = .ok (.new idx, 3)) (hfs : ∀ j, j < N → defaultValue (ty j) = vp_V fs j) (hcv : fs.map (cv K) = fs)
    (kk : WP K l y fr lo n0 k0 r w' (pc + 3) L (.ref w.1 :: S) (xpush w N (xo ci fs))) : WP K l y fr lo n0 k0 r w' pc L S w := by
  refine WP.lift (w1 := xpush w N (xo ci fs)) (Nat.le_succ _) (Nat.le_add_right _ _) (fun p e s m args below meth c H locs ls R Q X hr hlo hL _ _ c1 c2 c3 c4 k1 => ?_) kk
  have hKn := X.2.2.2.2.2.2.2.2.1.1.1 ci _ ok.1
  have d1 : (w.1 + 1) - n0 ≤ R.cells := c1
  have d2 : (w.2.1 + N) - k0 ≤ R.slots := c2
  refine W.newcK X.1 X.2.1 X.2.2.2.1 (X.wd hcl) (X.wd hins) (X.wd hini) rfl hd (by omega) (by omega) hKn.2.1 rfl fun H1 kC hkC e1 z1 o1 => ?_
  refine W.cs (cells' := (w.1 + 1) - n0) (slots' := (w.2.1 + N) - k0) (by omega) (by omega) ?_
  have hob := (u_born ty X.2.2.2.2.1 (fun u hu => wsM_in (ok.2.1 u hu)) hKn hkC e1 ok.2.2.1).to hfs
  have hrep : rep K (xpush w N (xo ci fs)) H1 := hr.push z1 ⟨_, ok.1, by rw [hcv]; exact hob⟩ o1
  have hk := k1 H1 locs ls hrep hlo hL
  rw [hr.1]
  exact hk
theorem wp_newa {t : Nat} {atype : ArrayType} {ty : FieldType} {n : Int32} {N : Nat} {cx : XC} (hty : newarray.typeOf atype = ty) (ht : (tysK K)[t]? = some (cI K t, ty)) (hra : ∀ (U : State) (c : ClassId), va_RA U c ty → U.vm.findClass ("[" ++ ty.toString) = some c) (hac : Cond.arrayClass ty ∈ TBL) (hd : decode y.2.1 pc = .ok (.newarray atype, 2)) (hn : ¬ n < 0) (hN : n.toNatClampNeg = N) (hby : N * componentBytes ty ≤ 536870912) (hcx : ∀ (a : Nat) (H : Heap), H[a]? = some (arrV (cI K t) N (fun _ => defaultValue ty)) → xcell K a cx H)
    (kk : WP K l y fr lo n0 k0 r w' (pc + 2) L (.ref w.1 :: S) (xpush w N cx)) : WP K l y fr lo n0 k0 r w' pc L (.int n :: S) w := by
  subst hty
  refine WP.lift (w1 := xpush w N cx) (Nat.le_succ _) (Nat.le_add_right _ _) (fun p e s m args below meth c H locs ls R Q X hr hlo hL _ _ c1 c2 c3 c4 k1 => ?_) kk
  have d1 : (w.1 + 1) - n0 ≤ R.cells := c1
  have d2 : (w.2.1 + N) - k0 ≤ R.slots := c2
  refine va_newaK X.1 X.2.1 (X.wd hac) rfl hd rfl hn hN hby (by omega) (by omega) rfl fun H1 cA0 e1 z1 o1 hAr hNm => ?_
  refine W.cs (cells' := (w.1 + 1) - n0) (slots' := (w.2.1 + N) - k0) (by omega) (by omega) ?_
  have hc := Option.some.inj (hNm.symm.trans (hra s _ (X.2.2.2.2.2.2.2.2.1.1.2 t _ ht).2))
  rw [hc] at e1
  have hk := k1 H1 locs ls (hr.push z1 (hcx _ _ e1) o1) hlo hL
  rw [hr.1]
  exact hk
theorem wp_newI {n : Int32} {N : Nat} (hac : Cond.arrayClass .int ∈ TBL) (hd : decode y.2.1 pc = .ok (.newarray .int, 2)) (hn : ¬ n < 0) (hN : n.toNatClampNeg = N) (hby : N * componentBytes .int ≤ 536870912) (kk : WP K l y fr lo n0 k0 r w' (pc + 2) L (.ref w.1 :: S) (xpush w N (xi 0 N (fun _ => 0)))) : WP K l y fr lo n0 k0 r w' pc L (.int n :: S) w :=
  wp_newa (t := 0) (ty := .int) (cx := xi 0 N (fun _ => 0)) rfl rfl (fun _ _ h => h) hac hd hn hN hby (fun _ _ h => h) kk
theorem wp_newC {n : Int32} {N : Nat} (hac : Cond.arrayClass .char ∈ TBL) (hd : decode y.2.1 pc = .ok (.newarray .char, 2)) (hn : ¬ n < 0) (hN : n.toNatClampNeg = N) (hby : N * componentBytes .char ≤ 536870912) (kk : WP K l y fr lo n0 k0 r w' (pc + 2) L (.ref w.1 :: S) (xpush w N (xi 1 N (fun _ => 0)))) : WP K l y fr lo n0 k0 r w' pc L (.int n :: S) w :=
  wp_newa (t := 1) (ty := .char) (cx := xi 1 N (fun _ => 0)) rfl rfl (fun _ _ h => h) hac hd hn hN hby (fun _ _ h => h) kk
theorem wp_newB {n : Int32} {N : Nat} (hac : Cond.arrayClass .byte ∈ TBL) (hd : decode y.2.1 pc = .ok (.newarray .byte, 2)) (hn : ¬ n < 0) (hN : n.toNatClampNeg = N) (hby : N * componentBytes .byte ≤ 536870912) (kk : WP K l y fr lo n0 k0 r w' (pc + 2) L (.ref w.1 :: S) (xpush w N (xi 2 N (fun _ => 0)))) : WP K l y fr lo n0 k0 r w' pc L (.int n :: S) w :=
  wp_newa (t := 2) (ty := .byte) (cx := xi 2 N (fun _ => 0)) rfl rfl (fun _ _ h => h) hac hd hn hN hby (fun _ _ h => h) kk
theorem wp_newJ {n : Int32} {N : Nat} (hac : Cond.arrayClass .long ∈ TBL) (hd : decode y.2.1 pc = .ok (.newarray .long, 2)) (hn : ¬ n < 0) (hN : n.toNatClampNeg = N) (hby : N * componentBytes .long ≤ 536870912) (kk : WP K l y fr lo n0 k0 r w' (pc + 2) L (.ref w.1 :: S) (xpush w N (xl N (fun _ => 0)))) : WP K l y fr lo n0 k0 r w' pc L (.int n :: S) w :=
  wp_newa (t := 3) (ty := .long) (cx := xl N (fun _ => 0)) rfl rfl (fun _ _ h => h) hac hd hn hN hby (fun _ _ h => h) kk
theorem wp_newQ {t idx : Nat} {C : String} {n : Int32} {N : Nat} (ht : (tysK K)[4 + t]? = some (cI K (4 + t), .object C)) (hao : ∀ U : State, cxs K U → va_AO C U) (hcl : Cond.classLink y.1.cls idx C ∈ TBL) (hd : decode y.2.1 pc = .ok (.anewarray idx, 3)) (hn : ¬ n < 0) (hN : n.toNatClampNeg = N) (hby : N * 4 ≤ 536870912) (kk : WP K l y fr lo n0 k0 r w' (pc + 3) L (.ref w.1 :: S) (xpush w N (xr t N (fun _ => none)))) : WP K l y fr lo n0 k0 r w' pc L (.int n :: S) w := by
  subst hN
  refine WP.lift (w1 := xpush w n.toNatClampNeg (xr t n.toNatClampNeg (fun _ => none))) (Nat.le_succ _) (Nat.le_add_right _ _) (fun p e s m args below meth c H locs ls R Q X hr hlo hL _ _ c1 c2 c3 c4 k1 => ?_) kk
  have d1 : (w.1 + 1) - n0 ≤ R.cells := c1
  have d2 : (w.2.1 + n.toNatClampNeg) - k0 ≤ R.slots := c2
  refine W.anew X.1 X.2.1 X.2.2.2.1 (X.wd hcl) (va_AO.use (hao s X.2.2.2.2.2.2.2.2.1)) rfl hd rfl hn hby (by omega) (by omega) fun cA0 kA comp f1 f2 f3 f4 => ?_
  refine W.cs (cells' := (w.1 + 1) - n0) (slots' := (w.2.1 + n.toNatClampNeg) - k0) (by omega) (by omega) ?_
  obtain ⟨kA', comp', a1, a2, a3, a4⟩ := (X.2.2.2.2.2.2.2.2.1.1.2 (4 + t) _ ht).2
  have hc : cA0 = cI K (4 + t) := Option.some.inj (f1.symm.trans a4)
  subst hc
  generalize hH1 : H.push ({ cls := cI K (4 + t), slots := Array.replicate n.toNatClampNeg .null, vm := .none } : Cell) = H1
  have z1 : H1.size = H.size + 1 := by rw [← hH1, Array.size_push]
  have e1 : H1[H.size]? = some (arrV (cI K (4 + t)) n.toNatClampNeg (fun _ => .null)) := by rw [← hH1, Array.getElem?_push_size, ← arrV_new]
  have o1 : ∀ q : Nat, q < H.size → H1[q]? = H[q]? := fun q hq => by rw [← hH1, Array.getElem?_push, if_neg (Nat.ne_of_lt hq)]
  have hk := k1 H1 locs ls (hr.push z1 e1 o1) hlo hL
  rw [hr.1]
  exact hk
theorem cxs.same {u U : State} (h : cxs K u) (e : u.vm = U.vm) : cxs K U := by
  have ha : u.vm.Alike U.vm := by rw [e]; exact Vm.Alike.refl _
  exact ⟨va_K.moved ha h.1, h.2.1.same e, h.2.2.1.moved ha, fun u hu => (h.2.2.2.1 u hu).moved ha, h.2.2.2.2.1.moved ha, h.2.2.2.2.2.1.moved ha, h.2.2.2.2.2.2.same e⟩
theorem PM.blind {as : List Value} : FrameBlind (PM K as w) := fun a U g mk q => ⟨q.1, q.2.1, q.2.2.same rfl⟩
theorem scat : ((S.map (cv K)).map fun v => v.category).sum = (S.map fun v => v.category).sum := by
  rw [List.map_map]
  congr 1
  apply List.map_congr_left
  intro v _
  exact cv_cat v
theorem call_go {p : Program} {e : Env} {R : Room} {s : State} {m : MethodId} {args : Array Value} {below : List Frame} {meth : Method} {c : Code} {H : Heap} {locs : List Loc} {cells slots mc ms : Nat} {Q : State → Prop} {ls : Array Slot} {st0 rest : List Value} {a : Array Value} {rv : Option Value}
    (hr : va_Run p l e R s m args below meth c H locs cells slots mc ms (F0 m pc ls st0) rest (QW K rv w1 a) (cA K)) (hl : ∀ q ∈ locs, cA K q.base)
    (kk : ∀ (H1 : Heap) (locs1 : List Loc), rep K w1 H1 → (∀ q ∈ locs1, cA K q.base) → W p l e R s m args below meth c H1 locs1 (cells + mc) (slots + ms) Q (F0 m (pc + 3) ls ((rv.map (cv K)).toList ++ rest))) : W p l e R s m args below meth c H locs cells slots Q (F0 m pc ls st0) := by
  intro T hT X
  obtain ⟨v, st₀, t, T', L, h0, X', hL, e1, e2, hq, st⟩ := hr T hT X
  obtain ⟨hv, hrep⟩ := hq
  have hv' : v = rv.map (cv K) := Outcome.returned.inj hv
  subst hv'
  obtain ⟨t2, a1, b1⟩ := kk T'.heap (locs ++ L) (by rw [e1]; exact hrep) (fun q hq => by
    rcases List.mem_append.mp hq with h | h
    · exact hl q h
    · exact hL q h) T' rfl X'
  exact ⟨t2, st t2 a1, b1⟩
/-- a method's rows, as the tables have them -/
def okM (z : MR) (n : Nat) : Prop := cdw z ∈ TBL ∧ Cond.initialized z.1.cls ∈ TBL ∧ z.1.cls ≠ "java/lang/invoke/MethodHandle" ∧ z.1.cls ≠ "java/lang/invoke/VarHandle" ∧ (parseMethodDescriptor z.1.desc).map (fun d => d.parameters.length) = some n
theorem tol {rv : Option Value} : (rv.toList ++ S).map (cv K) = (rv.map (cv K)).toList ++ S.map (cv K) := by cases rv <;> rfl
theorem wp_callV {z : MR} {fz lz nz idx i ci : Nat} {q0 : vw_C} {As : List Value} {fs : List Value} {rv : Option Value} (okz : okM z nz) (him : Cond.instanceMethod z.1 ∈ TBL) (hse : Cond.selects z.1.cls z.1 z.1 ∈ TBL) (hl : Cond.methodLink y.1.cls idx z.1 ∈ TBL) (hx : xat w i (xo ci fs)) (hci : classes[ci]? = some q0) (hq0 : q0.1 = z.1.cls) (hn : As.length = nz) (hf : fz + 1 ≤ fr ∧ 8 + (z.2.2.1 + 11) + lz ≤ lo) (hS : (S.map fun v => v.category).sum ≤ 8) (hLn : L.length = y.2.2.1) (hd : decode y.2.1 pc = .ok (.invokevirtual idx, 3)) (hM : MT K l z fz lz (.ref i :: As) w rv w1)
    (kk : WP K l y fr lo n0 k0 r w' (pc + 3) L (rv.toList ++ S) w1) : WP K l y fr lo n0 k0 r w' pc L (As.reverse ++ .ref i :: S) w := by
  refine WP.lift hM.1 hM.2.1 (fun p e s m args below meth c H locs ls R Q X hr hlo hL f1 f2 c1 c2 c3 c4 k1 => ?_) kk
  have g1 := hM.1
  have g2 := hM.2.1
  have hcell := hr.at hx
  obtain ⟨rr, a1, cell, q1, q2, q3, q4⟩ := hcell
  have hrr : rr = q0 := Option.some.inj (a1.symm.trans hci)
  subst hrr
  have hcls := (X.2.2.2.2.2.2.2.2.1.1.1 ci _ hci).2.1
  refine call_go (mc := w1.1 - w.1) (ms := w1.2.1 - w.2.1) (rest := S.map (cv K)) (va_runV (C := z.1.cls) (b := cB K + i) (As := As.map (cv K)) (n := nz) (nL := y.2.2.1) (Ts := wsM y) (own := y.1.cls) (index := idx) ⟨X.1, X.2.1, X.2.2.1, X.2.2.2.1, X.2.2.2.2.1⟩ hM.2.2 ⟨callB_of nz X.2.2.2.2.1 (wsM_good okz.1) rfl rfl rfl (X.wd okz.2.1) (X.wd hl) okz.2.2 ⟨Nat.le_trans hf.1 f1, Nat.le_trans hf.2 f2⟩, X.wd him, X.wd hse⟩ ⟨PM.blind, ⟨cell, q1, by rw [q3]; rfl, by rw [q2, ← hq0]; exact hcls⟩, fun U hU hW => ⟨rfl, by rw [hU]; exact hr, X.2.2.2.2.2.2.2.2.1.warm hW⟩⟩ rfl (by rw [List.length_map]; exact hn) (hL.1.trans hLn) (by show (As.reverse ++ .ref i :: S).map (cv K) = _; rw [List.map_append, List.map_reverse]; rfl) (lv_room (by rw [scat]; exact hS)) hd ⟨by omega, by omega⟩) hlo (fun H1 locs1 h1 h2 => ?_)
  rw [← tol]
  exact W.cs (by omega) (by omega) (k1 H1 locs1 ls h1 h2 hL)
theorem wp_callS {z : MR} {fz lz nz idx : Nat} {As : List Value} {rv : Option Value} (okz : okM z nz) (hst : Cond.static z.1 ∈ TBL) (hl : Cond.methodLink y.1.cls idx z.1 ∈ TBL) (hn : As.length = nz) (hf : fz + 1 ≤ fr ∧ 8 + (z.2.2.1 + 11) + lz ≤ lo) (hS : (S.map fun v => v.category).sum ≤ 8) (hLn : L.length = y.2.2.1) (hd : decode y.2.1 pc = .ok (.invokestatic idx, 3)) (hM : MT K l z fz lz As w rv w1)
    (kk : WP K l y fr lo n0 k0 r w' (pc + 3) L (rv.toList ++ S) w1) : WP K l y fr lo n0 k0 r w' pc L (As.reverse ++ S) w := by
  refine WP.lift hM.1 hM.2.1 (fun p e s m args below meth c H locs ls R Q X hr hlo hL f1 f2 c1 c2 c3 c4 k1 => ?_) kk
  have g1 := hM.1
  have g2 := hM.2.1
  refine call_go (mc := w1.1 - w.1) (ms := w1.2.1 - w.2.1) (rest := S.map (cv K)) (va_runS (As := As.map (cv K)) (n := nz) (nL := y.2.2.1) (Ts := wsM y) (own := y.1.cls) (index := idx) ⟨X.1, X.2.1, X.2.2.1, X.2.2.2.1, X.2.2.2.2.1⟩ hM.2.2 ⟨callB_of nz X.2.2.2.2.1 (wsM_good okz.1) rfl rfl rfl (X.wd okz.2.1) (X.wd hl) okz.2.2 ⟨Nat.le_trans hf.1 f1, Nat.le_trans hf.2 f2⟩, X.wd hst⟩ ⟨PM.blind, fun U hU hW => ⟨rfl, by rw [hU]; exact hr, X.2.2.2.2.2.2.2.2.1.warm hW⟩⟩ rfl (by rw [List.length_map]; exact hn) (hL.1.trans hLn) (by show (As.reverse ++ S).map (cv K) = _; rw [List.map_append, List.map_reverse]) (lv_room (by rw [scat]; exact hS)) hd ⟨by omega, by omega⟩) hlo (fun H1 locs1 h1 h2 => ?_)
  rw [← tol]
  exact W.cs (by omega) (by omega) (k1 H1 locs1 ls h1 h2 hL)
theorem wp_callSN {z : MR} {fz lz nz idx : Nat} {As : List Value} {rv : Option Value} (okz : okM z nz) (hst : Cond.static z.1 ∈ TBL) (hl : (y.1.cls, idx, z.1) ∈ NWm) (hn : As.length = nz) (hf : fz + 1 ≤ fr ∧ 8 + (z.2.2.1 + 11) + lz ≤ lo) (hS : (S.map fun v => v.category).sum ≤ 8) (hLn : L.length = y.2.2.1) (hd : decode y.2.1 pc = .ok (.invokestatic idx, 3)) (hM : MT K l z fz lz As w rv w1)
    (kk : WP K l y fr lo n0 k0 r w' (pc + 3) L (rv.toList ++ S) w1) : WP K l y fr lo n0 k0 r w' pc L (As.reverse ++ S) w := by
  refine WP.lift hM.1 hM.2.1 (fun p e s m args below meth c H locs ls R Q X hr hlo hL f1 f2 c1 c2 c3 c4 k1 => ?_) kk
  have g1 := hM.1
  have g2 := hM.2.1
  refine call_go (mc := w1.1 - w.1) (ms := w1.2.1 - w.2.1) (rest := S.map (cv K)) (va_runSN (host := "FractionRun") (As := As.map (cv K)) (n := nz) (nL := y.2.2.1) (Ts := wsM y) (own := y.1.cls) (index := idx) ⟨X.1, X.2.1, X.2.2.1, X.2.2.2.1, X.2.2.2.2.1⟩ hM.2.2 ⟨va_cnB nz X.2.2.2.2.1 (wsM_good okz.1) rfl rfl rfl (X.2.2.2.2.2.2.2.2.1.2.1.1 _ hl) (X.wd okz.2.1) okz.2.2 ⟨Nat.le_trans hf.1 f1, Nat.le_trans hf.2 f2⟩, X.wd hst, trivial⟩ ⟨PM.blind, fun U hU hW => ⟨rfl, by rw [hU]; exact hr, X.2.2.2.2.2.2.2.2.1.warm hW⟩⟩ rfl (by rw [List.length_map]; exact hn) (hL.1.trans hLn) (by show (As.reverse ++ S).map (cv K) = _; rw [List.map_append, List.map_reverse]) (lv_room (by rw [scat]; exact hS)) hd ⟨by omega, by omega⟩) hlo (fun H1 locs1 h1 h2 => ?_)
  rw [← tol]
  exact W.cs (by omega) (by omega) (k1 H1 locs1 ls h1 h2 hL)
theorem wp_callI {z : MR} {fz lz nz idx i : Nat} {As : List Value} (okz : okM z nz) (hz : z.2.2.2 = none) (him : Cond.instanceMethod z.1 ∈ TBL) (hnm : z.1.name = "<init>") (hl : Cond.methodLink y.1.cls idx z.1 ∈ TBL) (hn : As.length = nz) (hf : fz + 1 ≤ fr ∧ 8 + (z.2.2.1 + 11) + lz ≤ lo) (hS : (S.map fun v => v.category).sum ≤ 8) (hLn : L.length = y.2.2.1) (hd : decode y.2.1 pc = .ok (.invokespecial idx, 3)) (hM : MT K l z fz lz (.ref i :: As) w none w1)
    (kk : WP K l y fr lo n0 k0 r w' (pc + 3) L S w1) : WP K l y fr lo n0 k0 r w' pc L (As.reverse ++ .ref i :: S) w := by
  refine WP.lift hM.1 hM.2.1 (fun p e s m args below meth c H locs ls R Q X hr hlo hL f1 f2 c1 c2 c3 c4 k1 => ?_) kk
  have g1 := hM.1
  have g2 := hM.2.1
  refine call_go (rv := none) (mc := w1.1 - w.1) (ms := w1.2.1 - w.2.1) (rest := S.map (cv K)) (va_runI (b := cB K + i) (As := As.map (cv K)) (n := nz) (nL := y.2.2.1) (Ts := wsM y) (own := y.1.cls) (index := idx) ⟨X.1, X.2.1, X.2.2.1, X.2.2.2.1, X.2.2.2.2.1⟩ hM.2.2 ⟨callB_of (ws' := TBL) nz X.2.2.2.2.1 (wsM_good okz.1) (by show cdw z :: TBL = _; rw [← hz]) rfl rfl (X.wd okz.2.1) (X.wd hl) okz.2.2 ⟨Nat.le_trans hf.1 f1, Nat.le_trans hf.2 f2⟩, hnm, X.wd him⟩ ⟨PM.blind, fun U hU hW => ⟨rfl, by rw [hU]; exact hr, X.2.2.2.2.2.2.2.2.1.warm hW⟩⟩ rfl (by rw [List.length_map]; exact hn) (hL.1.trans hLn) (by show (As.reverse ++ .ref i :: S).map (cv K) = _; rw [List.map_append, List.map_reverse]; rfl) (lv_room (by rw [scat]; exact hS)) hd ⟨by omega, by omega⟩) hlo (fun H1 locs1 h1 h2 => ?_)
  exact W.cs (by omega) (by omega) (k1 H1 locs1 ls h1 h2 hL)
theorem wp_callIN {z : MR} {fz lz nz idx i : Nat} {As : List Value} (okz : okM z nz) (hz : z.2.2.2 = none) (him : Cond.instanceMethod z.1 ∈ TBL) (hnm : z.1.name = "<init>") (hl : (y.1.cls, idx, z.1) ∈ NWm) (hn : As.length = nz) (hf : fz + 1 ≤ fr ∧ 8 + (z.2.2.1 + 11) + lz ≤ lo) (hS : (S.map fun v => v.category).sum ≤ 8) (hLn : L.length = y.2.2.1) (hd : decode y.2.1 pc = .ok (.invokespecial idx, 3)) (hM : MT K l z fz lz (.ref i :: As) w none w1)
    (kk : WP K l y fr lo n0 k0 r w' (pc + 3) L S w1) : WP K l y fr lo n0 k0 r w' pc L (As.reverse ++ .ref i :: S) w := by
  refine WP.lift hM.1 hM.2.1 (fun p e s m args below meth c H locs ls R Q X hr hlo hL f1 f2 c1 c2 c3 c4 k1 => ?_) kk
  have g1 := hM.1
  have g2 := hM.2.1
  refine call_go (rv := none) (mc := w1.1 - w.1) (ms := w1.2.1 - w.2.1) (rest := S.map (cv K)) (va_runIN (host := "FractionRun") (b := cB K + i) (As := As.map (cv K)) (n := nz) (nL := y.2.2.1) (Ts := wsM y) (own := y.1.cls) (index := idx) ⟨X.1, X.2.1, X.2.2.1, X.2.2.2.1, X.2.2.2.2.1⟩ hM.2.2 ⟨va_cnB (ws' := TBL) nz X.2.2.2.2.1 (wsM_good okz.1) (by show cdw z :: TBL = _; rw [← hz]) rfl rfl (X.2.2.2.2.2.2.2.2.1.2.1.1 _ hl) (X.wd okz.2.1) okz.2.2 ⟨Nat.le_trans hf.1 f1, Nat.le_trans hf.2 f2⟩, hnm, X.wd him⟩ ⟨PM.blind, fun U hU hW => ⟨rfl, by rw [hU]; exact hr, X.2.2.2.2.2.2.2.2.1.warm hW⟩⟩ rfl (by rw [List.length_map]; exact hn) (hL.1.trans hLn) (by show (As.reverse ++ .ref i :: S).map (cv K) = _; rw [List.map_append, List.map_reverse]; rfl) (lv_room (by rw [scat]; exact hS)) hd ⟨by omega, by omega⟩) hlo (fun H1 locs1 h1 h2 => ?_)
  exact W.cs (by omega) (by omega) (k1 H1 locs1 ls h1 h2 hL)
theorem wp_objI {idx i : Nat} (hl : Cond.methodLink y.1.cls idx Lib.objectInit ∈ TBL) (him : Cond.instanceMethod Lib.objectInit ∈ TBL) (hcd : Cond.code Lib.objectInit ⟨#[0xb1]⟩ 1 none ∈ TBL) (hf : 1 ≤ fr ∧ (S.map fun v => v.category).sum + 12 ≤ lo) (hLn : L.length = y.2.2.1) (hd : decode y.2.1 pc = .ok (.invokespecial idx, 3)) (kk : WP K l y fr lo n0 k0 r w' (pc + 3) L S w) : WP K l y fr lo n0 k0 r w' pc L (.ref i :: S) w := by
  refine WP.lift (Nat.le_refl _) (Nat.le_refl _) (fun p e s m args below meth c H locs ls R Q X hr hlo hL f1 f2 c1 c2 c3 c4 k1 => ?_) kk
  exact W.objInit X.1 X.2.1 X.2.2.2.1 (X.wd hl) (X.wd him) (X.wd hcd) rfl (hL.1.trans (hLn.trans X.2.2.1.symm)) rfl hd (Nat.le_trans hf.1 f1) (by show 2 * 0 + ((S.map (cv K)).map _).sum + 12 ≤ R.locals; rw [scat]; omega) (k1 H locs ls hr hlo hL)
theorem wp_max {idx : Nat} {x y0 : Int32} (hl : Cond.methodLink y.1.cls idx Lib.Math.max.name ∈ TBL) (hst : Cond.static Lib.Math.max.name ∈ TBL) (hini : Cond.initialized "java/lang/Math" ∈ TBL) (hcd : Cond.code Lib.Math.max.name Lib.Math.max.code 2 (some .int) ∈ TBL) (hf : 1 ≤ fr ∧ (S.map fun v => v.category).sum + 13 ≤ lo) (hLn : L.length = y.2.2.1) (hd : decode y.2.1 pc = .ok (.invokestatic idx, 3)) (kk : WP K l y fr lo n0 k0 r w' (pc + 3) L (.int (if x < y0 then y0 else x) :: S) w) : WP K l y fr lo n0 k0 r w' pc L (.int y0 :: .int x :: S) w := by
  refine WP.lift (Nat.le_refl _) (Nat.le_refl _) (fun p e s m args below meth c H locs ls R Q X hr hlo hL f1 f2 c1 c2 c3 c4 k1 => ?_) kk
  exact va_mmax X.1 X.2.1 (by rw [X.2.2.1, ← hLn, hL.1]) X.2.2.2.1 (X.wd hl) (X.wd hst) (X.wd hini) (X.wd hcd) (Nat.le_trans hf.1 f1) (by rw [scat]; exact Nat.le_trans hf.2 f2) c1 c2 hd (k1 H locs ls hr hlo hL)
theorem wp_min {idx : Nat} {x y0 : Int32} (hl : Cond.methodLink y.1.cls idx Lib.Math.min.name ∈ TBL) (hst : Cond.static Lib.Math.min.name ∈ TBL) (hini : Cond.initialized "java/lang/Math" ∈ TBL) (hcd : Cond.code Lib.Math.min.name Lib.Math.min.code 2 (some .int) ∈ TBL) (hf : 1 ≤ fr ∧ (S.map fun v => v.category).sum + 13 ≤ lo) (hLn : L.length = y.2.2.1) (hd : decode y.2.1 pc = .ok (.invokestatic idx, 3)) (kk : WP K l y fr lo n0 k0 r w' (pc + 3) L (.int (if y0 < x then y0 else x) :: S) w) : WP K l y fr lo n0 k0 r w' pc L (.int y0 :: .int x :: S) w := by
  refine WP.lift (Nat.le_refl _) (Nat.le_refl _) (fun p e s m args below meth c H locs ls R Q X hr hlo hL f1 f2 c1 c2 c3 c4 k1 => ?_) kk
  exact va_mmin X.1 X.2.1 (by rw [X.2.2.1, ← hLn, hL.1]) X.2.2.2.1 (X.wd hl) (X.wd hst) (X.wd hini) (X.wd hcd) (Nat.le_trans hf.1 f1) (by rw [scat]; exact Nat.le_trans hf.2 f2) c1 c2 hd (k1 H locs ls hr hlo hL)
theorem wp_iret {x : Int32} (hret : y.2.2.2 = some .int) (hd : decode y.2.1 pc = .ok (.ireturn, 1)) : WP K l y fr lo n0 k0 (some (.int x)) w pc L [.int x] w :=
  ⟨Nat.le_refl _, Nat.le_refl _, fun _ _ p e s m args below meth c H locs ls R _ _ _ _ X hr hlo hL => W.iret (v := x) X.1 X.2.1 (X.2.2.2.2.2.1.trans hret) (fun t ht _ => ⟨rfl, by rw [ht]; exact hr⟩) hlo hd X.2.2.2.2.2.2.1⟩
theorem wp_zret {x : Int32} {ty : FieldType} (hret : y.2.2.2 = some ty) (hn : narrow ty (.int x) = .int x) (hd : decode y.2.1 pc = .ok (.ireturn, 1)) : WP K l y fr lo n0 k0 (some (.int x)) w pc L [.int x] w :=
  ⟨Nat.le_refl _, Nat.le_refl _, fun _ _ p e s m args below meth c H locs ls R _ _ _ _ X hr hlo hL => W.zret (v := x) X.1 X.2.1 (X.2.2.2.2.2.1.trans hret) hn (fun t ht _ => ⟨rfl, by rw [ht]; exact hr⟩) hlo hd X.2.2.2.2.2.2.1⟩
theorem wp_vret (hret : y.2.2.2 = none) (hd : decode y.2.1 pc = .ok (.return_, 1)) : WP K l y fr lo n0 k0 none w pc L [] w :=
  ⟨Nat.le_refl _, Nat.le_refl _, fun _ _ p e s m args below meth c H locs ls R _ _ _ _ X hr hlo hL => W.vret X.1 X.2.1 (X.2.2.2.2.2.1.trans hret) (fun t ht _ => ⟨rfl, by rw [ht]; exact hr⟩) hlo hd X.2.2.2.2.2.2.1⟩
def entL : List Value → List (Option Value)
  | [] => []
  | v :: vs => if v.category = 2 then some v :: none :: entL vs else some v :: entL vs
theorem ent_mem : ∀ (as : List Value) (i0 j : Nat) (v : Value), (entL as)[j]? = some (some v) → (i0 + j, cv K v) ∈ lv_args i0 (as.map (cv K))
  | [], i0, j, v, h => by simp [entL] at h
  | a :: as, i0, j, v, h => by
    simp only [List.map_cons, lv_args, cv_cat]
    simp only [entL] at h
    by_cases hc : a.category = 2
    · rw [if_pos hc] at h ⊢
      match j, h with
      | 0, h => simp at h; subst h; exact List.mem_cons_self
      | 1, h => simp at h
      | j + 2, h =>
        simp at h
        have := ent_mem as (i0 + 2) j v h
        rw [show i0 + (j + 2) = i0 + 2 + j by omega]
        exact List.mem_cons_of_mem _ this
    · rw [if_neg hc] at h ⊢
      match j, h with
      | 0, h => simp at h; subst h; exact List.mem_cons_self
      | j + 1, h =>
        simp at h
        have := ent_mem as (i0 + 1) j v h
        rw [show i0 + (j + 1) = i0 + 1 + j by omega]
        exact List.mem_cons_of_mem _ this
theorem ent_len : ∀ (as : List Value), (entL as).length = (lg_sl (as.map (cv K))).length
  | [] => rfl
  | a :: as => by
    have ih := ent_len as
    simp only [entL, lg_sl, List.map_cons, List.flatMap_cons, List.length_append, cv_cat]
    simp only [lg_sl] at ih
    by_cases hc : a.category = 2
    · simp [hc, ih]; omega
    · simp [hc, ih]; omega
theorem MT.of {as : List Value} (hy : plainName y.1.cls = true) (hlen : (entL as).length ≤ y.2.2.1) (hL : entL as ++ List.replicate (y.2.2.1 - (entL as).length) none = L) (k : WP K l y fr lo w.1 w.2.1 r w' 0 L [] w) : MT K l y fr lo as w r w' := by
  refine ⟨k.1, k.2.1, Met.ofW (cc := y.2.1) (maxL := y.2.2.1) (ret := y.2.2.2) hy rfl ?_⟩
  intro p e s m args below meth c s₁ B hml hv
  obtain ⟨rfl, hrep, hcx⟩ := hv
  have he := lv_entry (as.map (cv K)) (n := y.2.2.1) (by rw [← ent_len]; exact hlen)
  rw [lg_entry_eq]
  generalize hls : (lg_sl (as.map (cv K)) ++ List.replicate (y.2.2.1 - (lg_sl (as.map (cv K))).length) Slot.unset).toArray = ls at he ⊢
  have hlok : lok K L ls := by
    refine ⟨by rw [he.1, ← hL, List.length_append, List.length_replicate]; omega, he.2.1, fun i v hi => ?_⟩
    rw [← hL] at hi
    by_cases hlt : i < (entL as).length
    · rw [List.getElem?_append_left hlt] at hi
      have := ent_mem (K := K) as 0 i v hi
      rw [Nat.zero_add] at this
      exact he.2.2 _ this
    · rw [List.getElem?_append_right (by omega), List.getElem?_replicate] at hi
      split at hi <;> simp at hi
  have h := k.2.2 (Nat.le_refl _) (Nat.le_refl _) p e s m ((as.map (cv K)).toArray) below meth c s.heap [] ls ({ frames := fr, cells := w'.1 - w.1, slots := w'.2.1 - w.2.1, locals := lo } : Room) (Nat.le_refl _) (Nat.le_refl _) (Nat.le_refl _) (Nat.le_refl _) ⟨B.exec, B.bytes, hml, findClass_of_methodNamed B.named, atoms_spec (ws := wsM y) B.pre, B.returns, B.notSynchronized, (name_of_methodNamed B.named B.method).1, hcx, by rw [hrep.1]; omega, hrep.2.2⟩ hrep (fun q hq => by cases hq) hlok
  rw [Nat.sub_self, Nat.sub_self] at h
  exact h
end CL
end
section
/-! arraycopy; the String constant; switches -/
def cpI (w : XW) (t i : Nat) (sp : Int32) (j : Nat) (dp n : Int32) : Option XW := match w.2.2 i with
  | .inl q => (match w.2.2 j with
    | .inl o => if i < w.1 ∧ q.1 = t ∧ j < w.1 ∧ o.1 = t ∧ ¬ sp < 0 ∧ ¬ dp < 0 ∧ ¬ n < 0 ∧ sp.toNatClampNeg + n.toNatClampNeg ≤ q.2.1 ∧ dp.toNatClampNeg + n.toNatClampNeg ≤ o.2.1 ∧ (t = 1 → ∀ k, k < n.toNatClampNeg → fits .char (.int (q.2.2 (sp.toNatClampNeg + k))) = true) then some (xput w j (xi t o.2.1 (va_cpy q.2.2 o.2.2 sp.toNatClampNeg dp.toNatClampNeg n.toNatClampNeg))) else none
    | _ => none)
  | _ => none
section MO
variable {K : CX} {l : Launch} {y : MR} {fr lo n0 k0 : Nat} {r : Option Value} {w' : XW} {pc : Nat} {L L1 : List (Option Value)} {S S1 : List Value} {w w1 : XW} {pc1 : Nat}
theorem cpI_spec {t i j : Nat} {sp dp n : Int32} (h : cpI w t i sp j dp n = some w1) : ∃ n1 f n2 g, xat w i (xi t n1 f) ∧ xat w j (xi t n2 g) ∧ ¬ sp < 0 ∧ ¬ dp < 0 ∧ ¬ n < 0 ∧ sp.toNatClampNeg + n.toNatClampNeg ≤ n1 ∧ dp.toNatClampNeg + n.toNatClampNeg ≤ n2 ∧ (t = 1 → ∀ k, k < n.toNatClampNeg → fits .char (.int (f (sp.toNatClampNeg + k))) = true) ∧ w1 = xput w j (xi t n2 (va_cpy f g sp.toNatClampNeg dp.toNatClampNeg n.toNatClampNeg)) := by
  unfold cpI at h
  split at h
  · rename_i q hq
    split at h
    · rename_i o ho
      split at h
      · rename_i hc
        obtain ⟨h1, e1, h3, e2, h5, h6, h7, h8, h9, h10⟩ := hc
        cases h
        refine ⟨q.2.1, q.2.2, o.2.1, o.2.2, ⟨h1, ?_⟩, ⟨h3, ?_⟩, h5, h6, h7, h8, h9, h10, rfl⟩
        · rw [hq, ← e1]
        · rw [ho, ← e2]
      · cases h
    · cases h
  · cases h
theorem wp_copy {t i j idx : Nat} {ty : FieldType} {sp dp n : Int32} (ht : (tysK K)[t]? = some (cI K t, ty)) (hty : ty = .int ∨ (ty = .char ∧ t = 1)) (hl : Cond.methodLink y.1.cls idx arraycopyName ∈ TBL) (hna : Cond.native arraycopyName ∈ TBL) (hst : Cond.static arraycopyName ∈ TBL) (hini : Cond.initialized "java/lang/System" ∈ TBL) (hf : 1 ≤ fr ∧ (S.map fun v => v.category).sum + (nativeFrameWords "java/lang/System" "arraycopy" 5 + 11) ≤ lo) (hLn : L.length = y.2.2.1) (hd : decode y.2.1 pc = .ok (.invokestatic idx, 3)) (h : cpI w t i sp j dp n = some w1)
    (kk : WP K l y fr lo n0 k0 r w' (pc + 3) L S w1) : WP K l y fr lo n0 k0 r w' pc L (.int n :: .int dp :: .ref j :: .int sp :: .ref i :: S) w := by
  obtain ⟨m1, f, m2, g, hx, hxj, h1, h2, h3, h4, h5, h6, rfl⟩ := cpI_spec h
  refine WP.lift (w1 := xput w j _) (Nat.le_refl _) (Nat.le_refl _) (fun p e s m args below meth c H locs ls R Q X hr hlo hL f1 f2 c1 c2 c3 c4 k1 => ?_) kk
  have nn : ∀ z : Int32, ¬ z < 0 → z.toInt = (z.toNatClampNeg : Int) := by
    intro z hz
    have hz0 : (0 : Int) ≤ z.toInt := by
      have := Int32.not_lt.mp hz
      simpa using Int32.le_iff_toInt_le.mp this
    show z.toInt = ((z.toInt.toNat : Nat) : Int)
    omega
  have hK := X.2.2.2.2.2.2.2.2.1.1
  have hc0 : H[cB K + i]? = some (arrV (cI K t) m1 (fun j => .int (f j))) := hr.at hx
  have hc1 : H[cB K + j]? = some (arrV (cI K t) m2 (fun j => .int (g j))) := hr.at hxj
  have hfit : ∀ k, k < n.toNatClampNeg → fits ty (.int (f (sp.toNatClampNeg + k))) = true := by
    rcases hty with rfl | ⟨rfl, ht1⟩
    · intro k _; rfl
    · exact h6 ht1
  have hprim : refKind ty = false := by rcases hty with rfl | ⟨rfl, -⟩ <;> rfl
  intro T hT X0
  obtain ⟨-, kk0, hk0, cm0, hkk0⟩ := (hK.2 t _ ht).1 m1 (fun j => .int (f j))
  obtain ⟨-, kk1, hk1, cm1, hkk1⟩ := (hK.2 t _ ht).1 m2 (fun j => .int (g j))
  obtain ⟨vm', X', step⟩ := X0.arraycopy X.1 X.2.2.2.1 (X.wd hl) (X.wd hna) (X.wd hst) (X.wd hini) (src := cB K + i) (dst := cB K + j) (cs := arrV (cI K t) m1 (fun j => .int (f j))) (cd := arrV (cI K t) m2 (fun j => .int (g j))) (srcPos := sp) (destPos := dp) (n := n) (by rw [hT]; exact hc0) (by rw [hT]; exact hc1)
    (fun _ h => by cases h) (fun _ h => by cases h) (fun h => by cases h) (fun h => by cases h) hk0 hk1 hkk0 hkk1 (by simp [hprim]) h1 h2 h3
    (by rw [nn sp h1, nn n h3, arrV_size]; omega)
    (by rw [nn dp h2, nn n h3, arrV_size]; omega)
    (fun vm₁ _ i hi => by
      have e : (arrV (cI K t) m1 (fun j => .int (f j))).slots.getD (sp.toNatClampNeg + i) .null = .int (f (sp.toNatClampNeg + i)) := by
        rw [Array.getD_eq_getD_getElem?, arrV_read _ _ (by omega)]
        rfl
      refine ⟨?_, ?_⟩
      · rw [e]
        exact hfit i hi
      · rw [e]
        exact trivial)
    (g := F0 m pc ls (.int n :: .int dp :: .ref (cB K + j) :: .int sp :: .ref (cB K + i) :: S.map (cv K))) rfl (by show ls.size = c.maxLocals; rw [hL.1, hLn, X.2.2.1]) (rest := S.map (cv K)) rfl (by rw [X.2.1]; exact hd) (Nat.le_trans hf.1 f1) (by show 2 * 0 + _ + _ ≤ _; rw [scat]; omega)
  have e1 : copied (arrV (cI K t) m1 (fun j => .int (f j))) (arrV (cI K t) m2 (fun j => .int (g j))) sp dp n = arrV (cI K t) m2 (fun k => .int (va_cpy f g sp.toNatClampNeg dp.toNatClampNeg n.toNatClampNeg k)) := va_copied (fun z => .int z) (cI K t) (cI K t) f g h4
  rw [e1] at X' step
  have hla : cB K + j < H.size := (Array.getElem?_eq_some_iff.mp hc1).1
  generalize hcell : arrV (cI K t) m2 (fun k => .int (va_cpy f g sp.toNatClampNeg dp.toNatClampNeg n.toNatClampNeg k)) = cell at X' step
  have hheap : ((T.setVm vm').setCell (cB K + j) cell).heap = H.setIfInBounds (cB K + j) cell := by rw [← hT]; rfl
  have oq : ∀ q : Nat, q ≠ cB K + j → (H.setIfInBounds (cB K + j) cell)[q]? = H[q]? := fun q hq => by simp [Array.getElem?_setIfInBounds, Ne.symm hq]
  have hnew : (H.setIfInBounds (cB K + j) cell)[cB K + j]? = some cell := by simp [Array.getElem?_setIfInBounds, hla]
  obtain ⟨t2, a1, b1⟩ := k1 (H.setIfInBounds (cB K + j) cell) _ ls (hr.put (by simp) (by show _ = some _; rw [hcell]; exact hnew) oq) (fun q hq => by
      rcases List.mem_append.mp hq with h | h
      · exact hlo q h
      · obtain ⟨z, -, hz⟩ := List.mem_map.mp h
        rw [← hz]
        exact Nat.le_add_right _ _) hL _ hheap X'
  exact ⟨t2, step t2 a1, b1⟩
theorem wp_ldcS (hy : y.1.cls = "FractionRun") (hd : decode y.2.1 pc = .ok (.ldc 80, 2)) (kk : WP K l y fr lo n0 k0 r w' (pc + 2) L (.float 2 :: S) w) : WP K l y fr lo n0 k0 r w' pc L S w :=
  WP.go (fun p e s m args below meth c H locs ls R cells slots Q X hr hL k1 => va_ldcS X.1 X.2.1 (hy ▸ X.2.2.2.1) X.2.2.2.2.2.2.2.2.1.2.2.2.2.2.2.2.2.2.2.1 hd k1) kk
theorem ofk {o n d : String} {v : Value} {a : Nat} {s : State} {H : Heap} (h : va_OF o n d v a (cA K) s K.1.heap) (hr : rep K w H) : va_OF o n d v a (cA K) s H := h.kept (fun q hq _ => hr.2.2 q hq)
theorem wp_xcoder {idx : Nat} (hl : Cond.fieldLink y.1.cls idx "java/lang/String" "coder" "B" ∈ TBL) (hd : decode y.2.1 pc = .ok (.getfield idx, 3)) (kk : WP K l y fr lo n0 k0 r w' (pc + 3) L (.int 0 :: S) w) : WP K l y fr lo n0 k0 r w' pc L (.float 2 :: S) w := by
  refine WP.go (fun p e s m args below meth c H locs ls R cells slots Q X hr hL k1 => ?_) kk
  obtain ⟨cf, k, fi, f, cell, h1, h2, h3, h4, h5, h6⟩ := ofk X.2.2.2.2.2.2.2.2.1.2.2.2.2.2.2.2.1 hr
  exact W.getf X.1 X.2.1 X.2.2.2.1 (X.wd hl) h1 h2 h3 h4 (v := .int 0) h5 rfl rfl hd k1
theorem wp_xvalue {idx : Nat} (hl : Cond.fieldLink y.1.cls idx "java/lang/String" "value" "[B" ∈ TBL) (hd : decode y.2.1 pc = .ok (.getfield idx, 3)) (kk : WP K l y fr lo n0 k0 r w' (pc + 3) L (.float 3 :: S) w) : WP K l y fr lo n0 k0 r w' pc L (.float 2 :: S) w := by
  refine WP.go (fun p e s m args below meth c H locs ls R cells slots Q X hr hL k1 => ?_) kk
  obtain ⟨cf, k, fi, f, cell, h1, h2, h3, h4, h5, h6⟩ := ofk X.2.2.2.2.2.2.2.2.1.2.2.2.2.2.2.2.2.1 hr
  exact W.getf X.1 X.2.1 X.2.2.2.1 (X.wd hl) h1 h2 h3 h4 (v := .ref (K.2.1 3)) h5 rfl rfl hd k1
theorem wp_gets {C n d : String} {v : Value} {idx : Nat} (hZ : ∀ U : State, cxs K U → va_Z C n d (cv K v) (cA K) U K.1.heap) (hl : Cond.fieldLink y.1.cls idx C n d ∈ TBL) (hd : decode y.2.1 pc = .ok (.getstatic idx, 3)) (kk : WP K l y fr lo n0 k0 r w' (pc + 3) L (v :: S) w) : WP K l y fr lo n0 k0 r w' pc L S w := by
  refine WP.go (fun p e s m args below meth c H locs ls R cells slots Q X hr hL k1 => ?_) kk
  obtain ⟨cf, kf, fi, f, a, cell, h1, h2, h3, h4, h5, h6, h7, h8⟩ := hZ s X.2.2.2.2.2.2.2.2.1
  have hb : a < cB K := (Array.getElem?_eq_some_iff.mp h5).1
  exact W.gets X.1 X.2.1 X.2.2.2.1 (X.wd hl) h1 h2 h3 h4 (by rw [hr.2.2 _ hb]; exact h5) (fun e => by rw [e] at h6; cases h6) h7 rfl hd k1
theorem wp_xlen {v : Int32} (hv : Int32.ofNat (K.2.2.1 3).1 = v) (hd : decode y.2.1 pc = .ok (.arraylength, 1)) (kk : WP K l y fr lo n0 k0 r w' (pc + 1) L (.int v :: S) w) : WP K l y fr lo n0 k0 r w' pc L (.float 3 :: S) w := by
  subst hv
  refine WP.go (fun p e s m args below meth c H locs ls R cells slots Q X hr hL k1 => ?_) kk
  obtain ⟨cell, h1, h2, h3, h4, h5, h6, h7⟩ := X.2.2.2.2.2.2.2.2.1.2.2.2.2.2.2.2.2.2.1
  have hb : K.2.1 3 < cB K := (Array.getElem?_eq_some_iff.mp h1).1
  exact W.alen X.1 X.2.1 (by rw [hr.2.2 _ hb]; exact h1) h2 h5 rfl rfl hd k1
def bI (K : CX) (x : Int32) : Option Int32 := if ¬ (x < 0 ∨ (K.2.2.1 3).1 ≤ x.toNatClampNeg) then some ((K.2.2.1 3).2 x.toNatClampNeg) else none
theorem wp_xbald {x v : Int32} (hd : decode y.2.1 pc = .ok (.baload, 1)) (h : bI K x = some v) (kk : WP K l y fr lo n0 k0 r w' (pc + 1) L (.int v :: S) w) : WP K l y fr lo n0 k0 r w' pc L (.int x :: .float 3 :: S) w := by
  unfold bI at h
  split at h
  · rename_i hc
    cases h
    refine WP.go (fun p e s m args below meth c H locs ls R cells slots Q X hr hL k1 => ?_) kk
    obtain ⟨cell, h1, h2, h3, h4, h5, h6, h7⟩ := X.2.2.2.2.2.2.2.2.1.2.2.2.2.2.2.2.2.2.1
    have hb : K.2.1 3 < cB K := (Array.getElem?_eq_some_iff.mp h1).1
    have hlt : x.toNatClampNeg < (K.2.2.1 3).1 := Nat.not_le.mp fun q => hc (Or.inr q)
    exact W.bald (v := .int ((K.2.2.1 3).2 x.toNatClampNeg)) X.1 X.2.1 (by rw [hr.2.2 _ hb]; exact h1) h2 h3 (fun q => hc (q.imp id (fun z => by omega))) (h6 _ hlt) rfl rfl hd k1
  · cases h
theorem wp_callX {z : MR} {fz lz nz idx : Nat} {As : List Value} {rv : Option Value} (okz : okM z nz) (hzc : z.1.cls = "java/lang/String") (him : Cond.instanceMethod z.1 ∈ TBL) (hse : Cond.selects z.1.cls z.1 z.1 ∈ TBL) (hl : Cond.methodLink y.1.cls idx z.1 ∈ TBL) (hn : As.length = nz) (hf : fz + 1 ≤ fr ∧ 8 + (z.2.2.1 + 11) + lz ≤ lo) (hS : (S.map fun v => v.category).sum ≤ 8) (hLn : L.length = y.2.2.1) (hd : decode y.2.1 pc = .ok (.invokevirtual idx, 3)) (hM : MT K l z fz lz (.float 2 :: As) w rv w1)
    (kk : WP K l y fr lo n0 k0 r w' (pc + 3) L (rv.toList ++ S) w1) : WP K l y fr lo n0 k0 r w' pc L (As.reverse ++ .float 2 :: S) w := by
  refine WP.lift hM.1 hM.2.1 (fun p e s m args below meth c H locs ls R Q X hr hlo hL f1 f2 c1 c2 c3 c4 k1 => ?_) kk
  have g1 := hM.1
  have g2 := hM.2.1
  obtain ⟨cell, q1, q2, q3, q4⟩ := X.2.2.2.2.2.2.2.2.1.2.2.2.2.2.2.1
  have hb : K.2.1 2 < cB K := (Array.getElem?_eq_some_iff.mp q1).1
  refine call_go (mc := w1.1 - w.1) (ms := w1.2.1 - w.2.1) (rest := S.map (cv K)) (va_runV (C := z.1.cls) (b := K.2.1 2) (As := As.map (cv K)) (n := nz) (nL := y.2.2.1) (Ts := wsM y) (own := y.1.cls) (index := idx) ⟨X.1, X.2.1, X.2.2.1, X.2.2.2.1, X.2.2.2.2.1⟩ hM.2.2 ⟨callB_of nz X.2.2.2.2.1 (wsM_good okz.1) rfl rfl rfl (X.wd okz.2.1) (X.wd hl) okz.2.2 ⟨Nat.le_trans hf.1 f1, Nat.le_trans hf.2 f2⟩, X.wd him, X.wd hse⟩ ⟨PM.blind, ⟨cell, by rw [hr.2.2 _ hb]; exact q1, q2, by rw [hzc]; exact q3⟩, fun U hU hW => ⟨rfl, by rw [hU]; exact hr, X.2.2.2.2.2.2.2.2.1.warm hW⟩⟩ rfl (by rw [List.length_map]; exact hn) (hL.1.trans hLn) (by show (As.reverse ++ .float 2 :: S).map (cv K) = _; rw [List.map_append, List.map_reverse]; rfl) (lv_room (by rw [scat]; exact hS)) hd ⟨by omega, by omega⟩) hlo (fun H1 locs1 h1 h2 => ?_)
  rw [← tol]
  exact W.cs (by omega) (by omega) (k1 H1 locs1 ls h1 h2 hL)
theorem wp_tabOut {dflt a b : Int} {offs : Array Int} {len : Nat} {x : Int32} {tgt : Nat} (hd : decode y.2.1 pc = .ok (.tableswitch dflt a b offs, len)) (h : x.toInt < a ∨ b < x.toInt) (ht : (pc : Int) + dflt = (tgt : Int)) (k : WP K l y fr lo n0 k0 r w' tgt L S w) : WP K l y fr lo n0 k0 r w' pc L (.int x :: S) w :=
  WP.go (fun p e s m args below meth c H locs ls R cells slots Q X hr hL kk => lv_tableOut X.1 X.2.1 hd h ht kk) k
theorem wp_tabIn {dflt a b : Int} {offs : Array Int} {len : Nat} {x : Int32} {off : Int} {tgt : Nat} (hd : decode y.2.1 pc = .ok (.tableswitch dflt a b offs, len)) (h1 : ¬ x.toInt < a) (h2 : ¬ b < x.toInt) (ho : offs[(x.toInt - a).toNat]? = some off) (ht : (pc : Int) + off = (tgt : Int)) (k : WP K l y fr lo n0 k0 r w' tgt L S w) : WP K l y fr lo n0 k0 r w' pc L (.int x :: S) w :=
  WP.go (fun p e s m args below meth c H locs ls R cells slots Q X hr hL kk => lv_tableIn X.1 X.2.1 hd h1 h2 ho ht kk) k
theorem wp_look {dflt : Int} {ps : Array (Int × Int)} {len : Nat} {x : Int32} {off : Int} {tgt : Nat} (hd : decode y.2.1 pc = .ok (.lookupswitch dflt ps, len)) (hp : (ps.toList.zip (ps.toList.drop 1)).all (fun (a, next) => a.1 < next.1) = true) (ho : Op.lookupswitch.offset ps.toList dflt x.toInt = off) (ht : (pc : Int) + off = (tgt : Int)) (k : WP K l y fr lo n0 k0 r w' tgt L S w) : WP K l y fr lo n0 k0 r w' pc L (.int x :: S) w :=
  WP.go (fun p e s m args below meth c H locs ls R cells slots Q X hr hL kk => lv_lookup X.1 X.2.1 hd hp ho ht kk) k
theorem wp_lcmp {x y0 : Int64} (hd : decode y.2.1 pc = .ok (.lcmp, 1)) (k : WP K l y fr lo n0 k0 r w' (pc + 1) L (.int (lg_cmp x y0) :: S) w) : WP K l y fr lo n0 k0 r w' pc L (.long y0 :: .long x :: S) w :=
  WP.go (fun p e s m args below meth c H locs ls R cells slots Q X hr hL kk => W.lcmp X.1 X.2.1 hd kk) k
end MO
end
section
/-! more rows: calls by their kinds, remainders, small types -/
abbrev irm (x y : Int32) : Int32 := x - x / y * y
abbrev lrm (x y : Int64) : Int64 := x - x / y * y
abbrev imx (x y : Int32) : Int32 := if x < y then y else x
abbrev imn (x y : Int32) : Int32 := if y < x then y else x
def FU : Nat := 4096
/-- the cell i is an object of the class ci -/
def isO (w : XW) (i ci : Nat) : Bool := match w.2.2 i with
  | .inr (.inr (.inr q)) => decide (i < w.1 ∧ q.1 = ci)
  | _ => false
theorem zb_n {x : Int32} (h : x &&& 1 = x) : narrow .boolean (.int x) = .int x := by
  show Value.int (x &&& 1) = .int x
  rw [h]
theorem zb_f {x : Int32} (h : x &&& 1 = x) : fits .boolean (.int x) = true := by
  have h2 : x = 0 ∨ x = 1 := by
    have e : x.toBitVec &&& 1#32 = x.toBitVec := congrArg Int32.toBitVec h
    have key : ∀ b : BitVec 32, b &&& 1#32 = b → b = 0#32 ∨ b = 1#32 := by
      intro b hb
      have h3 : b.toNat &&& 1 = b.toNat := by
        have := congrArg BitVec.toNat hb
        simpa using this
      have h4 : b.toNat % 2 = b.toNat := by rw [← Nat.and_one_is_mod]; exact h3
      have h5 : b.toNat = 0 ∨ b.toNat = 1 := by omega
      rcases h5 with h5 | h5
      · left; exact BitVec.eq_of_toNat_eq (by simpa using h5)
      · right; exact BitVec.eq_of_toNat_eq (by simpa using h5)
    rcases key _ e with e | e
    · left; exact Int32.toBitVec_inj.mp e
    · right; exact Int32.toBitVec_inj.mp e
  rcases h2 with rfl | rfl <;> decide
theorem nc_n {x : Int32} (h : vp_nar .char x = x) : narrow .char (.int x) = .int x := by
  show Value.int (vp_nar .char x) = .int x
  rw [h]
theorem nb_n {x : Int32} (h : vp_nar .byte x = x) : narrow .byte (.int x) = .int x := by
  show Value.int (vp_nar .byte x) = .int x
  rw [h]
section AX
variable {K : CX} {l : Launch} {y : MR} {fr lo n0 k0 : Nat} {r : Option Value} {w' : XW} {pc : Nat} {L L1 : List (Option Value)} {S S1 : List Value} {w w1 : XW} {pc1 : Nat}
theorem WP.wk (k : WP K l y fr lo n0 k0 r w' pc L1 S w) (hs : lsub L1 L) : WP K l y fr lo n0 k0 r w' pc L S w := WP.weak hs k
theorem isO_spec {i ci : Nat} (h : isO w i ci = true) : ∃ fs, xat w i (xo ci fs) := by
  unfold isO at h
  split at h
  · rename_i q hq
    have h1 := of_decide_eq_true h
    obtain ⟨h1, rfl⟩ := h1
    exact ⟨q.2, h1, hq⟩
  · cases h
theorem wp_ldcw {i : Nat} {v : Int32} (hc : Cond.constant y.1.cls i v ∈ TBL) (hd : decode y.2.1 pc = .ok (.ldc_w i, 3)) (k : WP K l y fr lo n0 k0 r w' (pc + 3) L (.int v :: S) w) : WP K l y fr lo n0 k0 r w' pc L S w :=
  WP.go (fun p e s m args below meth c H locs ls R cells slots Q X hr hL kk => lv_ldcw X.1 X.2.1 X.2.2.2.1 (X.wd hc) hd kk) k
theorem wp_irm {x y0 : Int32} (hd : decode y.2.1 pc = .ok (.irem, 1)) (hne : ¬ y0 = 0) (k : WP K l y fr lo n0 k0 r w' (pc + 1) L (.int (irm x y0) :: S) w) : WP K l y fr lo n0 k0 r w' pc L (.int y0 :: .int x :: S) w := wp_irem hd hne k
theorem wp_lrm {x y0 : Int64} (hd : decode y.2.1 pc = .ok (.lrem, 1)) (hne : ¬ y0 = 0) (k : WP K l y fr lo n0 k0 r w' (pc + 1) L (.long (lrm x y0) :: S) w) : WP K l y fr lo n0 k0 r w' pc L (.long y0 :: .long x :: S) w := wp_lrem hd hne k
theorem wp_imx {idx : Nat} {x y0 : Int32} (hl : Cond.methodLink y.1.cls idx Lib.Math.max.name ∈ TBL) (hst : Cond.static Lib.Math.max.name ∈ TBL) (hini : Cond.initialized "java/lang/Math" ∈ TBL) (hcd : Cond.code Lib.Math.max.name Lib.Math.max.code 2 (some .int) ∈ TBL) (hf : 1 ≤ fr ∧ (S.map fun v => v.category).sum + 13 ≤ lo) (hLn : L.length = y.2.2.1) (hd : decode y.2.1 pc = .ok (.invokestatic idx, 3)) (kk : WP K l y fr lo n0 k0 r w' (pc + 3) L (.int (imx x y0) :: S) w) : WP K l y fr lo n0 k0 r w' pc L (.int y0 :: .int x :: S) w := wp_max hl hst hini hcd hf hLn hd kk
theorem wp_imn {idx : Nat} {x y0 : Int32} (hl : Cond.methodLink y.1.cls idx Lib.Math.min.name ∈ TBL) (hst : Cond.static Lib.Math.min.name ∈ TBL) (hini : Cond.initialized "java/lang/Math" ∈ TBL) (hcd : Cond.code Lib.Math.min.name Lib.Math.min.code 2 (some .int) ∈ TBL) (hf : 1 ≤ fr ∧ (S.map fun v => v.category).sum + 13 ≤ lo) (hLn : L.length = y.2.2.1) (hd : decode y.2.1 pc = .ok (.invokestatic idx, 3)) (kk : WP K l y fr lo n0 k0 r w' (pc + 3) L (.int (imn x y0) :: S) w) : WP K l y fr lo n0 k0 r w' pc L (.int y0 :: .int x :: S) w := wp_min hl hst hini hcd hf hLn hd kk
theorem wp_Vi {z : MR} {fz lz nz idx i ci : Nat} {q0 : vw_C} {As : List Value} {x : Int32} (okz : okM z nz) (him : Cond.instanceMethod z.1 ∈ TBL) (hse : Cond.selects z.1.cls z.1 z.1 ∈ TBL) (hl : Cond.methodLink y.1.cls idx z.1 ∈ TBL) (hx : isO w i ci = true) (hci : classes[ci]? = some q0) (hq0 : q0.1 = z.1.cls) (hn : As.length = nz) (hf : fz + 1 ≤ fr ∧ 8 + (z.2.2.1 + 11) + lz ≤ lo) (hS : (S.map fun v => v.category).sum ≤ 8) (hLn : L.length = y.2.2.1) (hd : decode y.2.1 pc = .ok (.invokevirtual idx, 3)) (hM : MT K l z fz lz (.ref i :: As) w (some (.int x)) w1)
    (kk : WP K l y fr lo n0 k0 r w' (pc + 3) L (.int x :: S) w1) : WP K l y fr lo n0 k0 r w' pc L (As.reverse ++ .ref i :: S) w := by
  obtain ⟨fs, h⟩ := isO_spec hx
  exact wp_callV okz him hse hl h hci hq0 hn hf hS hLn hd hM kk
theorem wp_Vv {z : MR} {fz lz nz idx i ci : Nat} {q0 : vw_C} {As : List Value} (okz : okM z nz) (him : Cond.instanceMethod z.1 ∈ TBL) (hse : Cond.selects z.1.cls z.1 z.1 ∈ TBL) (hl : Cond.methodLink y.1.cls idx z.1 ∈ TBL) (hx : isO w i ci = true) (hci : classes[ci]? = some q0) (hq0 : q0.1 = z.1.cls) (hn : As.length = nz) (hf : fz + 1 ≤ fr ∧ 8 + (z.2.2.1 + 11) + lz ≤ lo) (hS : (S.map fun v => v.category).sum ≤ 8) (hLn : L.length = y.2.2.1) (hd : decode y.2.1 pc = .ok (.invokevirtual idx, 3)) (hM : MT K l z fz lz (.ref i :: As) w none w1)
    (kk : WP K l y fr lo n0 k0 r w' (pc + 3) L S w1) : WP K l y fr lo n0 k0 r w' pc L (As.reverse ++ .ref i :: S) w := by
  obtain ⟨fs, h⟩ := isO_spec hx
  exact wp_callV okz him hse hl h hci hq0 hn hf hS hLn hd hM kk
theorem wp_Si {z : MR} {fz lz nz idx : Nat} {As : List Value} {x : Int32} (okz : okM z nz) (hst : Cond.static z.1 ∈ TBL) (hl : Cond.methodLink y.1.cls idx z.1 ∈ TBL) (hn : As.length = nz) (hf : fz + 1 ≤ fr ∧ 8 + (z.2.2.1 + 11) + lz ≤ lo) (hS : (S.map fun v => v.category).sum ≤ 8) (hLn : L.length = y.2.2.1) (hd : decode y.2.1 pc = .ok (.invokestatic idx, 3)) (hM : MT K l z fz lz As w (some (.int x)) w1)
    (kk : WP K l y fr lo n0 k0 r w' (pc + 3) L (.int x :: S) w1) : WP K l y fr lo n0 k0 r w' pc L (As.reverse ++ S) w := wp_callS okz hst hl hn hf hS hLn hd hM kk
theorem wp_Sv {z : MR} {fz lz nz idx : Nat} {As : List Value} (okz : okM z nz) (hst : Cond.static z.1 ∈ TBL) (hl : Cond.methodLink y.1.cls idx z.1 ∈ TBL) (hn : As.length = nz) (hf : fz + 1 ≤ fr ∧ 8 + (z.2.2.1 + 11) + lz ≤ lo) (hS : (S.map fun v => v.category).sum ≤ 8) (hLn : L.length = y.2.2.1) (hd : decode y.2.1 pc = .ok (.invokestatic idx, 3)) (hM : MT K l z fz lz As w none w1)
    (kk : WP K l y fr lo n0 k0 r w' (pc + 3) L S w1) : WP K l y fr lo n0 k0 r w' pc L (As.reverse ++ S) w := wp_callS okz hst hl hn hf hS hLn hd hM kk
theorem wp_SNi {z : MR} {fz lz nz idx : Nat} {As : List Value} {x : Int32} (okz : okM z nz) (hst : Cond.static z.1 ∈ TBL) (hl : (y.1.cls, idx, z.1) ∈ NWm) (hn : As.length = nz) (hf : fz + 1 ≤ fr ∧ 8 + (z.2.2.1 + 11) + lz ≤ lo) (hS : (S.map fun v => v.category).sum ≤ 8) (hLn : L.length = y.2.2.1) (hd : decode y.2.1 pc = .ok (.invokestatic idx, 3)) (hM : MT K l z fz lz As w (some (.int x)) w1)
    (kk : WP K l y fr lo n0 k0 r w' (pc + 3) L (.int x :: S) w1) : WP K l y fr lo n0 k0 r w' pc L (As.reverse ++ S) w := wp_callSN okz hst hl hn hf hS hLn hd hM kk
theorem wp_Xi {z : MR} {fz lz nz idx : Nat} {As : List Value} {x : Int32} (okz : okM z nz) (hzc : z.1.cls = "java/lang/String") (him : Cond.instanceMethod z.1 ∈ TBL) (hse : Cond.selects z.1.cls z.1 z.1 ∈ TBL) (hl : Cond.methodLink y.1.cls idx z.1 ∈ TBL) (hn : As.length = nz) (hf : fz + 1 ≤ fr ∧ 8 + (z.2.2.1 + 11) + lz ≤ lo) (hS : (S.map fun v => v.category).sum ≤ 8) (hLn : L.length = y.2.2.1) (hd : decode y.2.1 pc = .ok (.invokevirtual idx, 3)) (hM : MT K l z fz lz (.float 2 :: As) w (some (.int x)) w1)
    (kk : WP K l y fr lo n0 k0 r w' (pc + 3) L (.int x :: S) w1) : WP K l y fr lo n0 k0 r w' pc L (As.reverse ++ .float 2 :: S) w := wp_callX okz hzc him hse hl hn hf hS hLn hd hM kk
end AX
theorem twlay {C : String} {T : u_T} {N : Nat} (h : (u_ws C T N).all (fun u => decide (u ∈ lw_tbl) && goodWord u) = true) : ∀ u ∈ u_ws C T N, u ∈ TBL := by
  intro u hu
  have h1 := List.all_eq_true.mp h u hu
  simp only [Bool.and_eq_true, decide_eq_true_eq] at h1
  exact List.mem_filter.mpr ⟨h1.1, h1.2⟩
end
