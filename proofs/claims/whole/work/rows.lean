section
-- ===== PART A: goes FIRST, ahead of the names: the tables' words, and 'selects' of the private methods out of them =====
/-- a private method of a class that the tables say can be made, by its rows of tables_1 -/
def lw_okq (q : MethodName × Nat) : Prop := (q.1.cls ≠ "java/lang/invoke/MethodHandle" ∧ q.1.cls ≠ "java/lang/invoke/VarHandle") ∧ Cond.instantiable q.1.cls q.2 ∈ tables_1 ∧ Cond.privateMethod q.1 ∈ tables_1 ∧ Cond.instanceMethod q.1 ∈ tables_1
theorem lw_p0 : lw_okq (⟨"VolumeInFivePasses", "refusal", "(I)I"⟩, 13) := ⟨⟨by decide +kernel, by decide +kernel⟩, List.mem_of_getElem? (i := 16) (by decide +kernel), List.mem_of_getElem? (i := 168) (by decide +kernel), List.mem_of_getElem? (i := 169) (by decide +kernel)⟩
theorem lw_p1 : lw_okq (⟨"VolumeInFivePasses$Letters", "placeOfWrongLetter", "()I"⟩, 2) := ⟨⟨by decide +kernel, by decide +kernel⟩, List.mem_of_getElem? (i := 110) (by decide +kernel), List.mem_of_getElem? (i := 184) (by decide +kernel), List.mem_of_getElem? (i := 185) (by decide +kernel)⟩
theorem lw_p2 : lw_okq (⟨"VolumeInFivePasses$Letters", "wrongLetterOf", "(I)I"⟩, 2) := ⟨⟨by decide +kernel, by decide +kernel⟩, List.mem_of_getElem? (i := 110) (by decide +kernel), List.mem_of_getElem? (i := 188) (by decide +kernel), List.mem_of_getElem? (i := 189) (by decide +kernel)⟩
theorem lw_p3 : lw_okq (⟨"VolumeInFivePasses$Letters", "placeOfWrongStatement", "()I"⟩, 2) := ⟨⟨by decide +kernel, by decide +kernel⟩, List.mem_of_getElem? (i := 110) (by decide +kernel), List.mem_of_getElem? (i := 321) (by decide +kernel), List.mem_of_getElem? (i := 322) (by decide +kernel)⟩
theorem lw_p4 : lw_okq (⟨"VolumeInFivePasses$Letters", "stands", "(I)Z"⟩, 2) := ⟨⟨by decide +kernel, by decide +kernel⟩, List.mem_of_getElem? (i := 110) (by decide +kernel), List.mem_of_getElem? (i := 325) (by decide +kernel), List.mem_of_getElem? (i := 326) (by decide +kernel)⟩
theorem lw_p5 : lw_okq (⟨"VolumeInFivePasses", "carryOut", "(I)V"⟩, 13) := ⟨⟨by decide +kernel, by decide +kernel⟩, List.mem_of_getElem? (i := 16) (by decide +kernel), List.mem_of_getElem? (i := 337) (by decide +kernel), List.mem_of_getElem? (i := 338) (by decide +kernel)⟩
theorem lw_p6 : lw_okq (⟨"VolumeInFivePasses$Check", "mendPointers", "()V"⟩, 7) := ⟨⟨by decide +kernel, by decide +kernel⟩, List.mem_of_getElem? (i := 75) (by decide +kernel), List.mem_of_getElem? (i := 371) (by decide +kernel), List.mem_of_getElem? (i := 372) (by decide +kernel)⟩
theorem lw_p7 : lw_okq (⟨"VolumeInFivePasses$Check", "asks", "(III)Z"⟩, 7) := ⟨⟨by decide +kernel, by decide +kernel⟩, List.mem_of_getElem? (i := 75) (by decide +kernel), List.mem_of_getElem? (i := 379) (by decide +kernel), List.mem_of_getElem? (i := 380) (by decide +kernel)⟩
theorem lw_p8 : lw_okq (⟨"VolumeInFivePasses$Check", "faultOfPointer", "(III)I"⟩, 7) := ⟨⟨by decide +kernel, by decide +kernel⟩, List.mem_of_getElem? (i := 75) (by decide +kernel), List.mem_of_getElem? (i := 387) (by decide +kernel), List.mem_of_getElem? (i := 388) (by decide +kernel)⟩
theorem lw_p9 : lw_okq (⟨"VolumeInFivePasses$Check", "cloneFor", "(II)I"⟩, 7) := ⟨⟨by decide +kernel, by decide +kernel⟩, List.mem_of_getElem? (i := 75) (by decide +kernel), List.mem_of_getElem? (i := 393) (by decide +kernel), List.mem_of_getElem? (i := 394) (by decide +kernel)⟩
theorem lw_p10 : lw_okq (⟨"VolumeInFivePasses$Check", "mendEntries", "()V"⟩, 7) := ⟨⟨by decide +kernel, by decide +kernel⟩, List.mem_of_getElem? (i := 75) (by decide +kernel), List.mem_of_getElem? (i := 416) (by decide +kernel), List.mem_of_getElem? (i := 417) (by decide +kernel)⟩
theorem lw_p11 : lw_okq (⟨"VolumeInFivePasses$Check", "faultOfEntry", "(IIII)I"⟩, 7) := ⟨⟨by decide +kernel, by decide +kernel⟩, List.mem_of_getElem? (i := 75) (by decide +kernel), List.mem_of_getElem? (i := 420) (by decide +kernel), List.mem_of_getElem? (i := 421) (by decide +kernel)⟩
theorem lw_p12 : lw_okq (⟨"VolumeInFivePasses$Check", "mendConnections", "()V"⟩, 7) := ⟨⟨by decide +kernel, by decide +kernel⟩, List.mem_of_getElem? (i := 75) (by decide +kernel), List.mem_of_getElem? (i := 426) (by decide +kernel), List.mem_of_getElem? (i := 427) (by decide +kernel)⟩
theorem lw_p13 : lw_okq (⟨"VolumeInFivePasses$Check", "cutOff", "(I)V"⟩, 7) := ⟨⟨by decide +kernel, by decide +kernel⟩, List.mem_of_getElem? (i := 75) (by decide +kernel), List.mem_of_getElem? (i := 449) (by decide +kernel), List.mem_of_getElem? (i := 450) (by decide +kernel)⟩
theorem lw_p14 : lw_okq (⟨"VolumeInFivePasses$Check", "attach", "(I)I"⟩, 7) := ⟨⟨by decide +kernel, by decide +kernel⟩, List.mem_of_getElem? (i := 75) (by decide +kernel), List.mem_of_getElem? (i := 457) (by decide +kernel), List.mem_of_getElem? (i := 458) (by decide +kernel)⟩
theorem lw_p15 : lw_okq (⟨"VolumeInFivePasses$Check", "mendParents", "()V"⟩, 7) := ⟨⟨by decide +kernel, by decide +kernel⟩, List.mem_of_getElem? (i := 75) (by decide +kernel), List.mem_of_getElem? (i := 472) (by decide +kernel), List.mem_of_getElem? (i := 473) (by decide +kernel)⟩
def lw_privs_1 : List (MethodName × Nat) := [(⟨"VolumeInFivePasses", "refusal", "(I)I"⟩, 13), (⟨"VolumeInFivePasses$Letters", "placeOfWrongLetter", "()I"⟩, 2), (⟨"VolumeInFivePasses$Letters", "wrongLetterOf", "(I)I"⟩, 2), (⟨"VolumeInFivePasses$Letters", "placeOfWrongStatement", "()I"⟩, 2), (⟨"VolumeInFivePasses$Letters", "stands", "(I)Z"⟩, 2), (⟨"VolumeInFivePasses", "carryOut", "(I)V"⟩, 13), (⟨"VolumeInFivePasses$Check", "mendPointers", "()V"⟩, 7), (⟨"VolumeInFivePasses$Check", "asks", "(III)Z"⟩, 7), (⟨"VolumeInFivePasses$Check", "faultOfPointer", "(III)I"⟩, 7), (⟨"VolumeInFivePasses$Check", "cloneFor", "(II)I"⟩, 7), (⟨"VolumeInFivePasses$Check", "mendEntries", "()V"⟩, 7), (⟨"VolumeInFivePasses$Check", "faultOfEntry", "(IIII)I"⟩, 7), (⟨"VolumeInFivePasses$Check", "mendConnections", "()V"⟩, 7), (⟨"VolumeInFivePasses$Check", "cutOff", "(I)V"⟩, 7), (⟨"VolumeInFivePasses$Check", "attach", "(I)I"⟩, 7), (⟨"VolumeInFivePasses$Check", "mendParents", "()V"⟩, 7)]
theorem lw_r1 : ∀ q ∈ lw_privs_1, lw_okq q := List.forall_mem_cons.mpr ⟨lw_p0, List.forall_mem_cons.mpr ⟨lw_p1, List.forall_mem_cons.mpr ⟨lw_p2, List.forall_mem_cons.mpr ⟨lw_p3, List.forall_mem_cons.mpr ⟨lw_p4, List.forall_mem_cons.mpr ⟨lw_p5, List.forall_mem_cons.mpr ⟨lw_p6, List.forall_mem_cons.mpr ⟨lw_p7, List.forall_mem_cons.mpr ⟨lw_p8, List.forall_mem_cons.mpr ⟨lw_p9, List.forall_mem_cons.mpr ⟨lw_p10, List.forall_mem_cons.mpr ⟨lw_p11, List.forall_mem_cons.mpr ⟨lw_p12, List.forall_mem_cons.mpr ⟨lw_p13, List.forall_mem_cons.mpr ⟨lw_p14, List.forall_mem_cons.mpr ⟨lw_p15, fun _ h => absurd h List.not_mem_nil⟩⟩⟩⟩⟩⟩⟩⟩⟩⟩⟩⟩⟩⟩⟩⟩
theorem lw_p16 : lw_okq (⟨"VolumeInFivePasses$Check", "mendCounts", "()V"⟩, 7) := ⟨⟨by decide +kernel, by decide +kernel⟩, List.mem_of_getElem? (i := 75) (by decide +kernel), List.mem_of_getElem? (i := 476) (by decide +kernel), List.mem_of_getElem? (i := 477) (by decide +kernel)⟩
theorem lw_p17 : lw_okq (⟨"VolumeInFivePasses$Check", "mendMaps", "()V"⟩, 7) := ⟨⟨by decide +kernel, by decide +kernel⟩, List.mem_of_getElem? (i := 75) (by decide +kernel), List.mem_of_getElem? (i := 485) (by decide +kernel), List.mem_of_getElem? (i := 486) (by decide +kernel)⟩
theorem lw_p18 : lw_okq (⟨"VolumeInFivePasses", "leftWithout", "(I)I"⟩, 13) := ⟨⟨by decide +kernel, by decide +kernel⟩, List.mem_of_getElem? (i := 16) (by decide +kernel), List.mem_of_getElem? (i := 664) (by decide +kernel), List.mem_of_getElem? (i := 665) (by decide +kernel)⟩
theorem lw_p19 : lw_okq (⟨"VolumeInFivePasses", "rowIsAsked", "()Z"⟩, 13) := ⟨⟨by decide +kernel, by decide +kernel⟩, List.mem_of_getElem? (i := 16) (by decide +kernel), List.mem_of_getElem? (i := 685) (by decide +kernel), List.mem_of_getElem? (i := 686) (by decide +kernel)⟩
theorem lw_p20 : lw_okq (⟨"VolumeInFivePasses", "changeByLot", "()V"⟩, 13) := ⟨⟨by decide +kernel, by decide +kernel⟩, List.mem_of_getElem? (i := 16) (by decide +kernel), List.mem_of_getElem? (i := 705) (by decide +kernel), List.mem_of_getElem? (i := 706) (by decide +kernel)⟩
theorem lw_p21 : lw_okq (⟨"VolumeInFivePasses", "draw", "(I)I"⟩, 13) := ⟨⟨by decide +kernel, by decide +kernel⟩, List.mem_of_getElem? (i := 16) (by decide +kernel), List.mem_of_getElem? (i := 709) (by decide +kernel), List.mem_of_getElem? (i := 710) (by decide +kernel)⟩
theorem lw_p22 : lw_okq (⟨"VolumeInFivePassesModel", "refused", "(I)I"⟩, 18) := ⟨⟨by decide +kernel, by decide +kernel⟩, List.mem_of_getElem? (i := 729) (by decide +kernel), List.mem_of_getElem? (i := 793) (by decide +kernel), List.mem_of_getElem? (i := 794) (by decide +kernel)⟩
theorem lw_p23 : lw_okq (⟨"VolumeInFivePassesModel", "goesThrough", "(Z)I"⟩, 18) := ⟨⟨by decide +kernel, by decide +kernel⟩, List.mem_of_getElem? (i := 729) (by decide +kernel), List.mem_of_getElem? (i := 801) (by decide +kernel), List.mem_of_getElem? (i := 802) (by decide +kernel)⟩
theorem lw_p24 : lw_okq (⟨"VolumeInFivePassesModel", "states", "(Z)V"⟩, 18) := ⟨⟨by decide +kernel, by decide +kernel⟩, List.mem_of_getElem? (i := 729) (by decide +kernel), List.mem_of_getElem? (i := 805) (by decide +kernel), List.mem_of_getElem? (i := 806) (by decide +kernel)⟩
theorem lw_p25 : lw_okq (⟨"VolumeInFivePassesModel", "here", "()I"⟩, 18) := ⟨⟨by decide +kernel, by decide +kernel⟩, List.mem_of_getElem? (i := 729) (by decide +kernel), List.mem_of_getElem? (i := 809) (by decide +kernel), List.mem_of_getElem? (i := 810) (by decide +kernel)⟩
theorem lw_p26 : lw_okq (⟨"VolumeInFivePassesModel", "digit", "()I"⟩, 18) := ⟨⟨by decide +kernel, by decide +kernel⟩, List.mem_of_getElem? (i := 729) (by decide +kernel), List.mem_of_getElem? (i := 813) (by decide +kernel), List.mem_of_getElem? (i := 814) (by decide +kernel)⟩
theorem lw_p27 : lw_okq (⟨"VolumeInFivePassesModel", "one", "(II)I"⟩, 18) := ⟨⟨by decide +kernel, by decide +kernel⟩, List.mem_of_getElem? (i := 729) (by decide +kernel), List.mem_of_getElem? (i := 817) (by decide +kernel), List.mem_of_getElem? (i := 818) (by decide +kernel)⟩
theorem lw_p28 : lw_okq (⟨"VolumeInFivePassesModel", "kindLetter", "()I"⟩, 18) := ⟨⟨by decide +kernel, by decide +kernel⟩, List.mem_of_getElem? (i := 729) (by decide +kernel), List.mem_of_getElem? (i := 824) (by decide +kernel), List.mem_of_getElem? (i := 825) (by decide +kernel)⟩
theorem lw_p29 : lw_okq (⟨"VolumeInFivePassesModel", "twoDigits", "()I"⟩, 18) := ⟨⟨by decide +kernel, by decide +kernel⟩, List.mem_of_getElem? (i := 729) (by decide +kernel), List.mem_of_getElem? (i := 830) (by decide +kernel), List.mem_of_getElem? (i := 831) (by decide +kernel)⟩
theorem lw_p30 : lw_okq (⟨"VolumeInFivePassesModel", "must", "(ZI)V"⟩, 18) := ⟨⟨by decide +kernel, by decide +kernel⟩, List.mem_of_getElem? (i := 729) (by decide +kernel), List.mem_of_getElem? (i := 834) (by decide +kernel), List.mem_of_getElem? (i := 835) (by decide +kernel)⟩
theorem lw_p31 : lw_okq (⟨"VolumeInFivePassesModel", "checks", "()I"⟩, 18) := ⟨⟨by decide +kernel, by decide +kernel⟩, List.mem_of_getElem? (i := 729) (by decide +kernel), List.mem_of_getElem? (i := 838) (by decide +kernel), List.mem_of_getElem? (i := 839) (by decide +kernel)⟩
def lw_privs_2 : List (MethodName × Nat) := [(⟨"VolumeInFivePasses$Check", "mendCounts", "()V"⟩, 7), (⟨"VolumeInFivePasses$Check", "mendMaps", "()V"⟩, 7), (⟨"VolumeInFivePasses", "leftWithout", "(I)I"⟩, 13), (⟨"VolumeInFivePasses", "rowIsAsked", "()Z"⟩, 13), (⟨"VolumeInFivePasses", "changeByLot", "()V"⟩, 13), (⟨"VolumeInFivePasses", "draw", "(I)I"⟩, 13), (⟨"VolumeInFivePassesModel", "refused", "(I)I"⟩, 18), (⟨"VolumeInFivePassesModel", "goesThrough", "(Z)I"⟩, 18), (⟨"VolumeInFivePassesModel", "states", "(Z)V"⟩, 18), (⟨"VolumeInFivePassesModel", "here", "()I"⟩, 18), (⟨"VolumeInFivePassesModel", "digit", "()I"⟩, 18), (⟨"VolumeInFivePassesModel", "one", "(II)I"⟩, 18), (⟨"VolumeInFivePassesModel", "kindLetter", "()I"⟩, 18), (⟨"VolumeInFivePassesModel", "twoDigits", "()I"⟩, 18), (⟨"VolumeInFivePassesModel", "must", "(ZI)V"⟩, 18), (⟨"VolumeInFivePassesModel", "checks", "()I"⟩, 18)]
theorem lw_r2 : ∀ q ∈ lw_privs_2, lw_okq q := List.forall_mem_cons.mpr ⟨lw_p16, List.forall_mem_cons.mpr ⟨lw_p17, List.forall_mem_cons.mpr ⟨lw_p18, List.forall_mem_cons.mpr ⟨lw_p19, List.forall_mem_cons.mpr ⟨lw_p20, List.forall_mem_cons.mpr ⟨lw_p21, List.forall_mem_cons.mpr ⟨lw_p22, List.forall_mem_cons.mpr ⟨lw_p23, List.forall_mem_cons.mpr ⟨lw_p24, List.forall_mem_cons.mpr ⟨lw_p25, List.forall_mem_cons.mpr ⟨lw_p26, List.forall_mem_cons.mpr ⟨lw_p27, List.forall_mem_cons.mpr ⟨lw_p28, List.forall_mem_cons.mpr ⟨lw_p29, List.forall_mem_cons.mpr ⟨lw_p30, List.forall_mem_cons.mpr ⟨lw_p31, fun _ h => absurd h List.not_mem_nil⟩⟩⟩⟩⟩⟩⟩⟩⟩⟩⟩⟩⟩⟩⟩⟩
theorem lw_p32 : lw_okq (⟨"VolumeInFivePassesModel", "isDirectory", "(I)Z"⟩, 18) := ⟨⟨by decide +kernel, by decide +kernel⟩, List.mem_of_getElem? (i := 729) (by decide +kernel), List.mem_of_getElem? (i := 842) (by decide +kernel), List.mem_of_getElem? (i := 843) (by decide +kernel)⟩
theorem lw_p33 : lw_okq (⟨"VolumeInFivePassesModel", "asks", "(III)V"⟩, 18) := ⟨⟨by decide +kernel, by decide +kernel⟩, List.mem_of_getElem? (i := 729) (by decide +kernel), List.mem_of_getElem? (i := 846) (by decide +kernel), List.mem_of_getElem? (i := 847) (by decide +kernel)⟩
theorem lw_p34 : lw_okq (⟨"VolumeInFivePassesModel", "wipes", "(II)V"⟩, 18) := ⟨⟨by decide +kernel, by decide +kernel⟩, List.mem_of_getElem? (i := 729) (by decide +kernel), List.mem_of_getElem? (i := 850) (by decide +kernel), List.mem_of_getElem? (i := 851) (by decide +kernel)⟩
theorem lw_p35 : lw_okq (⟨"VolumeInFivePassesModel", "looksAtPointer", "(II)V"⟩, 18) := ⟨⟨by decide +kernel, by decide +kernel⟩, List.mem_of_getElem? (i := 729) (by decide +kernel), List.mem_of_getElem? (i := 854) (by decide +kernel), List.mem_of_getElem? (i := 855) (by decide +kernel)⟩
theorem lw_p36 : lw_okq (⟨"VolumeInFivePassesModel", "isRefused", "(I)Z"⟩, 18) := ⟨⟨by decide +kernel, by decide +kernel⟩, List.mem_of_getElem? (i := 729) (by decide +kernel), List.mem_of_getElem? (i := 861) (by decide +kernel), List.mem_of_getElem? (i := 862) (by decide +kernel)⟩
theorem lw_p37 : lw_okq (⟨"VolumeInFivePassesModel", "isSharedAhead", "(I)Z"⟩, 18) := ⟨⟨by decide +kernel, by decide +kernel⟩, List.mem_of_getElem? (i := 729) (by decide +kernel), List.mem_of_getElem? (i := 865) (by decide +kernel), List.mem_of_getElem? (i := 866) (by decide +kernel)⟩
theorem lw_p38 : lw_okq (⟨"VolumeInFivePassesModel", "freeBlock", "()I"⟩, 18) := ⟨⟨by decide +kernel, by decide +kernel⟩, List.mem_of_getElem? (i := 729) (by decide +kernel), List.mem_of_getElem? (i := 869) (by decide +kernel), List.mem_of_getElem? (i := 870) (by decide +kernel)⟩
theorem lw_p39 : lw_okq (⟨"VolumeInFivePassesModel", "pointersTo", "(I)I"⟩, 18) := ⟨⟨by decide +kernel, by decide +kernel⟩, List.mem_of_getElem? (i := 729) (by decide +kernel), List.mem_of_getElem? (i := 873) (by decide +kernel), List.mem_of_getElem? (i := 874) (by decide +kernel)⟩
theorem lw_p40 : lw_okq (⟨"VolumeInFivePassesModel", "looksAtSlot", "(II)V"⟩, 18) := ⟨⟨by decide +kernel, by decide +kernel⟩, List.mem_of_getElem? (i := 729) (by decide +kernel), List.mem_of_getElem? (i := 877) (by decide +kernel), List.mem_of_getElem? (i := 878) (by decide +kernel)⟩
theorem lw_p41 : lw_okq (⟨"VolumeInFivePassesModel", "isNamedAhead", "(II)Z"⟩, 18) := ⟨⟨by decide +kernel, by decide +kernel⟩, List.mem_of_getElem? (i := 729) (by decide +kernel), List.mem_of_getElem? (i := 884) (by decide +kernel), List.mem_of_getElem? (i := 885) (by decide +kernel)⟩
theorem lw_p42 : lw_okq (⟨"VolumeInFivePassesModel", "isListedAhead", "(II)Z"⟩, 18) := ⟨⟨by decide +kernel, by decide +kernel⟩, List.mem_of_getElem? (i := 729) (by decide +kernel), List.mem_of_getElem? (i := 888) (by decide +kernel), List.mem_of_getElem? (i := 889) (by decide +kernel)⟩
theorem lw_p43 : lw_okq (⟨"VolumeInFivePassesModel", "isEntryTo", "(II)Z"⟩, 18) := ⟨⟨by decide +kernel, by decide +kernel⟩, List.mem_of_getElem? (i := 729) (by decide +kernel), List.mem_of_getElem? (i := 892) (by decide +kernel), List.mem_of_getElem? (i := 893) (by decide +kernel)⟩
theorem lw_p44 : lw_okq (⟨"VolumeInFivePassesModel", "connects", "()V"⟩, 18) := ⟨⟨by decide +kernel, by decide +kernel⟩, List.mem_of_getElem? (i := 729) (by decide +kernel), List.mem_of_getElem? (i := 896) (by decide +kernel), List.mem_of_getElem? (i := 897) (by decide +kernel)⟩
theorem lw_p45 : lw_okq (⟨"VolumeInFivePassesModel", "lone", "()I"⟩, 18) := ⟨⟨by decide +kernel, by decide +kernel⟩, List.mem_of_getElem? (i := 729) (by decide +kernel), List.mem_of_getElem? (i := 900) (by decide +kernel), List.mem_of_getElem? (i := 901) (by decide +kernel)⟩
theorem lw_p46 : lw_okq (⟨"VolumeInFivePassesModel", "reached", "(IZ)I"⟩, 18) := ⟨⟨by decide +kernel, by decide +kernel⟩, List.mem_of_getElem? (i := 729) (by decide +kernel), List.mem_of_getElem? (i := 904) (by decide +kernel), List.mem_of_getElem? (i := 905) (by decide +kernel)⟩
theorem lw_p47 : lw_okq (⟨"VolumeInFivePassesModel", "entriesTo", "(I)I"⟩, 18) := ⟨⟨by decide +kernel, by decide +kernel⟩, List.mem_of_getElem? (i := 729) (by decide +kernel), List.mem_of_getElem? (i := 908) (by decide +kernel), List.mem_of_getElem? (i := 909) (by decide +kernel)⟩
def lw_privs_3 : List (MethodName × Nat) := [(⟨"VolumeInFivePassesModel", "isDirectory", "(I)Z"⟩, 18), (⟨"VolumeInFivePassesModel", "asks", "(III)V"⟩, 18), (⟨"VolumeInFivePassesModel", "wipes", "(II)V"⟩, 18), (⟨"VolumeInFivePassesModel", "looksAtPointer", "(II)V"⟩, 18), (⟨"VolumeInFivePassesModel", "isRefused", "(I)Z"⟩, 18), (⟨"VolumeInFivePassesModel", "isSharedAhead", "(I)Z"⟩, 18), (⟨"VolumeInFivePassesModel", "freeBlock", "()I"⟩, 18), (⟨"VolumeInFivePassesModel", "pointersTo", "(I)I"⟩, 18), (⟨"VolumeInFivePassesModel", "looksAtSlot", "(II)V"⟩, 18), (⟨"VolumeInFivePassesModel", "isNamedAhead", "(II)Z"⟩, 18), (⟨"VolumeInFivePassesModel", "isListedAhead", "(II)Z"⟩, 18), (⟨"VolumeInFivePassesModel", "isEntryTo", "(II)Z"⟩, 18), (⟨"VolumeInFivePassesModel", "connects", "()V"⟩, 18), (⟨"VolumeInFivePassesModel", "lone", "()I"⟩, 18), (⟨"VolumeInFivePassesModel", "reached", "(IZ)I"⟩, 18), (⟨"VolumeInFivePassesModel", "entriesTo", "(I)I"⟩, 18)]
theorem lw_r3 : ∀ q ∈ lw_privs_3, lw_okq q := List.forall_mem_cons.mpr ⟨lw_p32, List.forall_mem_cons.mpr ⟨lw_p33, List.forall_mem_cons.mpr ⟨lw_p34, List.forall_mem_cons.mpr ⟨lw_p35, List.forall_mem_cons.mpr ⟨lw_p36, List.forall_mem_cons.mpr ⟨lw_p37, List.forall_mem_cons.mpr ⟨lw_p38, List.forall_mem_cons.mpr ⟨lw_p39, List.forall_mem_cons.mpr ⟨lw_p40, List.forall_mem_cons.mpr ⟨lw_p41, List.forall_mem_cons.mpr ⟨lw_p42, List.forall_mem_cons.mpr ⟨lw_p43, List.forall_mem_cons.mpr ⟨lw_p44, List.forall_mem_cons.mpr ⟨lw_p45, List.forall_mem_cons.mpr ⟨lw_p46, List.forall_mem_cons.mpr ⟨lw_p47, fun _ h => absurd h List.not_mem_nil⟩⟩⟩⟩⟩⟩⟩⟩⟩⟩⟩⟩⟩⟩⟩⟩
theorem lw_p48 : lw_okq (⟨"VolumeInFivePassesModel", "entryTo", "(I)I"⟩, 18) := ⟨⟨by decide +kernel, by decide +kernel⟩, List.mem_of_getElem? (i := 729) (by decide +kernel), List.mem_of_getElem? (i := 912) (by decide +kernel), List.mem_of_getElem? (i := 913) (by decide +kernel)⟩
theorem lw_p49 : lw_okq (⟨"VolumeInFivePassesModel", "attaches", "(I)I"⟩, 18) := ⟨⟨by decide +kernel, by decide +kernel⟩, List.mem_of_getElem? (i := 729) (by decide +kernel), List.mem_of_getElem? (i := 916) (by decide +kernel), List.mem_of_getElem? (i := 917) (by decide +kernel)⟩
theorem lw_p50 : lw_okq (⟨"VolumeInFivePassesModel", "leastName", "()I"⟩, 18) := ⟨⟨by decide +kernel, by decide +kernel⟩, List.mem_of_getElem? (i := 729) (by decide +kernel), List.mem_of_getElem? (i := 920) (by decide +kernel), List.mem_of_getElem? (i := 921) (by decide +kernel)⟩
theorem lw_p51 : lw_okq (⟨"VolumeInFivePassesModel", "becomes", "(II)I"⟩, 18) := ⟨⟨by decide +kernel, by decide +kernel⟩, List.mem_of_getElem? (i := 729) (by decide +kernel), List.mem_of_getElem? (i := 924) (by decide +kernel), List.mem_of_getElem? (i := 925) (by decide +kernel)⟩
theorem lw_p52 : lw_okq (⟨"VolumeInFivePassesModel", "countsLinks", "()V"⟩, 18) := ⟨⟨by decide +kernel, by decide +kernel⟩, List.mem_of_getElem? (i := 729) (by decide +kernel), List.mem_of_getElem? (i := 928) (by decide +kernel), List.mem_of_getElem? (i := 929) (by decide +kernel)⟩
theorem lw_p53 : lw_okq (⟨"VolumeInFivePassesModel", "maps", "()V"⟩, 18) := ⟨⟨by decide +kernel, by decide +kernel⟩, List.mem_of_getElem? (i := 729) (by decide +kernel), List.mem_of_getElem? (i := 932) (by decide +kernel), List.mem_of_getElem? (i := 933) (by decide +kernel)⟩
theorem lw_p54 : lw_okq (⟨"VolumeInFivePassesModel", "pointerOf", "(II)I"⟩, 18) := ⟨⟨by decide +kernel, by decide +kernel⟩, List.mem_of_getElem? (i := 729) (by decide +kernel), List.mem_of_getElem? (i := 947) (by decide +kernel), List.mem_of_getElem? (i := 948) (by decide +kernel)⟩
theorem lw_p55 : lw_okq (⟨"VolumeInFivePassesModel", "slotOf", "(II)I"⟩, 18) := ⟨⟨by decide +kernel, by decide +kernel⟩, List.mem_of_getElem? (i := 729) (by decide +kernel), List.mem_of_getElem? (i := 955) (by decide +kernel), List.mem_of_getElem? (i := 956) (by decide +kernel)⟩
theorem lw_p56 : lw_okq (⟨"VolumeInFivePassesModel", "thinks", "()V"⟩, 18) := ⟨⟨by decide +kernel, by decide +kernel⟩, List.mem_of_getElem? (i := 729) (by decide +kernel), List.mem_of_getElem? (i := 1006) (by decide +kernel), List.mem_of_getElem? (i := 1007) (by decide +kernel)⟩
theorem lw_p57 : lw_okq (⟨"VolumeInFivePassesModel", "keeps", "()V"⟩, 18) := ⟨⟨by decide +kernel, by decide +kernel⟩, List.mem_of_getElem? (i := 729) (by decide +kernel), List.mem_of_getElem? (i := 1010) (by decide +kernel), List.mem_of_getElem? (i := 1011) (by decide +kernel)⟩
theorem lw_p58 : lw_okq (⟨"VolumeInFivePassesModel", "goesBack", "()V"⟩, 18) := ⟨⟨by decide +kernel, by decide +kernel⟩, List.mem_of_getElem? (i := 729) (by decide +kernel), List.mem_of_getElem? (i := 1014) (by decide +kernel), List.mem_of_getElem? (i := 1015) (by decide +kernel)⟩
theorem lw_p59 : lw_okq (⟨"VolumeInFivePassesModel", "manyOf", "(I)I"⟩, 18) := ⟨⟨by decide +kernel, by decide +kernel⟩, List.mem_of_getElem? (i := 729) (by decide +kernel), List.mem_of_getElem? (i := 1018) (by decide +kernel), List.mem_of_getElem? (i := 1019) (by decide +kernel)⟩
theorem lw_p60 : lw_okq (⟨"VolumeInFivePassesModel", "thenOf", "(II)I"⟩, 18) := ⟨⟨by decide +kernel, by decide +kernel⟩, List.mem_of_getElem? (i := 729) (by decide +kernel), List.mem_of_getElem? (i := 1038) (by decide +kernel), List.mem_of_getElem? (i := 1039) (by decide +kernel)⟩
theorem lw_p61 : lw_okq (⟨"VolumeInFivePassesModel", "depthOf", "(I)I"⟩, 18) := ⟨⟨by decide +kernel, by decide +kernel⟩, List.mem_of_getElem? (i := 729) (by decide +kernel), List.mem_of_getElem? (i := 1042) (by decide +kernel), List.mem_of_getElem? (i := 1043) (by decide +kernel)⟩
theorem lw_p62 : lw_okq (⟨"VolumeInFivePassesModel", "blocksBelow", "(I)I"⟩, 18) := ⟨⟨by decide +kernel, by decide +kernel⟩, List.mem_of_getElem? (i := 729) (by decide +kernel), List.mem_of_getElem? (i := 1049) (by decide +kernel), List.mem_of_getElem? (i := 1050) (by decide +kernel)⟩
theorem lw_p63 : lw_okq (⟨"VolumeInFivePassesModel", "blocksOf", "(I)I"⟩, 18) := ⟨⟨by decide +kernel, by decide +kernel⟩, List.mem_of_getElem? (i := 729) (by decide +kernel), List.mem_of_getElem? (i := 1053) (by decide +kernel), List.mem_of_getElem? (i := 1054) (by decide +kernel)⟩
def lw_privs_4 : List (MethodName × Nat) := [(⟨"VolumeInFivePassesModel", "entryTo", "(I)I"⟩, 18), (⟨"VolumeInFivePassesModel", "attaches", "(I)I"⟩, 18), (⟨"VolumeInFivePassesModel", "leastName", "()I"⟩, 18), (⟨"VolumeInFivePassesModel", "becomes", "(II)I"⟩, 18), (⟨"VolumeInFivePassesModel", "countsLinks", "()V"⟩, 18), (⟨"VolumeInFivePassesModel", "maps", "()V"⟩, 18), (⟨"VolumeInFivePassesModel", "pointerOf", "(II)I"⟩, 18), (⟨"VolumeInFivePassesModel", "slotOf", "(II)I"⟩, 18), (⟨"VolumeInFivePassesModel", "thinks", "()V"⟩, 18), (⟨"VolumeInFivePassesModel", "keeps", "()V"⟩, 18), (⟨"VolumeInFivePassesModel", "goesBack", "()V"⟩, 18), (⟨"VolumeInFivePassesModel", "manyOf", "(I)I"⟩, 18), (⟨"VolumeInFivePassesModel", "thenOf", "(II)I"⟩, 18), (⟨"VolumeInFivePassesModel", "depthOf", "(I)I"⟩, 18), (⟨"VolumeInFivePassesModel", "blocksBelow", "(I)I"⟩, 18), (⟨"VolumeInFivePassesModel", "blocksOf", "(I)I"⟩, 18)]
theorem lw_r4 : ∀ q ∈ lw_privs_4, lw_okq q := List.forall_mem_cons.mpr ⟨lw_p48, List.forall_mem_cons.mpr ⟨lw_p49, List.forall_mem_cons.mpr ⟨lw_p50, List.forall_mem_cons.mpr ⟨lw_p51, List.forall_mem_cons.mpr ⟨lw_p52, List.forall_mem_cons.mpr ⟨lw_p53, List.forall_mem_cons.mpr ⟨lw_p54, List.forall_mem_cons.mpr ⟨lw_p55, List.forall_mem_cons.mpr ⟨lw_p56, List.forall_mem_cons.mpr ⟨lw_p57, List.forall_mem_cons.mpr ⟨lw_p58, List.forall_mem_cons.mpr ⟨lw_p59, List.forall_mem_cons.mpr ⟨lw_p60, List.forall_mem_cons.mpr ⟨lw_p61, List.forall_mem_cons.mpr ⟨lw_p62, List.forall_mem_cons.mpr ⟨lw_p63, fun _ h => absurd h List.not_mem_nil⟩⟩⟩⟩⟩⟩⟩⟩⟩⟩⟩⟩⟩⟩⟩⟩
theorem lw_p64 : lw_okq (⟨"VolumeInFivePassesModel", "entries", "()I"⟩, 18) := ⟨⟨by decide +kernel, by decide +kernel⟩, List.mem_of_getElem? (i := 729) (by decide +kernel), List.mem_of_getElem? (i := 1077) (by decide +kernel), List.mem_of_getElem? (i := 1078) (by decide +kernel)⟩
theorem lw_p65 : lw_okq (⟨"VolumeInFivePassesModel", "refusedLong", "(I)J"⟩, 18) := ⟨⟨by decide +kernel, by decide +kernel⟩, List.mem_of_getElem? (i := 729) (by decide +kernel), List.mem_of_getElem? (i := 1097) (by decide +kernel), List.mem_of_getElem? (i := 1098) (by decide +kernel)⟩
theorem lw_p66 : lw_okq (⟨"VolumeInFivePassesModel", "inodes", "()I"⟩, 18) := ⟨⟨by decide +kernel, by decide +kernel⟩, List.mem_of_getElem? (i := 729) (by decide +kernel), List.mem_of_getElem? (i := 1102) (by decide +kernel), List.mem_of_getElem? (i := 1103) (by decide +kernel)⟩
theorem lw_p67 : lw_okq (⟨"VolumeInFivePassesModel", "isSo", "()Z"⟩, 18) := ⟨⟨by decide +kernel, by decide +kernel⟩, List.mem_of_getElem? (i := 729) (by decide +kernel), List.mem_of_getElem? (i := 1117) (by decide +kernel), List.mem_of_getElem? (i := 1118) (by decide +kernel)⟩
theorem lw_p68 : lw_okq (⟨"VolumeInFivePassesModel", "damages", "()V"⟩, 18) := ⟨⟨by decide +kernel, by decide +kernel⟩, List.mem_of_getElem? (i := 729) (by decide +kernel), List.mem_of_getElem? (i := 1137) (by decide +kernel), List.mem_of_getElem? (i := 1138) (by decide +kernel)⟩
theorem lw_p69 : lw_okq (⟨"VolumeInFivePassesModel", "drawn", "(I)I"⟩, 18) := ⟨⟨by decide +kernel, by decide +kernel⟩, List.mem_of_getElem? (i := 729) (by decide +kernel), List.mem_of_getElem? (i := 1141) (by decide +kernel), List.mem_of_getElem? (i := 1142) (by decide +kernel)⟩
theorem lw_p70 : lw_okq (⟨"VolumeInFivePassesModel", "kinds", "(Z)I"⟩, 18) := ⟨⟨by decide +kernel, by decide +kernel⟩, List.mem_of_getElem? (i := 729) (by decide +kernel), List.mem_of_getElem? (i := 1160) (by decide +kernel), List.mem_of_getElem? (i := 1161) (by decide +kernel)⟩
def lw_privs_5 : List (MethodName × Nat) := [(⟨"VolumeInFivePassesModel", "entries", "()I"⟩, 18), (⟨"VolumeInFivePassesModel", "refusedLong", "(I)J"⟩, 18), (⟨"VolumeInFivePassesModel", "inodes", "()I"⟩, 18), (⟨"VolumeInFivePassesModel", "isSo", "()Z"⟩, 18), (⟨"VolumeInFivePassesModel", "damages", "()V"⟩, 18), (⟨"VolumeInFivePassesModel", "drawn", "(I)I"⟩, 18), (⟨"VolumeInFivePassesModel", "kinds", "(Z)I"⟩, 18)]
theorem lw_r5 : ∀ q ∈ lw_privs_5, lw_okq q := List.forall_mem_cons.mpr ⟨lw_p64, List.forall_mem_cons.mpr ⟨lw_p65, List.forall_mem_cons.mpr ⟨lw_p66, List.forall_mem_cons.mpr ⟨lw_p67, List.forall_mem_cons.mpr ⟨lw_p68, List.forall_mem_cons.mpr ⟨lw_p69, List.forall_mem_cons.mpr ⟨lw_p70, fun _ h => absurd h List.not_mem_nil⟩⟩⟩⟩⟩⟩⟩
def lw_privs : List (MethodName × Nat) := lw_privs_1 ++ (lw_privs_2 ++ (lw_privs_3 ++ (lw_privs_4 ++ (lw_privs_5))))
def lw_tbl : List Cond := k2_sels lw_privs ++ tables_1
theorem lw_privs_ok : ∀ q ∈ lw_privs, lw_okq q := by
  show ∀ q ∈ lw_privs_1 ++ (lw_privs_2 ++ (lw_privs_3 ++ (lw_privs_4 ++ (lw_privs_5)))), lw_okq q
  exact List.forall_mem_append.mpr ⟨lw_r1, List.forall_mem_append.mpr ⟨lw_r2, List.forall_mem_append.mpr ⟨lw_r3, List.forall_mem_append.mpr ⟨lw_r4, lw_r5⟩⟩⟩⟩
-- ===== end of PART A; then your names; then what follows =====
end
section
def RX0 : String := "VolumeInFivePasses$Check"
def TX0 : u_T := fun k => match k with
  | 0 => ("VolumeInFivePasses$Check", "volume", "LVolumeInFivePasses$Volume;", true)
  | 1 => ("VolumeInFivePasses$Check", "whys", "[I", true)
  | 2 => ("VolumeInFivePasses$Check", "whos", "[I", true)
  | 3 => ("VolumeInFivePasses$Check", "places", "[I", true)
  | 4 => ("VolumeInFivePasses$Check", "asked", "I", false)
  | 5 => ("VolumeInFivePasses$Check", "entered", "[I", true)
  | _ => ("VolumeInFivePasses$Check", "refusedReasons", "I", false)
def tyX0 : Nat → FieldType := fun k => match k with
  | 0 => .object "VolumeInFivePasses$Volume"
  | 1 => .array .int
  | 2 => .array .int
  | 3 => .array .int
  | 4 => .int
  | 5 => .array .int
  | _ => .int
theorem nmX0 : ∀ a, a < 7 → ∀ b, b < 7 → a ≠ b → (TX0 a).2.1 ≠ (TX0 b).2.1 := by decide +kernel
theorem tyX0_ok : ∀ k, k < 7 → parseFieldDescriptor (TX0 k).2.2.1 = some (tyX0 k) := by decide +kernel
abbrev cX0_init : ByteArray := prog_2_method_1_code
def yX0_init : MethodName := ⟨RX0, "<init>", "()V"⟩
abbrev cX0_run : ByteArray := prog_2_method_2_code
def yX0_run : MethodName := ⟨RX0, "run", "(LVolumeInFivePasses$Volume;I)V"⟩
abbrev cX0_askedFor : ByteArray := prog_2_method_3_code
def yX0_askedFor : MethodName := ⟨RX0, "askedFor", "(I)I"⟩
abbrev cX0_asks : ByteArray := prog_2_method_4_code
def yX0_asks : MethodName := ⟨RX0, "asks", "(III)Z"⟩
abbrev cX0_mendPointers : ByteArray := prog_2_method_5_code
def yX0_mendPointers : MethodName := ⟨RX0, "mendPointers", "()V"⟩
abbrev cX0_faultOfPointer : ByteArray := prog_2_method_6_code
def yX0_faultOfPointer : MethodName := ⟨RX0, "faultOfPointer", "(III)I"⟩
abbrev cX0_cloneFor : ByteArray := prog_2_method_7_code
def yX0_cloneFor : MethodName := ⟨RX0, "cloneFor", "(II)I"⟩
abbrev cX0_mendEntries : ByteArray := prog_2_method_8_code
def yX0_mendEntries : MethodName := ⟨RX0, "mendEntries", "()V"⟩
abbrev cX0_faultOfEntry : ByteArray := prog_2_method_9_code
def yX0_faultOfEntry : MethodName := ⟨RX0, "faultOfEntry", "(IIII)I"⟩
abbrev cX0_mendConnections : ByteArray := prog_2_method_10_code
def yX0_mendConnections : MethodName := ⟨RX0, "mendConnections", "()V"⟩
abbrev cX0_cutOff : ByteArray := prog_2_method_11_code
def yX0_cutOff : MethodName := ⟨RX0, "cutOff", "(I)V"⟩
abbrev cX0_attach : ByteArray := prog_2_method_12_code
def yX0_attach : MethodName := ⟨RX0, "attach", "(I)I"⟩
abbrev cX0_mendParents : ByteArray := prog_2_method_13_code
def yX0_mendParents : MethodName := ⟨RX0, "mendParents", "()V"⟩
abbrev cX0_mendCounts : ByteArray := prog_2_method_14_code
def yX0_mendCounts : MethodName := ⟨RX0, "mendCounts", "()V"⟩
abbrev cX0_mendMaps : ByteArray := prog_2_method_15_code
def yX0_mendMaps : MethodName := ⟨RX0, "mendMaps", "()V"⟩
def RX1 : String := "VolumeInFivePasses$Letters"
def TX1 : u_T := fun k => match k with
  | 0 => ("VolumeInFivePasses$Letters", "signs", "[I", true)
  | _ => ("VolumeInFivePasses$Letters", "size", "I", false)
def tyX1 : Nat → FieldType := fun k => match k with
  | 0 => .array .int
  | _ => .int
theorem nmX1 : ∀ a, a < 2 → ∀ b, b < 2 → a ≠ b → (TX1 a).2.1 ≠ (TX1 b).2.1 := by decide +kernel
theorem tyX1_ok : ∀ k, k < 2 → parseFieldDescriptor (TX1 k).2.2.1 = some (tyX1 k) := by decide +kernel
abbrev cX1_init : ByteArray := prog_3_method_1_code
def yX1_init : MethodName := ⟨RX1, "<init>", "()V"⟩
abbrev cX1_append : ByteArray := prog_3_method_2_code
def yX1_append : MethodName := ⟨RX1, "append", "(I)I"⟩
abbrev cX1_signAt : ByteArray := prog_3_method_3_code
def yX1_signAt : MethodName := ⟨RX1, "signAt", "(I)I"⟩
abbrev cX1_digitAt : ByteArray := prog_3_method_4_code
def yX1_digitAt : MethodName := ⟨RX1, "digitAt", "(I)I"⟩
abbrev cX1_pairAt : ByteArray := prog_3_method_5_code
def yX1_pairAt : MethodName := ⟨RX1, "pairAt", "(I)I"⟩
abbrev cX1_kindAt : ByteArray := prog_3_method_6_code
def yX1_kindAt : MethodName := ⟨RX1, "kindAt", "(I)I"⟩
abbrev cX1_nameAt : ByteArray := prog_3_method_7_code
def yX1_nameAt : MethodName := ⟨RX1, "nameAt", "(I)I"⟩
abbrev cX1_lengthAt : ByteArray := prog_3_method_8_code
def yX1_lengthAt : MethodName := ⟨RX1, "lengthAt", "(I)I"⟩
abbrev cX1_fault : ByteArray := prog_3_method_9_code
def yX1_fault : MethodName := ⟨RX1, "fault", "()I"⟩
abbrev cX1_placeOfWrongLetter : ByteArray := prog_3_method_10_code
def yX1_placeOfWrongLetter : MethodName := ⟨RX1, "placeOfWrongLetter", "()I"⟩
abbrev cX1_wrongLetterOf : ByteArray := prog_3_method_11_code
def yX1_wrongLetterOf : MethodName := ⟨RX1, "wrongLetterOf", "(I)I"⟩
abbrev cX1_placeOfWrongStatement : ByteArray := prog_3_method_12_code
def yX1_placeOfWrongStatement : MethodName := ⟨RX1, "placeOfWrongStatement", "()I"⟩
abbrev cX1_stands : ByteArray := prog_3_method_13_code
def yX1_stands : MethodName := ⟨RX1, "stands", "(I)Z"⟩
abbrev cX1_shapeOf : ByteArray := prog_3_method_14_code
def yX1_shapeOf : MethodName := ⟨RX1, "shapeOf", "(I)Ljava/lang/String;"⟩
abbrev cX1_fits : ByteArray := prog_3_method_15_code
def yX1_fits : MethodName := ⟨RX1, "fits", "(CI)Z"⟩
def RX2 : String := "VolumeInFivePasses$Volume"
def TX2 : u_T := fun k => match k with
  | 0 => ("VolumeInFivePasses$Volume", "kinds", "[I", true)
  | 1 => ("VolumeInFivePasses$Volume", "linkCounts", "[I", true)
  | 2 => ("VolumeInFivePasses$Volume", "parents", "[I", true)
  | 3 => ("VolumeInFivePasses$Volume", "targets", "[I", true)
  | 4 => ("VolumeInFivePasses$Volume", "entries", "[I", true)
  | 5 => ("VolumeInFivePasses$Volume", "bytes", "[I", true)
  | 6 => ("VolumeInFivePasses$Volume", "blockMap", "I", false)
  | _ => ("VolumeInFivePasses$Volume", "inodeMap", "I", false)
def tyX2 : Nat → FieldType := fun k => match k with
  | 0 => .array .int
  | 1 => .array .int
  | 2 => .array .int
  | 3 => .array .int
  | 4 => .array .int
  | 5 => .array .int
  | 6 => .int
  | _ => .int
theorem nmX2 : ∀ a, a < 8 → ∀ b, b < 8 → a ≠ b → (TX2 a).2.1 ≠ (TX2 b).2.1 := by decide +kernel
theorem tyX2_ok : ∀ k, k < 8 → parseFieldDescriptor (TX2 k).2.2.1 = some (tyX2 k) := by decide +kernel
abbrev cX2_init : ByteArray := prog_4_method_1_code
def yX2_init : MethodName := ⟨RX2, "<init>", "()V"⟩
abbrev cX2_takeFrom : ByteArray := prog_4_method_2_code
def yX2_takeFrom : MethodName := ⟨RX2, "takeFrom", "(LVolumeInFivePasses$Volume;)V"⟩
abbrev cX2_wipe : ByteArray := prog_4_method_3_code
def yX2_wipe : MethodName := ⟨RX2, "wipe", "(I)V"⟩
abbrev cX2_pointAt : ByteArray := prog_4_method_4_code
def yX2_pointAt : MethodName := ⟨RX2, "pointAt", "(III)V"⟩
abbrev cX2_enter : ByteArray := prog_4_method_5_code
def yX2_enter : MethodName := ⟨RX2, "enter", "(IIII)V"⟩
abbrev cX2_isDirectory : ByteArray := prog_4_method_6_code
def yX2_isDirectory : MethodName := ⟨RX2, "isDirectory", "(I)Z"⟩
abbrev cX2_inodesInUse : ByteArray := prog_4_method_7_code
def yX2_inodesInUse : MethodName := ⟨RX2, "inodesInUse", "()I"⟩
abbrev cX2_directories : ByteArray := prog_4_method_8_code
def yX2_directories : MethodName := ⟨RX2, "directories", "()I"⟩
abbrev cX2_pointersTo : ByteArray := prog_4_method_9_code
def yX2_pointersTo : MethodName := ⟨RX2, "pointersTo", "(I)I"⟩
abbrev cX2_blockOf : ByteArray := prog_4_method_10_code
def yX2_blockOf : MethodName := ⟨RX2, "blockOf", "(II)I"⟩
abbrev cX2_blocksOf : ByteArray := prog_4_method_11_code
def yX2_blocksOf : MethodName := ⟨RX2, "blocksOf", "(I)I"⟩
abbrev cX2_blocksPointedAt : ByteArray := prog_4_method_12_code
def yX2_blocksPointedAt : MethodName := ⟨RX2, "blocksPointedAt", "()I"⟩
abbrev cX2_blocksShared : ByteArray := prog_4_method_13_code
def yX2_blocksShared : MethodName := ⟨RX2, "blocksShared", "()I"⟩
abbrev cX2_freeBlock : ByteArray := prog_4_method_14_code
def yX2_freeBlock : MethodName := ⟨RX2, "freeBlock", "()I"⟩
abbrev cX2_entriesIn : ByteArray := prog_4_method_15_code
def yX2_entriesIn : MethodName := ⟨RX2, "entriesIn", "(I)I"⟩
abbrev cX2_entriesInAll : ByteArray := prog_4_method_16_code
def yX2_entriesInAll : MethodName := ⟨RX2, "entriesInAll", "()I"⟩
abbrev cX2_placeOfEntryTo : ByteArray := prog_4_method_17_code
def yX2_placeOfEntryTo : MethodName := ⟨RX2, "placeOfEntryTo", "(I)I"⟩
abbrev cX2_countEntries : ByteArray := prog_4_method_18_code
def yX2_countEntries : MethodName := ⟨RX2, "countEntries", "([I)V"⟩
abbrev cX2_enteredBy : ByteArray := prog_4_method_19_code
def yX2_enteredBy : MethodName := ⟨RX2, "enteredBy", "(I)I"⟩
abbrev cX2_enteredByThese : ByteArray := prog_4_method_20_code
def yX2_enteredByThese : MethodName := ⟨RX2, "enteredByThese", "(I)I"⟩
abbrev cX2_reachedFrom : ByteArray := prog_4_method_21_code
def yX2_reachedFrom : MethodName := ⟨RX2, "reachedFrom", "(I)I"⟩
abbrev cX2_depthOf : ByteArray := prog_4_method_22_code
def yX2_depthOf : MethodName := ⟨RX2, "depthOf", "(I)I"⟩
abbrev cX2_inodesBelow : ByteArray := prog_4_method_23_code
def yX2_inodesBelow : MethodName := ⟨RX2, "inodesBelow", "(I)I"⟩
abbrev cX2_blocksBelow : ByteArray := prog_4_method_24_code
def yX2_blocksBelow : MethodName := ⟨RX2, "blocksBelow", "(I)I"⟩
abbrev cX2_emptySlotOf : ByteArray := prog_4_method_25_code
def yX2_emptySlotOf : MethodName := ⟨RX2, "emptySlotOf", "(I)I"⟩
abbrev cX2_freeNameIn : ByteArray := prog_4_method_26_code
def yX2_freeNameIn : MethodName := ⟨RX2, "freeNameIn", "(I)I"⟩
def RX3 : String := "VolumeInFivePasses"
def TX3 : u_T := fun k => match k with
  | 0 => ("VolumeInFivePasses", "now", "LVolumeInFivePasses$Volume;", true)
  | 1 => ("VolumeInFivePasses", "trial", "LVolumeInFivePasses$Volume;", true)
  | 2 => ("VolumeInFivePasses", "taken", "LVolumeInFivePasses$Volume;", true)
  | 3 => ("VolumeInFivePasses", "isTaken", "Z", false)
  | 4 => ("VolumeInFivePasses", "takenRefused", "I", false)
  | 5 => ("VolumeInFivePasses", "mind", "LVolumeInFivePasses$Check;", true)
  | 6 => ("VolumeInFivePasses", "again", "LVolumeInFivePasses$Check;", true)
  | 7 => ("VolumeInFivePasses", "letters", "LVolumeInFivePasses$Letters;", true)
  | 8 => ("VolumeInFivePasses", "told", "[I", true)
  | 9 => ("VolumeInFivePasses", "toldSize", "I", false)
  | 10 => ("VolumeInFivePasses", "refusals", "[I", true)
  | 11 => ("VolumeInFivePasses", "refused", "I", false)
  | _ => ("VolumeInFivePasses", "seed", "I", false)
def tyX3 : Nat → FieldType := fun k => match k with
  | 0 => .object "VolumeInFivePasses$Volume"
  | 1 => .object "VolumeInFivePasses$Volume"
  | 2 => .object "VolumeInFivePasses$Volume"
  | 3 => .boolean
  | 4 => .int
  | 5 => .object "VolumeInFivePasses$Check"
  | 6 => .object "VolumeInFivePasses$Check"
  | 7 => .object "VolumeInFivePasses$Letters"
  | 8 => .array .int
  | 9 => .int
  | 10 => .array .int
  | 11 => .int
  | _ => .int
theorem nmX3 : ∀ a, a < 13 → ∀ b, b < 13 → a ≠ b → (TX3 a).2.1 ≠ (TX3 b).2.1 := by decide +kernel
theorem tyX3_ok : ∀ k, k < 13 → parseFieldDescriptor (TX3 k).2.2.1 = some (tyX3 k) := by decide +kernel
abbrev cX3_init : ByteArray := prog_1_method_1_code
def yX3_init : MethodName := ⟨RX3, "<init>", "()V"⟩
abbrev cX3_letter : ByteArray := prog_1_method_2_code
def yX3_letter : MethodName := ⟨RX3, "letter", "(I)I"⟩
abbrev cX3_volume : ByteArray := prog_1_method_3_code
def yX3_volume : MethodName := ⟨RX3, "volume", "()I"⟩
abbrev cX3_inode : ByteArray := prog_1_method_4_code
def yX3_inode : MethodName := ⟨RX3, "inode", "(II)I"⟩
abbrev cX3_pointer : ByteArray := prog_1_method_5_code
def yX3_pointer : MethodName := ⟨RX3, "pointer", "(II)I"⟩
abbrev cX3_slot : ByteArray := prog_1_method_6_code
def yX3_slot : MethodName := ⟨RX3, "slot", "(II)I"⟩
abbrev cX3_block : ByteArray := prog_1_method_7_code
def yX3_block : MethodName := ⟨RX3, "block", "(II)I"⟩
abbrev cX3_kind : ByteArray := prog_1_method_8_code
def yX3_kind : MethodName := ⟨RX3, "kind", "(II)I"⟩
abbrev cX3_points : ByteArray := prog_1_method_9_code
def yX3_points : MethodName := ⟨RX3, "points", "(III)I"⟩
abbrev cX3_enters : ByteArray := prog_1_method_10_code
def yX3_enters : MethodName := ⟨RX3, "enters", "(IIII)I"⟩
abbrev cX3_empties : ByteArray := prog_1_method_11_code
def yX3_empties : MethodName := ⟨RX3, "empties", "(II)I"⟩
abbrev cX3_links : ByteArray := prog_1_method_12_code
def yX3_links : MethodName := ⟨RX3, "links", "(III)I"⟩
abbrev cX3_marks : ByteArray := prog_1_method_13_code
def yX3_marks : MethodName := ⟨RX3, "marks", "(II)I"⟩
abbrev cX3_writes : ByteArray := prog_1_method_14_code
def yX3_writes : MethodName := ⟨RX3, "writes", "(II)I"⟩
abbrev cX3_refuses : ByteArray := prog_1_method_15_code
def yX3_refuses : MethodName := ⟨RX3, "refuses", "(I)I"⟩
abbrev cX3_check : ByteArray := prog_1_method_16_code
def yX3_check : MethodName := ⟨RX3, "check", "()I"⟩
abbrev cX3_questions : ByteArray := prog_1_method_17_code
def yX3_questions : MethodName := ⟨RX3, "questions", "(I)I"⟩
abbrev cX3_question : ByteArray := prog_1_method_18_code
def yX3_question : MethodName := ⟨RX3, "question", "(II)I"⟩
abbrev cX3_reasons : ByteArray := prog_1_method_19_code
def yX3_reasons : MethodName := ⟨RX3, "reasons", "()I"⟩
abbrev cX3_sound : ByteArray := prog_1_method_20_code
def yX3_sound : MethodName := ⟨RX3, "sound", "()I"⟩
abbrev cX3_then : ByteArray := prog_1_method_21_code
def yX3_then : MethodName := ⟨RX3, "then", "(II)I"⟩
abbrev cX3_slotThen : ByteArray := prog_1_method_22_code
def yX3_slotThen : MethodName := ⟨RX3, "slotThen", "(II)I"⟩
abbrev cX3_pointerThen : ByteArray := prog_1_method_23_code
def yX3_pointerThen : MethodName := ⟨RX3, "pointerThen", "(II)I"⟩
abbrev cX3_largest : ByteArray := prog_1_method_24_code
def yX3_largest : MethodName := ⟨RX3, "largest", "(I)I"⟩
abbrev cX3_second : ByteArray := prog_1_method_25_code
def yX3_second : MethodName := ⟨RX3, "second", "()I"⟩
abbrev cX3_loses : ByteArray := prog_1_method_26_code
def yX3_loses : MethodName := ⟨RX3, "loses", "(I)I"⟩
abbrev cX3_mend : ByteArray := prog_1_method_27_code
def yX3_mend : MethodName := ⟨RX3, "mend", "(I)I"⟩
abbrev cX3_worst : ByteArray := prog_1_method_28_code
def yX3_worst : MethodName := ⟨RX3, "worst", "()I"⟩
abbrev cX3_shared : ByteArray := prog_1_method_29_code
def yX3_shared : MethodName := ⟨RX3, "shared", "(I)I"⟩
abbrev cX3_damage : ByteArray := prog_1_method_30_code
def yX3_damage : MethodName := ⟨RX3, "damage", "(III)J"⟩
abbrev cX3_mean : ByteArray := prog_1_method_31_code
def yX3_mean : MethodName := ⟨RX3, "mean", "(I)J"⟩
abbrev cX3_whatIs : ByteArray := prog_1_method_32_code
def yX3_whatIs : MethodName := ⟨RX3, "whatIs", "(II)I"⟩
abbrev cX3_row : ByteArray := prog_1_method_33_code
def yX3_row : MethodName := ⟨RX3, "row", "(I)I"⟩
abbrev cX3_judge : ByteArray := prog_1_method_34_code
def yX3_judge : MethodName := ⟨RX3, "judge", "()I"⟩
abbrev cX3_clear : ByteArray := prog_1_method_35_code
def yX3_clear : MethodName := ⟨RX3, "clear", "()I"⟩
abbrev cX3_lots : ByteArray := prog_1_method_36_code
def yX3_lots : MethodName := ⟨RX3, "lots", "(III)I"⟩
abbrev cX3_image : ByteArray := prog_1_method_37_code
def yX3_image : MethodName := ⟨RX3, "image", "()I"⟩
abbrev cX3_on : ByteArray := prog_1_method_38_code
def yX3_on : MethodName := ⟨RX3, "on", "()I"⟩
abbrev cX3_count : ByteArray := prog_1_method_39_code
def yX3_count : MethodName := ⟨RX3, "count", "(I)I"⟩
abbrev cX3_isOutside : ByteArray := prog_1_method_40_code
def yX3_isOutside : MethodName := ⟨RX3, "isOutside", "(II)Z"⟩
abbrev cX3_refusal : ByteArray := prog_1_method_41_code
def yX3_refusal : MethodName := ⟨RX3, "refusal", "(I)I"⟩
abbrev cX3_carryOut : ByteArray := prog_1_method_42_code
def yX3_carryOut : MethodName := ⟨RX3, "carryOut", "(I)V"⟩
abbrev cX3_inodeBySize : ByteArray := prog_1_method_43_code
def yX3_inodeBySize : MethodName := ⟨RX3, "inodeBySize", "(LVolumeInFivePasses$Volume;I)I"⟩
abbrev cX3_leftWithout : ByteArray := prog_1_method_44_code
def yX3_leftWithout : MethodName := ⟨RX3, "leftWithout", "(I)I"⟩
abbrev cX3_power : ByteArray := prog_1_method_45_code
def yX3_power : MethodName := ⟨RX3, "power", "(II)J"⟩
abbrev cX3_partOfFraction : ByteArray := prog_1_method_46_code
def yX3_partOfFraction : MethodName := ⟨RX3, "partOfFraction", "(JJI)J"⟩
abbrev cX3_rowIsAsked : ByteArray := prog_1_method_47_code
def yX3_rowIsAsked : MethodName := ⟨RX3, "rowIsAsked", "()Z"⟩
abbrev cX3_changeByLot : ByteArray := prog_1_method_48_code
def yX3_changeByLot : MethodName := ⟨RX3, "changeByLot", "()V"⟩
abbrev cX3_draw : ByteArray := prog_1_method_49_code
def yX3_draw : MethodName := ⟨RX3, "draw", "(I)I"⟩
def RX4 : String := "VolumeInFivePassesModel"
def TX4 : u_T := fun k => match k with
  | 0 => ("VolumeInFivePassesModel", "thrown", "I", false)
  | 1 => ("VolumeInFivePassesModel", "s", "[I", true)
  | 2 => ("VolumeInFivePassesModel", "image", "[I", true)
  | 3 => ("VolumeInFivePassesModel", "frame", "[I", true)
  | 4 => ("VolumeInFivePassesModel", "hasImage", "Z", false)
  | 5 => ("VolumeInFivePassesModel", "counts", "[I", true)
  | 6 => ("VolumeInFivePassesModel", "letters", "[I", true)
  | 7 => ("VolumeInFivePassesModel", "lettered", "I", false)
  | 8 => ("VolumeInFivePassesModel", "spot", "I", false)
  | 9 => ("VolumeInFivePassesModel", "isWrong", "Z", false)
  | 10 => ("VolumeInFivePassesModel", "strange", "I", false)
  | 11 => ("VolumeInFivePassesModel", "reasonOf", "[I", true)
  | 12 => ("VolumeInFivePassesModel", "whoOf", "[I", true)
  | 13 => ("VolumeInFivePassesModel", "placeOf", "[I", true)
  | 14 => ("VolumeInFivePassesModel", "asked", "I", false)
  | 15 => ("VolumeInFivePassesModel", "row", "[I", true)
  | 16 => ("VolumeInFivePassesModel", "rowed", "I", false)
  | _ => ("VolumeInFivePassesModel", "lot", "I", false)
def tyX4 : Nat → FieldType := fun k => match k with
  | 0 => .int
  | 1 => .array .int
  | 2 => .array .int
  | 3 => .array .int
  | 4 => .boolean
  | 5 => .array .int
  | 6 => .array .int
  | 7 => .int
  | 8 => .int
  | 9 => .boolean
  | 10 => .int
  | 11 => .array .int
  | 12 => .array .int
  | 13 => .array .int
  | 14 => .int
  | 15 => .array .int
  | 16 => .int
  | _ => .int
theorem nmX4 : ∀ a, a < 18 → ∀ b, b < 18 → a ≠ b → (TX4 a).2.1 ≠ (TX4 b).2.1 := by decide +kernel
theorem tyX4_ok : ∀ k, k < 18 → parseFieldDescriptor (TX4 k).2.2.1 = some (tyX4 k) := by decide +kernel
abbrev cX4_init : ByteArray := prog_6_method_1_code
def yX4_init : MethodName := ⟨RX4, "<init>", "()V"⟩
abbrev cX4_in : ByteArray := prog_6_method_3_code
def yX4_in : MethodName := ⟨RX4, "in", "(III)Z"⟩
abbrev cX4_refused : ByteArray := prog_6_method_4_code
def yX4_refused : MethodName := ⟨RX4, "refused", "(I)I"⟩
abbrev cX4_refusedLong : ByteArray := prog_6_method_5_code
def yX4_refusedLong : MethodName := ⟨RX4, "refusedLong", "(I)J"⟩
abbrev cX4_isInode : ByteArray := prog_6_method_6_code
def yX4_isInode : MethodName := ⟨RX4, "isInode", "(I)Z"⟩
abbrev cX4_isBlock : ByteArray := prog_6_method_7_code
def yX4_isBlock : MethodName := ⟨RX4, "isBlock", "(I)Z"⟩
abbrev cX4_keeps : ByteArray := prog_6_method_8_code
def yX4_keeps : MethodName := ⟨RX4, "keeps", "()V"⟩
abbrev cX4_goesBack : ByteArray := prog_6_method_9_code
def yX4_goesBack : MethodName := ⟨RX4, "goesBack", "()V"⟩
abbrev cX4_holds : ByteArray := prog_6_method_10_code
def yX4_holds : MethodName := ⟨RX4, "holds", "(I)I"⟩
abbrev cX4_lists : ByteArray := prog_6_method_11_code
def yX4_lists : MethodName := ⟨RX4, "lists", "(I)I"⟩
abbrev cX4_isDirectory : ByteArray := prog_6_method_12_code
def yX4_isDirectory : MethodName := ⟨RX4, "isDirectory", "(I)Z"⟩
abbrev cX4_pointersTo : ByteArray := prog_6_method_13_code
def yX4_pointersTo : MethodName := ⟨RX4, "pointersTo", "(I)I"⟩
abbrev cX4_isEntryTo : ByteArray := prog_6_method_14_code
def yX4_isEntryTo : MethodName := ⟨RX4, "isEntryTo", "(II)Z"⟩
abbrev cX4_entriesTo : ByteArray := prog_6_method_15_code
def yX4_entriesTo : MethodName := ⟨RX4, "entriesTo", "(I)I"⟩
abbrev cX4_entryTo : ByteArray := prog_6_method_16_code
def yX4_entryTo : MethodName := ⟨RX4, "entryTo", "(I)I"⟩
abbrev cX4_entries : ByteArray := prog_6_method_17_code
def yX4_entries : MethodName := ⟨RX4, "entries", "()I"⟩
abbrev cX4_inodes : ByteArray := prog_6_method_18_code
def yX4_inodes : MethodName := ⟨RX4, "inodes", "()I"⟩
abbrev cX4_freeBlock : ByteArray := prog_6_method_19_code
def yX4_freeBlock : MethodName := ⟨RX4, "freeBlock", "()I"⟩
abbrev cX4_wipes : ByteArray := prog_6_method_20_code
def yX4_wipes : MethodName := ⟨RX4, "wipes", "(II)V"⟩
abbrev cX4_letter : ByteArray := prog_6_method_21_code
def yX4_letter : MethodName := ⟨RX4, "letter", "(I)I"⟩
abbrev cX4_here : ByteArray := prog_6_method_22_code
def yX4_here : MethodName := ⟨RX4, "here", "()I"⟩
abbrev cX4_one : ByteArray := prog_6_method_23_code
def yX4_one : MethodName := ⟨RX4, "one", "(II)I"⟩
abbrev cX4_digit : ByteArray := prog_6_method_24_code
def yX4_digit : MethodName := ⟨RX4, "digit", "()I"⟩
abbrev cX4_twoDigits : ByteArray := prog_6_method_25_code
def yX4_twoDigits : MethodName := ⟨RX4, "twoDigits", "()I"⟩
abbrev cX4_kindLetter : ByteArray := prog_6_method_26_code
def yX4_kindLetter : MethodName := ⟨RX4, "kindLetter", "()I"⟩
abbrev cX4_must : ByteArray := prog_6_method_27_code
def yX4_must : MethodName := ⟨RX4, "must", "(ZI)V"⟩
abbrev cX4_states : ByteArray := prog_6_method_28_code
def yX4_states : MethodName := ⟨RX4, "states", "(Z)V"⟩
abbrev cX4_goesThrough : ByteArray := prog_6_method_29_code
def yX4_goesThrough : MethodName := ⟨RX4, "goesThrough", "(Z)I"⟩
abbrev cX4_volume : ByteArray := prog_6_method_30_code
def yX4_volume : MethodName := ⟨RX4, "volume", "()I"⟩
abbrev cX4_inode : ByteArray := prog_6_method_31_code
def yX4_inode : MethodName := ⟨RX4, "inode", "(II)I"⟩
abbrev cX4_pointerOf : ByteArray := prog_6_method_32_code
def yX4_pointerOf : MethodName := ⟨RX4, "pointerOf", "(II)I"⟩
abbrev cX4_slotOf : ByteArray := prog_6_method_33_code
def yX4_slotOf : MethodName := ⟨RX4, "slotOf", "(II)I"⟩
abbrev cX4_pointer : ByteArray := prog_6_method_34_code
def yX4_pointer : MethodName := ⟨RX4, "pointer", "(II)I"⟩
abbrev cX4_slot : ByteArray := prog_6_method_35_code
def yX4_slot : MethodName := ⟨RX4, "slot", "(II)I"⟩
abbrev cX4_block : ByteArray := prog_6_method_36_code
def yX4_block : MethodName := ⟨RX4, "block", "(II)I"⟩
abbrev cX4_becomes : ByteArray := prog_6_method_37_code
def yX4_becomes : MethodName := ⟨RX4, "becomes", "(II)I"⟩
abbrev cX4_kind : ByteArray := prog_6_method_38_code
def yX4_kind : MethodName := ⟨RX4, "kind", "(II)I"⟩
abbrev cX4_points : ByteArray := prog_6_method_39_code
def yX4_points : MethodName := ⟨RX4, "points", "(III)I"⟩
abbrev cX4_enters : ByteArray := prog_6_method_40_code
def yX4_enters : MethodName := ⟨RX4, "enters", "(IIII)I"⟩
abbrev cX4_empties : ByteArray := prog_6_method_41_code
def yX4_empties : MethodName := ⟨RX4, "empties", "(II)I"⟩
abbrev cX4_links : ByteArray := prog_6_method_42_code
def yX4_links : MethodName := ⟨RX4, "links", "(III)I"⟩
abbrev cX4_marks : ByteArray := prog_6_method_43_code
def yX4_marks : MethodName := ⟨RX4, "marks", "(II)I"⟩
abbrev cX4_writes : ByteArray := prog_6_method_44_code
def yX4_writes : MethodName := ⟨RX4, "writes", "(II)I"⟩
abbrev cX4_refuses : ByteArray := prog_6_method_45_code
def yX4_refuses : MethodName := ⟨RX4, "refuses", "(I)I"⟩
abbrev cX4_isRefused : ByteArray := prog_6_method_46_code
def yX4_isRefused : MethodName := ⟨RX4, "isRefused", "(I)Z"⟩
abbrev cX4_asks : ByteArray := prog_6_method_47_code
def yX4_asks : MethodName := ⟨RX4, "asks", "(III)V"⟩
abbrev cX4_isSharedAhead : ByteArray := prog_6_method_48_code
def yX4_isSharedAhead : MethodName := ⟨RX4, "isSharedAhead", "(I)Z"⟩
abbrev cX4_looksAtPointer : ByteArray := prog_6_method_49_code
def yX4_looksAtPointer : MethodName := ⟨RX4, "looksAtPointer", "(II)V"⟩
abbrev cX4_isNamedAhead : ByteArray := prog_6_method_50_code
def yX4_isNamedAhead : MethodName := ⟨RX4, "isNamedAhead", "(II)Z"⟩
abbrev cX4_isListedAhead : ByteArray := prog_6_method_51_code
def yX4_isListedAhead : MethodName := ⟨RX4, "isListedAhead", "(II)Z"⟩
abbrev cX4_looksAtSlot : ByteArray := prog_6_method_52_code
def yX4_looksAtSlot : MethodName := ⟨RX4, "looksAtSlot", "(II)V"⟩
abbrev cX4_reached : ByteArray := prog_6_method_53_code
def yX4_reached : MethodName := ⟨RX4, "reached", "(IZ)I"⟩
abbrev cX4_leastName : ByteArray := prog_6_method_54_code
def yX4_leastName : MethodName := ⟨RX4, "leastName", "()I"⟩
abbrev cX4_attaches : ByteArray := prog_6_method_55_code
def yX4_attaches : MethodName := ⟨RX4, "attaches", "(I)I"⟩
abbrev cX4_lone : ByteArray := prog_6_method_56_code
def yX4_lone : MethodName := ⟨RX4, "lone", "()I"⟩
abbrev cX4_connects : ByteArray := prog_6_method_57_code
def yX4_connects : MethodName := ⟨RX4, "connects", "()V"⟩
abbrev cX4_countsLinks : ByteArray := prog_6_method_58_code
def yX4_countsLinks : MethodName := ⟨RX4, "countsLinks", "()V"⟩
abbrev cX4_maps : ByteArray := prog_6_method_59_code
def yX4_maps : MethodName := ⟨RX4, "maps", "()V"⟩
abbrev cX4_checks : ByteArray := prog_6_method_60_code
def yX4_checks : MethodName := ⟨RX4, "checks", "()I"⟩
abbrev cX4_check : ByteArray := prog_6_method_61_code
def yX4_check : MethodName := ⟨RX4, "check", "()I"⟩
abbrev cX4_thinks : ByteArray := prog_6_method_62_code
def yX4_thinks : MethodName := ⟨RX4, "thinks", "()V"⟩
abbrev cX4_manyOf : ByteArray := prog_6_method_63_code
def yX4_manyOf : MethodName := ⟨RX4, "manyOf", "(I)I"⟩
abbrev cX4_questions : ByteArray := prog_6_method_64_code
def yX4_questions : MethodName := ⟨RX4, "questions", "(I)I"⟩
abbrev cX4_question : ByteArray := prog_6_method_65_code
def yX4_question : MethodName := ⟨RX4, "question", "(II)I"⟩
abbrev cX4_reasons : ByteArray := prog_6_method_66_code
def yX4_reasons : MethodName := ⟨RX4, "reasons", "()I"⟩
abbrev cX4_sound : ByteArray := prog_6_method_67_code
def yX4_sound : MethodName := ⟨RX4, "sound", "()I"⟩
abbrev cX4_countOf : ByteArray := prog_6_method_68_code
def yX4_countOf : MethodName := ⟨RX4, "countOf", "(I)I"⟩
abbrev cX4_blocksOf : ByteArray := prog_6_method_69_code
def yX4_blocksOf : MethodName := ⟨RX4, "blocksOf", "(I)I"⟩
abbrev cX4_blocksBelow : ByteArray := prog_6_method_70_code
def yX4_blocksBelow : MethodName := ⟨RX4, "blocksBelow", "(I)I"⟩
abbrev cX4_depthOf : ByteArray := prog_6_method_71_code
def yX4_depthOf : MethodName := ⟨RX4, "depthOf", "(I)I"⟩
abbrev cX4_thenOf : ByteArray := prog_6_method_72_code
def yX4_thenOf : MethodName := ⟨RX4, "thenOf", "(II)I"⟩
abbrev cX4_then : ByteArray := prog_6_method_73_code
def yX4_then : MethodName := ⟨RX4, "then", "(II)I"⟩
abbrev cX4_slotThen : ByteArray := prog_6_method_74_code
def yX4_slotThen : MethodName := ⟨RX4, "slotThen", "(II)I"⟩
abbrev cX4_pointerThen : ByteArray := prog_6_method_75_code
def yX4_pointerThen : MethodName := ⟨RX4, "pointerThen", "(II)I"⟩
abbrev cX4_largest : ByteArray := prog_6_method_76_code
def yX4_largest : MethodName := ⟨RX4, "largest", "(I)I"⟩
abbrev cX4_second : ByteArray := prog_6_method_77_code
def yX4_second : MethodName := ⟨RX4, "second", "()I"⟩
abbrev cX4_loses : ByteArray := prog_6_method_78_code
def yX4_loses : MethodName := ⟨RX4, "loses", "(I)I"⟩
abbrev cX4_mend : ByteArray := prog_6_method_79_code
def yX4_mend : MethodName := ⟨RX4, "mend", "(I)I"⟩
abbrev cX4_worst : ByteArray := prog_6_method_80_code
def yX4_worst : MethodName := ⟨RX4, "worst", "()I"⟩
abbrev cX4_shared : ByteArray := prog_6_method_81_code
def yX4_shared : MethodName := ⟨RX4, "shared", "(I)I"⟩
abbrev cX4_lowest : ByteArray := prog_6_method_82_code
def yX4_lowest : MethodName := ⟨RX4, "lowest", "(JJI)J"⟩
abbrev cX4_damage : ByteArray := prog_6_method_83_code
def yX4_damage : MethodName := ⟨RX4, "damage", "(III)J"⟩
abbrev cX4_mean : ByteArray := prog_6_method_84_code
def yX4_mean : MethodName := ⟨RX4, "mean", "(I)J"⟩
abbrev cX4_isSo : ByteArray := prog_6_method_85_code
def yX4_isSo : MethodName := ⟨RX4, "isSo", "()Z"⟩
abbrev cX4_whatIs : ByteArray := prog_6_method_86_code
def yX4_whatIs : MethodName := ⟨RX4, "whatIs", "(II)I"⟩
abbrev cX4_row : ByteArray := prog_6_method_87_code
def yX4_row : MethodName := ⟨RX4, "row", "(I)I"⟩
abbrev cX4_judge : ByteArray := prog_6_method_88_code
def yX4_judge : MethodName := ⟨RX4, "judge", "()I"⟩
abbrev cX4_clear : ByteArray := prog_6_method_89_code
def yX4_clear : MethodName := ⟨RX4, "clear", "()I"⟩
abbrev cX4_drawn : ByteArray := prog_6_method_90_code
def yX4_drawn : MethodName := ⟨RX4, "drawn", "(I)I"⟩
abbrev cX4_damages : ByteArray := prog_6_method_91_code
def yX4_damages : MethodName := ⟨RX4, "damages", "()V"⟩
abbrev cX4_lots : ByteArray := prog_6_method_92_code
def yX4_lots : MethodName := ⟨RX4, "lots", "(III)I"⟩
abbrev cX4_image : ByteArray := prog_6_method_93_code
def yX4_image : MethodName := ⟨RX4, "image", "()I"⟩
abbrev cX4_on : ByteArray := prog_6_method_94_code
def yX4_on : MethodName := ⟨RX4, "on", "()I"⟩
abbrev cX4_kinds : ByteArray := prog_6_method_95_code
def yX4_kinds : MethodName := ⟨RX4, "kinds", "(Z)I"⟩
abbrev cX4_count : ByteArray := prog_6_method_96_code
def yX4_count : MethodName := ⟨RX4, "count", "(I)I"⟩
def RJ11 : String := "java/lang/Character"
abbrev cJ11_isValidCodePoint_9a6ad : ByteArray := prog_7_method_11_code
def yJ11_isValidCodePoint_9a6ad : MethodName := ⟨RJ11, "isValidCodePoint", "(I)Z"⟩
abbrev cJ11_highSurrogate_5068e : ByteArray := prog_7_method_28_code
def yJ11_highSurrogate_5068e : MethodName := ⟨RJ11, "highSurrogate", "(I)C"⟩
abbrev cJ11_lowSurrogate_5068e : ByteArray := prog_7_method_29_code
def yJ11_lowSurrogate_5068e : MethodName := ⟨RJ11, "lowSurrogate", "(I)C"⟩
def RJ6 : String := "java/lang/Integer"
abbrev cJ6_numberOfTrailingZeros_0f7a4 : ByteArray := prog_8_method_48_code
def yJ6_numberOfTrailingZeros_0f7a4 : MethodName := ⟨RJ6, "numberOfTrailingZeros", "(I)I"⟩
abbrev cJ6_bitCount_0f7a4 : ByteArray := prog_8_method_49_code
def yJ6_bitCount_0f7a4 : MethodName := ⟨RJ6, "bitCount", "(I)I"⟩
def RJ9 : String := "java/lang/Math"
abbrev cJ9_max_7cf53 : ByteArray := prog_9_method_65_code
def yJ9_max_7cf53 : MethodName := ⟨RJ9, "max", "(II)I"⟩
abbrev cJ9_max_f86c9 : ByteArray := prog_9_method_66_code
def yJ9_max_f86c9 : MethodName := ⟨RJ9, "max", "(JJ)J"⟩
abbrev cJ9_min_7cf53 : ByteArray := prog_9_method_69_code
def yJ9_min_7cf53 : MethodName := ⟨RJ9, "min", "(II)I"⟩
def RJ0 : String := "java/lang/String"
abbrev cJ0_length_8abf5 : ByteArray := prog_10_method_54_code
def yJ0_length_8abf5 : MethodName := ⟨RJ0, "length", "()I"⟩
abbrev cJ0_charAt_5068e : ByteArray := prog_10_method_56_code
def yJ0_charAt_5068e : MethodName := ⟨RJ0, "charAt", "(I)C"⟩
abbrev cJ0_indexOf_0f7a4 : ByteArray := prog_10_method_79_code
def yJ0_indexOf_0f7a4 : MethodName := ⟨RJ0, "indexOf", "(I)I"⟩
abbrev cJ0_indexOf_7cf53 : ByteArray := prog_10_method_80_code
def yJ0_indexOf_7cf53 : MethodName := ⟨RJ0, "indexOf", "(II)I"⟩
abbrev cJ0_coder_7d493 : ByteArray := prog_10_method_152_code
def yJ0_coder_7d493 : MethodName := ⟨RJ0, "coder", "()B"⟩
abbrev cJ0_isLatin1_aae02 : ByteArray := prog_10_method_154_code
def yJ0_isLatin1_aae02 : MethodName := ⟨RJ0, "isLatin1", "()Z"⟩
abbrev cJ0_checkIndex_df160 : ByteArray := prog_10_method_155_code
def yJ0_checkIndex_df160 : MethodName := ⟨RJ0, "checkIndex", "(II)V"⟩
abbrev cJ0_checkBoundsBeginEnd_23922 : ByteArray := prog_10_method_158_code
def yJ0_checkBoundsBeginEnd_23922 : MethodName := ⟨RJ0, "checkBoundsBeginEnd", "(III)V"⟩
def RJ1 : String := "java/lang/StringLatin1"
abbrev cJ1_charAt_3b067 : ByteArray := prog_11_method_2_code
def yJ1_charAt_3b067 : MethodName := ⟨RJ1, "charAt", "([BI)C"⟩
abbrev cJ1_canEncode_9a6ad : ByteArray := prog_11_method_4_code
def yJ1_canEncode_9a6ad : MethodName := ⟨RJ1, "canEncode", "(I)Z"⟩
abbrev cJ1_indexOf_4cfef : ByteArray := prog_11_method_22_code
def yJ1_indexOf_4cfef : MethodName := ⟨RJ1, "indexOf", "([BIII)I"⟩
abbrev cJ1_indexOfChar_4cfef : ByteArray := prog_11_method_23_code
def yJ1_indexOfChar_4cfef : MethodName := ⟨RJ1, "indexOfChar", "([BIII)I"⟩
def RJ2 : String := "java/lang/StringUTF16"
abbrev cJ2_getChar_3b067 : ByteArray := prog_12_method_5_code
def yJ2_getChar_3b067 : MethodName := ⟨RJ2, "getChar", "([BI)C"⟩
abbrev cJ2_length_9d52b : ByteArray := prog_12_method_6_code
def yJ2_length_9d52b : MethodName := ⟨RJ2, "length", "([B)I"⟩
abbrev cJ2_indexOf_4cfef : ByteArray := prog_12_method_40_code
def yJ2_indexOf_4cfef : MethodName := ⟨RJ2, "indexOf", "([BIII)I"⟩
abbrev cJ2_indexOfChar_4cfef : ByteArray := prog_12_method_47_code
def yJ2_indexOfChar_4cfef : MethodName := ⟨RJ2, "indexOfChar", "([BIII)I"⟩
abbrev cJ2_indexOfCharUnsafe_4cfef : ByteArray := prog_12_method_48_code
def yJ2_indexOfCharUnsafe_4cfef : MethodName := ⟨RJ2, "indexOfCharUnsafe", "([BIII)I"⟩
abbrev cJ2_indexOfSupplementary_4cfef : ByteArray := prog_12_method_49_code
def yJ2_indexOfSupplementary_4cfef : MethodName := ⟨RJ2, "indexOfSupplementary", "([BIII)I"⟩
abbrev cJ2_charAt_3b067 : ByteArray := prog_12_method_83_code
def yJ2_charAt_3b067 : MethodName := ⟨RJ2, "charAt", "([BI)C"⟩
abbrev cJ2_checkIndex_2214a : ByteArray := prog_12_method_91_code
def yJ2_checkIndex_2214a : MethodName := ⟨RJ2, "checkIndex", "(I[B)V"⟩
abbrev cJ2_checkBoundsBeginEnd_d044e : ByteArray := prog_12_method_93_code
def yJ2_checkBoundsBeginEnd_d044e : MethodName := ⟨RJ2, "checkBoundsBeginEnd", "(II[B)V"⟩
def RJ10 : String := "java/lang/System"
def RJ7 : String := "java/util/Arrays"
abbrev cJ7_fill_53178 : ByteArray := prog_14_method_103_code
def yJ7_fill_53178 : MethodName := ⟨RJ7, "fill", "([II)V"⟩
def RJ3 : String := "jdk/internal/util/Preconditions"
abbrev cJ3_checkIndex_8e157 : ByteArray := prog_15_method_11_code
def yJ3_checkIndex_8e157 : MethodName := ⟨RJ3, "checkIndex", "(IILjava/util/function/BiFunction;)I"⟩
abbrev cJ3_checkFromToIndex_8c36e : ByteArray := prog_15_method_12_code
def yJ3_checkFromToIndex_8c36e : MethodName := ⟨RJ3, "checkFromToIndex", "(IIILjava/util/function/BiFunction;)I"⟩
def RL : String := "VolumeInFivePassesLaw"
abbrev cL_law : ByteArray := code
def yL_law : MethodName := ⟨RL, "law", "([I)Z"⟩
abbrev vwCl : List vw_C := [(RX0, TX0, 7), (RX1, TX1, 2), (RX2, TX2, 8), (RX3, TX3, 13), (RX4, TX4, 18)]
end
section
/-! AN ABSTRACT MACHINE: addresses are places (0 .. 59 the objects and rows of the system, 100 ff. what is static), all else are ints in slots. Its steps are sound over the kit's W. -/
-- the tables' words that stay
def xTbl : List Cond := lw_tbl.filter goodWord
theorem xTbl_in {w : Cond} (i : Nat) (h : lw_tbl[i]? = some w) (g : goodWord w = true) : w ∈ xTbl := List.mem_filter.mpr ⟨List.mem_of_getElem? h, g⟩
theorem xTbl_good : ∀ w ∈ xTbl, (w.onTables && w.keeps) = true ∨ ∃ ty, w = .arrayClass ty := fun _ h => good_of_word (List.mem_filter.mp h).2
theorem xTbl_sub : ∀ w ∈ xTbl, w ∈ lw_tbl := fun _ h => (List.mem_filter.mp h).1
-- memory: places, slots
abbrev xM : Type := Nat → Nat → Int32
/-- fields' and addresses' table, addresses of places, the class of int rows, the least address that is the system's own, the formatter's value -/
abbrev xE : Type := va_G × (Nat → Nat) × ClassId × Nat × Value
abbrev xeD (E : xE) : va_G := E.1
abbrev xeA (E : xE) : Nat → Nat := E.2.1
abbrev xeC (E : xE) : ClassId := E.2.2.1
abbrev xeB (E : xE) : Nat := E.2.2.2.1
abbrev xeS (E : xE) : Value := E.2.2.2.2
def xv (E : xE) : Value → Value
  | .ref k => if k = 103 then xeS E else .ref (xeA E k)
  | v => v
theorem xv_int (E : xE) (x : Int32) : xv E (.int x) = .int x := rfl
theorem xv_long (E : xE) (x : Int64) : xv E (.long x) = .long x := rfl
theorem xv_ref {E : xE} {k : Nat} (h : k ≠ 103) : xv E (.ref k) = .ref (xeA E k) := by simp [xv, h]
-- the layout: kinds of places (0 Check, 1 Letters, 2 Volume, 3 the class, 4 the reference, 5 a row of ints), rows' lengths
def xkdL : List Nat := [3, 2,5,5,5,5,5,5, 2,5,5,5,5,5,5, 2,5,5,5,5,5,5, 0,2,5,5,5,5,5,5,5,5,5,5, 0,2,5,5,5,5,5,5,5,5,5,5, 1,5, 5,5, 4,5,5,5,5,5,5,5,5,5]
def xlnL : List Nat := [0, 0,10,10,10,30,60,24, 0,10,10,10,30,60,24, 0,10,10,10,30,60,24, 0,0,10,10,10,30,60,24,180,180,180,10, 0,0,10,10,10,30,60,24,180,180,180,10, 0,96, 32,7, 0,147,147,147,17,96,400,400,400,32]
def xkd (p : Nat) : Nat := xkdL.getD p 9
def xln (p : Nat) : Nat := xlnL.getD p 0
-- an object's slot: how far from it the place lies that it refers to; none: an int
def xfoL : List (List (Option Nat)) := [[some 1, some 8, some 9, some 10, none, some 11, none], [some 1, none], [some 1, some 2, some 3, some 4, some 5, some 6, none, none], [some 1, some 8, some 15, none, none, some 22, some 34, some 46, some 48, none, some 49, none, none], [none, some 1, some 2, some 3, none, some 4, some 5, none, none, none, none, some 6, some 7, some 8, none, some 9, none, none]]
def xnf (ci : Nat) : Nat := (xfoL.getD ci []).length
def xfo (ci k : Nat) : Option Nat := (xfoL.getD ci []).getD k none
def xfv (E : xE) (M : xM) (p ci k : Nat) : Value := match xfo ci k with | some o => .ref (xeA E (p + o)) | none => .int (M p k)
def xfs (E : xE) (M : xM) (p ci : Nat) : List Value := (List.range (xnf ci)).map (xfv E M p ci)
def xcell (E : xE) (M : xM) (p : Nat) : va_E := if xkd p = 5 then .inl (xeC E, xln p, .inl (M p)) else .inr (xkd p, xfs E M p (xkd p))
def xws (E : xE) (M : xM) : va_W := (List.range 60).map (fun p => (xeA E p, xcell E M p))
def xup (M : xM) (p k : Nat) (x : Int32) : xM := fun a => if a = p then upd (M p) k x else M a
theorem xup_at (M : xM) (p k : Nat) (x : Int32) : xup M p k x p = upd (M p) k x := by simp [xup]
theorem xup_ne (M : xM) {p a : Nat} (k : Nat) (x : Int32) (h : a ≠ p) : xup M p k x a = M a := by simp [xup, h]
theorem xkd_lt {p : Nat} (h : xkd p ≠ 9) : p < 60 := by
  rcases Nat.lt_or_ge p 60 with q | q
  · exact q
  · exact absurd (by simp [xkd, xkdL, List.getD_eq_getElem?_getD, List.getElem?_eq_none (l := [3, 2,5,5,5,5,5,5, 2,5,5,5,5,5,5, 2,5,5,5,5,5,5, 0,2,5,5,5,5,5,5,5,5,5,5, 0,2,5,5,5,5,5,5,5,5,5,5, 1,5, 5,5, 4,5,5,5,5,5,5,5,5,5]) (i := p) (by simpa using q)]) h
theorem xws_get (E : xE) (M : xM) {p : Nat} (h : p < 60) : (xws E M)[p]? = some (xeA E p, xcell E M p) := by simp [xws, h]
theorem xws_set (E : xE) (M M' : xM) {p : Nat} {e : va_E} (_h : p < 60) (ho : ∀ a, a ≠ p → M' a = M a) (he : xcell E M' p = e) : (xws E M).set p (xeA E p, e) = xws E M' := by
  apply List.ext_getElem?
  intro i
  rw [List.getElem?_set]
  by_cases hi : p = i
  · subst hi
    simp [xws, he, _h]
  · simp only [xws, List.getElem?_map, hi, if_false]
    by_cases h2 : i < 60
    · simp only [List.getElem?_range h2, Option.map_some]
      have h3 : M' i = M i := ho i (fun z => hi z.symm)
      have h4 : xcell E M' i = xcell E M i := by
        unfold xcell xfs
        rw [h3]
        have h5 : xfv E M' i (xkd i) = xfv E M i (xkd i) := by
          funext k
          unfold xfv
          rw [h3]
        rw [h5]
      rw [h4]
    · rw [List.getElem?_eq_none (by simpa using h2)]
      rfl
theorem xws_fst (E : xE) (M M' : xM) {k : Nat} {q : Nat × va_E} (h : (xws E M')[k]? = some q) : ∃ e, (xws E M)[k]? = some (q.1, e) := by
  simp only [xws, List.getElem?_map] at h ⊢
  cases hr : (List.range 60)[k]? with
  | none => rw [hr] at h; cases h
  | some z =>
    rw [hr] at h
    simp only [Option.map_some, Option.some.injEq] at h ⊢
    subst h
    exact ⟨_, rfl⟩
theorem xD_any {E : xE} {A : Nat → Prop} {M M' : xM} (h : va_D A (xws E M)) : va_D A (xws E M') := by
  refine ⟨fun i j p q hi hj e => ?_, fun k q hk => ?_⟩
  · obtain ⟨e1, h1⟩ := xws_fst E M M' hi
    obtain ⟨e2, h2⟩ := xws_fst E M M' hj
    exact h.1 i j _ _ h1 h2 e
  · obtain ⟨e1, h1⟩ := xws_fst E M M' hk
    exact h.2 k (q.1, e1) h1
theorem xcell_row (E : xE) (M : xM) {p : Nat} (h : xkd p = 5) : xcell E M p = .inl (xeC E, xln p, .inl (M p)) := by simp [xcell, h]
theorem xcell_obj (E : xE) (M : xM) {p ci : Nat} (h : xkd p = ci) (h5 : ci ≠ 5) : xcell E M p = .inr (ci, xfs E M p ci) := by subst h; simp [xcell, h5]
theorem xfs_get (E : xE) (M : xM) (p ci : Nat) {k : Nat} (h : k < xnf ci) : (xfs E M p ci)[k]? = some (xfv E M p ci k) := by simp [xfs, h]
theorem xfs_len (E : xE) (M : xM) (p ci : Nat) : (xfs E M p ci).length = xnf ci := by simp [xfs]
theorem xfs_set (E : xE) (M : xM) (p ci : Nat) {k : Nat} (x : Int32) (hk : xfo ci k = none) : (xfs E M p ci).set k (.int x) = xfs E (xup M p k x) p ci := by
  apply List.ext_getElem?
  intro i
  rw [List.getElem?_set]
  simp only [xfs_len]
  by_cases hi : k = i
  · subst hi
    by_cases h2 : k < xnf ci
    · simp [h2, xfs, xfv, hk, xup_at, upd]
    · simp [h2, xfs]
  · simp only [hi, if_false]
    by_cases h2 : i < xnf ci
    · rw [xfs_get E _ p ci h2, xfs_get E _ p ci h2]
      simp only [xfv, xup_at, upd, if_neg (fun z : i = k => hi z.symm)]
    · rw [List.getElem?_eq_none (by simpa [xfs_len] using h2), List.getElem?_eq_none (by simpa [xfs_len] using h2)]
-- string constants: places 110 .. 118; their bytes: 130 .. 138
def xstO : List (Nat × Nat × String) := [(1, 53, "ipexbmuc"), (1, 70, "9k99"), (1, 72, "9999"), (1, 74, "99a9"), (1, 76, "99"), (1, 78, "9"), (1, 80, ""), (1, 26, "nfdlgh"), (4, 79, "nfdlgh")]
def xstB : List (List Int32) := [[105,112,101,120,98,109,117,99], [57,107,57,57], [57,57,57,57], [57,57,97,57], [57,57], [57], [], [110,102,100,108,103,104], [110,102,100,108,103,104]]
def xsb (i j : Nat) : Int32 := (xstB.getD i []).getD j 0
def xsl (i : Nat) : Nat := (xstB.getD i []).length
def xhold (j : Nat) : Int32 := ([0, 3, 1, 0, 2, 1] : List Int32).getD j 0
def xlist (j : Nat) : Int32 := ([0, 0, 4, 0, 0, 6] : List Int32).getD j 0
def xown (k : Nat) : String := ([RX0, RX1, RX2, RX3, RX4, RJ0, RJ1, RJ2, RJ3, RJ6, RJ7, RJ9, RL] : List String).getD k ""
-- what is static, at a state U with the heap H
def xA (E : xE) : Nat → Prop := fun q => xeB E ≤ q
def xStr (E : xE) (i : Nat) (U : State) (H : Heap) : Prop := va_O "java/lang/String" (xeA E (110 + i)) (xA E) U H ∧ va_OF "java/lang/String" "coder" "B" (.int 0) (xeA E (110 + i)) (xA E) U H ∧ va_OF "java/lang/String" "value" "[B" (.ref (xeA E (130 + i))) (xeA E (110 + i)) (xA E) U H ∧ va_T .byte (xeA E (130 + i)) (xsl i) (fun j => .int (xsb i j)) (xA E) U H
def xLnk (E : xE) (U : State) : Prop := (∀ i q, xstO[i]? = some q → vk_R (xown q.1) q.2.1 q.2.2 (xeA E (110 + i)) U) ∧ va_Nw (.fieldLinkNest RX0 89 RX3 "HOLDS" "[I" RX3) U ∧ va_Nw (.fieldLinkNest RX0 106 RX3 "LISTS" "[I" RX3) U ∧ va_Nw (.fieldLinkNest RX2 89 RX3 "LISTS" "[I" RX3) U ∧ va_Nw (.methodLinkNest RX2 53 yX3_isOutside RX3) U
def xSta (E : xE) (U : State) (H : Heap) : Prop := va_Z RX3 "HOLDS" "[I" (.ref (xeA E 100)) (xA E) U H ∧ va_T .int (xeA E 100) 6 (fun j => .int (xhold j)) (xA E) U H ∧ va_Z RX3 "LISTS" "[I" (.ref (xeA E 101)) (xA E) U H ∧ va_T .int (xeA E 101) 6 (fun j => .int (xlist j)) (xA E) U H ∧ va_Z RJ0 "COMPACT_STRINGS" "Z" (.int 1) (xA E) U H ∧ va_Z RJ3 "SIOOBE_FORMATTER" "Ljava/util/function/BiFunction;" (xeS E) (xA E) U H ∧ (xeS E = .null ∨ ∃ t, xeS E = .ref t) ∧ ∀ i, i < 9 → xStr E i U H
def xK (E : xE) (U : State) (H : Heap) : Prop := va_K (xeD E) vwCl [(xeC E, .int)] U ∧ xSta E U H ∧ xLnk E U
theorem xSta.moved {E : xE} {u U : State} {H : Heap} (hvm : u.vm.Alike U.vm) (h : xSta E u H) : xSta E U H := by
  obtain ⟨h1, h2, h3, h4, h5, h6, h7, h8⟩ := h
  exact ⟨va_Z.moved hvm h1, va_T.moved hvm h2, va_Z.moved hvm h3, va_T.moved hvm h4, va_Z.moved hvm h5, va_Z.moved hvm h6, h7, fun i hi => ⟨va_O.moved hvm (h8 i hi).1, va_OF.moved hvm (h8 i hi).2.1, va_OF.moved hvm (h8 i hi).2.2.1, va_T.moved hvm (h8 i hi).2.2.2⟩⟩
theorem xSta.kept {E : xE} {U : State} {H H1 : Heap} (h : xSta E U H) (hq : ∀ a : Nat, a < H.size → ¬ xA E a → H1[a]? = H[a]?) : xSta E U H1 := by
  obtain ⟨h1, h2, h3, h4, h5, h6, h7, h8⟩ := h
  exact ⟨h1.kept hq, h2.kept hq, h3.kept hq, h4.kept hq, h5.kept hq, h6.kept hq, h7, fun i hi => ⟨(h8 i hi).1.kept hq, (h8 i hi).2.1.kept hq, (h8 i hi).2.2.1.kept hq, (h8 i hi).2.2.2.kept hq⟩⟩
theorem xLnk.same {E : xE} {u U : State} (hv : U.vm = u.vm) (h : xLnk E u) : xLnk E U := ⟨fun i q hq => vk_R.same hv (h.1 i q hq), va_Nw.same rfl hv.symm h.2.1, va_Nw.same rfl hv.symm h.2.2.1, va_Nw.same rfl hv.symm h.2.2.2.1, va_Nw.same rfl hv.symm h.2.2.2.2⟩
theorem xLnk.warm {E : xE} {s U : State} (hW : s.WarmedH U.vm) (h : xLnk E s) : xLnk E U := ⟨fun i q hq => vk_R.warm hW (h.1 i q hq), va_Nw.warmF hW h.2.1, va_Nw.warmF hW h.2.2.1, va_Nw.warmF hW h.2.2.2.1, va_Nw.warmM hW h.2.2.2.2⟩
end
section
/-! contracts over the abstract machine, and the judgement Gx: 'from this abstract state the method comes to an end with R' -/
abbrev xMt : Type := MethodName × Nat × ByteArray × Nat × Option FieldType × Nat
abbrev xmy (m : xMt) : MethodName := m.1
abbrev xmo (m : xMt) : Nat := m.2.1
abbrev xmb (m : xMt) : ByteArray := m.2.2.1
abbrev xmn (m : xMt) : Nat := m.2.2.2.1
abbrev xmr (m : xMt) : Option FieldType := m.2.2.2.2.1
abbrev xmd (m : xMt) : Nat := m.2.2.2.2.2
def xR (d : Nat) : Room := { frames := d, cells := 0, slots := 0, locals := 39 * d }
def xWd (m : xMt) : List Cond := .code (xmy m) (xmb m) (xmn m) (xmr m) :: xTbl
def xW (E : xE) (M : xM) (U : State) : Prop := va_P (xeD E) vwCl (xws E M) U.heap ∧ va_D (xA E) (xws E M)
def xQ (E : xE) (R : Option Value → xM → Prop) : Array Value → State → Outcome → State → Prop := fun _ st o t => (∃ (r : Option Value) (M' : xM), o = .returned (r.map (xv E)) ∧ R r M' ∧ xW E M' t) ∧ va_F (xA E) st t
def xPre (E : xE) (M : xM) (U : State) : Prop := xW E M U ∧ xK E U U.heap ∧ xeB E ≤ U.heap.size
def Ct (l : Launch) (E : xE) (m : xMt) (args : List Value) (M : xM) (R : Option Value → xM → Prop) : Prop := Met l (xmy m) (xWd m) (xR (xmd m)) (va_Pc (args.map (xv E)) (xPre E M)) (xQ E R) 0 0 (xA E)
/-- the locals: what is known of each place -/
def xL (E : xE) (nL : Nat) (ls : Array Slot) (L : List (Option Value)) : Prop := L.length = nL ∧ ls.size = nL ∧ lv_wf ls ∧ ∀ (i : Nat) (v : Value), L[i]? = some (some v) → ls[i]? = some (Slot.val (xv E v))
def xCtx (m : xMt) (E : xE) (p : Program) (s : State) (mi : MethodId) (args : Array Value) (meth : Method) (c : Code) : Prop := p.tables.exec = Jvm.exec ∧ c.code = xmb m ∧ c.maxLocals = xmn m ∧ meth.sig.returnType = xmr m ∧ meth.locks = false ∧ s.vm.findClass (xown (xmo m)) = some mi.cls ∧ (∀ w ∈ xTbl, w.before args s = true) ∧ xK E s s.heap ∧ xeB E ≤ s.heap.size
def Gx (l : Launch) (E : xE) (m : xMt) (R : Option Value → xM → Prop) (pc : Nat) (M : xM) (L : List (Option Value)) (st : List Value) : Prop :=
  ∀ (p : Program) (e : Env) (s : State) (mi : MethodId) (args : Array Value) (below : List Frame) (meth : Method) (c : Code) (H : Heap) (locs : List Loc) (ls : Array Slot),
    xCtx m E p s mi args meth c → va_P (xeD E) vwCl (xws E M) H → va_D (xA E) (xws E M) → va_S (xA E) s.heap H locs → xL E (xmn m) ls L →
    W p l e (xR (xmd m)) s mi args below meth c H locs 0 0 (MQ below (xQ E R) args s 0 0 (xA E)) (F0 mi pc ls (st.map (xv E)))
section XR
variable {l : Launch} {E : xE} {m : xMt} {R : Option Value → xM → Prop} {pc : Nat} {M : xM} {L : List (Option Value)} {st : List Value}
-- the end
theorem Gx_iret {x : Int32} {ty : FieldType} (hd : decode (xmb m) pc = .ok (.ireturn, 1)) (hr : xmr m = some ty) (hn : narrow ty (.int x) = .int x) (h : R (some (.int x)) M) : Gx l E m R pc M L [.int x] := by
  intro p e s mi args below meth c H locs ls C hP hD hS hL
  obtain ⟨hx, hb, hml, hrt, hlk, hown, hts, hK, hB⟩ := C
  exact W.zret hx hb (hrt.trans hr) hn (fun t ht hW => ⟨⟨some (.int x), M, rfl, h, by rw [ht]; exact hP, hD⟩, hS.F ht⟩) hS.2.2 hd hlk
theorem Gx_lret {x : Int64} (hd : decode (xmb m) pc = .ok (.lreturn, 1)) (hr : xmr m = some .long) (h : R (some (.long x)) M) : Gx l E m R pc M L [.long x] := by
  intro p e s mi args below meth c H locs ls C hP hD hS hL
  obtain ⟨hx, hb, hml, hrt, hlk, hown, hts, hK, hB⟩ := C
  exact W.lret hx hb (hrt.trans hr) (fun t ht hW => ⟨⟨some (.long x), M, rfl, h, by rw [ht]; exact hP, hD⟩, hS.F ht⟩) hS.2.2 hd hlk
theorem Gx_vret (hd : decode (xmb m) pc = .ok (.return_, 1)) (hr : xmr m = none) (h : R none M) : Gx l E m R pc M L [] := by
  intro p e s mi args below meth c H locs ls C hP hD hS hL
  obtain ⟨hx, hb, hml, hrt, hlk, hown, hts, hK, hB⟩ := C
  exact W.vret hx hb (hrt.trans hr) (fun t ht hW => ⟨⟨none, M, rfl, h, by rw [ht]; exact hP, hD⟩, hS.F ht⟩) hS.2.2 hd hlk
theorem Gx_aret {x : Nat} {n : String} (hd : decode (xmb m) pc = .ok (.areturn, 1)) (hr : xmr m = some (.object n)) (hx0 : x ≠ 103) (h : R (some (.ref x)) M) : Gx l E m R pc M L [.ref x] := by
  intro p e s mi args below meth c H locs ls C hP hD hS hL
  obtain ⟨hx, hb, hml, hrt, hlk, hown, hts, hK, hB⟩ := C
  have e1 : List.map (xv E) [Value.ref x] = [.ref (xeA E x)] := by simp [xv_ref hx0]
  rw [e1]
  exact W.aret hx hb (hrt.trans hr) (Or.inl ⟨n, rfl⟩) (Or.inr ⟨_, rfl⟩) (fun t ht hW => ⟨⟨some (.ref x), M, by simp [xv_ref hx0], h, by rw [ht]; exact hP, hD⟩, hS.F ht⟩) hS.2.2 hd hlk
-- branches
theorem Gx_goto {off : Int} {tgt : Nat} (hd : decode (xmb m) pc = .ok (.goto off, 3)) (ht : (pc : Int) + off = (tgt : Int)) (k : Gx l E m R tgt M L st) : Gx l E m R pc M L st := by
  intro p e s mi args below meth c H locs ls C hP hD hS hL
  exact lv_goto C.1 C.2.1 hd ht (k p e s mi args below meth c H locs ls C hP hD hS hL)
theorem Gx_if_eq {x : Int32} {off : Int} {tgt : Nat} (hd : decode (xmb m) pc = .ok (.ifCond .eq off, 3)) (ht : (pc : Int) + off = (tgt : Int)) (kt : x = 0 → Gx l E m R tgt M L st) (kf : ¬ x = 0 → Gx l E m R (pc + 3) M L st) : Gx l E m R pc M L (.int x :: st) := by
  intro p e s mi args below meth c H locs ls C hP hD hS hL
  exact lv_if_eq C.1 C.2.1 hd ht (fun h => kt h p e s mi args below meth c H locs ls C hP hD hS hL) (fun h => kf h p e s mi args below meth c H locs ls C hP hD hS hL)
theorem Gx_icmp_eq {x y : Int32} {off : Int} {tgt : Nat} (hd : decode (xmb m) pc = .ok (.if_icmp .eq off, 3)) (ht : (pc : Int) + off = (tgt : Int)) (kt : x = y → Gx l E m R tgt M L st) (kf : ¬ x = y → Gx l E m R (pc + 3) M L st) : Gx l E m R pc M L (.int y :: .int x :: st) := by
  intro p e s mi args below meth c H locs ls C hP hD hS hL
  exact lv_icmp_eq C.1 C.2.1 hd ht (fun h => kt h p e s mi args below meth c H locs ls C hP hD hS hL) (fun h => kf h p e s mi args below meth c H locs ls C hP hD hS hL)
theorem Gx_if_ne {x : Int32} {off : Int} {tgt : Nat} (hd : decode (xmb m) pc = .ok (.ifCond .ne off, 3)) (ht : (pc : Int) + off = (tgt : Int)) (kt : ¬ x = 0 → Gx l E m R tgt M L st) (kf : x = 0 → Gx l E m R (pc + 3) M L st) : Gx l E m R pc M L (.int x :: st) := by
  intro p e s mi args below meth c H locs ls C hP hD hS hL
  exact lv_if_ne C.1 C.2.1 hd ht (fun h => kt h p e s mi args below meth c H locs ls C hP hD hS hL) (fun h => kf h p e s mi args below meth c H locs ls C hP hD hS hL)
theorem Gx_icmp_ne {x y : Int32} {off : Int} {tgt : Nat} (hd : decode (xmb m) pc = .ok (.if_icmp .ne off, 3)) (ht : (pc : Int) + off = (tgt : Int)) (kt : ¬ x = y → Gx l E m R tgt M L st) (kf : x = y → Gx l E m R (pc + 3) M L st) : Gx l E m R pc M L (.int y :: .int x :: st) := by
  intro p e s mi args below meth c H locs ls C hP hD hS hL
  exact lv_icmp_ne C.1 C.2.1 hd ht (fun h => kt h p e s mi args below meth c H locs ls C hP hD hS hL) (fun h => kf h p e s mi args below meth c H locs ls C hP hD hS hL)
theorem Gx_if_lt {x : Int32} {off : Int} {tgt : Nat} (hd : decode (xmb m) pc = .ok (.ifCond .lt off, 3)) (ht : (pc : Int) + off = (tgt : Int)) (kt : x < 0 → Gx l E m R tgt M L st) (kf : ¬ x < 0 → Gx l E m R (pc + 3) M L st) : Gx l E m R pc M L (.int x :: st) := by
  intro p e s mi args below meth c H locs ls C hP hD hS hL
  exact lv_if_lt C.1 C.2.1 hd ht (fun h => kt h p e s mi args below meth c H locs ls C hP hD hS hL) (fun h => kf h p e s mi args below meth c H locs ls C hP hD hS hL)
theorem Gx_icmp_lt {x y : Int32} {off : Int} {tgt : Nat} (hd : decode (xmb m) pc = .ok (.if_icmp .lt off, 3)) (ht : (pc : Int) + off = (tgt : Int)) (kt : x < y → Gx l E m R tgt M L st) (kf : ¬ x < y → Gx l E m R (pc + 3) M L st) : Gx l E m R pc M L (.int y :: .int x :: st) := by
  intro p e s mi args below meth c H locs ls C hP hD hS hL
  exact lv_icmp_lt C.1 C.2.1 hd ht (fun h => kt h p e s mi args below meth c H locs ls C hP hD hS hL) (fun h => kf h p e s mi args below meth c H locs ls C hP hD hS hL)
theorem Gx_if_ge {x : Int32} {off : Int} {tgt : Nat} (hd : decode (xmb m) pc = .ok (.ifCond .ge off, 3)) (ht : (pc : Int) + off = (tgt : Int)) (kt : 0 ≤ x → Gx l E m R tgt M L st) (kf : ¬ 0 ≤ x → Gx l E m R (pc + 3) M L st) : Gx l E m R pc M L (.int x :: st) := by
  intro p e s mi args below meth c H locs ls C hP hD hS hL
  exact lv_if_ge C.1 C.2.1 hd ht (fun h => kt h p e s mi args below meth c H locs ls C hP hD hS hL) (fun h => kf h p e s mi args below meth c H locs ls C hP hD hS hL)
theorem Gx_icmp_ge {x y : Int32} {off : Int} {tgt : Nat} (hd : decode (xmb m) pc = .ok (.if_icmp .ge off, 3)) (ht : (pc : Int) + off = (tgt : Int)) (kt : y ≤ x → Gx l E m R tgt M L st) (kf : ¬ y ≤ x → Gx l E m R (pc + 3) M L st) : Gx l E m R pc M L (.int y :: .int x :: st) := by
  intro p e s mi args below meth c H locs ls C hP hD hS hL
  exact lv_icmp_ge C.1 C.2.1 hd ht (fun h => kt h p e s mi args below meth c H locs ls C hP hD hS hL) (fun h => kf h p e s mi args below meth c H locs ls C hP hD hS hL)
theorem Gx_if_gt {x : Int32} {off : Int} {tgt : Nat} (hd : decode (xmb m) pc = .ok (.ifCond .gt off, 3)) (ht : (pc : Int) + off = (tgt : Int)) (kt : 0 < x → Gx l E m R tgt M L st) (kf : ¬ 0 < x → Gx l E m R (pc + 3) M L st) : Gx l E m R pc M L (.int x :: st) := by
  intro p e s mi args below meth c H locs ls C hP hD hS hL
  exact lv_if_gt C.1 C.2.1 hd ht (fun h => kt h p e s mi args below meth c H locs ls C hP hD hS hL) (fun h => kf h p e s mi args below meth c H locs ls C hP hD hS hL)
theorem Gx_icmp_gt {x y : Int32} {off : Int} {tgt : Nat} (hd : decode (xmb m) pc = .ok (.if_icmp .gt off, 3)) (ht : (pc : Int) + off = (tgt : Int)) (kt : y < x → Gx l E m R tgt M L st) (kf : ¬ y < x → Gx l E m R (pc + 3) M L st) : Gx l E m R pc M L (.int y :: .int x :: st) := by
  intro p e s mi args below meth c H locs ls C hP hD hS hL
  exact lv_icmp_gt C.1 C.2.1 hd ht (fun h => kt h p e s mi args below meth c H locs ls C hP hD hS hL) (fun h => kf h p e s mi args below meth c H locs ls C hP hD hS hL)
theorem Gx_if_le {x : Int32} {off : Int} {tgt : Nat} (hd : decode (xmb m) pc = .ok (.ifCond .le off, 3)) (ht : (pc : Int) + off = (tgt : Int)) (kt : x ≤ 0 → Gx l E m R tgt M L st) (kf : ¬ x ≤ 0 → Gx l E m R (pc + 3) M L st) : Gx l E m R pc M L (.int x :: st) := by
  intro p e s mi args below meth c H locs ls C hP hD hS hL
  exact lv_if_le C.1 C.2.1 hd ht (fun h => kt h p e s mi args below meth c H locs ls C hP hD hS hL) (fun h => kf h p e s mi args below meth c H locs ls C hP hD hS hL)
theorem Gx_icmp_le {x y : Int32} {off : Int} {tgt : Nat} (hd : decode (xmb m) pc = .ok (.if_icmp .le off, 3)) (ht : (pc : Int) + off = (tgt : Int)) (kt : x ≤ y → Gx l E m R tgt M L st) (kf : ¬ x ≤ y → Gx l E m R (pc + 3) M L st) : Gx l E m R pc M L (.int y :: .int x :: st) := by
  intro p e s mi args below meth c H locs ls C hP hD hS hL
  exact lv_icmp_le C.1 C.2.1 hd ht (fun h => kt h p e s mi args below meth c H locs ls C hP hD hS hL) (fun h => kf h p e s mi args below meth c H locs ls C hP hD hS hL)
theorem Gx_lookup {dflt : Int} {ps : Array (Int × Int)} {len : Nat} {x : Int32} {off : Int} {tgt : Nat} (hd : decode (xmb m) pc = .ok (.lookupswitch dflt ps, len)) (hp : (ps.toList.zip (ps.toList.drop 1)).all (fun (a, next) => a.1 < next.1) = true) (ho : Op.lookupswitch.offset ps.toList dflt x.toInt = off) (ht : (pc : Int) + off = (tgt : Int)) (k : Gx l E m R tgt M L st) : Gx l E m R pc M L (.int x :: st) := by
  intro p e s mi args below meth c H locs ls C hP hD hS hL
  exact lv_lookup C.1 C.2.1 hd hp ho ht (k p e s mi args below meth c H locs ls C hP hD hS hL)
theorem Gx_tableOut {dflt lo hi : Int} {offs : Array Int} {len : Nat} {x : Int32} {tgt : Nat} (hd : decode (xmb m) pc = .ok (.tableswitch dflt lo hi offs, len)) (h : x.toInt < lo ∨ hi < x.toInt) (ht : (pc : Int) + dflt = (tgt : Int)) (k : Gx l E m R tgt M L st) : Gx l E m R pc M L (.int x :: st) := by
  intro p e s mi args below meth c H locs ls C hP hD hS hL
  exact lv_tableOut C.1 C.2.1 hd h ht (k p e s mi args below meth c H locs ls C hP hD hS hL)
theorem Gx_tableIn {dflt lo hi : Int} {offs : Array Int} {len : Nat} {x : Int32} {off : Int} {tgt : Nat} (hd : decode (xmb m) pc = .ok (.tableswitch dflt lo hi offs, len)) (h1 : ¬ x.toInt < lo) (h2 : ¬ hi < x.toInt) (ho : offs[(x.toInt - lo).toNat]? = some off) (ht : (pc : Int) + off = (tgt : Int)) (k : Gx l E m R tgt M L st) : Gx l E m R pc M L (.int x :: st) := by
  intro p e s mi args below meth c H locs ls C hP hD hS hL
  exact lv_tableIn C.1 C.2.1 hd h1 h2 ho ht (k p e s mi args below meth c H locs ls C hP hD hS hL)
end XR
-- the way in
def xent : List Value → List (Option Value)
  | [] => []
  | v :: vs => if v.category = 2 then some v :: none :: xent vs else some v :: xent vs
def xin (args : List Value) (n : Nat) : List (Option Value) := xent args ++ List.replicate (n - (xent args).length) none
theorem xv_cat {E : xE} (hS : xeS E = .null ∨ ∃ t, xeS E = .ref t) (v : Value) : (xv E v).category = v.category := by
  cases v with
  | ref k =>
    show (if k = 103 then xeS E else .ref (xeA E k)).category = _
    by_cases hk : k = 103
    · rw [if_pos hk]
      rcases hS with h | ⟨t, h⟩ <;> rw [h] <;> rfl
    · rw [if_neg hk]; rfl
  | _ => rfl
theorem xent_len {E : xE} (hS : xeS E = .null ∨ ∃ t, xeS E = .ref t) (vs : List Value) : (lg_sl (vs.map (xv E))).length = (xent vs).length := by
  induction vs with
  | nil => rfl
  | cons v vs ih =>
    have e1 : lg_sl (List.map (xv E) (v :: vs)) = (if (xv E v).category = 2 then [Slot.val (xv E v), Slot.second] else [Slot.val (xv E v)]) ++ lg_sl (vs.map (xv E)) := by simp [lg_sl]
    rw [e1, List.length_append, ih, xv_cat hS, xent]
    split
    · simp only [List.length_cons, List.length_nil]; omega
    · simp only [List.length_cons, List.length_nil]; omega
theorem xent_args {E : xE} (hS : xeS E = .null ∨ ∃ t, xeS E = .ref t) (vs : List Value) : ∀ (k i : Nat) (v : Value), (xent vs)[i]? = some (some v) → (k + i, xv E v) ∈ lv_args k (vs.map (xv E)) := by
  induction vs with
  | nil => intro k i v h; simp [xent] at h
  | cons w vs ih =>
    intro k i v h
    rw [List.map_cons]
    rw [lv_args, xv_cat hS]
    rw [xent] at h
    split at h
    · rename_i hc
      rw [if_pos hc]
      match i, h with
      | 0, h => simp only [List.getElem?_cons_zero, Option.some.injEq] at h; subst h; exact List.mem_cons_self
      | 1, h => simp at h
      | i + 2, h =>
        have := ih (k + 2) i v (by simpa using h)
        exact List.mem_cons_of_mem _ (by rwa [show k + (i + 2) = k + 2 + i by omega])
    · rename_i hc
      rw [if_neg hc]
      match i, h with
      | 0, h => simp only [List.getElem?_cons_zero, Option.some.injEq] at h; subst h; exact List.mem_cons_self
      | i + 1, h =>
        have := ih (k + 1) i v (by simpa using h)
        exact List.mem_cons_of_mem _ (by rwa [show k + (i + 1) = k + 1 + i by omega])
theorem xin_has {E : xE} (hS : xeS E = .null ∨ ∃ t, xeS E = .ref t) {vs : List Value} {n : Nat} (h : (xent vs).length ≤ n) : xL E n ((lg_sl (vs.map (xv E)) ++ List.replicate (n - (lg_sl (vs.map (xv E))).length) Slot.unset).toArray) (xin vs n) := by
  obtain ⟨h1, h2, h3⟩ := lv_entry (vs.map (xv E)) (n := n) (by rw [xent_len hS]; exact h)
  refine ⟨by unfold xin; rw [List.length_append, List.length_replicate]; omega, h1, h2, fun i v hv => ?_⟩
  unfold xin at hv
  rcases Nat.lt_or_ge i (xent vs).length with q | q
  · rw [List.getElem?_append_left q] at hv
    have := h3 _ (xent_args hS vs 0 i v hv)
    simpa using this
  · rw [List.getElem?_append_right q] at hv
    have := List.eq_of_mem_replicate (List.mem_of_getElem? hv)
    cases this
theorem Ct_of {l : Launch} {E : xE} {m : xMt} {vs : List Value} {M : xM} {R : Option Value → xM → Prop} (hy : plainName (xmy m).cls = true) (ho : (xmy m).cls = xown (xmo m)) (hn : (xent vs).length ≤ xmn m) (k : Gx l E m R 0 M (xin vs (xmn m)) []) : Ct l E m vs M R := by
  refine Met.ofW (cc := xmb m) (maxL := xmn m) (ret := xmr m) (ws' := xTbl) hy rfl ?_
  intro p e s mi args below meth c s₁ B hml hv
  obtain ⟨rfl, ⟨hP, hD⟩, hK, hB⟩ := hv
  have hts := atoms_spec (ws := xWd m) B.pre
  have hown : s.vm.findClass (xmy m).cls = some mi.cls := findClass_of_methodNamed B.named
  have hSi := hK.2.1.2.2.2.2.2.2.1
  rw [lg_entry_eq]
  exact k p e s mi _ below meth c s.heap [] _ ⟨B.exec, B.bytes, hml, B.returns, B.notSynchronized, ho ▸ hown, fun w h => hts w (List.mem_cons_of_mem _ h), hK, hB⟩ hP hD va_S.rf (xin_has hSi hn)
end
section
/-! calls over the abstract machine -/
def xMok (m : xMt) (n : Nat) : Prop := Cond.code (xmy m) (xmb m) (xmn m) (xmr m) ∈ xTbl ∧ Cond.initialized (xmy m).cls ∈ xTbl ∧ ((xmy m).cls ≠ "java/lang/invoke/MethodHandle" ∧ (xmy m).cls ≠ "java/lang/invoke/VarHandle" ∧ (parseMethodDescriptor (xmy m).desc).map (fun d => d.parameters.length) = some n) ∧ xmn m ≤ 20
def xMv (m : xMt) : Prop := Cond.instanceMethod (xmy m) ∈ xTbl ∧ Cond.selects (xmy m).cls (xmy m) (xmy m) ∈ xTbl
theorem xWd_good {m : xMt} {n : Nat} (h : xMok m n) : GoodIn xTbl (xWd m) := by
  intro w hw
  rcases List.mem_cons.mp hw with rfl | hw
  · exact ⟨h.1, xTbl_good _ h.1⟩
  · exact ⟨hw, xTbl_good _ hw⟩
theorem x_room {d d' nL : Nat} (h : d' + 1 ≤ d) (hn : nL ≤ 20) : (xR d').frames + 1 ≤ (xR d).frames ∧ 8 + (nL + 11) + (xR d').locals ≤ (xR d).locals := by
  simp only [xR]
  omega
theorem xPre_blind {E : xE} {M : xM} {av : List Value} : FrameBlind (va_Pc av (xPre E M)) := by
  intro a U g mk q
  obtain ⟨q0, ⟨q1, q2⟩, ⟨q3, q4, q5⟩, q6⟩ := q
  exact ⟨q0, ⟨q1, q2⟩, ⟨va_K.moved (u := U) (U := U.calling g mk a) (Vm.Alike.refl U.vm) q3, xSta.moved (u := U) (U := U.calling g mk a) (Vm.Alike.refl U.vm) q4, xLnk.same (u := U) (U := U.calling g mk a) rfl q5⟩, q6⟩
theorem xPre_at {E : xE} {M : xM} {s U : State} {H : Heap} {locs : List Loc} (hK : xK E s s.heap) (hB : xeB E ≤ s.heap.size) (hP : va_P (xeD E) vwCl (xws E M) H) (hD : va_D (xA E) (xws E M)) (hS : va_S (xA E) s.heap H locs) (hU : U.heap = H) (hW : s.WarmedH U.vm) : xPre E M U := by
  subst hU
  exact ⟨⟨hP, hD⟩, ⟨va_K.moved hW.alike hK.1, (hK.2.1.kept hS.2.1).moved hW.alike, hK.2.2.warm hW⟩, Nat.le_trans hB hS.1⟩
section XC
variable {p : Program} {l : Launch} {e : Env} {Rm : Room} {s : State} {m : MethodId} {args : Array Value} {below : List Frame} {meth : Method} {c : Code} {H : Heap} {locs : List Loc} {Q : State → Prop} {pc : Nat} {ls : Array Slot} {rest st0 : List Value} {a : Array Value} {E : xE}
theorem x_call {R' : Option Value → xM → Prop} (hr : va_Run p l e Rm s m args below meth c H locs 0 0 0 0 (F0 m pc ls st0) rest (xQ E R' a) (xA E)) (hS : va_S (xA E) s.heap H locs)
    (kk : ∀ (r : Option Value) (M' : xM) (H1 : Heap) (locs1 : List Loc), R' r M' → va_P (xeD E) vwCl (xws E M') H1 → va_D (xA E) (xws E M') → va_S (xA E) s.heap H1 locs1 → W p l e Rm s m args below meth c H1 locs1 0 0 Q (F0 m (pc + 3) ls ((r.map (xv E)).toList ++ rest))) : W p l e Rm s m args below meth c H locs 0 0 Q (F0 m pc ls st0) := by
  intro T hT X
  obtain ⟨v, st₀, t, T', L, h0, X', hL, e1, e2, ⟨⟨r, M', hv, hp, hb⟩, hz, hk⟩, st⟩ := hr T hT X
  cases hv
  rw [h0] at hz hk
  obtain ⟨t2, a1, b1⟩ := kk r M' T'.heap (locs ++ L) hp (by rw [e1]; exact hb.1) hb.2
    ⟨Nat.le_trans hS.1 (by rw [e1]; exact hz), fun q h1 h2 => by rw [e1, hk q (Nat.lt_of_lt_of_le h1 hS.1) h2]; exact hS.2.1 q h1 h2, fun q hq => by
      rcases List.mem_append.mp hq with h | h
      · exact hS.2.2 q h
      · exact hL q h⟩ T' rfl X'
  exact ⟨t2, st t2 a1, b1⟩
end XC
section XR
variable {l : Launch} {E : xE} {m : xMt} {R : Option Value → xM → Prop} {pc : Nat} {M : xM} {L : List (Option Value)} {rest : List Value}
theorem x_rest {mi : MethodId} {ls : Array Slot} {st : List Value} {E : xE} (hS : xeS E = .null ∨ ∃ t, xeS E = .ref t) (h : (rest.map fun v => v.category).sum ≤ 8) : 2 * (F0 mi pc ls st).monitorRoom + ((rest.map (xv E)).map fun v => v.category).sum ≤ 8 := by
  apply lv_room
  rw [List.map_map]
  have e1 : ((fun v => v.category) ∘ xv E) = (fun v : Value => v.category) := funext fun v => xv_cat hS v
  rw [e1]
  exact h
theorem x_stackV {As : List Value} {q : Nat} (hq : q ≠ 103) : List.map (xv E) (As.reverse ++ .ref q :: rest) = (As.map (xv E)).reverse ++ .ref (xeA E q) :: rest.map (xv E) := by simp [xv_ref hq]
theorem x_stackS {As : List Value} : List.map (xv E) (As.reverse ++ rest) = (As.map (xv E)).reverse ++ rest.map (xv E) := by simp
/-- a call of a method of one of the system's objects, or of a string constant -/
theorem Gx_callR {mc : xMt} {n idx q : Nat} {As : List Value} {R' : Option Value → xM → Prop} (hd : decode (xmb m) pc = .ok (.invokevirtual idx, 3)) (hl : Cond.methodLink (xown (xmo m)) idx (xmy mc) ∈ xTbl) (hm : xMok mc n) (hv : xMv mc) (hn : As.length = n) (hdep : xmd mc + 1 ≤ xmd m) (hrest : (rest.map fun v => v.category).sum ≤ 8) (hq : q ≠ 103)
    (hrc : ∀ (s : State) (H : Heap) (locs : List Loc), xK E s s.heap → va_P (xeD E) vwCl (xws E M) H → va_S (xA E) s.heap H locs → ∃ cell : Cell, H[xeA E q]? = some cell ∧ cell.vm.isStatics = false ∧ s.vm.findClass (xmy mc).cls = some cell.cls)
    (hC : Ct l E mc (.ref q :: As) M R') (k : ∀ r M', R' r M' → Gx l E m R (pc + 3) M' L (r.toList ++ rest)) : Gx l E m R pc M L (As.reverse ++ .ref q :: rest) := by
  intro p e s mi args below meth c H locs ls C hP hD hS hL
  have C0 := C
  obtain ⟨hx, hb, hml, hrt, hlk, hown, hts, hK, hB⟩ := C
  have hSi := hK.2.1.2.2.2.2.2.2.1
  rw [x_stackV hq]
  refine x_call (va_runV (own := xown (xmo m)) (C := (xmy mc).cls) (As := As.map (xv E)) (rest := rest.map (xv E)) (b := xeA E q) (ws := xWd mc) (rm := xR (xmd mc)) (Ts := xTbl) ⟨hx, hb, hml, hown, hts⟩ hC ⟨callB_of n hts (xWd_good hm) rfl rfl rfl (hts _ hm.2.1) (hts _ hl) hm.2.2.1 (x_room hdep hm.2.2.2), hts _ hv.1, hts _ hv.2⟩ ⟨xPre_blind, hrc s H locs hK hP hS, fun U hU hW => ⟨by simp [xv_ref hq], xPre_at hK hB hP hD hS hU hW⟩⟩ rfl (by rw [List.length_map]; exact hn) hL.2.1 rfl (x_rest hSi hrest) hd ⟨Nat.zero_le _, Nat.zero_le _⟩) hS (fun r M' H1 locs1 hR hP1 hD1 hS1 => ?_)
  have := k r M' hR p e s mi args below meth c H1 locs1 ls C0 hP1 hD1 hS1 hL
  rw [List.map_append] at this
  have e1 : List.map (xv E) r.toList = (r.map (xv E)).toList := by cases r <;> rfl
  rw [e1] at this
  exact this
theorem Gx_callV {mc : xMt} {n idx q ci : Nat} {rc : vw_C} {As : List Value} {R' : Option Value → xM → Prop} (hd : decode (xmb m) pc = .ok (.invokevirtual idx, 3)) (hl : Cond.methodLink (xown (xmo m)) idx (xmy mc) ∈ xTbl) (hm : xMok mc n) (hv : xMv mc) (hn : As.length = n) (hdep : xmd mc + 1 ≤ xmd m) (hrest : (rest.map fun v => v.category).sum ≤ 8)
    (hk : xkd q = ci) (hc : vwCl[ci]? = some rc) (he : rc.1 = (xmy mc).cls)
    (hC : Ct l E mc (.ref q :: As) M R') (k : ∀ r M', R' r M' → Gx l E m R (pc + 3) M' L (r.toList ++ rest)) : Gx l E m R pc M L (As.reverse ++ .ref q :: rest) := by
  have hci : ci < 5 := (List.getElem?_eq_some_iff.mp hc).1
  have hq : q < 60 := xkd_lt (by omega)
  refine Gx_callR hd hl hm hv hn hdep hrest (by omega) (fun s H locs hK hP hS => ?_) hC k
  have h1 := xws_get E M hq
  rw [xcell_obj E M hk (by omega)] at h1
  have h2 := va_recv hK.1 hP hc h1
  rw [he] at h2
  exact h2
theorem Gx_callT {mc : xMt} {n idx i : Nat} {As : List Value} {R' : Option Value → xM → Prop} (hd : decode (xmb m) pc = .ok (.invokevirtual idx, 3)) (hl : Cond.methodLink (xown (xmo m)) idx (xmy mc) ∈ xTbl) (hm : xMok mc n) (hv : xMv mc) (hn : As.length = n) (hdep : xmd mc + 1 ≤ xmd m) (hrest : (rest.map fun v => v.category).sum ≤ 8)
    (hi : i < 9) (he : (xmy mc).cls = "java/lang/String")
    (hC : Ct l E mc (.ref (110 + i) :: As) M R') (k : ∀ r M', R' r M' → Gx l E m R (pc + 3) M' L (r.toList ++ rest)) : Gx l E m R pc M L (As.reverse ++ .ref (110 + i) :: rest) := by
  refine Gx_callR hd hl hm hv hn hdep hrest (by omega) (fun s H locs hK hP hS => ?_) hC k
  obtain ⟨cell, h1, h2, h3, -⟩ := (hK.2.1.2.2.2.2.2.2.2 i hi).1.kept hS.2.1
  exact ⟨cell, h1, h2, he ▸ h3⟩
theorem Gx_callS {mc : xMt} {n idx : Nat} {As : List Value} {R' : Option Value → xM → Prop} (hd : decode (xmb m) pc = .ok (.invokestatic idx, 3)) (hl : Cond.methodLink (xown (xmo m)) idx (xmy mc) ∈ xTbl) (hm : xMok mc n) (hv : Cond.static (xmy mc) ∈ xTbl) (hn : As.length = n) (hdep : xmd mc + 1 ≤ xmd m) (hrest : (rest.map fun v => v.category).sum ≤ 8)
    (hC : Ct l E mc As M R') (k : ∀ r M', R' r M' → Gx l E m R (pc + 3) M' L (r.toList ++ rest)) : Gx l E m R pc M L (As.reverse ++ rest) := by
  intro p e s mi args below meth c H locs ls C hP hD hS hL
  have C0 := C
  obtain ⟨hx, hb, hml, hrt, hlk, hown, hts, hK, hB⟩ := C
  have hSi := hK.2.1.2.2.2.2.2.2.1
  rw [x_stackS]
  refine x_call (va_runS (own := xown (xmo m)) (As := As.map (xv E)) (rest := rest.map (xv E)) (ws := xWd mc) (rm := xR (xmd mc)) (Ts := xTbl) ⟨hx, hb, hml, hown, hts⟩ hC ⟨callB_of n hts (xWd_good hm) rfl rfl rfl (hts _ hm.2.1) (hts _ hl) hm.2.2.1 (x_room hdep hm.2.2.2), hts _ hv⟩ ⟨xPre_blind, fun U hU hW => ⟨rfl, xPre_at hK hB hP hD hS hU hW⟩⟩ rfl (by rw [List.length_map]; exact hn) hL.2.1 rfl (x_rest hSi hrest) hd ⟨Nat.zero_le _, Nat.zero_le _⟩) hS (fun r M' H1 locs1 hR hP1 hD1 hS1 => ?_)
  have := k r M' hR p e s mi args below meth c H1 locs1 ls C0 hP1 hD1 hS1 hL
  rw [List.map_append] at this
  have e1 : List.map (xv E) r.toList = (r.map (xv E)).toList := by cases r <;> rfl
  rw [e1] at this
  exact this
/-- a call of the class's isOutside out of Volume -/
theorem Gx_callN {mc : xMt} {n : Nat} {As : List Value} {R' : Option Value → xM → Prop} (hd : decode (xmb m) pc = .ok (.invokestatic 53, 3)) (ho : xmo m = 2) (hy : xmy mc = yX3_isOutside) (hm : xMok mc n) (hv : Cond.static (xmy mc) ∈ xTbl) (hn : As.length = n) (hdep : xmd mc + 1 ≤ xmd m) (hrest : (rest.map fun v => v.category).sum ≤ 8)
    (hC : Ct l E mc As M R') (k : ∀ r M', R' r M' → Gx l E m R (pc + 3) M' L (r.toList ++ rest)) : Gx l E m R pc M L (As.reverse ++ rest) := by
  intro p e s mi args below meth c H locs ls C hP hD hS hL
  have C0 := C
  obtain ⟨hx, hb, hml, hrt, hlk, hown, hts, hK, hB⟩ := C
  have hSi := hK.2.1.2.2.2.2.2.2.1
  rw [x_stackS]
  have hl : va_Nw (.methodLinkNest RX2 53 (xmy mc) RX3) s := by rw [hy]; exact hK.2.2.2.2.2.2
  have hown2 : s.vm.findClass RX2 = some mi.cls := by rw [ho] at hown; exact hown
  refine x_call (va_runSN (own := RX2) (host := RX3) (As := As.map (xv E)) (rest := rest.map (xv E)) (ws := xWd mc) (rm := xR (xmd mc)) (Ts := xTbl) ⟨hx, hb, hml, hown2, hts⟩ hC ⟨va_cnB n hts (xWd_good hm) rfl rfl rfl hl (hts _ hm.2.1) hm.2.2.1 (x_room hdep hm.2.2.2), hts _ hv, trivial⟩ ⟨xPre_blind, fun U hU hW => ⟨rfl, xPre_at hK hB hP hD hS hU hW⟩⟩ rfl (by rw [List.length_map]; exact hn) hL.2.1 rfl (x_rest hSi hrest) hd ⟨Nat.zero_le _, Nat.zero_le _⟩) hS (fun r M' H1 locs1 hR hP1 hD1 hS1 => ?_)
  have := k r M' hR p e s mi args below meth c H1 locs1 ls C0 hP1 hD1 hS1 hL
  rw [List.map_append] at this
  have e1 : List.map (xv E) r.toList = (r.map (xv E)).toList := by cases r <;> rfl
  rw [e1] at this
  exact this
/-- System.arraycopy of a whole row's begin -/
theorem Gx_copy {idx q1 q0 : Nat} {sp dp n : Int32} (hd : decode (xmb m) pc = .ok (.invokestatic idx, 3)) (hl : Cond.methodLink (xown (xmo m)) idx arraycopyName ∈ xTbl) (hnat : Cond.native arraycopyName ∈ xTbl) (hst : Cond.static arraycopyName ∈ xTbl) (hini : Cond.initialized "java/lang/System" ∈ xTbl) (hdep : 1 ≤ xmd m) (hrest : (rest.map fun v => v.category).sum ≤ 8)
    (k0 : xkd q0 = 5) (k1 : xkd q1 = 5) (h1 : ¬ sp < 0) (h2 : ¬ dp < 0) (h3 : ¬ n < 0) (h4 : sp.toNatClampNeg + n.toNatClampNeg ≤ xln q0) (h5 : dp.toNatClampNeg + n.toNatClampNeg ≤ xln q1)
    (k : Gx l E m R (pc + 3) (fun a => if a = q1 then va_cpy (M q0) (M q1) sp.toNatClampNeg dp.toNatClampNeg n.toNatClampNeg else M a) L rest) : Gx l E m R pc M L (.int n :: .int dp :: .ref q1 :: .int sp :: .ref q0 :: rest) := by
  intro p e s mi args below meth c H locs ls C hP hD hS hL
  have C0 := C
  obtain ⟨hx, hb, hml, hrt, hlk, hown, hts, hK, hB⟩ := C
  have hSi := hK.2.1.2.2.2.2.2.2.1
  have hq0 : q0 < 60 := xkd_lt (by omega)
  have hq1 : q1 < 60 := xkd_lt (by omega)
  have e1 : List.map (xv E) (.int n :: .int dp :: .ref q1 :: .int sp :: .ref q0 :: rest) = .int n :: .int dp :: .ref (xeA E q1) :: .int sp :: .ref (xeA E q0) :: rest.map (xv E) := by
    simp [xv_int, xv_ref (E := E) (show q0 ≠ 103 by omega), xv_ref (E := E) (show q1 ≠ 103 by omega)]
  rw [e1]
  have g0 := xws_get E M hq0
  have g1 := xws_get E M hq1
  rw [xcell_row E M k0] at g0
  rw [xcell_row E M k1] at g1
  have hsum : ((rest.map (xv E)).map fun v => v.category).sum ≤ 8 := by
    have := x_rest (rest := rest) (pc := 0) (mi := mi) (ls := #[]) (st := []) hSi hrest
    omega
  refine va_copyi hx hb (hml.trans hL.2.1.symm) hown (hts _ hl) (hts _ hnat) (hts _ hst) (hts _ hini) hK.1 hP hD hS q0 q1 0 0 g0 g1 rfl rfl rfl h1 h2 h3 h4 h5 (fun i _ => rfl) hdep ?_ hd (fun H1 locs1 hP1 hD1 hS1 => ?_)
  · have : nativeFrameWords "java/lang/System" "arraycopy" 5 ≤ 20 := by decide +kernel
    simp only [xR]
    omega
  · rw [xws_set E M (fun a => if a = q1 then va_cpy (M q0) (M q1) sp.toNatClampNeg dp.toNatClampNeg n.toNatClampNeg else M a) hq1 (fun a ha => by simp [ha]) (by rw [xcell_row E _ k1]; simp)] at hP1 hD1
    exact k p e s mi args below meth c H1 locs1 ls C0 hP1 hD1 hS1 hL
end XR
end
section
/-! straight stretches of code over the abstract machine: xs computes them, Gx_run says that the machine follows -/
section XI
variable {l : Launch} {E : xE} {m : xMt} {R : Option Value → xM → Prop} {pc : Nat} {M : xM} {L : List (Option Value)} {st : List Value}
theorem Gx_iadd {x y : Int32} (hd : decode (xmb m) pc = .ok (.iadd, 1)) (k : Gx l E m R (pc + 1) M L (.int (x + y) :: st)) : Gx l E m R pc M L (.int y :: .int x :: st) := by
  intro p e s mi args below meth c H locs ls C hP hD hS hL
  exact lv_iadd C.1 C.2.1 hd (k p e s mi args below meth c H locs ls C hP hD hS hL)
theorem Gx_isub {x y : Int32} (hd : decode (xmb m) pc = .ok (.isub, 1)) (k : Gx l E m R (pc + 1) M L (.int (x - y) :: st)) : Gx l E m R pc M L (.int y :: .int x :: st) := by
  intro p e s mi args below meth c H locs ls C hP hD hS hL
  exact lv_isub C.1 C.2.1 hd (k p e s mi args below meth c H locs ls C hP hD hS hL)
theorem Gx_imul {x y : Int32} (hd : decode (xmb m) pc = .ok (.imul, 1)) (k : Gx l E m R (pc + 1) M L (.int (x * y) :: st)) : Gx l E m R pc M L (.int y :: .int x :: st) := by
  intro p e s mi args below meth c H locs ls C hP hD hS hL
  exact lv_imul C.1 C.2.1 hd (k p e s mi args below meth c H locs ls C hP hD hS hL)
theorem Gx_iand {x y : Int32} (hd : decode (xmb m) pc = .ok (.iand, 1)) (k : Gx l E m R (pc + 1) M L (.int (x &&& y) :: st)) : Gx l E m R pc M L (.int y :: .int x :: st) := by
  intro p e s mi args below meth c H locs ls C hP hD hS hL
  exact lv_iand C.1 C.2.1 hd (k p e s mi args below meth c H locs ls C hP hD hS hL)
theorem Gx_ior {x y : Int32} (hd : decode (xmb m) pc = .ok (.ior, 1)) (k : Gx l E m R (pc + 1) M L (.int (x ||| y) :: st)) : Gx l E m R pc M L (.int y :: .int x :: st) := by
  intro p e s mi args below meth c H locs ls C hP hD hS hL
  exact lv_ior C.1 C.2.1 hd (k p e s mi args below meth c H locs ls C hP hD hS hL)
theorem Gx_ixor {x y : Int32} (hd : decode (xmb m) pc = .ok (.ixor, 1)) (k : Gx l E m R (pc + 1) M L (.int (x ^^^ y) :: st)) : Gx l E m R pc M L (.int y :: .int x :: st) := by
  intro p e s mi args below meth c H locs ls C hP hD hS hL
  exact lv_ixor C.1 C.2.1 hd (k p e s mi args below meth c H locs ls C hP hD hS hL)
theorem Gx_ishl {x y : Int32} (hd : decode (xmb m) pc = .ok (.ishl, 1)) (k : Gx l E m R (pc + 1) M L (.int (x <<< (y &&& 31)) :: st)) : Gx l E m R pc M L (.int y :: .int x :: st) := by
  intro p e s mi args below meth c H locs ls C hP hD hS hL
  exact lv_ishl C.1 C.2.1 hd (k p e s mi args below meth c H locs ls C hP hD hS hL)
theorem Gx_ishr {x y : Int32} (hd : decode (xmb m) pc = .ok (.ishr, 1)) (k : Gx l E m R (pc + 1) M L (.int (x >>> (y &&& 31)) :: st)) : Gx l E m R pc M L (.int y :: .int x :: st) := by
  intro p e s mi args below meth c H locs ls C hP hD hS hL
  exact lv_ishr C.1 C.2.1 hd (k p e s mi args below meth c H locs ls C hP hD hS hL)
theorem Gx_idiv {x y : Int32} (hd : decode (xmb m) pc = .ok (.idiv, 1)) (hne : ¬ y = 0) (k : Gx l E m R (pc + 1) M L (.int (x / y) :: st)) : Gx l E m R pc M L (.int y :: .int x :: st) := by
  intro p e s mi args below meth c H locs ls C hP hD hS hL
  exact lv_idiv C.1 C.2.1 hd hne (k p e s mi args below meth c H locs ls C hP hD hS hL)
theorem Gx_irem {x y : Int32} (hd : decode (xmb m) pc = .ok (.irem, 1)) (hne : ¬ y = 0) (k : Gx l E m R (pc + 1) M L (.int (x - x / y * y) :: st)) : Gx l E m R pc M L (.int y :: .int x :: st) := by
  intro p e s mi args below meth c H locs ls C hP hD hS hL
  exact lv_irem C.1 C.2.1 hd hne (k p e s mi args below meth c H locs ls C hP hD hS hL)
theorem Gx_iushr {x y : Int32} (hd : decode (xmb m) pc = .ok (.iushr, 1)) (k : Gx l E m R (pc + 1) M L (.int (x.toUInt32 >>> (y.toUInt32 &&& Int32.toUInt32 31)).toInt32 :: st)) : Gx l E m R pc M L (.int y :: .int x :: st) := by
  intro p e s mi args below meth c H locs ls C hP hD hS hL
  exact lv_iushr C.1 C.2.1 hd rfl (k p e s mi args below meth c H locs ls C hP hD hS hL)
theorem Gx_ineg {x : Int32} (hd : decode (xmb m) pc = .ok (.ineg, 1)) (k : Gx l E m R (pc + 1) M L (.int (-x) :: st)) : Gx l E m R pc M L (.int x :: st) := by
  intro p e s mi args below meth c H locs ls C hP hD hS hL
  exact lv_ineg C.1 C.2.1 hd (k p e s mi args below meth c H locs ls C hP hD hS hL)
theorem Gx_ladd {x y : Int64} (hd : decode (xmb m) pc = .ok (.ladd, 1)) (k : Gx l E m R (pc + 1) M L (.long (x + y) :: st)) : Gx l E m R pc M L (.long y :: .long x :: st) := by
  intro p e s mi args below meth c H locs ls C hP hD hS hL
  exact lv_ladd C.1 C.2.1 hd (k p e s mi args below meth c H locs ls C hP hD hS hL)
theorem Gx_lsub {x y : Int64} (hd : decode (xmb m) pc = .ok (.lsub, 1)) (k : Gx l E m R (pc + 1) M L (.long (x - y) :: st)) : Gx l E m R pc M L (.long y :: .long x :: st) := by
  intro p e s mi args below meth c H locs ls C hP hD hS hL
  exact lv_lsub C.1 C.2.1 hd (k p e s mi args below meth c H locs ls C hP hD hS hL)
theorem Gx_lmul {x y : Int64} (hd : decode (xmb m) pc = .ok (.lmul, 1)) (k : Gx l E m R (pc + 1) M L (.long (x * y) :: st)) : Gx l E m R pc M L (.long y :: .long x :: st) := by
  intro p e s mi args below meth c H locs ls C hP hD hS hL
  exact lv_lmul C.1 C.2.1 hd (k p e s mi args below meth c H locs ls C hP hD hS hL)
theorem Gx_ldiv {x y : Int64} (hd : decode (xmb m) pc = .ok (.ldiv, 1)) (hne : ¬ y = 0) (k : Gx l E m R (pc + 1) M L (.long (x / y) :: st)) : Gx l E m R pc M L (.long y :: .long x :: st) := by
  intro p e s mi args below meth c H locs ls C hP hD hS hL
  exact lv_ldiv C.1 C.2.1 hd hne (k p e s mi args below meth c H locs ls C hP hD hS hL)
theorem Gx_lrem {x y : Int64} (hd : decode (xmb m) pc = .ok (.lrem, 1)) (hne : ¬ y = 0) (k : Gx l E m R (pc + 1) M L (.long (x - x / y * y) :: st)) : Gx l E m R pc M L (.long y :: .long x :: st) := by
  intro p e s mi args below meth c H locs ls C hP hD hS hL
  exact lv_lrem C.1 C.2.1 hd hne (k p e s mi args below meth c H locs ls C hP hD hS hL)
theorem Gx_lcmp {x y : Int64} (hd : decode (xmb m) pc = .ok (.lcmp, 1)) (k : Gx l E m R (pc + 1) M L (.int (lg_cmp x y) :: st)) : Gx l E m R pc M L (.long y :: .long x :: st) := by
  intro p e s mi args below meth c H locs ls C hP hD hS hL
  exact W.lcmp C.1 C.2.1 hd (k p e s mi args below meth c H locs ls C hP hD hS hL)
theorem Gx_i2l {x : Int32} (hd : decode (xmb m) pc = .ok (.i2l, 1)) (k : Gx l E m R (pc + 1) M L (.long x.toInt64 :: st)) : Gx l E m R pc M L (.int x :: st) := by
  intro p e s mi args below meth c H locs ls C hP hD hS hL
  exact lv_i2l C.1 C.2.1 hd rfl (k p e s mi args below meth c H locs ls C hP hD hS hL)
theorem Gx_i2b {x : Int32} (hd : decode (xmb m) pc = .ok (.i2b, 1)) (k : Gx l E m R (pc + 1) M L (.int x.toInt8.toInt32 :: st)) : Gx l E m R pc M L (.int x :: st) := by
  intro p e s mi args below meth c H locs ls C hP hD hS hL
  exact lv_i2b C.1 C.2.1 hd rfl (k p e s mi args below meth c H locs ls C hP hD hS hL)
theorem Gx_i2c {x : Int32} (hd : decode (xmb m) pc = .ok (.i2c, 1)) (k : Gx l E m R (pc + 1) M L (.int (x.toUInt32 % 65536).toInt32 :: st)) : Gx l E m R pc M L (.int x :: st) := by
  intro p e s mi args below meth c H locs ls C hP hD hS hL
  exact lv_i2c C.1 C.2.1 hd rfl (k p e s mi args below meth c H locs ls C hP hD hS hL)
theorem Gx_iconst {n : Int} {v : Int32} (hd : decode (xmb m) pc = .ok (.iconst n, 1)) (hv : Int32.ofInt n = v) (k : Gx l E m R (pc + 1) M L (.int v :: st)) : Gx l E m R pc M L (st) := by
  intro p e s mi args below meth c H locs ls C hP hD hS hL
  exact lv_iconst C.1 C.2.1 hd hv (k p e s mi args below meth c H locs ls C hP hD hS hL)
theorem Gx_bipush {n : Int} {v : Int32} (hd : decode (xmb m) pc = .ok (.bipush n, 2)) (hv : (Int8.ofInt n).toInt32 = v) (k : Gx l E m R (pc + 2) M L (.int v :: st)) : Gx l E m R pc M L (st) := by
  intro p e s mi args below meth c H locs ls C hP hD hS hL
  exact lv_bipush C.1 C.2.1 hd hv (k p e s mi args below meth c H locs ls C hP hD hS hL)
theorem Gx_sipush {n : Int} {v : Int32} (hd : decode (xmb m) pc = .ok (.sipush n, 3)) (hv : (Int16.ofInt n).toInt32 = v) (k : Gx l E m R (pc + 3) M L (.int v :: st)) : Gx l E m R pc M L (st) := by
  intro p e s mi args below meth c H locs ls C hP hD hS hL
  exact lv_sipush C.1 C.2.1 hd hv (k p e s mi args below meth c H locs ls C hP hD hS hL)
theorem Gx_lconst {n : Fin 2} {v : Int64} (hd : decode (xmb m) pc = .ok (.lconst n, 1)) (hv : Int64.ofNat (n : Nat) = v) (k : Gx l E m R (pc + 1) M L (.long v :: st)) : Gx l E m R pc M L (st) := by
  intro p e s mi args below meth c H locs ls C hP hD hS hL
  exact lv_lconst C.1 C.2.1 hd hv (k p e s mi args below meth c H locs ls C hP hD hS hL)
theorem Gx_dup {v : Value} (hc : v.category = 1) (hd : decode (xmb m) pc = .ok (.dup, 1)) (k : Gx l E m R (pc + 1) M L (v :: v :: st)) : Gx l E m R pc M L (v :: st) := by
  intro p e s mi args below meth c H locs ls C hP hD hS hL
  exact lv_dup C.1 C.2.1 hd (by rw [xv_cat C.2.2.2.2.2.2.2.1.2.1.2.2.2.2.2.2.1]; exact hc) (k p e s mi args below meth c H locs ls C hP hD hS hL)
theorem Gx_pop {v : Value} (hc : v.category = 1) (hd : decode (xmb m) pc = .ok (.pop, 1)) (k : Gx l E m R (pc + 1) M L st) : Gx l E m R pc M L (v :: st) := by
  intro p e s mi args below meth c H locs ls C hP hD hS hL
  exact lv_pop C.1 C.2.1 hd (by rw [xv_cat C.2.2.2.2.2.2.2.1.2.1.2.2.2.2.2.2.1]; exact hc) (k p e s mi args below meth c H locs ls C hP hD hS hL)
theorem Gx_dup2 {v w : Value} (hc : v.category = 1) (hc2 : w.category = 1) (hd : decode (xmb m) pc = .ok (.dup2, 1)) (k : Gx l E m R (pc + 1) M L (v :: w :: v :: w :: st)) : Gx l E m R pc M L (v :: w :: st) := by
  intro p e s mi args below meth c H locs ls C hP hD hS hL
  exact lv_dup2_11 C.1 C.2.1 hd (by rw [xv_cat C.2.2.2.2.2.2.2.1.2.1.2.2.2.2.2.2.1]; exact hc) (by rw [xv_cat C.2.2.2.2.2.2.2.1.2.1.2.2.2.2.2.2.1]; exact hc2) (k p e s mi args below meth c H locs ls C hP hD hS hL)
theorem Gx_iload {i : Nat} {x : Int32} (hd : decode (xmb m) pc = .ok (.iload i, 2)) (hl : L[i]? = some (some (.int x))) (k : Gx l E m R (pc + 2) M L (.int x :: st)) : Gx l E m R pc M L st := by
  intro p e s mi args below meth c H locs ls C hP hD hS hL
  exact lv_iload C.1 C.2.1 hd (hL.2.2.2 i _ hl) (k p e s mi args below meth c H locs ls C hP hD hS hL)
theorem Gx_iload_n {i : Fin 4} {x : Int32} (hd : decode (xmb m) pc = .ok (.iload_n i, 1)) (hl : L[(i : Nat)]? = some (some (.int x))) (k : Gx l E m R (pc + 1) M L (.int x :: st)) : Gx l E m R pc M L st := by
  intro p e s mi args below meth c H locs ls C hP hD hS hL
  exact lv_iload_n C.1 C.2.1 hd rfl (hL.2.2.2 i _ hl) (k p e s mi args below meth c H locs ls C hP hD hS hL)
theorem Gx_lload {i : Nat} {x : Int64} (hd : decode (xmb m) pc = .ok (.lload i, 2)) (hl : L[i]? = some (some (.long x))) (k : Gx l E m R (pc + 2) M L (.long x :: st)) : Gx l E m R pc M L st := by
  intro p e s mi args below meth c H locs ls C hP hD hS hL
  exact lv_lload C.1 C.2.1 hd (hL.2.2.2 i _ hl) (k p e s mi args below meth c H locs ls C hP hD hS hL)
theorem Gx_lload_n {i : Fin 4} {x : Int64} (hd : decode (xmb m) pc = .ok (.lload_n i, 1)) (hl : L[(i : Nat)]? = some (some (.long x))) (k : Gx l E m R (pc + 1) M L (.long x :: st)) : Gx l E m R pc M L st := by
  intro p e s mi args below meth c H locs ls C hP hD hS hL
  exact lv_lload_n C.1 C.2.1 hd rfl (hL.2.2.2 i _ hl) (k p e s mi args below meth c H locs ls C hP hD hS hL)
theorem lv_nload {p : Program} {l : Launch} {e : Env} {R : Room} {s : State} {m : MethodId} {args : Array Value} {below : List Frame} {meth : Method} {c : Code} {H : Heap} {locs : List Loc} {cells slots : Nat} {Q : State → Prop} {cc : ByteArray} {pc : Nat} {ls : Array Slot} {rest : List Value} (hexec : p.tables.exec = Jvm.exec) (hb : c.code = cc) {k : Fin 4} (hdg : decode cc pc = .ok (.aload_n k, 1)) (hl : ls[(k : Nat)]? = some (.val .null)) (kk : W p l e R s m args below meth c H locs cells slots Q (F0 m (pc + 1) ls (.null :: rest))) : W p l e R s m args below meth c H locs cells slots Q (F0 m pc ls rest) := by
  intro T hT X
  obtain ⟨t, a, b⟩ := kk T hT X
  refine ⟨t, ?_, b⟩
  jvm_step X.here [X.here.top, hexec, hb, hdg, hl]
  exact ⟨rfl, a⟩
theorem Gx_aload_n {i : Fin 4} {x : Nat} (hd : decode (xmb m) pc = .ok (.aload_n i, 1)) (hl : L[(i : Nat)]? = some (some (.ref x))) (k : Gx l E m R (pc + 1) M L (.ref x :: st)) : Gx l E m R pc M L st := by
  intro p e s mi args below meth c H locs ls C hP hD hS hL
  have h1 := hL.2.2.2 i _ hl
  have h2 := k p e s mi args below meth c H locs ls C hP hD hS hL
  rw [List.map_cons] at h2
  by_cases hx : x = 103
  · subst hx
    have e1 : xv E (.ref 103) = xeS E := rfl
    rw [e1] at h1 h2
    rcases C.2.2.2.2.2.2.2.1.2.1.2.2.2.2.2.2.1 with h | ⟨t, h⟩
    · rw [h] at h1 h2
      exact lv_nload C.1 C.2.1 hd h1 h2
    · rw [h] at h1 h2
      exact lv_aload_n C.1 C.2.1 hd rfl h1 h2
  · rw [xv_ref hx] at h1 h2
    exact lv_aload_n C.1 C.2.1 hd rfl h1 h2
/-- a value of one word may be laid at place i -/
def xfree (L : List (Option Value)) (i : Nat) : Bool := decide (i < L.length) && (match i with | 0 => true | j + 1 => match L.getD j none with | some (.long _) => false | some (.double _) => false | _ => true)
theorem xfree_prev {L : List (Option Value)} {i j : Nat} {w : Value} (h : xfree L i = true) (hj : L[j]? = some (some w)) (hji : j + 1 = i) : ¬ w.category = 2 := by
  subst hji
  unfold xfree at h
  simp only [Bool.and_eq_true] at h
  have h2 := h.2
  rw [List.getD_eq_getElem?_getD, hj] at h2
  intro hc
  cases w <;> simp_all [Value.category]
def xpairs (E : xE) (L : List (Option Value)) : List (Nat × Value) := L.zipIdx.filterMap (fun q => q.1.map (fun v => (q.2, xv E v)))
theorem xpairs_in {E : xE} {L : List (Option Value)} {q : Nat × Value} : q ∈ xpairs E L ↔ ∃ v, L[q.1]? = some (some v) ∧ q.2 = xv E v := by
  unfold xpairs
  simp only [List.mem_filterMap, Option.map_eq_some_iff]
  constructor
  · rintro ⟨⟨o, i⟩, h1, v, h2, rfl⟩
    have := List.mem_zipIdx_iff_getElem?.mp h1
    simp only at this h2
    exact ⟨v, by rw [this, h2], rfl⟩
  · rintro ⟨v, h1, h2⟩
    exact ⟨(some v, q.1), List.mem_zipIdx_iff_getElem?.mpr (by simpa using h1), v, rfl, by rw [← h2]⟩
theorem xL_has {E : xE} {nL : Nat} {ls : Array Slot} {L : List (Option Value)} (h : xL E nL ls L) : lv_has ls nL (xpairs E L) := by
  refine ⟨h.2.1, h.2.2.1, fun q hq => ?_⟩
  obtain ⟨v, h1, h2⟩ := xpairs_in.mp hq
  rw [h2]
  exact h.2.2.2 _ _ h1
theorem xL_put1 {E : xE} {nL i : Nat} {ls ls' : Array Slot} {L : List (Option Value)} {v : Value} (hL : xL E nL ls L) (hS : xeS E = .null ∨ ∃ t, xeS E = .ref t) (hf : xfree L i = true) (h : lv_has ls' nL ((i, xv E v) :: (xpairs E L).filter (fun q => !(q.1 == i) && !(q.1 + 1 == i && q.2.category == 2)))) : xL E nL ls' (L.set i (some v)) := by
  refine ⟨by rw [List.length_set]; exact hL.1, h.1, h.2.1, fun j w hj => ?_⟩
  rw [List.getElem?_set] at hj
  by_cases hji : i = j
  · subst hji
    rw [if_pos rfl] at hj
    split at hj
    · simp only [Option.some.injEq] at hj
      subst hj
      exact h.2.2 _ List.mem_cons_self
    · cases hj
  · rw [if_neg hji] at hj
    refine h.2.2 (j, xv E w) (List.mem_cons_of_mem _ (List.mem_filter.mpr ⟨xpairs_in.mpr ⟨w, hj, rfl⟩, ?_⟩))
    have h2 : ¬ (j + 1 = i ∧ (xv E w).category = 2) := fun z => xfree_prev hf hj z.1 (by rw [← xv_cat hS]; exact z.2)
    have h3 : ¬ j = i := fun z => hji z.symm
    simp only [Bool.and_eq_true, Bool.not_eq_true', beq_eq_false_iff_ne, ne_eq, Bool.and_eq_false_iff]
    refine ⟨h3, ?_⟩
    by_cases h4 : j + 1 = i
    · exact Or.inr (fun z => h2 ⟨h4, z⟩)
    · exact Or.inl h4
theorem xL_put2 {E : xE} {nL i : Nat} {ls ls' : Array Slot} {L : List (Option Value)} {v : Value} (hL : xL E nL ls L) (hS : xeS E = .null ∨ ∃ t, xeS E = .ref t) (hf : xfree L i = true) (h : lv_has ls' nL ((i, xv E v) :: (xpairs E L).filter (fun q => !(q.1 == i) && (!(q.1 == i + 1) && !(q.1 + 1 == i && q.2.category == 2))))) : xL E nL ls' ((L.set i (some v)).set (i + 1) none) := by
  refine ⟨by rw [List.length_set, List.length_set]; exact hL.1, h.1, h.2.1, fun j w hj => ?_⟩
  rw [List.getElem?_set] at hj
  by_cases hj1 : i + 1 = j
  · rw [if_pos hj1] at hj
    split at hj <;> cases hj
  · rw [if_neg hj1, List.getElem?_set] at hj
    by_cases hji : i = j
    · subst hji
      rw [if_pos rfl] at hj
      split at hj
      · simp only [Option.some.injEq] at hj
        subst hj
        exact h.2.2 _ List.mem_cons_self
      · cases hj
    · rw [if_neg hji] at hj
      refine h.2.2 (j, xv E w) (List.mem_cons_of_mem _ (List.mem_filter.mpr ⟨xpairs_in.mpr ⟨w, hj, rfl⟩, ?_⟩))
      have h2 : ¬ (j + 1 = i ∧ (xv E w).category = 2) := fun z => xfree_prev hf hj z.1 (by rw [← xv_cat hS]; exact z.2)
      have h3 : ¬ j = i := fun z => hji z.symm
      have h5 : ¬ j = i + 1 := fun z => hj1 z.symm
      simp only [Bool.and_eq_true, Bool.not_eq_true', beq_eq_false_iff_ne, ne_eq, Bool.and_eq_false_iff]
      refine ⟨h3, h5, ?_⟩
      by_cases h4 : j + 1 = i
      · exact Or.inr (fun z => h2 ⟨h4, z⟩)
      · exact Or.inl h4
theorem xfree_lt {L : List (Option Value)} {i : Nat} (h : xfree L i = true) : i < L.length := by
  unfold xfree at h
  simp only [Bool.and_eq_true, decide_eq_true_eq] at h
  exact h.1
theorem Gx_istore {i : Nat} {x : Int32} (hd : decode (xmb m) pc = .ok (.istore i, 2)) (hf : xfree L i = true) (k : Gx l E m R (pc + 2) M (L.set i (some (.int x))) st) : Gx l E m R pc M L (.int x :: st) := by
  intro p e s mi args below meth c H locs ls C hP hD hS hL
  exact lv_istore C.1 C.2.1 hd (xL_has hL) (by rw [← hL.1]; exact xfree_lt hf) rfl (fun ls' hl' => k p e s mi args below meth c H locs ls' C hP hD hS (xL_put1 (v := .int x) hL C.2.2.2.2.2.2.2.1.2.1.2.2.2.2.2.2.1 hf hl'))
theorem Gx_istore_n {i : Fin 4} {x : Int32} (hd : decode (xmb m) pc = .ok (.istore_n i, 1)) (hf : xfree L (i : Nat) = true) (k : Gx l E m R (pc + 1) M (L.set (i : Nat) (some (.int x))) st) : Gx l E m R pc M L (.int x :: st) := by
  intro p e s mi args below meth c H locs ls C hP hD hS hL
  exact lv_istore_n C.1 C.2.1 hd rfl (xL_has hL) (by rw [← hL.1]; exact xfree_lt hf) rfl (fun ls' hl' => k p e s mi args below meth c H locs ls' C hP hD hS (xL_put1 (v := .int x) hL C.2.2.2.2.2.2.2.1.2.1.2.2.2.2.2.2.1 hf hl'))
theorem Gx_lstore {i : Nat} {x : Int64} (hd : decode (xmb m) pc = .ok (.lstore i, 2)) (hf : xfree L i = true) (h2 : i + 1 < L.length) (k : Gx l E m R (pc + 2) M ((L.set i (some (.long x))).set (i + 1) none) st) : Gx l E m R pc M L (.long x :: st) := by
  intro p e s mi args below meth c H locs ls C hP hD hS hL
  exact lv_lstore C.1 C.2.1 hd (xL_has hL) (by rw [← hL.1]; exact h2) rfl (fun ls' hl' => k p e s mi args below meth c H locs ls' C hP hD hS (xL_put2 (v := .long x) hL C.2.2.2.2.2.2.2.1.2.1.2.2.2.2.2.2.1 hf hl'))
theorem Gx_lstore_n {i : Fin 4} {x : Int64} (hd : decode (xmb m) pc = .ok (.lstore_n i, 1)) (hf : xfree L (i : Nat) = true) (h2 : (i : Nat) + 1 < L.length) (k : Gx l E m R (pc + 1) M ((L.set (i : Nat) (some (.long x))).set ((i : Nat) + 1) none) st) : Gx l E m R pc M L (.long x :: st) := by
  intro p e s mi args below meth c H locs ls C hP hD hS hL
  exact lv_lstore_n C.1 C.2.1 hd rfl (xL_has hL) (by rw [← hL.1]; exact h2) rfl (fun ls' hl' => k p e s mi args below meth c H locs ls' C hP hD hS (xL_put2 (v := .long x) hL C.2.2.2.2.2.2.2.1.2.1.2.2.2.2.2.2.1 hf hl'))
theorem Gx_astore_n {i : Fin 4} {x : Nat} (hx : x ≠ 103) (hd : decode (xmb m) pc = .ok (.astore_n i, 1)) (hf : xfree L (i : Nat) = true) (k : Gx l E m R (pc + 1) M (L.set (i : Nat) (some (.ref x))) st) : Gx l E m R pc M L (.ref x :: st) := by
  intro p e s mi args below meth c H locs ls C hP hD hS hL
  rw [List.map_cons, xv_ref hx]
  exact lv_astore_n C.1 C.2.1 hd rfl (xL_has hL) (by rw [← hL.1]; exact xfree_lt hf) rfl (fun ls' hl' => k p e s mi args below meth c H locs ls' C hP hD hS (xL_put1 (v := .ref x) hL C.2.2.2.2.2.2.2.1.2.1.2.2.2.2.2.2.1 hf (by rw [xv_ref hx]; exact hl')))
theorem Gx_iinc {i : Nat} {n : Int} {x v : Int32} (hd : decode (xmb m) pc = .ok (.iinc i n, 3)) (hv : Int32.ofInt n = v) (hl : L[i]? = some (some (.int x))) (hf : xfree L i = true) (k : Gx l E m R (pc + 3) M (L.set i (some (.int (x + v)))) st) : Gx l E m R pc M L st := by
  intro p e s mi args below meth c H locs ls C hP hD hS hL
  have hm : (i, xv E (.int x)) ∈ xpairs E L := xpairs_in.mpr ⟨.int x, hl, rfl⟩
  obtain ⟨kx, hk⟩ := List.getElem?_of_mem hm
  exact lv_iinc (k := kx) (v := x + v) C.1 C.2.1 hd (xL_has hL) hk (by rw [hv]) (by rw [← hL.1]; exact xfree_lt hf) rfl (fun ls' hl' => k p e s mi args below meth c H locs ls' C hP hD hS (xL_put1 (v := .int (x + v)) hL C.2.2.2.2.2.2.2.1.2.1.2.2.2.2.2.2.1 hf hl'))
end XI
end
section
/-! the tables' words, by their places: fields, statics, constants -/
/-- field links: the class that links, its number there, the field's class and slot; the word's place -/
def xftI : List (Nat × Nat × Nat × Nat × Nat) := [(2, 9, 2, 0, 103), (3, 88, 2, 0, 104), (0, 72, 2, 0, 105), (2, 15, 2, 1, 106), (3, 91, 2, 1, 107), (0, 155, 2, 1, 108), (2, 18, 2, 2, 109), (3, 94, 2, 2, 110), (0, 148, 2, 2, 111), (2, 21, 2, 3, 112), (3, 109, 2, 3, 113), (0, 79, 2, 3, 114), (2, 24, 2, 4, 115), (3, 112, 2, 4, 116), (0, 99, 2, 4, 117), (2, 27, 2, 5, 118), (0, 96, 2, 5, 119), (3, 115, 2, 5, 120), (2, 30, 2, 6, 121), (3, 118, 2, 6, 122), (0, 161, 2, 6, 123), (2, 34, 2, 7, 124), (3, 97, 2, 7, 125), (0, 167, 2, 7, 126), (0, 12, 0, 0, 153), (3, 137, 0, 0, 154), (0, 18, 0, 1, 155), (3, 150, 0, 1, 156), (0, 22, 0, 2, 157), (3, 153, 0, 2, 158), (0, 25, 0, 3, 159), (3, 156, 0, 3, 160), (0, 28, 0, 4, 161), (3, 144, 0, 4, 162), (0, 32, 0, 5, 163), (0, 35, 0, 6, 164), (1, 9, 1, 0, 186), (1, 15, 1, 1, 187), (3, 67, 1, 1, 188), (3, 10, 3, 0, 194), (3, 16, 3, 1, 195), (3, 19, 3, 2, 196), (3, 22, 3, 3, 197), (3, 26, 3, 4, 198), (3, 33, 3, 5, 199), (3, 37, 3, 6, 200), (3, 43, 3, 7, 201), (3, 47, 3, 8, 202), (3, 51, 3, 9, 203), (3, 54, 3, 10, 204), (3, 57, 3, 11, 205), (3, 60, 3, 12, 206), (4, 7, 4, 1, 805), (4, 13, 4, 2, 806), (4, 16, 4, 3, 807), (4, 256, 4, 4, 808), (4, 19, 4, 5, 809), (4, 22, 4, 6, 810), (4, 58, 4, 7, 811), (4, 61, 4, 8, 812), (4, 68, 4, 9, 813), (4, 87, 4, 10, 814), (4, 25, 4, 11, 815), (4, 28, 4, 12, 816), (4, 31, 4, 13, 817), (4, 133, 4, 14, 818), (4, 34, 4, 15, 819), (4, 237, 4, 16, 820), (4, 244, 4, 17, 821), (5, 15, 9, 1, 1234), (5, 9, 9, 0, 1235)]
def xgtI : List (Nat × Nat × Nat × Nat) := [(5, 38, 2, 279), (5, 1053, 3, 322), (3, 100, 0, 572), (3, 103, 1, 573)]
def xctI : List (Nat × Nat × Int32 × Nat) := [(7, 227, 65536, 309), (9, 264, 65536, 478), (3, 132, 118800, 626), (9, 265, 1431655765, 667), (9, 266, 858993459, 668), (9, 267, 252645135, 669), (3, 245, 1664525, 783), (3, 246, 1013904223, 784), (3, 247, 2147483647, 785), (4, 247, 1664525, 1215), (4, 248, 1013904223, 1216), (4, 249, 2147483647, 1217)]
def xft : List (Nat × Nat × Nat × Nat) := xftI.map (fun q => (q.1, q.2.1, q.2.2.1, q.2.2.2.1))
def xgt : List (Nat × Nat × Nat) := xgtI.map (fun q => (q.1, q.2.1, q.2.2.1))
def xct : List (Nat × Nat × Int32) := xctI.map (fun q => (q.1, q.2.1, q.2.2.1))
def xfd (a b : Nat) : String × String × String := if a = 9 then ("java/lang/String", if b = 0 then ("value", "[B") else ("coder", "B")) else match vwCl[a]? with | some r => ((r.2.1 b).1, (r.2.1 b).2.1, (r.2.1 b).2.2.1) | none => ("", "", "")
def xgd (a : Nat) : String × String × String := ([(RX3, "HOLDS", "[I"), (RX3, "LISTS", "[I"), (RJ0, "COMPACT_STRINGS", "Z"), (RJ3, "SIOOBE_FORMATTER", "Ljava/util/function/BiFunction;")] : List (String × String × String)).getD a ("", "", "")
theorem x_all {α : Type} {l : List α} {p : α → Bool} (h : l.all p = true) {a : α} (ha : a ∈ l) : p a = true := List.all_eq_true.mp h a ha
set_option maxRecDepth 100000 in
theorem xft_ok : ∀ q ∈ xft, Cond.fieldLink (xown q.1) q.2.1 (xfd q.2.2.1 q.2.2.2).1 (xfd q.2.2.1 q.2.2.2).2.1 (xfd q.2.2.1 q.2.2.2).2.2 ∈ xTbl := by
  intro q hq
  obtain ⟨z, hz, rfl⟩ := List.mem_map.mp hq
  have h : xftI.all (fun q => decide (lw_tbl[q.2.2.2.2]? = some (Cond.fieldLink (xown q.1) q.2.1 (xfd q.2.2.1 q.2.2.2.1).1 (xfd q.2.2.1 q.2.2.2.1).2.1 (xfd q.2.2.1 q.2.2.2.1).2.2))) = true := by decide +kernel
  exact xTbl_in _ (of_decide_eq_true (x_all h hz)) rfl
set_option maxRecDepth 100000 in
theorem xgt_ok : ∀ q ∈ xgt, Cond.fieldLink (xown q.1) q.2.1 (xgd q.2.2).1 (xgd q.2.2).2.1 (xgd q.2.2).2.2 ∈ xTbl := by
  intro q hq
  obtain ⟨z, hz, rfl⟩ := List.mem_map.mp hq
  have h : xgtI.all (fun q => decide (lw_tbl[q.2.2.2]? = some (Cond.fieldLink (xown q.1) q.2.1 (xgd q.2.2.1).1 (xgd q.2.2.1).2.1 (xgd q.2.2.1).2.2))) = true := by decide +kernel
  exact xTbl_in _ (of_decide_eq_true (x_all h hz)) rfl
set_option maxRecDepth 100000 in
theorem xct_ok : ∀ q ∈ xct, Cond.constant (xown q.1) q.2.1 q.2.2 ∈ xTbl := by
  intro q hq
  obtain ⟨z, hz, rfl⟩ := List.mem_map.mp hq
  have h : xctI.all (fun q => decide (lw_tbl[q.2.2.2]? = some (Cond.constant (xown q.1) q.2.1 q.2.2.1))) = true := by decide +kernel
  exact xTbl_in _ (of_decide_eq_true (x_all h hz)) rfl
theorem xlc_3 : Cond.constantLong (xown 3) 201 4000000000000000000 ∈ xTbl := xTbl_in 733 (by decide +kernel) rfl
theorem xlc_4 : Cond.constantLong (xown 4) 41 4000000000000000000 ∈ xTbl := xTbl_in 1171 (by decide +kernel) rfl
theorem xly_0 : ∀ w ∈ u_ws RX0 TX0 7, w ∈ xTbl := by
  intro w hw
  have e : u_ws RX0 TX0 7 = ([165, 167, 169, 171, 173, 175, 177] : List Nat).filterMap (fun i => lw_tbl[i]?) := by decide +kernel
  have g : (u_ws RX0 TX0 7).all goodWord = true := by decide +kernel
  have g1 := x_all g hw
  rw [e] at hw
  obtain ⟨i, -, hi⟩ := List.mem_filterMap.mp hw
  exact xTbl_in i hi g1
theorem xly_1 : ∀ w ∈ u_ws RX1 TX1 2, w ∈ xTbl := by
  intro w hw
  have e : u_ws RX1 TX1 2 = ([189, 191] : List Nat).filterMap (fun i => lw_tbl[i]?) := by decide +kernel
  have g : (u_ws RX1 TX1 2).all goodWord = true := by decide +kernel
  have g1 := x_all g hw
  rw [e] at hw
  obtain ⟨i, -, hi⟩ := List.mem_filterMap.mp hw
  exact xTbl_in i hi g1
theorem xly_2 : ∀ w ∈ u_ws RX2 TX2 8, w ∈ xTbl := by
  intro w hw
  have e : u_ws RX2 TX2 8 = ([127, 129, 131, 133, 135, 137, 139, 141] : List Nat).filterMap (fun i => lw_tbl[i]?) := by decide +kernel
  have g : (u_ws RX2 TX2 8).all goodWord = true := by decide +kernel
  have g1 := x_all g hw
  rw [e] at hw
  obtain ⟨i, -, hi⟩ := List.mem_filterMap.mp hw
  exact xTbl_in i hi g1
theorem xly_3 : ∀ w ∈ u_ws RX3 TX3 13, w ∈ xTbl := by
  intro w hw
  have e : u_ws RX3 TX3 13 = ([207, 209, 211, 213, 215, 217, 219, 221, 223, 225, 227, 229, 231] : List Nat).filterMap (fun i => lw_tbl[i]?) := by decide +kernel
  have g : (u_ws RX3 TX3 13).all goodWord = true := by decide +kernel
  have g1 := x_all g hw
  rw [e] at hw
  obtain ⟨i, -, hi⟩ := List.mem_filterMap.mp hw
  exact xTbl_in i hi g1
theorem xly_4 : ∀ w ∈ u_ws RX4 TX4 18, w ∈ xTbl := by
  intro w hw
  have e : u_ws RX4 TX4 18 = ([822, 824, 826, 828, 830, 832, 834, 836, 838, 840, 842, 844, 846, 848, 850, 852, 854, 856] : List Nat).filterMap (fun i => lw_tbl[i]?) := by decide +kernel
  have g : (u_ws RX4 TX4 18).all goodWord = true := by decide +kernel
  have g1 := x_all g hw
  rw [e] at hw
  obtain ⟨i, -, hi⟩ := List.mem_filterMap.mp hw
  exact xTbl_in i hi g1
end
section
/-! memory steps; xs: a straight stretch at once -/
section XM
variable {l : Launch} {E : xE} {m : xMt} {R : Option Value → xM → Prop} {pc : Nat} {M : xM} {L : List (Option Value)} {st : List Value}
theorem xvw {ci : Nat} (h : ci < 5) : ∃ n, vwCl[ci]? = some ((vwCl.getD ci ("", fun _ => ("", "", "", false), 0)).1, (vwCl.getD ci ("", fun _ => ("", "", "", false), 0)).2.1, n) ∧ n = xnf ci ∧ ∀ w ∈ u_ws (vwCl.getD ci ("", fun _ => ("", "", "", false), 0)).1 (vwCl.getD ci ("", fun _ => ("", "", "", false), 0)).2.1 n, w ∈ xTbl := by
  match ci, h with
  | 0, _ => exact ⟨7, rfl, rfl, xly_0⟩
  | 1, _ => exact ⟨2, rfl, rfl, xly_1⟩
  | 2, _ => exact ⟨8, rfl, rfl, xly_2⟩
  | 3, _ => exact ⟨13, rfl, rfl, xly_3⟩
  | 4, _ => exact ⟨18, rfl, rfl, xly_4⟩
theorem xfd_eq {a b : Nat} (h : a < 5) : xfd a b = (((vwCl.getD a ("", fun _ => ("", "", "", false), 0)).2.1 b).1, ((vwCl.getD a ("", fun _ => ("", "", "", false), 0)).2.1 b).2.1, ((vwCl.getD a ("", fun _ => ("", "", "", false), 0)).2.1 b).2.2.1) := by
  match a, h with
  | 0, _ => rfl
  | 1, _ => rfl
  | 2, _ => rfl
  | 3, _ => rfl
  | 4, _ => rfl
theorem x_get {idx a b p : Nat} {v : Value} (hd : decode (xmb m) pc = .ok (.getfield idx, 3)) (hl : (xmo m, idx, a, b) ∈ xft) (ha : a < 5) (hb : b < xnf a) (hk : xkd p = a) (hv : ∀ E : xE, xv E v = xfv E M p a b) (k : Gx l E m R (pc + 3) M L (v :: st)) : Gx l E m R pc M L (.ref p :: st) := by
  intro pr e s mi args below meth c H locs ls C hP hD hS hL
  have hp : p < 60 := xkd_lt (by omega)
  have h1 := xws_get E M hp
  rw [xcell_obj E M hk (by omega)] at h1
  obtain ⟨n, hc, hn, hin⟩ := xvw ha
  have hw := xft_ok _ hl
  simp only [xfd_eq ha] at hw
  have k1 := k pr e s mi args below meth c H locs ls C hP hD hS hL
  rw [List.map_cons, hv E] at k1
  rw [List.map_cons, xv_ref (show p ≠ 103 by omega)]
  exact va_get C.1 C.2.1 C.2.2.2.2.2.2.1 hin C.2.2.2.2.2.1 C.2.2.2.2.2.2.2.1.1 hP p h1 hc b (by omega) (C.2.2.2.2.2.2.1 _ hw) (fun x h => h) (xfs_get E M p a hb) hd k1
theorem Gx_getI {idx a b p : Nat} (hd : decode (xmb m) pc = .ok (.getfield idx, 3)) (hl : (xmo m, idx, a, b) ∈ xft) (ha : a < 5) (hb : b < xnf a) (hk : xkd p = a) (hf : xfo a b = none) (k : Gx l E m R (pc + 3) M L (.int (M p b) :: st)) : Gx l E m R pc M L (.ref p :: st) :=
  x_get hd hl ha hb hk (fun E => by unfold xfv; rw [hf]; rfl) k
theorem xfo_in : ∀ p, p < 60 → xkd p < 5 → ∀ k, k < 18 → ∀ o, xfo (xkd p) k = some o → p + o < 60 := by decide +kernel
theorem Gx_getR {idx a b p o : Nat} (hd : decode (xmb m) pc = .ok (.getfield idx, 3)) (hl : (xmo m, idx, a, b) ∈ xft) (ha : a < 5) (hb : b < xnf a) (hk : xkd p = a) (hf : xfo a b = some o) (k : Gx l E m R (pc + 3) M L (.ref (p + o) :: st)) : Gx l E m R pc M L (.ref p :: st) := by
  have hp : p < 60 := xkd_lt (by omega)
  have hb18 : b < 18 := by
    have : ∀ a, a < 5 → xnf a ≤ 18 := by decide
    have := this a ha
    omega
  have h60 := xfo_in p hp (by omega) b hb18 o (by rw [hk]; exact hf)
  exact x_get hd hl ha hb hk (fun E => by unfold xfv; rw [hf]; exact xv_ref (by omega)) k
/-- the fields of one bit -/
def xbit (a b : Nat) : Bool := (a == 3 && b == 3) || (a == 4 && (b == 4 || b == 9))
theorem x_put {idx a b p : Nat} {x : Int32} {ty : FieldType} (ty0 : Nat → FieldType) (hd : decode (xmb m) pc = .ok (.putfield idx, 3)) (hl : (xmo m, idx, a, b) ∈ xft) (ha : a < 5) (hb : b < xnf a) (hk : xkd p = a) (hf : xfo a b = none)
    (hty : ∀ k, k < xnf a → parseFieldDescriptor ((vwCl.getD a ("", fun _ => ("", "", "", false), 0)).2.1 k).2.2.1 = some (ty0 k)) (hnm : ∀ x, x < xnf a → ∀ y, y < xnf a → x ≠ y → ((vwCl.getD a ("", fun _ => ("", "", "", false), 0)).2.1 x).2.1 ≠ ((vwCl.getD a ("", fun _ => ("", "", "", false), 0)).2.1 y).2.1)
    (hfin : ((vwCl.getD a ("", fun _ => ("", "", "", false), 0)).2.1 b).2.2.2 = false) (hdt : ty0 b = ty) (hn : narrow ty (.int x) = .int x) (hfit : fits ty (.int x) = true) (k : Gx l E m R (pc + 3) (xup M p b x) L st) : Gx l E m R pc M L (.int x :: .ref p :: st) := by
  intro pr e s mi args below meth c H locs ls C hP hD hS hL
  have hp : p < 60 := xkd_lt (by omega)
  have h1 := xws_get E M hp
  rw [xcell_obj E M hk (by omega)] at h1
  obtain ⟨n, hc, hn0, hin⟩ := xvw ha
  subst hn0
  have hw := xft_ok _ hl
  simp only [xfd_eq ha] at hw
  rw [List.map_cons, List.map_cons, xv_int, xv_ref (show p ≠ 103 by omega)]
  refine va_put C.1 C.2.1 C.2.2.2.2.2.2.1 hin ty0 hty hnm C.2.2.2.2.2.1 C.2.2.2.2.2.2.2.1.1 hP hD hS p h1 hc b hb (C.2.2.2.2.2.2.1 _ hw) (fun x h => h) hfin (ty := ty) (by rw [← hdt]; exact hty b hb) hn hfit (by rw [xfs_len]; exact hb) hd (fun H1 locs1 hP1 hD1 hS1 => ?_)
  rw [xws_set E M (xup M p b x) hp (fun a ha => xup_ne M b x ha) (by rw [xcell_obj E _ hk (by omega), xfs_set E M p a x hf])] at hP1 hD1
  exact k pr e s mi args below meth c H1 locs1 ls C hP1 hD1 hS1 hL
theorem Gx_put {idx a b p : Nat} {x : Int32} (hd : decode (xmb m) pc = .ok (.putfield idx, 3)) (hl : (xmo m, idx, a, b) ∈ xft) (ha : a < 5) (hb : b < xnf a) (hk : xkd p = a) (hf : xfo a b = none) (hx : xbit a b = true → x = 0 ∨ x = 1) (k : Gx l E m R (pc + 3) (xup M p b x) L st) : Gx l E m R pc M L (.int x :: .ref p :: st) := by
  have key : ∀ b, b < xnf a → xfo a b = none → ((vwCl.getD a ("", fun _ => ("", "", "", false), 0)).2.1 b).2.2.2 = false ∧ ((xbit a b = true ∧ (([tyX0, tyX1, tyX2, tyX3, tyX4] : List (Nat → FieldType)).getD a tyX0) b = .boolean) ∨ (([tyX0, tyX1, tyX2, tyX3, tyX4] : List (Nat → FieldType)).getD a tyX0) b = .int) := by
    match a, ha with
    | 0, _ => decide +kernel
    | 1, _ => decide +kernel
    | 2, _ => decide +kernel
    | 3, _ => decide +kernel
    | 4, _ => decide +kernel
  obtain ⟨hfin, hty⟩ := key b hb hf
  have hp : (∀ k, k < xnf a → parseFieldDescriptor ((vwCl.getD a ("", fun _ => ("", "", "", false), 0)).2.1 k).2.2.1 = some ((([tyX0, tyX1, tyX2, tyX3, tyX4] : List (Nat → FieldType)).getD a tyX0) k)) ∧ (∀ x, x < xnf a → ∀ y, y < xnf a → x ≠ y → ((vwCl.getD a ("", fun _ => ("", "", "", false), 0)).2.1 x).2.1 ≠ ((vwCl.getD a ("", fun _ => ("", "", "", false), 0)).2.1 y).2.1) := by
    match a, ha with
    | 0, _ => exact ⟨tyX0_ok, nmX0⟩
    | 1, _ => exact ⟨tyX1_ok, nmX1⟩
    | 2, _ => exact ⟨tyX2_ok, nmX2⟩
    | 3, _ => exact ⟨tyX3_ok, nmX3⟩
    | 4, _ => exact ⟨tyX4_ok, nmX4⟩
  rcases hty with ⟨h1, h2⟩ | h2
  · exact x_put _ hd hl ha hb hk hf hp.1 hp.2 hfin h2 (by rcases hx h1 with rfl | rfl <;> rfl) (by rcases hx h1 with rfl | rfl <;> rfl) k
  · exact x_put _ hd hl ha hb hk hf hp.1 hp.2 hfin h2 rfl rfl k
theorem Gx_iald {p : Nat} {i : Int32} (hd : decode (xmb m) pc = .ok (.iaload, 1)) (hk : xkd p = 5) (hin : vp_in i (xln p)) (k : Gx l E m R (pc + 1) M L (.int (M p i.toNatClampNeg) :: st)) : Gx l E m R pc M L (.int i :: .ref p :: st) := by
  intro pr e s mi args below meth c H locs ls C hP hD hS hL
  have hp : p < 60 := xkd_lt (by omega)
  have h1 := xws_get E M hp
  rw [xcell_row E M hk] at h1
  rw [List.map_cons, List.map_cons, xv_int, xv_ref (show p ≠ 103 by omega)]
  exact va_iald C.1 C.2.1 C.2.2.2.2.2.2.2.1.1 hP p 0 h1 rfl hin hd (k pr e s mi args below meth c H locs ls C hP hD hS hL)
theorem Gx_iast {p : Nat} {i x : Int32} (hd : decode (xmb m) pc = .ok (.iastore, 1)) (hk : xkd p = 5) (hin : vp_in i (xln p)) (k : Gx l E m R (pc + 1) (xup M p i.toNatClampNeg x) L st) : Gx l E m R pc M L (.int x :: .int i :: .ref p :: st) := by
  intro pr e s mi args below meth c H locs ls C hP hD hS hL
  have hp : p < 60 := xkd_lt (by omega)
  have h1 := xws_get E M hp
  rw [xcell_row E M hk] at h1
  rw [List.map_cons, List.map_cons, List.map_cons, xv_int, xv_int, xv_ref (show p ≠ 103 by omega)]
  refine va_iast C.1 C.2.1 C.2.2.2.2.2.2.2.1.1 hP hD hS p 0 h1 rfl hin hd (fun H1 locs1 hP1 hD1 hS1 => ?_)
  rw [xws_set E M (xup M p i.toNatClampNeg x) hp (fun a ha => xup_ne M _ x ha) (by rw [xcell_row E _ hk, xup_at])] at hP1 hD1
  exact k pr e s mi args below meth c H1 locs1 ls C hP1 hD1 hS1 hL
theorem Gx_alen {p : Nat} (hd : decode (xmb m) pc = .ok (.arraylength, 1)) (hk : xkd p = 5) (k : Gx l E m R (pc + 1) M L (.int (nI (xln p)) :: st)) : Gx l E m R pc M L (.ref p :: st) := by
  intro pr e s mi args below meth c H locs ls C hP hD hS hL
  have hp : p < 60 := xkd_lt (by omega)
  have h1 := xws_get E M hp
  rw [xcell_row E M hk] at h1
  rw [List.map_cons, xv_ref (show p ≠ 103 by omega)]
  exact va_alen C.1 C.2.1 C.2.2.2.2.2.2.2.1.1 hP p 0 h1 rfl rfl hd (k pr e s mi args below meth c H locs ls C hP hD hS hL)
-- what is static
theorem Gx_holds {i : Int32} (hd : decode (xmb m) pc = .ok (.iaload, 1)) (hin : vp_in i 6) (k : Gx l E m R (pc + 1) M L (.int (xhold i.toNatClampNeg) :: st)) : Gx l E m R pc M L (.int i :: .ref 100 :: st) := by
  intro pr e s mi args below meth c H locs ls C hP hD hS hL
  rw [List.map_cons, List.map_cons, xv_int, xv_ref (show 100 ≠ 103 by omega)]
  exact va_ti C.1 C.2.1 C.2.2.2.2.2.2.2.1.2.1.2.1 hS hin rfl hd (k pr e s mi args below meth c H locs ls C hP hD hS hL)
theorem Gx_lists {i : Int32} (hd : decode (xmb m) pc = .ok (.iaload, 1)) (hin : vp_in i 6) (k : Gx l E m R (pc + 1) M L (.int (xlist i.toNatClampNeg) :: st)) : Gx l E m R pc M L (.int i :: .ref 101 :: st) := by
  intro pr e s mi args below meth c H locs ls C hP hD hS hL
  rw [List.map_cons, List.map_cons, xv_int, xv_ref (show 101 ≠ 103 by omega)]
  exact va_ti C.1 C.2.1 C.2.2.2.2.2.2.2.1.2.1.2.2.2.1 hS hin rfl hd (k pr e s mi args below meth c H locs ls C hP hD hS hL)
theorem Gx_bald {i : Int32} {j : Nat} (hd : decode (xmb m) pc = .ok (.baload, 1)) (hj : j < 9) (hin : vp_in i (xsl j)) (k : Gx l E m R (pc + 1) M L (.int (xsb j i.toNatClampNeg) :: st)) : Gx l E m R pc M L (.int i :: .ref (130 + j) :: st) := by
  intro pr e s mi args below meth c H locs ls C hP hD hS hL
  rw [List.map_cons, List.map_cons, xv_int, xv_ref (show 130 + j ≠ 103 by omega)]
  exact va_tb C.1 C.2.1 (C.2.2.2.2.2.2.2.1.2.1.2.2.2.2.2.2.2 j hj).2.2.2 hS hin rfl hd (k pr e s mi args below meth c H locs ls C hP hD hS hL)
theorem Gx_blen {j : Nat} (hd : decode (xmb m) pc = .ok (.arraylength, 1)) (hj : j < 9) (k : Gx l E m R (pc + 1) M L (.int (nI (xsl j)) :: st)) : Gx l E m R pc M L (.ref (130 + j) :: st) := by
  intro pr e s mi args below meth c H locs ls C hP hD hS hL
  rw [List.map_cons, xv_ref (show 130 + j ≠ 103 by omega)]
  exact va_tlen C.1 C.2.1 (C.2.2.2.2.2.2.2.1.2.1.2.2.2.2.2.2.2 j hj).2.2.2 hS rfl hd (k pr e s mi args below meth c H locs ls C hP hD hS hL)
theorem Gx_value {j idx : Nat} (hd : decode (xmb m) pc = .ok (.getfield idx, 3)) (hl : (xmo m, idx, 9, 0) ∈ xft) (hj : j < 9) (k : Gx l E m R (pc + 3) M L (.ref (130 + j) :: st)) : Gx l E m R pc M L (.ref (110 + j) :: st) := by
  intro pr e s mi args below meth c H locs ls C hP hD hS hL
  have k1 := k pr e s mi args below meth c H locs ls C hP hD hS hL
  rw [List.map_cons, xv_ref (show 130 + j ≠ 103 by omega)] at k1
  rw [List.map_cons, xv_ref (show 110 + j ≠ 103 by omega)]
  exact vk_getf C.1 C.2.1 (C.2.2.2.2.2.2.2.1.2.1.2.2.2.2.2.2.2 j hj).2.2.1 hS C.2.2.2.2.2.1 (C.2.2.2.2.2.2.1 _ (xft_ok _ hl)) (fun x h => h) hd k1
theorem Gx_coder {j idx : Nat} (hd : decode (xmb m) pc = .ok (.getfield idx, 3)) (hl : (xmo m, idx, 9, 1) ∈ xft) (hj : j < 9) (k : Gx l E m R (pc + 3) M L (.int 0 :: st)) : Gx l E m R pc M L (.ref (110 + j) :: st) := by
  intro pr e s mi args below meth c H locs ls C hP hD hS hL
  have k1 := k pr e s mi args below meth c H locs ls C hP hD hS hL
  rw [List.map_cons, xv_int] at k1
  rw [List.map_cons, xv_ref (show 110 + j ≠ 103 by omega)]
  exact vk_getf C.1 C.2.1 (C.2.2.2.2.2.2.2.1.2.1.2.2.2.2.2.2.2 j hj).2.1 hS C.2.2.2.2.2.1 (C.2.2.2.2.2.2.1 _ (xft_ok _ hl)) (fun x h => h) hd k1
/-- the value of a static, by its place in xgd -/
def xgv (a : Nat) : Value := ([.ref 100, .ref 101, .int 1, .ref 103] : List Value).getD a .null
theorem Gx_gets {idx a : Nat} (hd : decode (xmb m) pc = .ok (.getstatic idx, 3)) (hl : (xmo m, idx, a) ∈ xgt) (ha : a < 4) (k : Gx l E m R (pc + 3) M L (xgv a :: st)) : Gx l E m R pc M L st := by
  intro pr e s mi args below meth c H locs ls C hP hD hS hL
  have k1 := k pr e s mi args below meth c H locs ls C hP hD hS hL
  have hw := C.2.2.2.2.2.2.1 _ (xgt_ok _ hl)
  have hZ := C.2.2.2.2.2.2.2.1.2.1
  match a, ha with
  | 0, _ => exact va_gets C.1 C.2.1 hZ.1 hS C.2.2.2.2.2.1 hw (fun x h => h) hd k1
  | 1, _ => exact va_gets C.1 C.2.1 hZ.2.2.1 hS C.2.2.2.2.2.1 hw (fun x h => h) hd k1
  | 2, _ => exact va_gets C.1 C.2.1 hZ.2.2.2.2.1 hS C.2.2.2.2.2.1 hw (fun x h => h) hd k1
  | 3, _ => exact va_gets C.1 C.2.1 hZ.2.2.2.2.2.1 hS C.2.2.2.2.2.1 hw (fun x h => h) hd k1
/-- .. out of a nested class: the class, the number there, the place in xgd -/
def xgn : List (Nat × Nat × Nat) := [(0, 89, 0), (0, 106, 1), (2, 89, 1)]
theorem Gx_getsN {idx a : Nat} (hd : decode (xmb m) pc = .ok (.getstatic idx, 3)) (hl : (xmo m, idx, a) ∈ xgn) (k : Gx l E m R (pc + 3) M L (xgv a :: st)) : Gx l E m R pc M L st := by
  intro pr e s mi args below meth c H locs ls C hP hD hS hL
  have k1 := k pr e s mi args below meth c H locs ls C hP hD hS hL
  have hZ := C.2.2.2.2.2.2.2.1.2.1
  have hN := C.2.2.2.2.2.2.2.1.2.2.2
  have hown := C.2.2.2.2.2.1
  simp only [xgn, List.mem_cons, List.not_mem_nil, or_false, Prod.mk.injEq] at hl
  rcases hl with ⟨h1, rfl, rfl⟩ | ⟨h1, rfl, rfl⟩ | ⟨h1, rfl, rfl⟩
  · rw [h1] at hown
    exact va_getsN C.1 C.2.1 hZ.1 hS hown (va_Nw.use rfl hN.1) (fun x h => h) hd k1
  · rw [h1] at hown
    exact va_getsN C.1 C.2.1 hZ.2.2.1 hS hown (va_Nw.use rfl hN.2.1) (fun x h => h) hd k1
  · rw [h1] at hown
    exact va_getsN C.1 C.2.1 hZ.2.2.1 hS hown (va_Nw.use rfl hN.2.2.1) (fun x h => h) hd k1
theorem Gx_ldc {idx : Nat} {v : Int32} (hd : decode (xmb m) pc = .ok (.ldc idx, 2)) (hl : (xmo m, idx, v) ∈ xct) (k : Gx l E m R (pc + 2) M L (.int v :: st)) : Gx l E m R pc M L st := by
  intro pr e s mi args below meth c H locs ls C hP hD hS hL
  exact lv_ldc C.1 C.2.1 C.2.2.2.2.2.1 (C.2.2.2.2.2.2.1 _ (xct_ok _ hl)) hd (k pr e s mi args below meth c H locs ls C hP hD hS hL)
theorem Gx_ldcw {idx : Nat} {v : Int32} (hd : decode (xmb m) pc = .ok (.ldc_w idx, 3)) (hl : (xmo m, idx, v) ∈ xct) (k : Gx l E m R (pc + 3) M L (.int v :: st)) : Gx l E m R pc M L st := by
  intro pr e s mi args below meth c H locs ls C hP hD hS hL
  exact lv_ldcw C.1 C.2.1 C.2.2.2.2.2.1 (C.2.2.2.2.2.2.1 _ (xct_ok _ hl)) hd (k pr e s mi args below meth c H locs ls C hP hD hS hL)
theorem Gx_ldcS {idx b : Nat} {tx : String} (hd : decode (xmb m) pc = .ok (.ldc idx, 2)) (hl : xstO[b]? = some (xmo m, idx, tx)) (k : Gx l E m R (pc + 2) M L (.ref (110 + b) :: st)) : Gx l E m R pc M L st := by
  intro pr e s mi args below meth c H locs ls C hP hD hS hL
  have k1 := k pr e s mi args below meth c H locs ls C hP hD hS hL
  rw [List.map_cons, xv_ref (show 110 + b ≠ 103 by omega)] at k1
  have hR : vk_R (xown (xmo m)) idx tx (xeA E (110 + b)) s := C.2.2.2.2.2.2.2.1.2.2.1 b (xmo m, idx, tx) hl
  exact va_ldcS (own := xown (xmo m)) (tx := tx) C.1 C.2.1 C.2.2.2.2.2.1 hR hd k1
theorem Gx_ldc2 {idx : Nat} (hd : decode (xmb m) pc = .ok (.ldc2_w idx, 3)) (hl : (xmo m, idx) = (3, 201) ∨ (xmo m, idx) = (4, 41)) (k : Gx l E m R (pc + 3) M L (.long 4000000000000000000 :: st)) : Gx l E m R pc M L st := by
  intro pr e s mi args below meth c H locs ls C hP hD hS hL
  have k1 := k pr e s mi args below meth c H locs ls C hP hD hS hL
  have hown := C.2.2.2.2.2.1
  rcases hl with hl | hl
  · obtain ⟨h1, rfl⟩ := Prod.mk.inj hl
    rw [h1] at hown
    exact lv_ldc2 C.1 C.2.1 hown (C.2.2.2.2.2.2.1 _ xlc_3) hd k1
  · obtain ⟨h1, rfl⟩ := Prod.mk.inj hl
    rw [h1] at hown
    exact lv_ldc2 C.1 C.2.1 hown (C.2.2.2.2.2.2.1 _ xlc_4) hd k1
end XM
end
section
/-! xs: a straight stretch of code, computed; Gx_run: the machine follows it -/
/-- an instruction, its length, two numbers of ours, a constant -/
abbrev xI : Type := Instr × Nat × Nat × Nat × Int32
abbrev xO : Type := Option (List Prop × xM × List (Option Value) × List Value)
def xldI (M : xM) (L : List (Option Value)) (st : List Value) (i : Nat) : xO := match L[i]? with | some (some (.int x)) => some ([], M, L, .int x :: st) | _ => none
def xldJ (M : xM) (L : List (Option Value)) (st : List Value) (i : Nat) : xO := match L[i]? with | some (some (.long x)) => some ([], M, L, .long x :: st) | _ => none
def xldA (M : xM) (L : List (Option Value)) (st : List Value) (i : Nat) : xO := match L[i]? with | some (some (.ref x)) => some ([], M, L, .ref x :: st) | _ => none
def xstI (M : xM) (L : List (Option Value)) (st : List Value) (i : Nat) : xO := match st with | .int x :: r => if xfree L i = true then some ([], M, L.set i (some (.int x)), r) else none | _ => none
def xstJ (M : xM) (L : List (Option Value)) (st : List Value) (i : Nat) : xO := match st with | .long x :: r => if xfree L i = true ∧ i + 1 < L.length then some ([], M, (L.set i (some (.long x))).set (i + 1) none, r) else none | _ => none
def xstA (M : xM) (L : List (Option Value)) (st : List Value) (i : Nat) : xO := match st with | .ref x :: r => if xfree L i = true then some ([x ≠ 103], M, L.set i (some (.ref x)), r) else none | _ => none
def xii (M : xM) (L : List (Option Value)) (st : List Value) (f : Int32 → Int32 → Int32) (c : Int32 → List Prop) : xO := match st with | .int y :: .int x :: r => some (c y, M, L, .int (f x y) :: r) | _ => none
def xjj (M : xM) (L : List (Option Value)) (st : List Value) (f : Int64 → Int64 → Int64) (c : Int64 → List Prop) : xO := match st with | .long y :: .long x :: r => some (c y, M, L, .long (f x y) :: r) | _ => none
def xi1 (M : xM) (L : List (Option Value)) (st : List Value) (f : Int32 → Int32) : xO := match st with | .int x :: r => some ([], M, L, .int (f x) :: r) | _ => none
def xgetf1 (M : xM) (L : List (Option Value)) (r : List Value) (a b p : Nat) : xO := if a = 9 then (if b = 0 then some ([110 ≤ p, p < 119], M, L, .ref (p + 20) :: r) else some ([110 ≤ p, p < 119], M, L, .int 0 :: r)) else match xfo a b with | some o => some ([xkd p = a], M, L, .ref (p + o) :: r) | none => some ([xkd p = a], M, L, .int (M p b) :: r)
def xgetf (M : xM) (L : List (Option Value)) (st : List Value) (a b : Nat) : xO := match st with
  | .ref p :: r => xgetf1 M L r a b p
  | _ => none
def xputf (M : xM) (L : List (Option Value)) (st : List Value) (a b : Nat) : xO := match st with
  | .int x :: .ref p :: r => match xfo a b with | some _ => none | none => if xbit a b = true then some ([xkd p = a, x = 0 ∨ x = 1], xup M p b x, L, r) else some ([xkd p = a], xup M p b x, L, r)
  | _ => none
def xaldf (M : xM) (L : List (Option Value)) (st : List Value) (a : Nat) : xO := match st with
  | .int i :: .ref p :: r => if a = 0 then some ([xkd p = 5, vp_in i (xln p)], M, L, .int (M p i.toNatClampNeg) :: r) else if a = 1 then some ([p = 100, vp_in i 6], M, L, .int (xhold i.toNatClampNeg) :: r) else some ([p = 101, vp_in i 6], M, L, .int (xlist i.toNatClampNeg) :: r)
  | _ => none
def xastf (M : xM) (L : List (Option Value)) (st : List Value) : xO := match st with
  | .int x :: .int i :: .ref p :: r => some ([xkd p = 5, vp_in i (xln p)], xup M p i.toNatClampNeg x, L, r)
  | _ => none
def xbldf1 (M : xM) (L : List (Option Value)) (r : List Value) (i : Int32) (p : Nat) : xO := some ([130 ≤ p, p < 139, vp_in i (xsl (p - 130))], M, L, .int (xsb (p - 130) i.toNatClampNeg) :: r)
def xbldf (M : xM) (L : List (Option Value)) (st : List Value) : xO := match st with
  | .int i :: .ref p :: r => xbldf1 M L r i p
  | _ => none
def xlenf1 (M : xM) (L : List (Option Value)) (r : List Value) (a p : Nat) : xO := if a = 0 then some ([xkd p = 5], M, L, .int (nI (xln p)) :: r) else some ([130 ≤ p, p < 139], M, L, .int (nI (xsl (p - 130))) :: r)
def xlenf (M : xM) (L : List (Option Value)) (st : List Value) (a : Nat) : xO := match st with
  | .ref p :: r => xlenf1 M L r a p
  | _ => none
def xdup (M : xM) (L : List (Option Value)) (st : List Value) : xO := match st with | .int x :: r => some ([], M, L, .int x :: .int x :: r) | .ref x :: r => some ([], M, L, .ref x :: .ref x :: r) | _ => none
def xdup2 (M : xM) (L : List (Option Value)) (st : List Value) : xO := match st with | .int x :: .ref y :: r => some ([], M, L, .int x :: .ref y :: .int x :: .ref y :: r) | _ => none
def xpop (M : xM) (L : List (Option Value)) (st : List Value) : xO := match st with | .int _ :: r => some ([], M, L, r) | _ => none
def xinc (M : xM) (L : List (Option Value)) (st : List Value) (i : Nat) (v : Int32) : xO := match L[i]? with | some (some (.int x)) => if xfree L i = true then some ([], M, L.set i (some (.int (x + v))), st) else none | _ => none
def x1 (M : xM) (L : List (Option Value)) (st : List Value) (a b : Nat) (v : Int32) : Instr → xO
  | .iload_n k => xldI M L st k | .iload k => xldI M L st k
  | .lload_n k => xldJ M L st k | .lload k => xldJ M L st k
  | .aload_n k => xldA M L st k
  | .istore_n k => xstI M L st k | .istore k => xstI M L st k
  | .lstore_n k => xstJ M L st k | .lstore k => xstJ M L st k
  | .astore_n k => xstA M L st k
  | .iconst _ => some ([], M, L, .int v :: st) | .bipush _ => some ([], M, L, .int v :: st) | .sipush _ => some ([], M, L, .int v :: st)
  | .lconst k => some ([], M, L, .long (if (k : Nat) = 0 then 0 else 1) :: st)
  | .iinc k _ => xinc M L st k v
  | .iadd => xii M L st (fun x y => x + y) (fun _ => []) | .isub => xii M L st (fun x y => x - y) (fun _ => []) | .imul => xii M L st (fun x y => x * y) (fun _ => [])
  | .iand => xii M L st (fun x y => x &&& y) (fun _ => []) | .ior => xii M L st (fun x y => x ||| y) (fun _ => []) | .ixor => xii M L st (fun x y => x ^^^ y) (fun _ => [])
  | .ishl => xii M L st (fun x y => x <<< (y &&& 31)) (fun _ => []) | .ishr => xii M L st (fun x y => x >>> (y &&& 31)) (fun _ => [])
  | .iushr => xii M L st (fun x y => (x.toUInt32 >>> (y.toUInt32 &&& Int32.toUInt32 31)).toInt32) (fun _ => [])
  | .idiv => xii M L st (fun x y => x / y) (fun y => [¬ y = 0]) | .irem => xii M L st (fun x y => x - x / y * y) (fun y => [¬ y = 0])
  | .ineg => xi1 M L st (fun x => -x) | .i2b => xi1 M L st (fun x => x.toInt8.toInt32) | .i2c => xi1 M L st (fun x => (x.toUInt32 % 65536).toInt32)
  | .ladd => xjj M L st (fun x y => x + y) (fun _ => []) | .lsub => xjj M L st (fun x y => x - y) (fun _ => []) | .lmul => xjj M L st (fun x y => x * y) (fun _ => [])
  | .ldiv => xjj M L st (fun x y => x / y) (fun y => [¬ y = 0]) | .lrem => xjj M L st (fun x y => x - x / y * y) (fun y => [¬ y = 0])
  | .lcmp => match st with | .long y :: .long x :: r => some ([], M, L, .int (lg_cmp x y) :: r) | _ => none
  | .i2l => match st with | .int x :: r => some ([], M, L, .long x.toInt64 :: r) | _ => none
  | .dup => xdup M L st | .dup2 => xdup2 M L st | .pop => xpop M L st
  | .getfield _ => xgetf M L st a b | .putfield _ => xputf M L st a b
  | .getstatic _ => some ([], M, L, xgv a :: st)
  | .iaload => xaldf M L st a | .iastore => xastf M L st | .baload => xbldf M L st | .arraylength => xlenf M L st a
  | .ldc _ => if a = 0 then some ([], M, L, .int v :: st) else some ([], M, L, .ref (110 + b) :: st)
  | .ldc_w _ => some ([], M, L, .int v :: st)
  | .ldc2_w _ => some ([], M, L, .long 4000000000000000000 :: st)
  | _ => none
/-- the length of an instruction; what must be so of its numbers -/
def xlk (own : Nat) (a b : Nat) (v : Int32) (n : Nat) : Instr → Bool
  | .iload _ | .lload _ | .istore _ | .lstore _ => n == 2
  | .iconst k => n == 1 && decide (Int32.ofInt k = v)
  | .bipush k => n == 2 && decide ((Int8.ofInt k).toInt32 = v)
  | .sipush k => n == 3 && decide ((Int16.ofInt k).toInt32 = v)
  | .lconst k => n == 1 && decide (Int64.ofNat (k : Nat) = if (k : Nat) = 0 then 0 else 1)
  | .iinc _ k => n == 3 && decide (Int32.ofInt k = v)
  | .getfield i => n == 3 && decide ((own, i, a, b) ∈ xft) && (a == 9 || (decide (a < 5) && decide (b < xnf a))) && (a != 9 || b == 0 || b == 1)
  | .putfield i => n == 3 && decide ((own, i, a, b) ∈ xft) && (decide (a < 5) && decide (b < xnf a))
  | .getstatic i => n == 3 && ((decide ((own, i, a) ∈ xgt) && decide (a < 4)) || decide ((own, i, a) ∈ xgn))
  | .ldc i => n == 2 && (if a = 0 then decide ((own, i, v) ∈ xct) else match xstO[b]? with | some q => q.1 == own && q.2.1 == i | none => false)
  | .ldc_w i => n == 3 && decide ((own, i, v) ∈ xct)
  | .ldc2_w i => n == 3 && (decide ((own, i) = (3, 201)) || decide ((own, i) = (4, 41)))
  | _ => n == 1
def xcode (cc : ByteArray) (own : Nat) : Nat → List xI → Bool
  | _, [] => true
  | pc, e :: es => decide (decode cc pc = .ok (e.1, e.2.1)) && xlk own e.2.2.1 e.2.2.2.1 e.2.2.2.2 e.2.1 e.1 && xcode cc own (pc + e.2.1) es
def xs : List xI → xM → List (Option Value) → List Value → xO
  | [], M, L, st => some ([], M, L, st)
  | e :: es, M, L, st => match x1 M L st e.2.2.1 e.2.2.2.1 e.2.2.2.2 e.1 with
    | some (P, M', L', st') => match xs es M' L' st' with
      | some (P2, r) => some (P ++ P2, r)
      | none => none
    | none => none
def xall : List Prop → Prop
  | [] => True
  | p :: ps => p ∧ xall ps
theorem xall_app {a b : List Prop} (h : xall (a ++ b)) : xall a ∧ xall b := by
  induction a with
  | nil => exact ⟨trivial, h⟩
  | cons p a ih => exact ⟨⟨h.1, (ih h.2).1⟩, (ih h.2).2⟩
def xlen (es : List xI) : Nat := (es.map (fun e => e.2.1)).sum
section XX
variable {l : Launch} {E : xE} {m : xMt} {R : Option Value → xM → Prop} {pc : Nat} {M : xM} {L : List (Option Value)} {st : List Value}
set_option maxHeartbeats 4000000 in
theorem Gx_1 {i : Instr} {n a b : Nat} {v : Int32} {P : List Prop} {M' : xM} {L' : List (Option Value)} {st' : List Value} (hd : decode (xmb m) pc = .ok (i, n)) (hk : xlk (xmo m) a b v n i = true) (h : x1 M L st a b v i = some (P, M', L', st')) (hP : xall P) (k : Gx l E m R (pc + n) M' L' st') : Gx l E m R pc M L st := by
  cases i
  case iload_n j =>
    have hn : n = 1 := by simpa [xlk] using hk
    subst hn
    simp only [x1, xldI] at h
    split at h
    · rename_i hx
      cases h
      exact Gx_iload_n hd hx k
    · cases h
  case iload j =>
    have hn : n = 2 := by simpa [xlk] using hk
    subst hn
    simp only [x1, xldI] at h
    split at h
    · rename_i hx
      cases h
      exact Gx_iload hd hx k
    · cases h
  case lload_n j =>
    have hn : n = 1 := by simpa [xlk] using hk
    subst hn
    simp only [x1, xldJ] at h
    split at h
    · rename_i hx
      cases h
      exact Gx_lload_n hd hx k
    · cases h
  case lload j =>
    have hn : n = 2 := by simpa [xlk] using hk
    subst hn
    simp only [x1, xldJ] at h
    split at h
    · rename_i hx
      cases h
      exact Gx_lload hd hx k
    · cases h
  case aload_n j =>
    have hn : n = 1 := by simpa [xlk] using hk
    subst hn
    simp only [x1, xldA] at h
    split at h
    · rename_i hx
      cases h
      exact Gx_aload_n hd hx k
    · cases h
  case istore_n j =>
    have hn : n = 1 := by simpa [xlk] using hk
    subst hn
    simp only [x1, xstI] at h
    split at h
    · split at h
      · rename_i hf
        cases h
        exact Gx_istore_n hd hf k
      · cases h
    · cases h
  case istore j =>
    have hn : n = 2 := by simpa [xlk] using hk
    subst hn
    simp only [x1, xstI] at h
    split at h
    · split at h
      · rename_i hf
        cases h
        exact Gx_istore hd hf k
      · cases h
    · cases h
  case lstore_n j =>
    have hn : n = 1 := by simpa [xlk] using hk
    subst hn
    simp only [x1, xstJ] at h
    split at h
    · split at h
      · rename_i hf
        cases h
        exact Gx_lstore_n hd hf.1 hf.2 k
      · cases h
    · cases h
  case lstore j =>
    have hn : n = 2 := by simpa [xlk] using hk
    subst hn
    simp only [x1, xstJ] at h
    split at h
    · split at h
      · rename_i hf
        cases h
        exact Gx_lstore hd hf.1 hf.2 k
      · cases h
    · cases h
  case astore_n j =>
    have hn : n = 1 := by simpa [xlk] using hk
    subst hn
    simp only [x1, xstA] at h
    split at h
    · split at h
      · rename_i hf
        cases h
        exact Gx_astore_n hP.1 hd hf k
      · cases h
    · cases h
  case iconst j =>
    obtain ⟨hn, hv⟩ : n = 1 ∧ _ = v := by simpa [xlk] using hk
    subst hn
    simp only [x1] at h
    cases h
    exact Gx_iconst hd hv k
  case bipush j =>
    obtain ⟨hn, hv⟩ : n = 2 ∧ _ = v := by simpa [xlk] using hk
    subst hn
    simp only [x1] at h
    cases h
    exact Gx_bipush hd hv k
  case sipush j =>
    obtain ⟨hn, hv⟩ : n = 3 ∧ _ = v := by simpa [xlk] using hk
    subst hn
    simp only [x1] at h
    cases h
    exact Gx_sipush hd hv k
  case lconst j =>
    simp only [xlk, Bool.and_eq_true, beq_iff_eq, decide_eq_true_eq] at hk
    obtain ⟨hn, hv⟩ := hk
    subst hn
    simp only [x1] at h
    cases h
    exact Gx_lconst hd hv k
  case iinc j q =>
    obtain ⟨hn, hv⟩ : n = 3 ∧ _ = v := by simpa [xlk] using hk
    subst hn
    simp only [x1, xinc] at h
    split at h
    · rename_i hx
      split at h
      · rename_i hf
        cases h
        exact Gx_iinc hd hv hx hf k
      · cases h
    · cases h
  case iadd =>
    have hn : n = 1 := by simpa [xlk] using hk
    subst hn
    simp only [x1, xii] at h
    split at h
    · cases h
      exact Gx_iadd hd k
    · cases h
  case isub =>
    have hn : n = 1 := by simpa [xlk] using hk
    subst hn
    simp only [x1, xii] at h
    split at h
    · cases h
      exact Gx_isub hd k
    · cases h
  case imul =>
    have hn : n = 1 := by simpa [xlk] using hk
    subst hn
    simp only [x1, xii] at h
    split at h
    · cases h
      exact Gx_imul hd k
    · cases h
  case iand =>
    have hn : n = 1 := by simpa [xlk] using hk
    subst hn
    simp only [x1, xii] at h
    split at h
    · cases h
      exact Gx_iand hd k
    · cases h
  case ior =>
    have hn : n = 1 := by simpa [xlk] using hk
    subst hn
    simp only [x1, xii] at h
    split at h
    · cases h
      exact Gx_ior hd k
    · cases h
  case ixor =>
    have hn : n = 1 := by simpa [xlk] using hk
    subst hn
    simp only [x1, xii] at h
    split at h
    · cases h
      exact Gx_ixor hd k
    · cases h
  case ishl =>
    have hn : n = 1 := by simpa [xlk] using hk
    subst hn
    simp only [x1, xii] at h
    split at h
    · cases h
      exact Gx_ishl hd k
    · cases h
  case ishr =>
    have hn : n = 1 := by simpa [xlk] using hk
    subst hn
    simp only [x1, xii] at h
    split at h
    · cases h
      exact Gx_ishr hd k
    · cases h
  case iushr =>
    have hn : n = 1 := by simpa [xlk] using hk
    subst hn
    simp only [x1, xii] at h
    split at h
    · cases h
      exact Gx_iushr hd k
    · cases h
  case idiv =>
    have hn : n = 1 := by simpa [xlk] using hk
    subst hn
    simp only [x1, xii] at h
    split at h
    · cases h
      exact Gx_idiv hd hP.1 k
    · cases h
  case irem =>
    have hn : n = 1 := by simpa [xlk] using hk
    subst hn
    simp only [x1, xii] at h
    split at h
    · cases h
      exact Gx_irem hd hP.1 k
    · cases h
  case ineg =>
    have hn : n = 1 := by simpa [xlk] using hk
    subst hn
    simp only [x1, xi1] at h
    split at h
    · cases h
      exact Gx_ineg hd k
    · cases h
  case i2b =>
    have hn : n = 1 := by simpa [xlk] using hk
    subst hn
    simp only [x1, xi1] at h
    split at h
    · cases h
      exact Gx_i2b hd k
    · cases h
  case i2c =>
    have hn : n = 1 := by simpa [xlk] using hk
    subst hn
    simp only [x1, xi1] at h
    split at h
    · cases h
      exact Gx_i2c hd k
    · cases h
  case ladd =>
    have hn : n = 1 := by simpa [xlk] using hk
    subst hn
    simp only [x1, xjj] at h
    split at h
    · cases h
      exact Gx_ladd hd k
    · cases h
  case lsub =>
    have hn : n = 1 := by simpa [xlk] using hk
    subst hn
    simp only [x1, xjj] at h
    split at h
    · cases h
      exact Gx_lsub hd k
    · cases h
  case lmul =>
    have hn : n = 1 := by simpa [xlk] using hk
    subst hn
    simp only [x1, xjj] at h
    split at h
    · cases h
      exact Gx_lmul hd k
    · cases h
  case ldiv =>
    have hn : n = 1 := by simpa [xlk] using hk
    subst hn
    simp only [x1, xjj] at h
    split at h
    · cases h
      exact Gx_ldiv hd hP.1 k
    · cases h
  case lrem =>
    have hn : n = 1 := by simpa [xlk] using hk
    subst hn
    simp only [x1, xjj] at h
    split at h
    · cases h
      exact Gx_lrem hd hP.1 k
    · cases h
  case lcmp =>
    have hn : n = 1 := by simpa [xlk] using hk
    subst hn
    simp only [x1] at h
    split at h
    · cases h
      exact Gx_lcmp hd k
    · cases h
  case i2l =>
    have hn : n = 1 := by simpa [xlk] using hk
    subst hn
    simp only [x1] at h
    split at h
    · cases h
      exact Gx_i2l hd k
    · cases h
  case dup =>
    have hn : n = 1 := by simpa [xlk] using hk
    subst hn
    simp only [x1, xdup] at h
    split at h
    · cases h
      exact Gx_dup rfl hd k
    · cases h
      exact Gx_dup rfl hd k
    · cases h
  case dup2 =>
    have hn : n = 1 := by simpa [xlk] using hk
    subst hn
    simp only [x1, xdup2] at h
    split at h
    · cases h
      exact Gx_dup2 rfl rfl hd k
    · cases h
  case pop =>
    have hn : n = 1 := by simpa [xlk] using hk
    subst hn
    simp only [x1, xpop] at h
    split at h
    · cases h
      exact Gx_pop rfl hd k
    · cases h
  case getfield j =>
    simp only [xlk, Bool.and_eq_true, Bool.or_eq_true, beq_iff_eq, bne_iff_ne, decide_eq_true_eq] at hk
    obtain ⟨⟨⟨hn, hl⟩, h1⟩, h2⟩ := hk
    subst hn
    simp only [x1, xgetf] at h
    split at h
    · rename_i p0 r
      obtain ⟨p, hp0⟩ : ∃ p : Nat, p = p0 := ⟨p0, rfl⟩
      subst hp0
      unfold xgetf1 at h
      split at h
      · rename_i ha
        subst ha
        split at h
        · rename_i hb
          subst hb
          cases h
          obtain ⟨j2, rfl⟩ : ∃ j2, p = 110 + j2 := ⟨p - 110, by have := hP.1; omega⟩
          have e1 : 110 + j2 + 20 = 130 + j2 := by omega
          rw [e1] at k
          exact Gx_value hd hl (by have := hP.2.1; omega) k
        · rename_i hb
          have hb1 : b = 1 := by omega
          subst hb1
          cases h
          obtain ⟨j2, rfl⟩ : ∃ j2, p = 110 + j2 := ⟨p - 110, by have := hP.1; omega⟩
          exact Gx_coder hd hl (by have := hP.2.1; omega) k
      · rename_i ha
        have hab : a < 5 ∧ b < xnf a := by
          rcases h1 with h1 | h1
          · exact absurd h1 ha
          · exact h1
        split at h
        · rename_i o ho
          cases h
          exact Gx_getR hd hl hab.1 hab.2 hP.1 ho k
        · rename_i ho
          cases h
          exact Gx_getI hd hl hab.1 hab.2 hP.1 ho k
    · cases h
  case putfield j =>
    simp only [xlk, Bool.and_eq_true, Bool.or_eq_true, beq_iff_eq, bne_iff_ne, decide_eq_true_eq] at hk
    obtain ⟨⟨hn, hl⟩, h1⟩ := hk
    subst hn
    simp only [x1, xputf] at h
    split at h
    · rename_i x p r
      split at h
      · cases h
      · rename_i ho
        split at h
        · rename_i hb
          cases h
          exact Gx_put hd hl h1.1 h1.2 hP.1 ho (fun _ => hP.2.1) k
        · rename_i hb
          cases h
          exact Gx_put hd hl h1.1 h1.2 hP.1 ho (fun z => absurd z hb) k
    · cases h
  case getstatic j =>
    simp only [xlk, Bool.and_eq_true, Bool.or_eq_true, beq_iff_eq, bne_iff_ne, decide_eq_true_eq] at hk
    obtain ⟨hn, h1⟩ := hk
    subst hn
    simp only [x1] at h
    cases h
    rcases h1 with h1 | h1
    · exact Gx_gets hd h1.1 h1.2 k
    · exact Gx_getsN hd h1 k
  case iaload =>
    have hn : n = 1 := by simpa [xlk] using hk
    subst hn
    simp only [x1, xaldf] at h
    split at h
    · rename_i i p r
      split at h
      · cases h
        exact Gx_iald hd hP.1 hP.2.1 k
      · split at h
        · cases h
          obtain ⟨rfl, h2, -⟩ := hP
          exact Gx_holds hd h2 k
        · cases h
          obtain ⟨rfl, h2, -⟩ := hP
          exact Gx_lists hd h2 k
    · cases h
  case iastore =>
    have hn : n = 1 := by simpa [xlk] using hk
    subst hn
    simp only [x1, xastf] at h
    split at h
    · cases h
      exact Gx_iast hd hP.1 hP.2.1 k
    · cases h
  case baload =>
    have hn : n = 1 := by simpa [xlk] using hk
    subst hn
    simp only [x1, xbldf] at h
    split at h
    · rename_i i p0 r
      obtain ⟨p, hp0⟩ : ∃ p : Nat, p = p0 := ⟨p0, rfl⟩
      subst hp0
      unfold xbldf1 at h
      cases h
      obtain ⟨h1, h2, h3, -⟩ := hP
      obtain ⟨j2, rfl⟩ : ∃ j2, p = 130 + j2 := ⟨p - 130, by omega⟩
      rw [show 130 + j2 - 130 = j2 by omega] at h3 k
      exact Gx_bald hd (by omega) h3 k
    · cases h
  case arraylength =>
    have hn : n = 1 := by simpa [xlk] using hk
    subst hn
    simp only [x1, xlenf] at h
    split at h
    · rename_i p0 r
      obtain ⟨p, hp0⟩ : ∃ p : Nat, p = p0 := ⟨p0, rfl⟩
      subst hp0
      unfold xlenf1 at h
      split at h
      · cases h
        exact Gx_alen hd hP.1 k
      · cases h
        obtain ⟨h1, h2, -⟩ := hP
        obtain ⟨j2, rfl⟩ : ∃ j2, p = 130 + j2 := ⟨p - 130, by omega⟩
        rw [show 130 + j2 - 130 = j2 by omega] at k
        exact Gx_blen hd (by omega) k
    · cases h
  case ldc j =>
    simp only [xlk, Bool.and_eq_true, beq_iff_eq] at hk
    obtain ⟨hn, h1⟩ := hk
    subst hn
    simp only [x1] at h
    split at h
    · rename_i ha
      rw [if_pos ha] at h1
      cases h
      exact Gx_ldc hd (of_decide_eq_true h1) k
    · rename_i ha
      rw [if_neg ha] at h1
      cases h
      split at h1
      · rename_i q hq
        simp only [Bool.and_eq_true, beq_iff_eq] at h1
        obtain ⟨q1, q2, q3⟩ := q
        obtain ⟨e1, e2⟩ := h1
        simp only at e1 e2
        subst e1; subst e2
        exact Gx_ldcS hd hq k
      · cases h1
  case ldc_w j =>
    simp only [xlk, Bool.and_eq_true, Bool.or_eq_true, beq_iff_eq, bne_iff_ne, decide_eq_true_eq] at hk
    obtain ⟨hn, h1⟩ := hk
    subst hn
    simp only [x1] at h
    cases h
    exact Gx_ldcw hd h1 k
  case ldc2_w j =>
    simp only [xlk, Bool.and_eq_true, Bool.or_eq_true, beq_iff_eq, decide_eq_true_eq] at hk
    obtain ⟨hn, h1⟩ := hk
    subst hn
    simp only [x1] at h
    cases h
    exact Gx_ldc2 hd h1 k
  all_goals (simp only [x1] at h; cases h)
theorem Gx_run {es : List xI} {P : List Prop} {M' : xM} {L' : List (Option Value)} {st' : List Value} {pc' : Nat} (hc : xcode (xmb m) (xmo m) pc es = true) (h : xs es M L st = some (P, M', L', st')) (hP : xall P) (hpc : pc + xlen es = pc') (k : Gx l E m R pc' M' L' st') : Gx l E m R pc M L st := by
  induction es generalizing pc M L st P with
  | nil =>
    cases h
    subst hpc
    exact k
  | cons e es ih =>
    obtain ⟨i, n, a, b, v⟩ := e
    simp only [xcode, Bool.and_eq_true, decide_eq_true_eq] at hc
    obtain ⟨⟨hd, hk⟩, hc2⟩ := hc
    unfold xs at h
    split at h
    · rename_i P1 M1 L1 st1 h1
      split at h
      · rename_i P2 r h2
        obtain ⟨M2, L2, st2⟩ := r
        cases h
        obtain ⟨hP1, hP2⟩ := xall_app hP
        refine Gx_1 hd hk h1 hP1 (ih hc2 h2 hP2 ?_)
        rw [← hpc]
        simp only [xlen, List.map_cons, List.sum_cons]
        omega
      · cases h
    · cases h
end XX
end
section
/-! methods: name, class, code, locals, what they answer, how deep their calls go; links -/
def mJ0_coder_7d493 : xMt := (yJ0_coder_7d493, 5, cJ0_coder_7d493, 1, (some .byte), 0)
def mJ0_isLatin1_aae02 : xMt := (yJ0_isLatin1_aae02, 5, cJ0_isLatin1_aae02, 1, (some .boolean), 0)
def mJ1_canEncode_9a6ad : xMt := (yJ1_canEncode_9a6ad, 6, cJ1_canEncode_9a6ad, 1, (some .boolean), 0)
def mJ1_indexOfChar_4cfef : xMt := (yJ1_indexOfChar_4cfef, 6, cJ1_indexOfChar_4cfef, 6, (some .int), 0)
def mJ3_checkIndex_8e157 : xMt := (yJ3_checkIndex_8e157, 8, cJ3_checkIndex_8e157, 3, (some .int), 0)
def mJ6_bitCount_0f7a4 : xMt := (yJ6_bitCount_0f7a4, 9, cJ6_bitCount_0f7a4, 1, (some .int), 0)
def mJ6_numberOfTrailingZeros_0f7a4 : xMt := (yJ6_numberOfTrailingZeros_0f7a4, 9, cJ6_numberOfTrailingZeros_0f7a4, 2, (some .int), 0)
def mJ7_fill_53178 : xMt := (yJ7_fill_53178, 10, cJ7_fill_53178, 4, none, 0)
def mX0_askedFor : xMt := (yX0_askedFor, 0, cX0_askedFor, 4, (some .int), 0)
def mX0_asks : xMt := (yX0_asks, 0, cX0_asks, 4, (some .boolean), 0)
def mX0_faultOfPointer : xMt := (yX0_faultOfPointer, 0, cX0_faultOfPointer, 5, (some .int), 0)
def mX1_append : xMt := (yX1_append, 1, cX1_append, 2, (some .int), 0)
def mX1_shapeOf : xMt := (yX1_shapeOf, 1, cX1_shapeOf, 1, (some (.object "java/lang/String")), 0)
def mX1_signAt : xMt := (yX1_signAt, 1, cX1_signAt, 2, (some .int), 0)
def mX2_blocksPointedAt : xMt := (yX2_blocksPointedAt, 2, cX2_blocksPointedAt, 4, (some .int), 0)
def mX2_emptySlotOf : xMt := (yX2_emptySlotOf, 2, cX2_emptySlotOf, 4, (some .int), 0)
def mX2_enter : xMt := (yX2_enter, 2, cX2_enter, 5, none, 0)
def mX2_enteredBy : xMt := (yX2_enteredBy, 2, cX2_enteredBy, 5, (some .int), 0)
def mX2_entriesIn : xMt := (yX2_entriesIn, 2, cX2_entriesIn, 4, (some .int), 0)
def mX2_inodesInUse : xMt := (yX2_inodesInUse, 2, cX2_inodesInUse, 3, (some .int), 0)
def mX2_isDirectory : xMt := (yX2_isDirectory, 2, cX2_isDirectory, 2, (some .boolean), 0)
def mX2_placeOfEntryTo : xMt := (yX2_placeOfEntryTo, 2, cX2_placeOfEntryTo, 3, (some .int), 0)
def mX2_pointAt : xMt := (yX2_pointAt, 2, cX2_pointAt, 4, none, 0)
def mX2_pointersTo : xMt := (yX2_pointersTo, 2, cX2_pointersTo, 4, (some .int), 0)
def mX2_wipe : xMt := (yX2_wipe, 2, cX2_wipe, 3, none, 0)
def mX3_clear : xMt := (yX3_clear, 3, cX3_clear, 2, (some .int), 0)
def mX3_draw : xMt := (yX3_draw, 3, cX3_draw, 2, (some .int), 0)
def mX3_isOutside : xMt := (yX3_isOutside, 3, cX3_isOutside, 2, (some .boolean), 0)
def mX3_partOfFraction : xMt := (yX3_partOfFraction, 3, cX3_partOfFraction, 12, (some .long), 0)
def mX3_power : xMt := (yX3_power, 3, cX3_power, 5, (some .long), 0)
def mX3_refusal : xMt := (yX3_refusal, 3, cX3_refusal, 3, (some .int), 0)
def mX3_rowIsAsked : xMt := (yX3_rowIsAsked, 3, cX3_rowIsAsked, 2, (some .boolean), 0)
def mX4_asks : xMt := (yX4_asks, 4, cX4_asks, 4, none, 0)
def mX4_becomes : xMt := (yX4_becomes, 4, cX4_becomes, 4, (some .int), 0)
def mX4_clear : xMt := (yX4_clear, 4, cX4_clear, 2, (some .int), 0)
def mX4_countOf : xMt := (yX4_countOf, 4, cX4_countOf, 3, (some .int), 0)
def mX4_depthOf : xMt := (yX4_depthOf, 4, cX4_depthOf, 6, (some .int), 0)
def mX4_drawn : xMt := (yX4_drawn, 4, cX4_drawn, 2, (some .int), 0)
def mX4_entries : xMt := (yX4_entries, 4, cX4_entries, 3, (some .int), 0)
def mX4_goesBack : xMt := (yX4_goesBack, 4, cX4_goesBack, 2, none, 0)
def mX4_here : xMt := (yX4_here, 4, cX4_here, 1, (some .int), 0)
def mX4_holds : xMt := (yX4_holds, 4, cX4_holds, 1, (some .int), 0)
def mX4_in : xMt := (yX4_in, 4, cX4_in, 3, (some .boolean), 0)
def mX4_inodes : xMt := (yX4_inodes, 4, cX4_inodes, 3, (some .int), 0)
def mX4_isDirectory : xMt := (yX4_isDirectory, 4, cX4_isDirectory, 2, (some .boolean), 0)
def mX4_isEntryTo : xMt := (yX4_isEntryTo, 4, cX4_isEntryTo, 3, (some .boolean), 0)
def mX4_isNamedAhead : xMt := (yX4_isNamedAhead, 4, cX4_isNamedAhead, 5, (some .boolean), 0)
def mX4_isRefused : xMt := (yX4_isRefused, 4, cX4_isRefused, 2, (some .boolean), 0)
def mX4_isSharedAhead : xMt := (yX4_isSharedAhead, 4, cX4_isSharedAhead, 4, (some .boolean), 0)
def mX4_keeps : xMt := (yX4_keeps, 4, cX4_keeps, 2, none, 0)
def mX4_leastName : xMt := (yX4_leastName, 4, cX4_leastName, 4, (some .int), 0)
def mX4_lists : xMt := (yX4_lists, 4, cX4_lists, 1, (some .int), 0)
def mX4_lowest : xMt := (yX4_lowest, 4, cX4_lowest, 11, (some .long), 0)
def mX4_manyOf : xMt := (yX4_manyOf, 4, cX4_manyOf, 4, (some .int), 0)
def mX4_must : xMt := (yX4_must, 4, cX4_must, 3, none, 0)
def mX4_pointerOf : xMt := (yX4_pointerOf, 4, cX4_pointerOf, 4, (some .int), 0)
def mX4_pointersTo : xMt := (yX4_pointersTo, 4, cX4_pointersTo, 4, (some .int), 0)
def mX4_refused : xMt := (yX4_refused, 4, cX4_refused, 2, (some .int), 0)
def mX4_refusedLong : xMt := (yX4_refusedLong, 4, cX4_refusedLong, 2, (some .long), 0)
def mX4_slotOf : xMt := (yX4_slotOf, 4, cX4_slotOf, 4, (some .int), 0)
def mX4_wipes : xMt := (yX4_wipes, 4, cX4_wipes, 4, none, 0)
def mJ0_checkIndex_df160 : xMt := (yJ0_checkIndex_df160, 5, cJ0_checkIndex_df160, 2, none, 1)
def mJ0_length_8abf5 : xMt := (yJ0_length_8abf5, 5, cJ0_length_8abf5, 1, (some .int), 1)
def mJ1_indexOf_4cfef : xMt := (yJ1_indexOf_4cfef, 6, cJ1_indexOf_4cfef, 4, (some .int), 1)
def mX0_cutOff : xMt := (yX0_cutOff, 0, cX0_cutOff, 3, none, 1)
def mX0_faultOfEntry : xMt := (yX0_faultOfEntry, 0, cX0_faultOfEntry, 7, (some .int), 1)
def mX0_mendMaps : xMt := (yX0_mendMaps, 0, cX0_mendMaps, 4, none, 1)
def mX0_mendParents : xMt := (yX0_mendParents, 0, cX0_mendParents, 5, none, 1)
def mX1_digitAt : xMt := (yX1_digitAt, 1, cX1_digitAt, 2, (some .int), 1)
def mX1_nameAt : xMt := (yX1_nameAt, 1, cX1_nameAt, 2, (some .int), 1)
def mX2_blockOf : xMt := (yX2_blockOf, 2, cX2_blockOf, 4, (some .int), 1)
def mX2_countEntries : xMt := (yX2_countEntries, 2, cX2_countEntries, 4, none, 1)
def mX2_directories : xMt := (yX2_directories, 2, cX2_directories, 3, (some .int), 1)
def mX2_enteredByThese : xMt := (yX2_enteredByThese, 2, cX2_enteredByThese, 4, (some .int), 1)
def mX2_entriesInAll : xMt := (yX2_entriesInAll, 2, cX2_entriesInAll, 3, (some .int), 1)
def mX2_freeBlock : xMt := (yX2_freeBlock, 2, cX2_freeBlock, 2, (some .int), 1)
def mX2_freeNameIn : xMt := (yX2_freeNameIn, 2, cX2_freeNameIn, 5, (some .int), 1)
def mX2_takeFrom : xMt := (yX2_takeFrom, 2, cX2_takeFrom, 2, none, 1)
def mX3_block : xMt := (yX3_block, 3, cX3_block, 3, (some .int), 1)
def mX3_changeByLot : xMt := (yX3_changeByLot, 3, cX3_changeByLot, 5, none, 1)
def mX3_empties : xMt := (yX3_empties, 3, cX3_empties, 5, (some .int), 1)
def mX3_enters : xMt := (yX3_enters, 3, cX3_enters, 5, (some .int), 1)
def mX3_inode : xMt := (yX3_inode, 3, cX3_inode, 3, (some .int), 1)
def mX3_kind : xMt := (yX3_kind, 3, cX3_kind, 4, (some .int), 1)
def mX3_letter : xMt := (yX3_letter, 3, cX3_letter, 2, (some .int), 1)
def mX3_links : xMt := (yX3_links, 3, cX3_links, 5, (some .int), 1)
def mX3_marks : xMt := (yX3_marks, 3, cX3_marks, 3, (some .int), 1)
def mX3_mean : xMt := (yX3_mean, 3, cX3_mean, 4, (some .long), 1)
def mX3_pointer : xMt := (yX3_pointer, 3, cX3_pointer, 3, (some .int), 1)
def mX3_points : xMt := (yX3_points, 3, cX3_points, 4, (some .int), 1)
def mX3_refuses : xMt := (yX3_refuses, 3, cX3_refuses, 2, (some .int), 1)
def mX3_row : xMt := (yX3_row, 3, cX3_row, 2, (some .int), 1)
def mX3_slot : xMt := (yX3_slot, 3, cX3_slot, 3, (some .int), 1)
def mX3_writes : xMt := (yX3_writes, 3, cX3_writes, 4, (some .int), 1)
def mX4_attaches : xMt := (yX4_attaches, 4, cX4_attaches, 3, (some .int), 1)
def mX4_damages : xMt := (yX4_damages, 4, cX4_damages, 4, none, 1)
def mX4_entriesTo : xMt := (yX4_entriesTo, 4, cX4_entriesTo, 4, (some .int), 1)
def mX4_entryTo : xMt := (yX4_entryTo, 4, cX4_entryTo, 3, (some .int), 1)
def mX4_freeBlock : xMt := (yX4_freeBlock, 4, cX4_freeBlock, 2, (some .int), 1)
def mX4_image : xMt := (yX4_image, 4, cX4_image, 2, (some .int), 1)
def mX4_isBlock : xMt := (yX4_isBlock, 4, cX4_isBlock, 1, (some .boolean), 1)
def mX4_isInode : xMt := (yX4_isInode, 4, cX4_isInode, 1, (some .boolean), 1)
def mX4_isListedAhead : xMt := (yX4_isListedAhead, 4, cX4_isListedAhead, 5, (some .boolean), 1)
def mX4_kinds : xMt := (yX4_kinds, 4, cX4_kinds, 5, (some .int), 1)
def mX4_letter : xMt := (yX4_letter, 4, cX4_letter, 2, (some .int), 1)
def mX4_maps : xMt := (yX4_maps, 4, cX4_maps, 3, none, 1)
def mX4_mean : xMt := (yX4_mean, 4, cX4_mean, 5, (some .long), 1)
def mX4_on : xMt := (yX4_on, 4, cX4_on, 2, (some .int), 1)
def mX4_one : xMt := (yX4_one, 4, cX4_one, 4, (some .int), 1)
def mX4_reached : xMt := (yX4_reached, 4, cX4_reached, 8, (some .int), 1)
def mX4_refuses : xMt := (yX4_refuses, 4, cX4_refuses, 2, (some .int), 1)
def mX4_row : xMt := (yX4_row, 4, cX4_row, 2, (some .int), 1)
def mJ0_indexOf_7cf53 : xMt := (yJ0_indexOf_7cf53, 5, cJ0_indexOf_7cf53, 3, (some .int), 2)
def mJ1_charAt_3b067 : xMt := (yJ1_charAt_3b067, 6, cJ1_charAt_3b067, 2, (some .char), 2)
def mX0_attach : xMt := (yX0_attach, 0, cX0_attach, 3, (some .int), 2)
def mX0_cloneFor : xMt := (yX0_cloneFor, 0, cX0_cloneFor, 4, (some .int), 2)
def mX0_mendEntries : xMt := (yX0_mendEntries, 0, cX0_mendEntries, 7, none, 2)
def mX1_lengthAt : xMt := (yX1_lengthAt, 1, cX1_lengthAt, 2, (some .int), 2)
def mX1_pairAt : xMt := (yX1_pairAt, 1, cX1_pairAt, 2, (some .int), 2)
def mX2_blocksOf : xMt := (yX2_blocksOf, 2, cX2_blocksOf, 4, (some .int), 2)
def mX2_blocksShared : xMt := (yX2_blocksShared, 2, cX2_blocksShared, 6, (some .int), 2)
def mX2_depthOf : xMt := (yX2_depthOf, 2, cX2_depthOf, 4, (some .int), 2)
def mX2_reachedFrom : xMt := (yX2_reachedFrom, 2, cX2_reachedFrom, 5, (some .int), 2)
def mX3_count : xMt := (yX3_count, 3, cX3_count, 2, (some .int), 2)
def mX3_image : xMt := (yX3_image, 3, cX3_image, 1, (some .int), 2)
def mX3_on : xMt := (yX3_on, 3, cX3_on, 1, (some .int), 2)
def mX4_block : xMt := (yX4_block, 4, cX4_block, 3, (some .int), 2)
def mX4_blocksOf : xMt := (yX4_blocksOf, 4, cX4_blocksOf, 5, (some .int), 2)
def mX4_countsLinks : xMt := (yX4_countsLinks, 4, cX4_countsLinks, 3, none, 2)
def mX4_digit : xMt := (yX4_digit, 4, cX4_digit, 1, (some .int), 2)
def mX4_empties : xMt := (yX4_empties, 4, cX4_empties, 3, (some .int), 2)
def mX4_enters : xMt := (yX4_enters, 4, cX4_enters, 5, (some .int), 2)
def mX4_inode : xMt := (yX4_inode, 4, cX4_inode, 5, (some .int), 2)
def mX4_kind : xMt := (yX4_kind, 4, cX4_kind, 3, (some .int), 2)
def mX4_links : xMt := (yX4_links, 4, cX4_links, 5, (some .int), 2)
def mX4_lone : xMt := (yX4_lone, 4, cX4_lone, 7, (some .int), 2)
def mX4_looksAtPointer : xMt := (yX4_looksAtPointer, 4, cX4_looksAtPointer, 6, none, 2)
def mX4_looksAtSlot : xMt := (yX4_looksAtSlot, 4, cX4_looksAtSlot, 6, none, 2)
def mX4_marks : xMt := (yX4_marks, 4, cX4_marks, 4, (some .int), 2)
def mX4_pointer : xMt := (yX4_pointer, 4, cX4_pointer, 3, (some .int), 2)
def mX4_points : xMt := (yX4_points, 4, cX4_points, 4, (some .int), 2)
def mX4_shared : xMt := (yX4_shared, 4, cX4_shared, 4, (some .int), 2)
def mX4_slot : xMt := (yX4_slot, 4, cX4_slot, 3, (some .int), 2)
def mX4_writes : xMt := (yX4_writes, 4, cX4_writes, 3, (some .int), 2)
def mJ0_charAt_5068e : xMt := (yJ0_charAt_5068e, 5, cJ0_charAt_5068e, 2, (some .char), 3)
def mJ0_indexOf_0f7a4 : xMt := (yJ0_indexOf_0f7a4, 5, cJ0_indexOf_0f7a4, 2, (some .int), 3)
def mX0_mendConnections : xMt := (yX0_mendConnections, 0, cX0_mendConnections, 6, none, 3)
def mX0_mendCounts : xMt := (yX0_mendCounts, 0, cX0_mendCounts, 5, none, 3)
def mX0_mendPointers : xMt := (yX0_mendPointers, 0, cX0_mendPointers, 6, none, 3)
def mX1_stands : xMt := (yX1_stands, 1, cX1_stands, 2, (some .boolean), 3)
def mX2_blocksBelow : xMt := (yX2_blocksBelow, 2, cX2_blocksBelow, 5, (some .int), 3)
def mX2_inodesBelow : xMt := (yX2_inodesBelow, 2, cX2_inodesBelow, 2, (some .int), 3)
def mX3_shared : xMt := (yX3_shared, 3, cX3_shared, 2, (some .int), 3)
def mX4_blocksBelow : xMt := (yX4_blocksBelow, 4, cX4_blocksBelow, 2, (some .int), 3)
def mX4_connects : xMt := (yX4_connects, 4, cX4_connects, 4, none, 3)
def mX4_count : xMt := (yX4_count, 4, cX4_count, 2, (some .int), 3)
def mX4_twoDigits : xMt := (yX4_twoDigits, 4, cX4_twoDigits, 2, (some .int), 3)
def mX0_run : xMt := (yX0_run, 0, cX0_run, 3, none, 4)
def mX1_fits : xMt := (yX1_fits, 1, cX1_fits, 2, (some .boolean), 4)
def mX1_kindAt : xMt := (yX1_kindAt, 1, cX1_kindAt, 2, (some .int), 4)
def mX1_placeOfWrongStatement : xMt := (yX1_placeOfWrongStatement, 1, cX1_placeOfWrongStatement, 3, (some .int), 4)
def mX3_inodeBySize : xMt := (yX3_inodeBySize, 3, cX3_inodeBySize, 8, (some .int), 4)
def mX4_checks : xMt := (yX4_checks, 4, cX4_checks, 2, (some .int), 4)
def mX4_kindLetter : xMt := (yX4_kindLetter, 4, cX4_kindLetter, 4, (some .int), 4)
def mX4_thenOf : xMt := (yX4_thenOf, 4, cX4_thenOf, 3, (some .int), 4)
def mX1_wrongLetterOf : xMt := (yX1_wrongLetterOf, 1, cX1_wrongLetterOf, 6, (some .int), 5)
def mX3_carryOut : xMt := (yX3_carryOut, 3, cX3_carryOut, 5, none, 5)
def mX3_check : xMt := (yX3_check, 3, cX3_check, 1, (some .int), 5)
def mX3_judge : xMt := (yX3_judge, 3, cX3_judge, 3, (some .int), 5)
def mX3_largest : xMt := (yX3_largest, 3, cX3_largest, 2, (some .int), 5)
def mX3_leftWithout : xMt := (yX3_leftWithout, 3, cX3_leftWithout, 3, (some .int), 5)
def mX3_loses : xMt := (yX3_loses, 3, cX3_loses, 3, (some .int), 5)
def mX3_lots : xMt := (yX3_lots, 3, cX3_lots, 7, (some .int), 5)
def mX3_mend : xMt := (yX3_mend, 3, cX3_mend, 5, (some .int), 5)
def mX3_pointerThen : xMt := (yX3_pointerThen, 3, cX3_pointerThen, 3, (some .int), 5)
def mX3_question : xMt := (yX3_question, 3, cX3_question, 3, (some .int), 5)
def mX3_questions : xMt := (yX3_questions, 3, cX3_questions, 2, (some .int), 5)
def mX3_reasons : xMt := (yX3_reasons, 3, cX3_reasons, 3, (some .int), 5)
def mX3_second : xMt := (yX3_second, 3, cX3_second, 1, (some .int), 5)
def mX3_slotThen : xMt := (yX3_slotThen, 3, cX3_slotThen, 3, (some .int), 5)
def mX3_sound : xMt := (yX3_sound, 3, cX3_sound, 1, (some .int), 5)
def mX3_then : xMt := (yX3_then, 3, cX3_then, 4, (some .int), 5)
def mX3_whatIs : xMt := (yX3_whatIs, 3, cX3_whatIs, 6, (some .int), 5)
def mX3_worst : xMt := (yX3_worst, 3, cX3_worst, 5, (some .int), 5)
def mX4_check : xMt := (yX4_check, 4, cX4_check, 1, (some .int), 5)
def mX4_damage : xMt := (yX4_damage, 4, cX4_damage, 13, (some .long), 5)
def mX4_isSo : xMt := (yX4_isSo, 4, cX4_isSo, 4, (some .boolean), 5)
def mX4_judge : xMt := (yX4_judge, 4, cX4_judge, 3, (some .int), 5)
def mX4_largest : xMt := (yX4_largest, 4, cX4_largest, 7, (some .int), 5)
def mX4_loses : xMt := (yX4_loses, 4, cX4_loses, 7, (some .int), 5)
def mX4_lots : xMt := (yX4_lots, 4, cX4_lots, 8, (some .int), 5)
def mX4_mend : xMt := (yX4_mend, 4, cX4_mend, 6, (some .int), 5)
def mX4_pointerThen : xMt := (yX4_pointerThen, 4, cX4_pointerThen, 4, (some .int), 5)
def mX4_second : xMt := (yX4_second, 4, cX4_second, 2, (some .int), 5)
def mX4_slotThen : xMt := (yX4_slotThen, 4, cX4_slotThen, 4, (some .int), 5)
def mX4_states : xMt := (yX4_states, 4, cX4_states, 8, none, 5)
def mX4_then : xMt := (yX4_then, 4, cX4_then, 4, (some .int), 5)
def mX4_thinks : xMt := (yX4_thinks, 4, cX4_thinks, 1, none, 5)
def mX1_placeOfWrongLetter : xMt := (yX1_placeOfWrongLetter, 1, cX1_placeOfWrongLetter, 4, (some .int), 6)
def mX3_damage : xMt := (yX3_damage, 3, cX3_damage, 7, (some .long), 6)
def mX4_goesThrough : xMt := (yX4_goesThrough, 4, cX4_goesThrough, 3, (some .int), 6)
def mX4_question : xMt := (yX4_question, 4, cX4_question, 3, (some .int), 6)
def mX4_questions : xMt := (yX4_questions, 4, cX4_questions, 2, (some .int), 6)
def mX4_reasons : xMt := (yX4_reasons, 4, cX4_reasons, 3, (some .int), 6)
def mX4_sound : xMt := (yX4_sound, 4, cX4_sound, 1, (some .int), 6)
def mX4_whatIs : xMt := (yX4_whatIs, 4, cX4_whatIs, 5, (some .int), 6)
def mX4_worst : xMt := (yX4_worst, 4, cX4_worst, 4, (some .int), 6)
def mX1_fault : xMt := (yX1_fault, 1, cX1_fault, 2, (some .int), 7)
def mX4_volume : xMt := (yX4_volume, 4, cX4_volume, 3, (some .int), 7)
def mX3_volume : xMt := (yX3_volume, 3, cX3_volume, 4, (some .int), 8)
theorem okJ0_coder_7d493 : xMok mJ0_coder_7d493 0 := ⟨xTbl_in 288 (by decide +kernel) rfl, xTbl_in 78 (by decide +kernel) rfl, ⟨by decide +kernel, by decide +kernel, by decide +kernel⟩, by decide⟩
theorem mvJ0_coder_7d493 : xMv mJ0_coder_7d493 := ⟨xTbl_in 286 (by decide +kernel) rfl, xTbl_in 287 (by decide +kernel) rfl⟩
theorem okJ0_isLatin1_aae02 : xMok mJ0_isLatin1_aae02 0 := ⟨xTbl_in 278 (by decide +kernel) rfl, xTbl_in 78 (by decide +kernel) rfl, ⟨by decide +kernel, by decide +kernel, by decide +kernel⟩, by decide⟩
theorem mvJ0_isLatin1_aae02 : xMv mJ0_isLatin1_aae02 := ⟨xTbl_in 276 (by decide +kernel) rfl, xTbl_in 277 (by decide +kernel) rfl⟩
theorem okJ1_canEncode_9a6ad : xMok mJ1_canEncode_9a6ad 1 := ⟨xTbl_in 294 (by decide +kernel) rfl, xTbl_in 79 (by decide +kernel) rfl, ⟨by decide +kernel, by decide +kernel, by decide +kernel⟩, by decide⟩
theorem mvJ1_canEncode_9a6ad : Cond.static (xmy mJ1_canEncode_9a6ad) ∈ xTbl := xTbl_in 293 (by decide +kernel) rfl
theorem okJ1_indexOfChar_4cfef : xMok mJ1_indexOfChar_4cfef 4 := ⟨xTbl_in 303 (by decide +kernel) rfl, xTbl_in 79 (by decide +kernel) rfl, ⟨by decide +kernel, by decide +kernel, by decide +kernel⟩, by decide⟩
theorem mvJ1_indexOfChar_4cfef : Cond.static (xmy mJ1_indexOfChar_4cfef) ∈ xTbl := xTbl_in 302 (by decide +kernel) rfl
theorem okJ3_checkIndex_8e157 : xMok mJ3_checkIndex_8e157 3 := ⟨xTbl_in 375 (by decide +kernel) rfl, xTbl_in 82 (by decide +kernel) rfl, ⟨by decide +kernel, by decide +kernel, by decide +kernel⟩, by decide⟩
theorem mvJ3_checkIndex_8e157 : Cond.static (xmy mJ3_checkIndex_8e157) ∈ xTbl := xTbl_in 374 (by decide +kernel) rfl
theorem okJ6_bitCount_0f7a4 : xMok mJ6_bitCount_0f7a4 1 := ⟨xTbl_in 666 (by decide +kernel) rfl, xTbl_in 85 (by decide +kernel) rfl, ⟨by decide +kernel, by decide +kernel, by decide +kernel⟩, by decide⟩
theorem mvJ6_bitCount_0f7a4 : Cond.static (xmy mJ6_bitCount_0f7a4) ∈ xTbl := xTbl_in 665 (by decide +kernel) rfl
theorem okJ6_numberOfTrailingZeros_0f7a4 : xMok mJ6_numberOfTrailingZeros_0f7a4 1 := ⟨xTbl_in 477 (by decide +kernel) rfl, xTbl_in 85 (by decide +kernel) rfl, ⟨by decide +kernel, by decide +kernel, by decide +kernel⟩, by decide⟩
theorem mvJ6_numberOfTrailingZeros_0f7a4 : Cond.static (xmy mJ6_numberOfTrailingZeros_0f7a4) ∈ xTbl := xTbl_in 476 (by decide +kernel) rfl
theorem okJ7_fill_53178 : xMok mJ7_fill_53178 2 := ⟨xTbl_in 102 (by decide +kernel) rfl, xTbl_in 74 (by decide +kernel) rfl, ⟨by decide +kernel, by decide +kernel, by decide +kernel⟩, by decide⟩
theorem mvJ7_fill_53178 : Cond.static (xmy mJ7_fill_53178) ∈ xTbl := xTbl_in 101 (by decide +kernel) rfl
theorem okX0_askedFor : xMok mX0_askedFor 1 := ⟨xTbl_in 638 (by decide +kernel) rfl, xTbl_in 75 (by decide +kernel) rfl, ⟨by decide +kernel, by decide +kernel, by decide +kernel⟩, by decide⟩
theorem mvX0_askedFor : xMv mX0_askedFor := ⟨xTbl_in 636 (by decide +kernel) rfl, xTbl_in 637 (by decide +kernel) rfl⟩
theorem okX0_asks : xMok mX0_asks 3 := ⟨xTbl_in 452 (by decide +kernel) rfl, xTbl_in 75 (by decide +kernel) rfl, ⟨by decide +kernel, by decide +kernel, by decide +kernel⟩, by decide⟩
theorem mvX0_asks : xMv mX0_asks := ⟨xTbl_in 451 (by decide +kernel) rfl, xTbl_in 7 (by decide +kernel) rfl⟩
theorem okX0_faultOfPointer : xMok mX0_faultOfPointer 3 := ⟨xTbl_in 460 (by decide +kernel) rfl, xTbl_in 75 (by decide +kernel) rfl, ⟨by decide +kernel, by decide +kernel, by decide +kernel⟩, by decide⟩
theorem mvX0_faultOfPointer : xMv mX0_faultOfPointer := ⟨xTbl_in 459 (by decide +kernel) rfl, xTbl_in 8 (by decide +kernel) rfl⟩
theorem okX1_append : xMok mX1_append 1 := ⟨xTbl_in 245 (by decide +kernel) rfl, xTbl_in 76 (by decide +kernel) rfl, ⟨by decide +kernel, by decide +kernel, by decide +kernel⟩, by decide⟩
theorem mvX1_append : xMv mX1_append := ⟨xTbl_in 243 (by decide +kernel) rfl, xTbl_in 244 (by decide +kernel) rfl⟩
theorem okX1_shapeOf : xMok mX1_shapeOf 1 := ⟨xTbl_in 355 (by decide +kernel) rfl, xTbl_in 76 (by decide +kernel) rfl, ⟨by decide +kernel, by decide +kernel, by decide +kernel⟩, by decide⟩
theorem mvX1_shapeOf : Cond.static (xmy mX1_shapeOf) ∈ xTbl := xTbl_in 354 (by decide +kernel) rfl
theorem okX1_signAt : xMok mX1_signAt 1 := ⟨xTbl_in 266 (by decide +kernel) rfl, xTbl_in 76 (by decide +kernel) rfl, ⟨by decide +kernel, by decide +kernel, by decide +kernel⟩, by decide⟩
theorem mvX1_signAt : xMv mX1_signAt := ⟨xTbl_in 264 (by decide +kernel) rfl, xTbl_in 265 (by decide +kernel) rfl⟩
theorem okX2_blocksPointedAt : xMok mX2_blocksPointedAt 0 := ⟨xTbl_in 474 (by decide +kernel) rfl, xTbl_in 73 (by decide +kernel) rfl, ⟨by decide +kernel, by decide +kernel, by decide +kernel⟩, by decide⟩
theorem mvX2_blocksPointedAt : xMv mX2_blocksPointedAt := ⟨xTbl_in 472 (by decide +kernel) rfl, xTbl_in 473 (by decide +kernel) rfl⟩
theorem okX2_emptySlotOf : xMok mX2_emptySlotOf 1 := ⟨xTbl_in 534 (by decide +kernel) rfl, xTbl_in 73 (by decide +kernel) rfl, ⟨by decide +kernel, by decide +kernel, by decide +kernel⟩, by decide⟩
theorem mvX2_emptySlotOf : xMv mX2_emptySlotOf := ⟨xTbl_in 532 (by decide +kernel) rfl, xTbl_in 533 (by decide +kernel) rfl⟩
theorem okX2_enter : xMok mX2_enter 4 := ⟨xTbl_in 429 (by decide +kernel) rfl, xTbl_in 73 (by decide +kernel) rfl, ⟨by decide +kernel, by decide +kernel, by decide +kernel⟩, by decide⟩
theorem mvX2_enter : xMv mX2_enter := ⟨xTbl_in 427 (by decide +kernel) rfl, xTbl_in 428 (by decide +kernel) rfl⟩
theorem okX2_enteredBy : xMok mX2_enteredBy 1 := ⟨xTbl_in 516 (by decide +kernel) rfl, xTbl_in 73 (by decide +kernel) rfl, ⟨by decide +kernel, by decide +kernel, by decide +kernel⟩, by decide⟩
theorem mvX2_enteredBy : xMv mX2_enteredBy := ⟨xTbl_in 514 (by decide +kernel) rfl, xTbl_in 515 (by decide +kernel) rfl⟩
theorem okX2_entriesIn : xMok mX2_entriesIn 1 := ⟨xTbl_in 577 (by decide +kernel) rfl, xTbl_in 73 (by decide +kernel) rfl, ⟨by decide +kernel, by decide +kernel, by decide +kernel⟩, by decide⟩
theorem mvX2_entriesIn : xMv mX2_entriesIn := ⟨xTbl_in 575 (by decide +kernel) rfl, xTbl_in 576 (by decide +kernel) rfl⟩
theorem okX2_inodesInUse : xMok mX2_inodesInUse 0 := ⟨xTbl_in 563 (by decide +kernel) rfl, xTbl_in 73 (by decide +kernel) rfl, ⟨by decide +kernel, by decide +kernel, by decide +kernel⟩, by decide⟩
theorem mvX2_inodesInUse : xMv mX2_inodesInUse := ⟨xTbl_in 561 (by decide +kernel) rfl, xTbl_in 562 (by decide +kernel) rfl⟩
theorem okX2_isDirectory : xMok mX2_isDirectory 1 := ⟨xTbl_in 448 (by decide +kernel) rfl, xTbl_in 73 (by decide +kernel) rfl, ⟨by decide +kernel, by decide +kernel, by decide +kernel⟩, by decide⟩
theorem mvX2_isDirectory : xMv mX2_isDirectory := ⟨xTbl_in 446 (by decide +kernel) rfl, xTbl_in 447 (by decide +kernel) rfl⟩
theorem okX2_placeOfEntryTo : xMok mX2_placeOfEntryTo 1 := ⟨xTbl_in 526 (by decide +kernel) rfl, xTbl_in 73 (by decide +kernel) rfl, ⟨by decide +kernel, by decide +kernel, by decide +kernel⟩, by decide⟩
theorem mvX2_placeOfEntryTo : xMv mX2_placeOfEntryTo := ⟨xTbl_in 524 (by decide +kernel) rfl, xTbl_in 525 (by decide +kernel) rfl⟩
theorem okX2_pointAt : xMok mX2_pointAt 3 := ⟨xTbl_in 421 (by decide +kernel) rfl, xTbl_in 73 (by decide +kernel) rfl, ⟨by decide +kernel, by decide +kernel, by decide +kernel⟩, by decide⟩
theorem mvX2_pointAt : xMv mX2_pointAt := ⟨xTbl_in 419 (by decide +kernel) rfl, xTbl_in 420 (by decide +kernel) rfl⟩
theorem okX2_pointersTo : xMok mX2_pointersTo 1 := ⟨xTbl_in 593 (by decide +kernel) rfl, xTbl_in 73 (by decide +kernel) rfl, ⟨by decide +kernel, by decide +kernel, by decide +kernel⟩, by decide⟩
theorem mvX2_pointersTo : xMv mX2_pointersTo := ⟨xTbl_in 591 (by decide +kernel) rfl, xTbl_in 592 (by decide +kernel) rfl⟩
theorem okX2_wipe : xMok mX2_wipe 1 := ⟨xTbl_in 456 (by decide +kernel) rfl, xTbl_in 73 (by decide +kernel) rfl, ⟨by decide +kernel, by decide +kernel, by decide +kernel⟩, by decide⟩
theorem mvX2_wipe : xMv mX2_wipe := ⟨xTbl_in 454 (by decide +kernel) rfl, xTbl_in 455 (by decide +kernel) rfl⟩
theorem okX3_clear : xMok mX3_clear 0 := ⟨xTbl_in 770 (by decide +kernel) rfl, xTbl_in 72 (by decide +kernel) rfl, ⟨by decide +kernel, by decide +kernel, by decide +kernel⟩, by decide⟩
theorem mvX3_clear : xMv mX3_clear := ⟨xTbl_in 768 (by decide +kernel) rfl, xTbl_in 769 (by decide +kernel) rfl⟩
theorem okX3_draw : xMok mX3_draw 1 := ⟨xTbl_in 782 (by decide +kernel) rfl, xTbl_in 72 (by decide +kernel) rfl, ⟨by decide +kernel, by decide +kernel, by decide +kernel⟩, by decide⟩
theorem mvX3_draw : xMv mX3_draw := ⟨xTbl_in 781 (by decide +kernel) rfl, xTbl_in 21 (by decide +kernel) rfl⟩
theorem okX3_isOutside : xMok mX3_isOutside 2 := ⟨xTbl_in 485 (by decide +kernel) rfl, xTbl_in 72 (by decide +kernel) rfl, ⟨by decide +kernel, by decide +kernel, by decide +kernel⟩, by decide⟩
theorem mvX3_isOutside : Cond.static (xmy mX3_isOutside) ∈ xTbl := xTbl_in 484 (by decide +kernel) rfl
theorem okX3_partOfFraction : xMok mX3_partOfFraction 3 := ⟨xTbl_in 743 (by decide +kernel) rfl, xTbl_in 72 (by decide +kernel) rfl, ⟨by decide +kernel, by decide +kernel, by decide +kernel⟩, by decide⟩
theorem mvX3_partOfFraction : Cond.static (xmy mX3_partOfFraction) ∈ xTbl := xTbl_in 742 (by decide +kernel) rfl
theorem okX3_power : xMok mX3_power 2 := ⟨xTbl_in 740 (by decide +kernel) rfl, xTbl_in 72 (by decide +kernel) rfl, ⟨by decide +kernel, by decide +kernel, by decide +kernel⟩, by decide⟩
theorem mvX3_power : Cond.static (xmy mX3_power) ∈ xTbl := xTbl_in 739 (by decide +kernel) rfl
theorem okX3_refusal : xMok mX3_refusal 1 := ⟨xTbl_in 241 (by decide +kernel) rfl, xTbl_in 72 (by decide +kernel) rfl, ⟨by decide +kernel, by decide +kernel, by decide +kernel⟩, by decide⟩
theorem mvX3_refusal : xMv mX3_refusal := ⟨xTbl_in 240 (by decide +kernel) rfl, xTbl_in 0 (by decide +kernel) rfl⟩
theorem okX3_rowIsAsked : xMok mX3_rowIsAsked 0 := ⟨xTbl_in 758 (by decide +kernel) rfl, xTbl_in 72 (by decide +kernel) rfl, ⟨by decide +kernel, by decide +kernel, by decide +kernel⟩, by decide⟩
theorem mvX3_rowIsAsked : xMv mX3_rowIsAsked := ⟨xTbl_in 757 (by decide +kernel) rfl, xTbl_in 19 (by decide +kernel) rfl⟩
theorem okX4_asks : xMok mX4_asks 3 := ⟨xTbl_in 919 (by decide +kernel) rfl, xTbl_in 77 (by decide +kernel) rfl, ⟨by decide +kernel, by decide +kernel, by decide +kernel⟩, by decide⟩
theorem mvX4_asks : xMv mX4_asks := ⟨xTbl_in 918 (by decide +kernel) rfl, xTbl_in 33 (by decide +kernel) rfl⟩
theorem okX4_becomes : xMok mX4_becomes 2 := ⟨xTbl_in 997 (by decide +kernel) rfl, xTbl_in 77 (by decide +kernel) rfl, ⟨by decide +kernel, by decide +kernel, by decide +kernel⟩, by decide⟩
theorem mvX4_becomes : xMv mX4_becomes := ⟨xTbl_in 996 (by decide +kernel) rfl, xTbl_in 51 (by decide +kernel) rfl⟩
theorem okX4_clear : xMok mX4_clear 0 := ⟨xTbl_in 1202 (by decide +kernel) rfl, xTbl_in 77 (by decide +kernel) rfl, ⟨by decide +kernel, by decide +kernel, by decide +kernel⟩, by decide⟩
theorem mvX4_clear : xMv mX4_clear := ⟨xTbl_in 1200 (by decide +kernel) rfl, xTbl_in 1201 (by decide +kernel) rfl⟩
theorem okX4_countOf : xMok mX4_countOf 1 := ⟨xTbl_in 1118 (by decide +kernel) rfl, xTbl_in 77 (by decide +kernel) rfl, ⟨by decide +kernel, by decide +kernel, by decide +kernel⟩, by decide⟩
theorem mvX4_countOf : Cond.static (xmy mX4_countOf) ∈ xTbl := xTbl_in 1117 (by decide +kernel) rfl
theorem okX4_depthOf : xMok mX4_depthOf 1 := ⟨xTbl_in 1115 (by decide +kernel) rfl, xTbl_in 77 (by decide +kernel) rfl, ⟨by decide +kernel, by decide +kernel, by decide +kernel⟩, by decide⟩
theorem mvX4_depthOf : xMv mX4_depthOf := ⟨xTbl_in 1114 (by decide +kernel) rfl, xTbl_in 61 (by decide +kernel) rfl⟩
theorem okX4_drawn : xMok mX4_drawn 1 := ⟨xTbl_in 1214 (by decide +kernel) rfl, xTbl_in 77 (by decide +kernel) rfl, ⟨by decide +kernel, by decide +kernel, by decide +kernel⟩, by decide⟩
theorem mvX4_drawn : xMv mX4_drawn := ⟨xTbl_in 1213 (by decide +kernel) rfl, xTbl_in 69 (by decide +kernel) rfl⟩
theorem okX4_entries : xMok mX4_entries 0 := ⟨xTbl_in 1150 (by decide +kernel) rfl, xTbl_in 77 (by decide +kernel) rfl, ⟨by decide +kernel, by decide +kernel, by decide +kernel⟩, by decide⟩
theorem mvX4_entries : xMv mX4_entries := ⟨xTbl_in 1149 (by decide +kernel) rfl, xTbl_in 64 (by decide +kernel) rfl⟩
theorem okX4_goesBack : xMok mX4_goesBack 0 := ⟨xTbl_in 1087 (by decide +kernel) rfl, xTbl_in 77 (by decide +kernel) rfl, ⟨by decide +kernel, by decide +kernel, by decide +kernel⟩, by decide⟩
theorem mvX4_goesBack : xMv mX4_goesBack := ⟨xTbl_in 1086 (by decide +kernel) rfl, xTbl_in 58 (by decide +kernel) rfl⟩
theorem okX4_here : xMok mX4_here 0 := ⟨xTbl_in 882 (by decide +kernel) rfl, xTbl_in 77 (by decide +kernel) rfl, ⟨by decide +kernel, by decide +kernel, by decide +kernel⟩, by decide⟩
theorem mvX4_here : xMv mX4_here := ⟨xTbl_in 881 (by decide +kernel) rfl, xTbl_in 25 (by decide +kernel) rfl⟩
theorem okX4_holds : xMok mX4_holds 1 := ⟨xTbl_in 930 (by decide +kernel) rfl, xTbl_in 77 (by decide +kernel) rfl, ⟨by decide +kernel, by decide +kernel, by decide +kernel⟩, by decide⟩
theorem mvX4_holds : Cond.static (xmy mX4_holds) ∈ xTbl := xTbl_in 929 (by decide +kernel) rfl
theorem okX4_in : xMok mX4_in 3 := ⟨xTbl_in 893 (by decide +kernel) rfl, xTbl_in 77 (by decide +kernel) rfl, ⟨by decide +kernel, by decide +kernel, by decide +kernel⟩, by decide⟩
theorem mvX4_in : Cond.static (xmy mX4_in) ∈ xTbl := xTbl_in 892 (by decide +kernel) rfl
theorem okX4_inodes : xMok mX4_inodes 0 := ⟨xTbl_in 1175 (by decide +kernel) rfl, xTbl_in 77 (by decide +kernel) rfl, ⟨by decide +kernel, by decide +kernel, by decide +kernel⟩, by decide⟩
theorem mvX4_inodes : xMv mX4_inodes := ⟨xTbl_in 1174 (by decide +kernel) rfl, xTbl_in 66 (by decide +kernel) rfl⟩
theorem okX4_isDirectory : xMok mX4_isDirectory 1 := ⟨xTbl_in 915 (by decide +kernel) rfl, xTbl_in 77 (by decide +kernel) rfl, ⟨by decide +kernel, by decide +kernel, by decide +kernel⟩, by decide⟩
theorem mvX4_isDirectory : xMv mX4_isDirectory := ⟨xTbl_in 914 (by decide +kernel) rfl, xTbl_in 32 (by decide +kernel) rfl⟩
theorem okX4_isEntryTo : xMok mX4_isEntryTo 2 := ⟨xTbl_in 965 (by decide +kernel) rfl, xTbl_in 77 (by decide +kernel) rfl, ⟨by decide +kernel, by decide +kernel, by decide +kernel⟩, by decide⟩
theorem mvX4_isEntryTo : xMv mX4_isEntryTo := ⟨xTbl_in 964 (by decide +kernel) rfl, xTbl_in 43 (by decide +kernel) rfl⟩
theorem okX4_isNamedAhead : xMok mX4_isNamedAhead 2 := ⟨xTbl_in 957 (by decide +kernel) rfl, xTbl_in 77 (by decide +kernel) rfl, ⟨by decide +kernel, by decide +kernel, by decide +kernel⟩, by decide⟩
theorem mvX4_isNamedAhead : xMv mX4_isNamedAhead := ⟨xTbl_in 956 (by decide +kernel) rfl, xTbl_in 41 (by decide +kernel) rfl⟩
theorem okX4_isRefused : xMok mX4_isRefused 1 := ⟨xTbl_in 934 (by decide +kernel) rfl, xTbl_in 77 (by decide +kernel) rfl, ⟨by decide +kernel, by decide +kernel, by decide +kernel⟩, by decide⟩
theorem mvX4_isRefused : xMv mX4_isRefused := ⟨xTbl_in 933 (by decide +kernel) rfl, xTbl_in 36 (by decide +kernel) rfl⟩
theorem okX4_isSharedAhead : xMok mX4_isSharedAhead 1 := ⟨xTbl_in 938 (by decide +kernel) rfl, xTbl_in 77 (by decide +kernel) rfl, ⟨by decide +kernel, by decide +kernel, by decide +kernel⟩, by decide⟩
theorem mvX4_isSharedAhead : xMv mX4_isSharedAhead := ⟨xTbl_in 937 (by decide +kernel) rfl, xTbl_in 37 (by decide +kernel) rfl⟩
theorem okX4_keeps : xMok mX4_keeps 0 := ⟨xTbl_in 1083 (by decide +kernel) rfl, xTbl_in 77 (by decide +kernel) rfl, ⟨by decide +kernel, by decide +kernel, by decide +kernel⟩, by decide⟩
theorem mvX4_keeps : xMv mX4_keeps := ⟨xTbl_in 1082 (by decide +kernel) rfl, xTbl_in 57 (by decide +kernel) rfl⟩
theorem okX4_leastName : xMok mX4_leastName 0 := ⟨xTbl_in 993 (by decide +kernel) rfl, xTbl_in 77 (by decide +kernel) rfl, ⟨by decide +kernel, by decide +kernel, by decide +kernel⟩, by decide⟩
theorem mvX4_leastName : xMv mX4_leastName := ⟨xTbl_in 992 (by decide +kernel) rfl, xTbl_in 50 (by decide +kernel) rfl⟩
theorem okX4_lists : xMok mX4_lists 1 := ⟨xTbl_in 953 (by decide +kernel) rfl, xTbl_in 77 (by decide +kernel) rfl, ⟨by decide +kernel, by decide +kernel, by decide +kernel⟩, by decide⟩
theorem mvX4_lists : Cond.static (xmy mX4_lists) ∈ xTbl := xTbl_in 952 (by decide +kernel) rfl
theorem okX4_lowest : xMok mX4_lowest 3 := ⟨xTbl_in 1178 (by decide +kernel) rfl, xTbl_in 77 (by decide +kernel) rfl, ⟨by decide +kernel, by decide +kernel, by decide +kernel⟩, by decide⟩
theorem mvX4_lowest : Cond.static (xmy mX4_lowest) ∈ xTbl := xTbl_in 1177 (by decide +kernel) rfl
theorem okX4_manyOf : xMok mX4_manyOf 1 := ⟨xTbl_in 1091 (by decide +kernel) rfl, xTbl_in 77 (by decide +kernel) rfl, ⟨by decide +kernel, by decide +kernel, by decide +kernel⟩, by decide⟩
theorem mvX4_manyOf : xMv mX4_manyOf := ⟨xTbl_in 1090 (by decide +kernel) rfl, xTbl_in 59 (by decide +kernel) rfl⟩
theorem okX4_must : xMok mX4_must 2 := ⟨xTbl_in 907 (by decide +kernel) rfl, xTbl_in 77 (by decide +kernel) rfl, ⟨by decide +kernel, by decide +kernel, by decide +kernel⟩, by decide⟩
theorem mvX4_must : xMv mX4_must := ⟨xTbl_in 906 (by decide +kernel) rfl, xTbl_in 30 (by decide +kernel) rfl⟩
theorem okX4_pointerOf : xMok mX4_pointerOf 2 := ⟨xTbl_in 1020 (by decide +kernel) rfl, xTbl_in 77 (by decide +kernel) rfl, ⟨by decide +kernel, by decide +kernel, by decide +kernel⟩, by decide⟩
theorem mvX4_pointerOf : xMv mX4_pointerOf := ⟨xTbl_in 1019 (by decide +kernel) rfl, xTbl_in 54 (by decide +kernel) rfl⟩
theorem okX4_pointersTo : xMok mX4_pointersTo 1 := ⟨xTbl_in 946 (by decide +kernel) rfl, xTbl_in 77 (by decide +kernel) rfl, ⟨by decide +kernel, by decide +kernel, by decide +kernel⟩, by decide⟩
theorem mvX4_pointersTo : xMv mX4_pointersTo := ⟨xTbl_in 945 (by decide +kernel) rfl, xTbl_in 39 (by decide +kernel) rfl⟩
theorem okX4_refused : xMok mX4_refused 1 := ⟨xTbl_in 866 (by decide +kernel) rfl, xTbl_in 77 (by decide +kernel) rfl, ⟨by decide +kernel, by decide +kernel, by decide +kernel⟩, by decide⟩
theorem mvX4_refused : xMv mX4_refused := ⟨xTbl_in 865 (by decide +kernel) rfl, xTbl_in 22 (by decide +kernel) rfl⟩
theorem okX4_refusedLong : xMok mX4_refusedLong 1 := ⟨xTbl_in 1170 (by decide +kernel) rfl, xTbl_in 77 (by decide +kernel) rfl, ⟨by decide +kernel, by decide +kernel, by decide +kernel⟩, by decide⟩
theorem mvX4_refusedLong : xMv mX4_refusedLong := ⟨xTbl_in 1169 (by decide +kernel) rfl, xTbl_in 65 (by decide +kernel) rfl⟩
theorem okX4_slotOf : xMok mX4_slotOf 2 := ⟨xTbl_in 1028 (by decide +kernel) rfl, xTbl_in 77 (by decide +kernel) rfl, ⟨by decide +kernel, by decide +kernel, by decide +kernel⟩, by decide⟩
theorem mvX4_slotOf : xMv mX4_slotOf := ⟨xTbl_in 1027 (by decide +kernel) rfl, xTbl_in 55 (by decide +kernel) rfl⟩
theorem okX4_wipes : xMok mX4_wipes 2 := ⟨xTbl_in 923 (by decide +kernel) rfl, xTbl_in 77 (by decide +kernel) rfl, ⟨by decide +kernel, by decide +kernel, by decide +kernel⟩, by decide⟩
theorem mvX4_wipes : xMv mX4_wipes := ⟨xTbl_in 922 (by decide +kernel) rfl, xTbl_in 34 (by decide +kernel) rfl⟩
theorem okJ0_checkIndex_df160 : xMok mJ0_checkIndex_df160 2 := ⟨xTbl_in 372 (by decide +kernel) rfl, xTbl_in 78 (by decide +kernel) rfl, ⟨by decide +kernel, by decide +kernel, by decide +kernel⟩, by decide⟩
theorem mvJ0_checkIndex_df160 : Cond.static (xmy mJ0_checkIndex_df160) ∈ xTbl := xTbl_in 371 (by decide +kernel) rfl
theorem okJ0_length_8abf5 : xMok mJ0_length_8abf5 0 := ⟨xTbl_in 284 (by decide +kernel) rfl, xTbl_in 78 (by decide +kernel) rfl, ⟨by decide +kernel, by decide +kernel, by decide +kernel⟩, by decide⟩
theorem mvJ0_length_8abf5 : xMv mJ0_length_8abf5 := ⟨xTbl_in 282 (by decide +kernel) rfl, xTbl_in 283 (by decide +kernel) rfl⟩
theorem okJ1_indexOf_4cfef : xMok mJ1_indexOf_4cfef 4 := ⟨xTbl_in 291 (by decide +kernel) rfl, xTbl_in 79 (by decide +kernel) rfl, ⟨by decide +kernel, by decide +kernel, by decide +kernel⟩, by decide⟩
theorem mvJ1_indexOf_4cfef : Cond.static (xmy mJ1_indexOf_4cfef) ∈ xTbl := xTbl_in 290 (by decide +kernel) rfl
theorem okX0_cutOff : xMok mX0_cutOff 1 := ⟨xTbl_in 522 (by decide +kernel) rfl, xTbl_in 75 (by decide +kernel) rfl, ⟨by decide +kernel, by decide +kernel, by decide +kernel⟩, by decide⟩
theorem mvX0_cutOff : xMv mX0_cutOff := ⟨xTbl_in 521 (by decide +kernel) rfl, xTbl_in 13 (by decide +kernel) rfl⟩
theorem okX0_faultOfEntry : xMok mX0_faultOfEntry 4 := ⟨xTbl_in 493 (by decide +kernel) rfl, xTbl_in 75 (by decide +kernel) rfl, ⟨by decide +kernel, by decide +kernel, by decide +kernel⟩, by decide⟩
theorem mvX0_faultOfEntry : xMv mX0_faultOfEntry := ⟨xTbl_in 492 (by decide +kernel) rfl, xTbl_in 11 (by decide +kernel) rfl⟩
theorem okX0_mendMaps : xMok mX0_mendMaps 0 := ⟨xTbl_in 558 (by decide +kernel) rfl, xTbl_in 75 (by decide +kernel) rfl, ⟨by decide +kernel, by decide +kernel, by decide +kernel⟩, by decide⟩
theorem mvX0_mendMaps : xMv mX0_mendMaps := ⟨xTbl_in 557 (by decide +kernel) rfl, xTbl_in 17 (by decide +kernel) rfl⟩
theorem okX0_mendParents : xMok mX0_mendParents 0 := ⟨xTbl_in 545 (by decide +kernel) rfl, xTbl_in 75 (by decide +kernel) rfl, ⟨by decide +kernel, by decide +kernel, by decide +kernel⟩, by decide⟩
theorem mvX0_mendParents : xMv mX0_mendParents := ⟨xTbl_in 544 (by decide +kernel) rfl, xTbl_in 15 (by decide +kernel) rfl⟩
theorem okX1_digitAt : xMok mX1_digitAt 1 := ⟨xTbl_in 402 (by decide +kernel) rfl, xTbl_in 76 (by decide +kernel) rfl, ⟨by decide +kernel, by decide +kernel, by decide +kernel⟩, by decide⟩
theorem mvX1_digitAt : xMv mX1_digitAt := ⟨xTbl_in 400 (by decide +kernel) rfl, xTbl_in 401 (by decide +kernel) rfl⟩
theorem okX1_nameAt : xMok mX1_nameAt 1 := ⟨xTbl_in 425 (by decide +kernel) rfl, xTbl_in 76 (by decide +kernel) rfl, ⟨by decide +kernel, by decide +kernel, by decide +kernel⟩, by decide⟩
theorem mvX1_nameAt : xMv mX1_nameAt := ⟨xTbl_in 423 (by decide +kernel) rfl, xTbl_in 424 (by decide +kernel) rfl⟩
theorem okX2_blockOf : xMok mX2_blockOf 2 := ⟨xTbl_in 482 (by decide +kernel) rfl, xTbl_in 73 (by decide +kernel) rfl, ⟨by decide +kernel, by decide +kernel, by decide +kernel⟩, by decide⟩
theorem mvX2_blockOf : xMv mX2_blockOf := ⟨xTbl_in 480 (by decide +kernel) rfl, xTbl_in 481 (by decide +kernel) rfl⟩
theorem okX2_countEntries : xMok mX2_countEntries 1 := ⟨xTbl_in 553 (by decide +kernel) rfl, xTbl_in 73 (by decide +kernel) rfl, ⟨by decide +kernel, by decide +kernel, by decide +kernel⟩, by decide⟩
theorem mvX2_countEntries : xMv mX2_countEntries := ⟨xTbl_in 551 (by decide +kernel) rfl, xTbl_in 552 (by decide +kernel) rfl⟩
theorem okX2_directories : xMok mX2_directories 0 := ⟨xTbl_in 503 (by decide +kernel) rfl, xTbl_in 73 (by decide +kernel) rfl, ⟨by decide +kernel, by decide +kernel, by decide +kernel⟩, by decide⟩
theorem mvX2_directories : xMv mX2_directories := ⟨xTbl_in 501 (by decide +kernel) rfl, xTbl_in 502 (by decide +kernel) rfl⟩
theorem okX2_enteredByThese : xMok mX2_enteredByThese 1 := ⟨xTbl_in 512 (by decide +kernel) rfl, xTbl_in 73 (by decide +kernel) rfl, ⟨by decide +kernel, by decide +kernel, by decide +kernel⟩, by decide⟩
theorem mvX2_enteredByThese : xMv mX2_enteredByThese := ⟨xTbl_in 510 (by decide +kernel) rfl, xTbl_in 511 (by decide +kernel) rfl⟩
theorem okX2_entriesInAll : xMok mX2_entriesInAll 0 := ⟨xTbl_in 708 (by decide +kernel) rfl, xTbl_in 73 (by decide +kernel) rfl, ⟨by decide +kernel, by decide +kernel, by decide +kernel⟩, by decide⟩
theorem mvX2_entriesInAll : xMv mX2_entriesInAll := ⟨xTbl_in 706 (by decide +kernel) rfl, xTbl_in 707 (by decide +kernel) rfl⟩
theorem okX2_freeBlock : xMok mX2_freeBlock 0 := ⟨xTbl_in 470 (by decide +kernel) rfl, xTbl_in 73 (by decide +kernel) rfl, ⟨by decide +kernel, by decide +kernel, by decide +kernel⟩, by decide⟩
theorem mvX2_freeBlock : xMv mX2_freeBlock := ⟨xTbl_in 468 (by decide +kernel) rfl, xTbl_in 469 (by decide +kernel) rfl⟩
theorem okX2_freeNameIn : xMok mX2_freeNameIn 1 := ⟨xTbl_in 539 (by decide +kernel) rfl, xTbl_in 73 (by decide +kernel) rfl, ⟨by decide +kernel, by decide +kernel, by decide +kernel⟩, by decide⟩
theorem mvX2_freeNameIn : xMv mX2_freeNameIn := ⟨xTbl_in 537 (by decide +kernel) rfl, xTbl_in 538 (by decide +kernel) rfl⟩
theorem okX2_takeFrom : xMok mX2_takeFrom 1 := ⟨xTbl_in 437 (by decide +kernel) rfl, xTbl_in 73 (by decide +kernel) rfl, ⟨by decide +kernel, by decide +kernel, by decide +kernel⟩, by decide⟩
theorem mvX2_takeFrom : xMv mX2_takeFrom := ⟨xTbl_in 435 (by decide +kernel) rfl, xTbl_in 436 (by decide +kernel) rfl⟩
theorem okX3_block : xMok mX3_block 2 := ⟨xTbl_in 589 (by decide +kernel) rfl, xTbl_in 72 (by decide +kernel) rfl, ⟨by decide +kernel, by decide +kernel, by decide +kernel⟩, by decide⟩
theorem mvX3_block : xMv mX3_block := ⟨xTbl_in 587 (by decide +kernel) rfl, xTbl_in 588 (by decide +kernel) rfl⟩
theorem okX3_changeByLot : xMok mX3_changeByLot 0 := ⟨xTbl_in 778 (by decide +kernel) rfl, xTbl_in 72 (by decide +kernel) rfl, ⟨by decide +kernel, by decide +kernel, by decide +kernel⟩, by decide⟩
theorem mvX3_changeByLot : xMv mX3_changeByLot := ⟨xTbl_in 777 (by decide +kernel) rfl, xTbl_in 20 (by decide +kernel) rfl⟩
theorem okX3_empties : xMok mX3_empties 2 := ⟨xTbl_in 609 (by decide +kernel) rfl, xTbl_in 72 (by decide +kernel) rfl, ⟨by decide +kernel, by decide +kernel, by decide +kernel⟩, by decide⟩
theorem mvX3_empties : xMv mX3_empties := ⟨xTbl_in 607 (by decide +kernel) rfl, xTbl_in 608 (by decide +kernel) rfl⟩
theorem okX3_enters : xMok mX3_enters 4 := ⟨xTbl_in 605 (by decide +kernel) rfl, xTbl_in 72 (by decide +kernel) rfl, ⟨by decide +kernel, by decide +kernel, by decide +kernel⟩, by decide⟩
theorem mvX3_enters : xMv mX3_enters := ⟨xTbl_in 603 (by decide +kernel) rfl, xTbl_in 604 (by decide +kernel) rfl⟩
theorem okX3_inode : xMok mX3_inode 2 := ⟨xTbl_in 570 (by decide +kernel) rfl, xTbl_in 72 (by decide +kernel) rfl, ⟨by decide +kernel, by decide +kernel, by decide +kernel⟩, by decide⟩
theorem mvX3_inode : xMv mX3_inode := ⟨xTbl_in 568 (by decide +kernel) rfl, xTbl_in 569 (by decide +kernel) rfl⟩
theorem okX3_kind : xMok mX3_kind 2 := ⟨xTbl_in 597 (by decide +kernel) rfl, xTbl_in 72 (by decide +kernel) rfl, ⟨by decide +kernel, by decide +kernel, by decide +kernel⟩, by decide⟩
theorem mvX3_kind : xMv mX3_kind := ⟨xTbl_in 595 (by decide +kernel) rfl, xTbl_in 596 (by decide +kernel) rfl⟩
theorem okX3_letter : xMok mX3_letter 1 := ⟨xTbl_in 237 (by decide +kernel) rfl, xTbl_in 72 (by decide +kernel) rfl, ⟨by decide +kernel, by decide +kernel, by decide +kernel⟩, by decide⟩
theorem mvX3_letter : xMv mX3_letter := ⟨xTbl_in 235 (by decide +kernel) rfl, xTbl_in 236 (by decide +kernel) rfl⟩
theorem okX3_links : xMok mX3_links 3 := ⟨xTbl_in 613 (by decide +kernel) rfl, xTbl_in 72 (by decide +kernel) rfl, ⟨by decide +kernel, by decide +kernel, by decide +kernel⟩, by decide⟩
theorem mvX3_links : xMv mX3_links := ⟨xTbl_in 611 (by decide +kernel) rfl, xTbl_in 612 (by decide +kernel) rfl⟩
theorem okX3_marks : xMok mX3_marks 2 := ⟨xTbl_in 617 (by decide +kernel) rfl, xTbl_in 72 (by decide +kernel) rfl, ⟨by decide +kernel, by decide +kernel, by decide +kernel⟩, by decide⟩
theorem mvX3_marks : xMv mX3_marks := ⟨xTbl_in 615 (by decide +kernel) rfl, xTbl_in 616 (by decide +kernel) rfl⟩
theorem okX3_mean : xMok mX3_mean 1 := ⟨xTbl_in 750 (by decide +kernel) rfl, xTbl_in 72 (by decide +kernel) rfl, ⟨by decide +kernel, by decide +kernel, by decide +kernel⟩, by decide⟩
theorem mvX3_mean : xMv mX3_mean := ⟨xTbl_in 748 (by decide +kernel) rfl, xTbl_in 749 (by decide +kernel) rfl⟩
theorem okX3_pointer : xMok mX3_pointer 2 := ⟨xTbl_in 581 (by decide +kernel) rfl, xTbl_in 72 (by decide +kernel) rfl, ⟨by decide +kernel, by decide +kernel, by decide +kernel⟩, by decide⟩
theorem mvX3_pointer : xMv mX3_pointer := ⟨xTbl_in 579 (by decide +kernel) rfl, xTbl_in 580 (by decide +kernel) rfl⟩
theorem okX3_points : xMok mX3_points 3 := ⟨xTbl_in 601 (by decide +kernel) rfl, xTbl_in 72 (by decide +kernel) rfl, ⟨by decide +kernel, by decide +kernel, by decide +kernel⟩, by decide⟩
theorem mvX3_points : xMv mX3_points := ⟨xTbl_in 599 (by decide +kernel) rfl, xTbl_in 600 (by decide +kernel) rfl⟩
theorem okX3_refuses : xMok mX3_refuses 1 := ⟨xTbl_in 625 (by decide +kernel) rfl, xTbl_in 72 (by decide +kernel) rfl, ⟨by decide +kernel, by decide +kernel, by decide +kernel⟩, by decide⟩
theorem mvX3_refuses : xMv mX3_refuses := ⟨xTbl_in 623 (by decide +kernel) rfl, xTbl_in 624 (by decide +kernel) rfl⟩
theorem okX3_row : xMok mX3_row 1 := ⟨xTbl_in 762 (by decide +kernel) rfl, xTbl_in 72 (by decide +kernel) rfl, ⟨by decide +kernel, by decide +kernel, by decide +kernel⟩, by decide⟩
theorem mvX3_row : xMv mX3_row := ⟨xTbl_in 760 (by decide +kernel) rfl, xTbl_in 761 (by decide +kernel) rfl⟩
theorem okX3_slot : xMok mX3_slot 2 := ⟨xTbl_in 585 (by decide +kernel) rfl, xTbl_in 72 (by decide +kernel) rfl, ⟨by decide +kernel, by decide +kernel, by decide +kernel⟩, by decide⟩
theorem mvX3_slot : xMv mX3_slot := ⟨xTbl_in 583 (by decide +kernel) rfl, xTbl_in 584 (by decide +kernel) rfl⟩
theorem okX3_writes : xMok mX3_writes 2 := ⟨xTbl_in 621 (by decide +kernel) rfl, xTbl_in 72 (by decide +kernel) rfl, ⟨by decide +kernel, by decide +kernel, by decide +kernel⟩, by decide⟩
theorem mvX3_writes : xMv mX3_writes := ⟨xTbl_in 619 (by decide +kernel) rfl, xTbl_in 620 (by decide +kernel) rfl⟩
theorem okX4_attaches : xMok mX4_attaches 1 := ⟨xTbl_in 989 (by decide +kernel) rfl, xTbl_in 77 (by decide +kernel) rfl, ⟨by decide +kernel, by decide +kernel, by decide +kernel⟩, by decide⟩
theorem mvX4_attaches : xMv mX4_attaches := ⟨xTbl_in 988 (by decide +kernel) rfl, xTbl_in 49 (by decide +kernel) rfl⟩
theorem okX4_damages : xMok mX4_damages 0 := ⟨xTbl_in 1210 (by decide +kernel) rfl, xTbl_in 77 (by decide +kernel) rfl, ⟨by decide +kernel, by decide +kernel, by decide +kernel⟩, by decide⟩
theorem mvX4_damages : xMv mX4_damages := ⟨xTbl_in 1209 (by decide +kernel) rfl, xTbl_in 68 (by decide +kernel) rfl⟩
theorem okX4_entriesTo : xMok mX4_entriesTo 1 := ⟨xTbl_in 981 (by decide +kernel) rfl, xTbl_in 77 (by decide +kernel) rfl, ⟨by decide +kernel, by decide +kernel, by decide +kernel⟩, by decide⟩
theorem mvX4_entriesTo : xMv mX4_entriesTo := ⟨xTbl_in 980 (by decide +kernel) rfl, xTbl_in 47 (by decide +kernel) rfl⟩
theorem okX4_entryTo : xMok mX4_entryTo 1 := ⟨xTbl_in 985 (by decide +kernel) rfl, xTbl_in 77 (by decide +kernel) rfl, ⟨by decide +kernel, by decide +kernel, by decide +kernel⟩, by decide⟩
theorem mvX4_entryTo : xMv mX4_entryTo := ⟨xTbl_in 984 (by decide +kernel) rfl, xTbl_in 48 (by decide +kernel) rfl⟩
theorem okX4_freeBlock : xMok mX4_freeBlock 0 := ⟨xTbl_in 942 (by decide +kernel) rfl, xTbl_in 77 (by decide +kernel) rfl, ⟨by decide +kernel, by decide +kernel, by decide +kernel⟩, by decide⟩
theorem mvX4_freeBlock : xMv mX4_freeBlock := ⟨xTbl_in 941 (by decide +kernel) rfl, xTbl_in 38 (by decide +kernel) rfl⟩
theorem okX4_image : xMok mX4_image 0 := ⟨xTbl_in 1221 (by decide +kernel) rfl, xTbl_in 77 (by decide +kernel) rfl, ⟨by decide +kernel, by decide +kernel, by decide +kernel⟩, by decide⟩
theorem mvX4_image : xMv mX4_image := ⟨xTbl_in 1219 (by decide +kernel) rfl, xTbl_in 1220 (by decide +kernel) rfl⟩
theorem okX4_isBlock : xMok mX4_isBlock 1 := ⟨xTbl_in 1035 (by decide +kernel) rfl, xTbl_in 77 (by decide +kernel) rfl, ⟨by decide +kernel, by decide +kernel, by decide +kernel⟩, by decide⟩
theorem mvX4_isBlock : Cond.static (xmy mX4_isBlock) ∈ xTbl := xTbl_in 1034 (by decide +kernel) rfl
theorem okX4_isInode : xMok mX4_isInode 1 := ⟨xTbl_in 1012 (by decide +kernel) rfl, xTbl_in 77 (by decide +kernel) rfl, ⟨by decide +kernel, by decide +kernel, by decide +kernel⟩, by decide⟩
theorem mvX4_isInode : Cond.static (xmy mX4_isInode) ∈ xTbl := xTbl_in 1011 (by decide +kernel) rfl
theorem okX4_isListedAhead : xMok mX4_isListedAhead 2 := ⟨xTbl_in 961 (by decide +kernel) rfl, xTbl_in 77 (by decide +kernel) rfl, ⟨by decide +kernel, by decide +kernel, by decide +kernel⟩, by decide⟩
theorem mvX4_isListedAhead : xMv mX4_isListedAhead := ⟨xTbl_in 960 (by decide +kernel) rfl, xTbl_in 42 (by decide +kernel) rfl⟩
theorem okX4_kinds : xMok mX4_kinds 1 := ⟨xTbl_in 1233 (by decide +kernel) rfl, xTbl_in 77 (by decide +kernel) rfl, ⟨by decide +kernel, by decide +kernel, by decide +kernel⟩, by decide⟩
theorem mvX4_kinds : xMv mX4_kinds := ⟨xTbl_in 1232 (by decide +kernel) rfl, xTbl_in 70 (by decide +kernel) rfl⟩
theorem okX4_letter : xMok mX4_letter 1 := ⟨xTbl_in 862 (by decide +kernel) rfl, xTbl_in 77 (by decide +kernel) rfl, ⟨by decide +kernel, by decide +kernel, by decide +kernel⟩, by decide⟩
theorem mvX4_letter : xMv mX4_letter := ⟨xTbl_in 860 (by decide +kernel) rfl, xTbl_in 861 (by decide +kernel) rfl⟩
theorem okX4_maps : xMok mX4_maps 0 := ⟨xTbl_in 1005 (by decide +kernel) rfl, xTbl_in 77 (by decide +kernel) rfl, ⟨by decide +kernel, by decide +kernel, by decide +kernel⟩, by decide⟩
theorem mvX4_maps : xMv mX4_maps := ⟨xTbl_in 1004 (by decide +kernel) rfl, xTbl_in 53 (by decide +kernel) rfl⟩
theorem okX4_mean : xMok mX4_mean 1 := ⟨xTbl_in 1182 (by decide +kernel) rfl, xTbl_in 77 (by decide +kernel) rfl, ⟨by decide +kernel, by decide +kernel, by decide +kernel⟩, by decide⟩
theorem mvX4_mean : xMv mX4_mean := ⟨xTbl_in 1180 (by decide +kernel) rfl, xTbl_in 1181 (by decide +kernel) rfl⟩
theorem okX4_on : xMok mX4_on 0 := ⟨xTbl_in 1225 (by decide +kernel) rfl, xTbl_in 77 (by decide +kernel) rfl, ⟨by decide +kernel, by decide +kernel, by decide +kernel⟩, by decide⟩
theorem mvX4_on : xMv mX4_on := ⟨xTbl_in 1223 (by decide +kernel) rfl, xTbl_in 1224 (by decide +kernel) rfl⟩
theorem okX4_one : xMok mX4_one 2 := ⟨xTbl_in 890 (by decide +kernel) rfl, xTbl_in 77 (by decide +kernel) rfl, ⟨by decide +kernel, by decide +kernel, by decide +kernel⟩, by decide⟩
theorem mvX4_one : xMv mX4_one := ⟨xTbl_in 889 (by decide +kernel) rfl, xTbl_in 27 (by decide +kernel) rfl⟩
theorem okX4_reached : xMok mX4_reached 2 := ⟨xTbl_in 977 (by decide +kernel) rfl, xTbl_in 77 (by decide +kernel) rfl, ⟨by decide +kernel, by decide +kernel, by decide +kernel⟩, by decide⟩
theorem mvX4_reached : xMv mX4_reached := ⟨xTbl_in 976 (by decide +kernel) rfl, xTbl_in 46 (by decide +kernel) rfl⟩
theorem okX4_refuses : xMok mX4_refuses 1 := ⟨xTbl_in 1067 (by decide +kernel) rfl, xTbl_in 77 (by decide +kernel) rfl, ⟨by decide +kernel, by decide +kernel, by decide +kernel⟩, by decide⟩
theorem mvX4_refuses : xMv mX4_refuses := ⟨xTbl_in 1065 (by decide +kernel) rfl, xTbl_in 1066 (by decide +kernel) rfl⟩
theorem okX4_row : xMok mX4_row 1 := ⟨xTbl_in 1194 (by decide +kernel) rfl, xTbl_in 77 (by decide +kernel) rfl, ⟨by decide +kernel, by decide +kernel, by decide +kernel⟩, by decide⟩
theorem mvX4_row : xMv mX4_row := ⟨xTbl_in 1192 (by decide +kernel) rfl, xTbl_in 1193 (by decide +kernel) rfl⟩
theorem okJ0_indexOf_7cf53 : xMok mJ0_indexOf_7cf53 2 := ⟨xTbl_in 274 (by decide +kernel) rfl, xTbl_in 78 (by decide +kernel) rfl, ⟨by decide +kernel, by decide +kernel, by decide +kernel⟩, by decide⟩
theorem mvJ0_indexOf_7cf53 : xMv mJ0_indexOf_7cf53 := ⟨xTbl_in 272 (by decide +kernel) rfl, xTbl_in 273 (by decide +kernel) rfl⟩
theorem okJ1_charAt_3b067 : xMok mJ1_charAt_3b067 2 := ⟨xTbl_in 369 (by decide +kernel) rfl, xTbl_in 79 (by decide +kernel) rfl, ⟨by decide +kernel, by decide +kernel, by decide +kernel⟩, by decide⟩
theorem mvJ1_charAt_3b067 : Cond.static (xmy mJ1_charAt_3b067) ∈ xTbl := xTbl_in 368 (by decide +kernel) rfl
theorem okX0_attach : xMok mX0_attach 1 := ⟨xTbl_in 530 (by decide +kernel) rfl, xTbl_in 75 (by decide +kernel) rfl, ⟨by decide +kernel, by decide +kernel, by decide +kernel⟩, by decide⟩
theorem mvX0_attach : xMv mX0_attach := ⟨xTbl_in 529 (by decide +kernel) rfl, xTbl_in 14 (by decide +kernel) rfl⟩
theorem okX0_cloneFor : xMok mX0_cloneFor 2 := ⟨xTbl_in 466 (by decide +kernel) rfl, xTbl_in 75 (by decide +kernel) rfl, ⟨by decide +kernel, by decide +kernel, by decide +kernel⟩, by decide⟩
theorem mvX0_cloneFor : xMv mX0_cloneFor := ⟨xTbl_in 465 (by decide +kernel) rfl, xTbl_in 9 (by decide +kernel) rfl⟩
theorem okX0_mendEntries : xMok mX0_mendEntries 0 := ⟨xTbl_in 489 (by decide +kernel) rfl, xTbl_in 75 (by decide +kernel) rfl, ⟨by decide +kernel, by decide +kernel, by decide +kernel⟩, by decide⟩
theorem mvX0_mendEntries : xMv mX0_mendEntries := ⟨xTbl_in 488 (by decide +kernel) rfl, xTbl_in 10 (by decide +kernel) rfl⟩
theorem okX1_lengthAt : xMok mX1_lengthAt 1 := ⟨xTbl_in 390 (by decide +kernel) rfl, xTbl_in 76 (by decide +kernel) rfl, ⟨by decide +kernel, by decide +kernel, by decide +kernel⟩, by decide⟩
theorem mvX1_lengthAt : xMv mX1_lengthAt := ⟨xTbl_in 388 (by decide +kernel) rfl, xTbl_in 389 (by decide +kernel) rfl⟩
theorem okX1_pairAt : xMok mX1_pairAt 1 := ⟨xTbl_in 406 (by decide +kernel) rfl, xTbl_in 76 (by decide +kernel) rfl, ⟨by decide +kernel, by decide +kernel, by decide +kernel⟩, by decide⟩
theorem mvX1_pairAt : xMv mX1_pairAt := ⟨xTbl_in 404 (by decide +kernel) rfl, xTbl_in 405 (by decide +kernel) rfl⟩
theorem okX2_blocksOf : xMok mX2_blocksOf 1 := ⟨xTbl_in 677 (by decide +kernel) rfl, xTbl_in 73 (by decide +kernel) rfl, ⟨by decide +kernel, by decide +kernel, by decide +kernel⟩, by decide⟩
theorem mvX2_blocksOf : xMv mX2_blocksOf := ⟨xTbl_in 675 (by decide +kernel) rfl, xTbl_in 676 (by decide +kernel) rfl⟩
theorem okX2_blocksShared : xMok mX2_blocksShared 0 := ⟨xTbl_in 727 (by decide +kernel) rfl, xTbl_in 73 (by decide +kernel) rfl, ⟨by decide +kernel, by decide +kernel, by decide +kernel⟩, by decide⟩
theorem mvX2_blocksShared : xMv mX2_blocksShared := ⟨xTbl_in 725 (by decide +kernel) rfl, xTbl_in 726 (by decide +kernel) rfl⟩
theorem okX2_depthOf : xMok mX2_depthOf 1 := ⟨xTbl_in 658 (by decide +kernel) rfl, xTbl_in 73 (by decide +kernel) rfl, ⟨by decide +kernel, by decide +kernel, by decide +kernel⟩, by decide⟩
theorem mvX2_depthOf : xMv mX2_depthOf := ⟨xTbl_in 656 (by decide +kernel) rfl, xTbl_in 657 (by decide +kernel) rfl⟩
theorem okX2_reachedFrom : xMok mX2_reachedFrom 1 := ⟨xTbl_in 508 (by decide +kernel) rfl, xTbl_in 73 (by decide +kernel) rfl, ⟨by decide +kernel, by decide +kernel, by decide +kernel⟩, by decide⟩
theorem mvX2_reachedFrom : xMv mX2_reachedFrom := ⟨xTbl_in 506 (by decide +kernel) rfl, xTbl_in 507 (by decide +kernel) rfl⟩
theorem okX3_count : xMok mX3_count 1 := ⟨xTbl_in 797 (by decide +kernel) rfl, xTbl_in 72 (by decide +kernel) rfl, ⟨by decide +kernel, by decide +kernel, by decide +kernel⟩, by decide⟩
theorem mvX3_count : xMv mX3_count := ⟨xTbl_in 795 (by decide +kernel) rfl, xTbl_in 796 (by decide +kernel) rfl⟩
theorem okX3_image : xMok mX3_image 0 := ⟨xTbl_in 789 (by decide +kernel) rfl, xTbl_in 72 (by decide +kernel) rfl, ⟨by decide +kernel, by decide +kernel, by decide +kernel⟩, by decide⟩
theorem mvX3_image : xMv mX3_image := ⟨xTbl_in 787 (by decide +kernel) rfl, xTbl_in 788 (by decide +kernel) rfl⟩
theorem okX3_on : xMok mX3_on 0 := ⟨xTbl_in 793 (by decide +kernel) rfl, xTbl_in 72 (by decide +kernel) rfl, ⟨by decide +kernel, by decide +kernel, by decide +kernel⟩, by decide⟩
theorem mvX3_on : xMv mX3_on := ⟨xTbl_in 791 (by decide +kernel) rfl, xTbl_in 792 (by decide +kernel) rfl⟩
theorem okX4_block : xMok mX4_block 2 := ⟨xTbl_in 1032 (by decide +kernel) rfl, xTbl_in 77 (by decide +kernel) rfl, ⟨by decide +kernel, by decide +kernel, by decide +kernel⟩, by decide⟩
theorem mvX4_block : xMv mX4_block := ⟨xTbl_in 1030 (by decide +kernel) rfl, xTbl_in 1031 (by decide +kernel) rfl⟩
theorem okX4_blocksOf : xMok mX4_blocksOf 1 := ⟨xTbl_in 1126 (by decide +kernel) rfl, xTbl_in 77 (by decide +kernel) rfl, ⟨by decide +kernel, by decide +kernel, by decide +kernel⟩, by decide⟩
theorem mvX4_blocksOf : xMv mX4_blocksOf := ⟨xTbl_in 1125 (by decide +kernel) rfl, xTbl_in 63 (by decide +kernel) rfl⟩
theorem okX4_countsLinks : xMok mX4_countsLinks 0 := ⟨xTbl_in 1001 (by decide +kernel) rfl, xTbl_in 77 (by decide +kernel) rfl, ⟨by decide +kernel, by decide +kernel, by decide +kernel⟩, by decide⟩
theorem mvX4_countsLinks : xMv mX4_countsLinks := ⟨xTbl_in 1000 (by decide +kernel) rfl, xTbl_in 52 (by decide +kernel) rfl⟩
theorem okX4_digit : xMok mX4_digit 0 := ⟨xTbl_in 886 (by decide +kernel) rfl, xTbl_in 77 (by decide +kernel) rfl, ⟨by decide +kernel, by decide +kernel, by decide +kernel⟩, by decide⟩
theorem mvX4_digit : xMv mX4_digit := ⟨xTbl_in 885 (by decide +kernel) rfl, xTbl_in 26 (by decide +kernel) rfl⟩
theorem okX4_empties : xMok mX4_empties 2 := ⟨xTbl_in 1051 (by decide +kernel) rfl, xTbl_in 77 (by decide +kernel) rfl, ⟨by decide +kernel, by decide +kernel, by decide +kernel⟩, by decide⟩
theorem mvX4_empties : xMv mX4_empties := ⟨xTbl_in 1049 (by decide +kernel) rfl, xTbl_in 1050 (by decide +kernel) rfl⟩
theorem okX4_enters : xMok mX4_enters 4 := ⟨xTbl_in 1047 (by decide +kernel) rfl, xTbl_in 77 (by decide +kernel) rfl, ⟨by decide +kernel, by decide +kernel, by decide +kernel⟩, by decide⟩
theorem mvX4_enters : xMv mX4_enters := ⟨xTbl_in 1045 (by decide +kernel) rfl, xTbl_in 1046 (by decide +kernel) rfl⟩
theorem okX4_inode : xMok mX4_inode 2 := ⟨xTbl_in 1009 (by decide +kernel) rfl, xTbl_in 77 (by decide +kernel) rfl, ⟨by decide +kernel, by decide +kernel, by decide +kernel⟩, by decide⟩
theorem mvX4_inode : xMv mX4_inode := ⟨xTbl_in 1007 (by decide +kernel) rfl, xTbl_in 1008 (by decide +kernel) rfl⟩
theorem okX4_kind : xMok mX4_kind 2 := ⟨xTbl_in 1039 (by decide +kernel) rfl, xTbl_in 77 (by decide +kernel) rfl, ⟨by decide +kernel, by decide +kernel, by decide +kernel⟩, by decide⟩
theorem mvX4_kind : xMv mX4_kind := ⟨xTbl_in 1037 (by decide +kernel) rfl, xTbl_in 1038 (by decide +kernel) rfl⟩
theorem okX4_links : xMok mX4_links 3 := ⟨xTbl_in 1055 (by decide +kernel) rfl, xTbl_in 77 (by decide +kernel) rfl, ⟨by decide +kernel, by decide +kernel, by decide +kernel⟩, by decide⟩
theorem mvX4_links : xMv mX4_links := ⟨xTbl_in 1053 (by decide +kernel) rfl, xTbl_in 1054 (by decide +kernel) rfl⟩
theorem okX4_lone : xMok mX4_lone 0 := ⟨xTbl_in 973 (by decide +kernel) rfl, xTbl_in 77 (by decide +kernel) rfl, ⟨by decide +kernel, by decide +kernel, by decide +kernel⟩, by decide⟩
theorem mvX4_lone : xMv mX4_lone := ⟨xTbl_in 972 (by decide +kernel) rfl, xTbl_in 45 (by decide +kernel) rfl⟩
theorem okX4_looksAtPointer : xMok mX4_looksAtPointer 2 := ⟨xTbl_in 927 (by decide +kernel) rfl, xTbl_in 77 (by decide +kernel) rfl, ⟨by decide +kernel, by decide +kernel, by decide +kernel⟩, by decide⟩
theorem mvX4_looksAtPointer : xMv mX4_looksAtPointer := ⟨xTbl_in 926 (by decide +kernel) rfl, xTbl_in 35 (by decide +kernel) rfl⟩
theorem okX4_looksAtSlot : xMok mX4_looksAtSlot 2 := ⟨xTbl_in 950 (by decide +kernel) rfl, xTbl_in 77 (by decide +kernel) rfl, ⟨by decide +kernel, by decide +kernel, by decide +kernel⟩, by decide⟩
theorem mvX4_looksAtSlot : xMv mX4_looksAtSlot := ⟨xTbl_in 949 (by decide +kernel) rfl, xTbl_in 40 (by decide +kernel) rfl⟩
theorem okX4_marks : xMok mX4_marks 2 := ⟨xTbl_in 1059 (by decide +kernel) rfl, xTbl_in 77 (by decide +kernel) rfl, ⟨by decide +kernel, by decide +kernel, by decide +kernel⟩, by decide⟩
theorem mvX4_marks : xMv mX4_marks := ⟨xTbl_in 1057 (by decide +kernel) rfl, xTbl_in 1058 (by decide +kernel) rfl⟩
theorem okX4_pointer : xMok mX4_pointer 2 := ⟨xTbl_in 1016 (by decide +kernel) rfl, xTbl_in 77 (by decide +kernel) rfl, ⟨by decide +kernel, by decide +kernel, by decide +kernel⟩, by decide⟩
theorem mvX4_pointer : xMv mX4_pointer := ⟨xTbl_in 1014 (by decide +kernel) rfl, xTbl_in 1015 (by decide +kernel) rfl⟩
theorem okX4_points : xMok mX4_points 3 := ⟨xTbl_in 1043 (by decide +kernel) rfl, xTbl_in 77 (by decide +kernel) rfl, ⟨by decide +kernel, by decide +kernel, by decide +kernel⟩, by decide⟩
theorem mvX4_points : xMv mX4_points := ⟨xTbl_in 1041 (by decide +kernel) rfl, xTbl_in 1042 (by decide +kernel) rfl⟩
theorem okX4_shared : xMok mX4_shared 1 := ⟨xTbl_in 1162 (by decide +kernel) rfl, xTbl_in 77 (by decide +kernel) rfl, ⟨by decide +kernel, by decide +kernel, by decide +kernel⟩, by decide⟩
theorem mvX4_shared : xMv mX4_shared := ⟨xTbl_in 1160 (by decide +kernel) rfl, xTbl_in 1161 (by decide +kernel) rfl⟩
theorem okX4_slot : xMok mX4_slot 2 := ⟨xTbl_in 1024 (by decide +kernel) rfl, xTbl_in 77 (by decide +kernel) rfl, ⟨by decide +kernel, by decide +kernel, by decide +kernel⟩, by decide⟩
theorem mvX4_slot : xMv mX4_slot := ⟨xTbl_in 1022 (by decide +kernel) rfl, xTbl_in 1023 (by decide +kernel) rfl⟩
theorem okX4_writes : xMok mX4_writes 2 := ⟨xTbl_in 1063 (by decide +kernel) rfl, xTbl_in 77 (by decide +kernel) rfl, ⟨by decide +kernel, by decide +kernel, by decide +kernel⟩, by decide⟩
theorem mvX4_writes : xMv mX4_writes := ⟨xTbl_in 1061 (by decide +kernel) rfl, xTbl_in 1062 (by decide +kernel) rfl⟩
theorem okJ0_charAt_5068e : xMok mJ0_charAt_5068e 1 := ⟨xTbl_in 366 (by decide +kernel) rfl, xTbl_in 78 (by decide +kernel) rfl, ⟨by decide +kernel, by decide +kernel, by decide +kernel⟩, by decide⟩
theorem mvJ0_charAt_5068e : xMv mJ0_charAt_5068e := ⟨xTbl_in 364 (by decide +kernel) rfl, xTbl_in 365 (by decide +kernel) rfl⟩
theorem okJ0_indexOf_0f7a4 : xMok mJ0_indexOf_0f7a4 1 := ⟨xTbl_in 270 (by decide +kernel) rfl, xTbl_in 78 (by decide +kernel) rfl, ⟨by decide +kernel, by decide +kernel, by decide +kernel⟩, by decide⟩
theorem mvJ0_indexOf_0f7a4 : xMv mJ0_indexOf_0f7a4 := ⟨xTbl_in 268 (by decide +kernel) rfl, xTbl_in 269 (by decide +kernel) rfl⟩
theorem okX0_mendConnections : xMok mX0_mendConnections 0 := ⟨xTbl_in 499 (by decide +kernel) rfl, xTbl_in 75 (by decide +kernel) rfl, ⟨by decide +kernel, by decide +kernel, by decide +kernel⟩, by decide⟩
theorem mvX0_mendConnections : xMv mX0_mendConnections := ⟨xTbl_in 498 (by decide +kernel) rfl, xTbl_in 12 (by decide +kernel) rfl⟩
theorem okX0_mendCounts : xMok mX0_mendCounts 0 := ⟨xTbl_in 549 (by decide +kernel) rfl, xTbl_in 75 (by decide +kernel) rfl, ⟨by decide +kernel, by decide +kernel, by decide +kernel⟩, by decide⟩
theorem mvX0_mendCounts : xMv mX0_mendCounts := ⟨xTbl_in 548 (by decide +kernel) rfl, xTbl_in 16 (by decide +kernel) rfl⟩
theorem okX0_mendPointers : xMok mX0_mendPointers 0 := ⟨xTbl_in 444 (by decide +kernel) rfl, xTbl_in 75 (by decide +kernel) rfl, ⟨by decide +kernel, by decide +kernel, by decide +kernel⟩, by decide⟩
theorem mvX0_mendPointers : xMv mX0_mendPointers := ⟨xTbl_in 443 (by decide +kernel) rfl, xTbl_in 6 (by decide +kernel) rfl⟩
theorem okX1_stands : xMok mX1_stands 1 := ⟨xTbl_in 398 (by decide +kernel) rfl, xTbl_in 76 (by decide +kernel) rfl, ⟨by decide +kernel, by decide +kernel, by decide +kernel⟩, by decide⟩
theorem mvX1_stands : xMv mX1_stands := ⟨xTbl_in 397 (by decide +kernel) rfl, xTbl_in 4 (by decide +kernel) rfl⟩
theorem okX2_blocksBelow : xMok mX2_blocksBelow 1 := ⟨xTbl_in 673 (by decide +kernel) rfl, xTbl_in 73 (by decide +kernel) rfl, ⟨by decide +kernel, by decide +kernel, by decide +kernel⟩, by decide⟩
theorem mvX2_blocksBelow : xMv mX2_blocksBelow := ⟨xTbl_in 671 (by decide +kernel) rfl, xTbl_in 672 (by decide +kernel) rfl⟩
theorem okX2_inodesBelow : xMok mX2_inodesBelow 1 := ⟨xTbl_in 662 (by decide +kernel) rfl, xTbl_in 73 (by decide +kernel) rfl, ⟨by decide +kernel, by decide +kernel, by decide +kernel⟩, by decide⟩
theorem mvX2_inodesBelow : xMv mX2_inodesBelow := ⟨xTbl_in 660 (by decide +kernel) rfl, xTbl_in 661 (by decide +kernel) rfl⟩
theorem okX3_shared : xMok mX3_shared 1 := ⟨xTbl_in 723 (by decide +kernel) rfl, xTbl_in 72 (by decide +kernel) rfl, ⟨by decide +kernel, by decide +kernel, by decide +kernel⟩, by decide⟩
theorem mvX3_shared : xMv mX3_shared := ⟨xTbl_in 721 (by decide +kernel) rfl, xTbl_in 722 (by decide +kernel) rfl⟩
theorem okX4_blocksBelow : xMok mX4_blocksBelow 1 := ⟨xTbl_in 1122 (by decide +kernel) rfl, xTbl_in 77 (by decide +kernel) rfl, ⟨by decide +kernel, by decide +kernel, by decide +kernel⟩, by decide⟩
theorem mvX4_blocksBelow : xMv mX4_blocksBelow := ⟨xTbl_in 1121 (by decide +kernel) rfl, xTbl_in 62 (by decide +kernel) rfl⟩
theorem okX4_connects : xMok mX4_connects 0 := ⟨xTbl_in 969 (by decide +kernel) rfl, xTbl_in 77 (by decide +kernel) rfl, ⟨by decide +kernel, by decide +kernel, by decide +kernel⟩, by decide⟩
theorem mvX4_connects : xMv mX4_connects := ⟨xTbl_in 968 (by decide +kernel) rfl, xTbl_in 44 (by decide +kernel) rfl⟩
theorem okX4_count : xMok mX4_count 1 := ⟨xTbl_in 1229 (by decide +kernel) rfl, xTbl_in 77 (by decide +kernel) rfl, ⟨by decide +kernel, by decide +kernel, by decide +kernel⟩, by decide⟩
theorem mvX4_count : xMv mX4_count := ⟨xTbl_in 1227 (by decide +kernel) rfl, xTbl_in 1228 (by decide +kernel) rfl⟩
theorem okX4_twoDigits : xMok mX4_twoDigits 0 := ⟨xTbl_in 903 (by decide +kernel) rfl, xTbl_in 77 (by decide +kernel) rfl, ⟨by decide +kernel, by decide +kernel, by decide +kernel⟩, by decide⟩
theorem mvX4_twoDigits : xMv mX4_twoDigits := ⟨xTbl_in 902 (by decide +kernel) rfl, xTbl_in 29 (by decide +kernel) rfl⟩
theorem okX0_run : xMok mX0_run 2 := ⟨xTbl_in 433 (by decide +kernel) rfl, xTbl_in 75 (by decide +kernel) rfl, ⟨by decide +kernel, by decide +kernel, by decide +kernel⟩, by decide⟩
theorem mvX0_run : xMv mX0_run := ⟨xTbl_in 431 (by decide +kernel) rfl, xTbl_in 432 (by decide +kernel) rfl⟩
theorem okX1_fits : xMok mX1_fits 2 := ⟨xTbl_in 385 (by decide +kernel) rfl, xTbl_in 76 (by decide +kernel) rfl, ⟨by decide +kernel, by decide +kernel, by decide +kernel⟩, by decide⟩
theorem mvX1_fits : Cond.static (xmy mX1_fits) ∈ xTbl := xTbl_in 384 (by decide +kernel) rfl
theorem okX1_kindAt : xMok mX1_kindAt 1 := ⟨xTbl_in 417 (by decide +kernel) rfl, xTbl_in 76 (by decide +kernel) rfl, ⟨by decide +kernel, by decide +kernel, by decide +kernel⟩, by decide⟩
theorem mvX1_kindAt : xMv mX1_kindAt := ⟨xTbl_in 415 (by decide +kernel) rfl, xTbl_in 416 (by decide +kernel) rfl⟩
theorem okX1_placeOfWrongStatement : xMok mX1_placeOfWrongStatement 0 := ⟨xTbl_in 394 (by decide +kernel) rfl, xTbl_in 76 (by decide +kernel) rfl, ⟨by decide +kernel, by decide +kernel, by decide +kernel⟩, by decide⟩
theorem mvX1_placeOfWrongStatement : xMv mX1_placeOfWrongStatement := ⟨xTbl_in 393 (by decide +kernel) rfl, xTbl_in 3 (by decide +kernel) rfl⟩
theorem okX3_inodeBySize : xMok mX3_inodeBySize 2 := ⟨xTbl_in 693 (by decide +kernel) rfl, xTbl_in 72 (by decide +kernel) rfl, ⟨by decide +kernel, by decide +kernel, by decide +kernel⟩, by decide⟩
theorem mvX3_inodeBySize : Cond.static (xmy mX3_inodeBySize) ∈ xTbl := xTbl_in 692 (by decide +kernel) rfl
theorem okX4_checks : xMok mX4_checks 0 := ⟨xTbl_in 911 (by decide +kernel) rfl, xTbl_in 77 (by decide +kernel) rfl, ⟨by decide +kernel, by decide +kernel, by decide +kernel⟩, by decide⟩
theorem mvX4_checks : xMv mX4_checks := ⟨xTbl_in 910 (by decide +kernel) rfl, xTbl_in 31 (by decide +kernel) rfl⟩
theorem okX4_kindLetter : xMok mX4_kindLetter 0 := ⟨xTbl_in 897 (by decide +kernel) rfl, xTbl_in 77 (by decide +kernel) rfl, ⟨by decide +kernel, by decide +kernel, by decide +kernel⟩, by decide⟩
theorem mvX4_kindLetter : xMv mX4_kindLetter := ⟨xTbl_in 896 (by decide +kernel) rfl, xTbl_in 28 (by decide +kernel) rfl⟩
theorem okX4_thenOf : xMok mX4_thenOf 2 := ⟨xTbl_in 1111 (by decide +kernel) rfl, xTbl_in 77 (by decide +kernel) rfl, ⟨by decide +kernel, by decide +kernel, by decide +kernel⟩, by decide⟩
theorem mvX4_thenOf : xMv mX4_thenOf := ⟨xTbl_in 1110 (by decide +kernel) rfl, xTbl_in 60 (by decide +kernel) rfl⟩
theorem okX1_wrongLetterOf : xMok mX1_wrongLetterOf 1 := ⟨xTbl_in 261 (by decide +kernel) rfl, xTbl_in 76 (by decide +kernel) rfl, ⟨by decide +kernel, by decide +kernel, by decide +kernel⟩, by decide⟩
theorem mvX1_wrongLetterOf : xMv mX1_wrongLetterOf := ⟨xTbl_in 260 (by decide +kernel) rfl, xTbl_in 2 (by decide +kernel) rfl⟩
theorem okX3_carryOut : xMok mX3_carryOut 1 := ⟨xTbl_in 410 (by decide +kernel) rfl, xTbl_in 72 (by decide +kernel) rfl, ⟨by decide +kernel, by decide +kernel, by decide +kernel⟩, by decide⟩
theorem mvX3_carryOut : xMv mX3_carryOut := ⟨xTbl_in 409 (by decide +kernel) rfl, xTbl_in 5 (by decide +kernel) rfl⟩
theorem okX3_check : xMok mX3_check 0 := ⟨xTbl_in 630 (by decide +kernel) rfl, xTbl_in 72 (by decide +kernel) rfl, ⟨by decide +kernel, by decide +kernel, by decide +kernel⟩, by decide⟩
theorem mvX3_check : xMv mX3_check := ⟨xTbl_in 628 (by decide +kernel) rfl, xTbl_in 629 (by decide +kernel) rfl⟩
theorem okX3_judge : xMok mX3_judge 0 := ⟨xTbl_in 766 (by decide +kernel) rfl, xTbl_in 72 (by decide +kernel) rfl, ⟨by decide +kernel, by decide +kernel, by decide +kernel⟩, by decide⟩
theorem mvX3_judge : xMv mX3_judge := ⟨xTbl_in 764 (by decide +kernel) rfl, xTbl_in 765 (by decide +kernel) rfl⟩
theorem okX3_largest : xMok mX3_largest 1 := ⟨xTbl_in 690 (by decide +kernel) rfl, xTbl_in 72 (by decide +kernel) rfl, ⟨by decide +kernel, by decide +kernel, by decide +kernel⟩, by decide⟩
theorem mvX3_largest : xMv mX3_largest := ⟨xTbl_in 688 (by decide +kernel) rfl, xTbl_in 689 (by decide +kernel) rfl⟩
theorem okX3_leftWithout : xMok mX3_leftWithout 1 := ⟨xTbl_in 737 (by decide +kernel) rfl, xTbl_in 72 (by decide +kernel) rfl, ⟨by decide +kernel, by decide +kernel, by decide +kernel⟩, by decide⟩
theorem mvX3_leftWithout : xMv mX3_leftWithout := ⟨xTbl_in 736 (by decide +kernel) rfl, xTbl_in 18 (by decide +kernel) rfl⟩
theorem okX3_loses : xMok mX3_loses 1 := ⟨xTbl_in 702 (by decide +kernel) rfl, xTbl_in 72 (by decide +kernel) rfl, ⟨by decide +kernel, by decide +kernel, by decide +kernel⟩, by decide⟩
theorem mvX3_loses : xMv mX3_loses := ⟨xTbl_in 700 (by decide +kernel) rfl, xTbl_in 701 (by decide +kernel) rfl⟩
theorem okX3_lots : xMok mX3_lots 3 := ⟨xTbl_in 774 (by decide +kernel) rfl, xTbl_in 72 (by decide +kernel) rfl, ⟨by decide +kernel, by decide +kernel, by decide +kernel⟩, by decide⟩
theorem mvX3_lots : xMv mX3_lots := ⟨xTbl_in 772 (by decide +kernel) rfl, xTbl_in 773 (by decide +kernel) rfl⟩
theorem okX3_mend : xMok mX3_mend 1 := ⟨xTbl_in 714 (by decide +kernel) rfl, xTbl_in 72 (by decide +kernel) rfl, ⟨by decide +kernel, by decide +kernel, by decide +kernel⟩, by decide⟩
theorem mvX3_mend : xMv mX3_mend := ⟨xTbl_in 712 (by decide +kernel) rfl, xTbl_in 713 (by decide +kernel) rfl⟩
theorem okX3_pointerThen : xMok mX3_pointerThen 2 := ⟨xTbl_in 686 (by decide +kernel) rfl, xTbl_in 72 (by decide +kernel) rfl, ⟨by decide +kernel, by decide +kernel, by decide +kernel⟩, by decide⟩
theorem mvX3_pointerThen : xMv mX3_pointerThen := ⟨xTbl_in 684 (by decide +kernel) rfl, xTbl_in 685 (by decide +kernel) rfl⟩
theorem okX3_question : xMok mX3_question 2 := ⟨xTbl_in 642 (by decide +kernel) rfl, xTbl_in 72 (by decide +kernel) rfl, ⟨by decide +kernel, by decide +kernel, by decide +kernel⟩, by decide⟩
theorem mvX3_question : xMv mX3_question := ⟨xTbl_in 640 (by decide +kernel) rfl, xTbl_in 641 (by decide +kernel) rfl⟩
theorem okX3_questions : xMok mX3_questions 1 := ⟨xTbl_in 634 (by decide +kernel) rfl, xTbl_in 72 (by decide +kernel) rfl, ⟨by decide +kernel, by decide +kernel, by decide +kernel⟩, by decide⟩
theorem mvX3_questions : xMv mX3_questions := ⟨xTbl_in 632 (by decide +kernel) rfl, xTbl_in 633 (by decide +kernel) rfl⟩
theorem okX3_reasons : xMok mX3_reasons 0 := ⟨xTbl_in 646 (by decide +kernel) rfl, xTbl_in 72 (by decide +kernel) rfl, ⟨by decide +kernel, by decide +kernel, by decide +kernel⟩, by decide⟩
theorem mvX3_reasons : xMv mX3_reasons := ⟨xTbl_in 644 (by decide +kernel) rfl, xTbl_in 645 (by decide +kernel) rfl⟩
theorem okX3_second : xMok mX3_second 0 := ⟨xTbl_in 698 (by decide +kernel) rfl, xTbl_in 72 (by decide +kernel) rfl, ⟨by decide +kernel, by decide +kernel, by decide +kernel⟩, by decide⟩
theorem mvX3_second : xMv mX3_second := ⟨xTbl_in 696 (by decide +kernel) rfl, xTbl_in 697 (by decide +kernel) rfl⟩
theorem okX3_slotThen : xMok mX3_slotThen 2 := ⟨xTbl_in 682 (by decide +kernel) rfl, xTbl_in 72 (by decide +kernel) rfl, ⟨by decide +kernel, by decide +kernel, by decide +kernel⟩, by decide⟩
theorem mvX3_slotThen : xMv mX3_slotThen := ⟨xTbl_in 680 (by decide +kernel) rfl, xTbl_in 681 (by decide +kernel) rfl⟩
theorem okX3_sound : xMok mX3_sound 0 := ⟨xTbl_in 650 (by decide +kernel) rfl, xTbl_in 72 (by decide +kernel) rfl, ⟨by decide +kernel, by decide +kernel, by decide +kernel⟩, by decide⟩
theorem mvX3_sound : xMv mX3_sound := ⟨xTbl_in 648 (by decide +kernel) rfl, xTbl_in 649 (by decide +kernel) rfl⟩
theorem okX3_then : xMok mX3_then 2 := ⟨xTbl_in 654 (by decide +kernel) rfl, xTbl_in 72 (by decide +kernel) rfl, ⟨by decide +kernel, by decide +kernel, by decide +kernel⟩, by decide⟩
theorem mvX3_then : xMv mX3_then := ⟨xTbl_in 652 (by decide +kernel) rfl, xTbl_in 653 (by decide +kernel) rfl⟩
theorem okX3_whatIs : xMok mX3_whatIs 2 := ⟨xTbl_in 754 (by decide +kernel) rfl, xTbl_in 72 (by decide +kernel) rfl, ⟨by decide +kernel, by decide +kernel, by decide +kernel⟩, by decide⟩
theorem mvX3_whatIs : xMv mX3_whatIs := ⟨xTbl_in 752 (by decide +kernel) rfl, xTbl_in 753 (by decide +kernel) rfl⟩
theorem okX3_worst : xMok mX3_worst 0 := ⟨xTbl_in 719 (by decide +kernel) rfl, xTbl_in 72 (by decide +kernel) rfl, ⟨by decide +kernel, by decide +kernel, by decide +kernel⟩, by decide⟩
theorem mvX3_worst : xMv mX3_worst := ⟨xTbl_in 717 (by decide +kernel) rfl, xTbl_in 718 (by decide +kernel) rfl⟩
theorem okX4_check : xMok mX4_check 0 := ⟨xTbl_in 1071 (by decide +kernel) rfl, xTbl_in 77 (by decide +kernel) rfl, ⟨by decide +kernel, by decide +kernel, by decide +kernel⟩, by decide⟩
theorem mvX4_check : xMv mX4_check := ⟨xTbl_in 1069 (by decide +kernel) rfl, xTbl_in 1070 (by decide +kernel) rfl⟩
theorem okX4_damage : xMok mX4_damage 3 := ⟨xTbl_in 1166 (by decide +kernel) rfl, xTbl_in 77 (by decide +kernel) rfl, ⟨by decide +kernel, by decide +kernel, by decide +kernel⟩, by decide⟩
theorem mvX4_damage : xMv mX4_damage := ⟨xTbl_in 1164 (by decide +kernel) rfl, xTbl_in 1165 (by decide +kernel) rfl⟩
theorem okX4_isSo : xMok mX4_isSo 0 := ⟨xTbl_in 1190 (by decide +kernel) rfl, xTbl_in 77 (by decide +kernel) rfl, ⟨by decide +kernel, by decide +kernel, by decide +kernel⟩, by decide⟩
theorem mvX4_isSo : xMv mX4_isSo := ⟨xTbl_in 1189 (by decide +kernel) rfl, xTbl_in 67 (by decide +kernel) rfl⟩
theorem okX4_judge : xMok mX4_judge 0 := ⟨xTbl_in 1198 (by decide +kernel) rfl, xTbl_in 77 (by decide +kernel) rfl, ⟨by decide +kernel, by decide +kernel, by decide +kernel⟩, by decide⟩
theorem mvX4_judge : xMv mX4_judge := ⟨xTbl_in 1196 (by decide +kernel) rfl, xTbl_in 1197 (by decide +kernel) rfl⟩
theorem okX4_largest : xMok mX4_largest 1 := ⟨xTbl_in 1138 (by decide +kernel) rfl, xTbl_in 77 (by decide +kernel) rfl, ⟨by decide +kernel, by decide +kernel, by decide +kernel⟩, by decide⟩
theorem mvX4_largest : xMv mX4_largest := ⟨xTbl_in 1136 (by decide +kernel) rfl, xTbl_in 1137 (by decide +kernel) rfl⟩
theorem okX4_loses : xMok mX4_loses 1 := ⟨xTbl_in 1146 (by decide +kernel) rfl, xTbl_in 77 (by decide +kernel) rfl, ⟨by decide +kernel, by decide +kernel, by decide +kernel⟩, by decide⟩
theorem mvX4_loses : xMv mX4_loses := ⟨xTbl_in 1144 (by decide +kernel) rfl, xTbl_in 1145 (by decide +kernel) rfl⟩
theorem okX4_lots : xMok mX4_lots 3 := ⟨xTbl_in 1206 (by decide +kernel) rfl, xTbl_in 77 (by decide +kernel) rfl, ⟨by decide +kernel, by decide +kernel, by decide +kernel⟩, by decide⟩
theorem mvX4_lots : xMv mX4_lots := ⟨xTbl_in 1204 (by decide +kernel) rfl, xTbl_in 1205 (by decide +kernel) rfl⟩
theorem okX4_mend : xMok mX4_mend 1 := ⟨xTbl_in 1154 (by decide +kernel) rfl, xTbl_in 77 (by decide +kernel) rfl, ⟨by decide +kernel, by decide +kernel, by decide +kernel⟩, by decide⟩
theorem mvX4_mend : xMv mX4_mend := ⟨xTbl_in 1152 (by decide +kernel) rfl, xTbl_in 1153 (by decide +kernel) rfl⟩
theorem okX4_pointerThen : xMok mX4_pointerThen 2 := ⟨xTbl_in 1134 (by decide +kernel) rfl, xTbl_in 77 (by decide +kernel) rfl, ⟨by decide +kernel, by decide +kernel, by decide +kernel⟩, by decide⟩
theorem mvX4_pointerThen : xMv mX4_pointerThen := ⟨xTbl_in 1132 (by decide +kernel) rfl, xTbl_in 1133 (by decide +kernel) rfl⟩
theorem okX4_second : xMok mX4_second 0 := ⟨xTbl_in 1142 (by decide +kernel) rfl, xTbl_in 77 (by decide +kernel) rfl, ⟨by decide +kernel, by decide +kernel, by decide +kernel⟩, by decide⟩
theorem mvX4_second : xMv mX4_second := ⟨xTbl_in 1140 (by decide +kernel) rfl, xTbl_in 1141 (by decide +kernel) rfl⟩
theorem okX4_slotThen : xMok mX4_slotThen 2 := ⟨xTbl_in 1130 (by decide +kernel) rfl, xTbl_in 77 (by decide +kernel) rfl, ⟨by decide +kernel, by decide +kernel, by decide +kernel⟩, by decide⟩
theorem mvX4_slotThen : xMv mX4_slotThen := ⟨xTbl_in 1128 (by decide +kernel) rfl, xTbl_in 1129 (by decide +kernel) rfl⟩
theorem okX4_states : xMok mX4_states 1 := ⟨xTbl_in 878 (by decide +kernel) rfl, xTbl_in 77 (by decide +kernel) rfl, ⟨by decide +kernel, by decide +kernel, by decide +kernel⟩, by decide⟩
theorem mvX4_states : xMv mX4_states := ⟨xTbl_in 877 (by decide +kernel) rfl, xTbl_in 24 (by decide +kernel) rfl⟩
theorem okX4_then : xMok mX4_then 2 := ⟨xTbl_in 1107 (by decide +kernel) rfl, xTbl_in 77 (by decide +kernel) rfl, ⟨by decide +kernel, by decide +kernel, by decide +kernel⟩, by decide⟩
theorem mvX4_then : xMv mX4_then := ⟨xTbl_in 1105 (by decide +kernel) rfl, xTbl_in 1106 (by decide +kernel) rfl⟩
theorem okX4_thinks : xMok mX4_thinks 0 := ⟨xTbl_in 1079 (by decide +kernel) rfl, xTbl_in 77 (by decide +kernel) rfl, ⟨by decide +kernel, by decide +kernel, by decide +kernel⟩, by decide⟩
theorem mvX4_thinks : xMv mX4_thinks := ⟨xTbl_in 1078 (by decide +kernel) rfl, xTbl_in 56 (by decide +kernel) rfl⟩
theorem okX1_placeOfWrongLetter : xMok mX1_placeOfWrongLetter 0 := ⟨xTbl_in 257 (by decide +kernel) rfl, xTbl_in 76 (by decide +kernel) rfl, ⟨by decide +kernel, by decide +kernel, by decide +kernel⟩, by decide⟩
theorem mvX1_placeOfWrongLetter : xMv mX1_placeOfWrongLetter := ⟨xTbl_in 256 (by decide +kernel) rfl, xTbl_in 1 (by decide +kernel) rfl⟩
theorem okX3_damage : xMok mX3_damage 3 := ⟨xTbl_in 732 (by decide +kernel) rfl, xTbl_in 72 (by decide +kernel) rfl, ⟨by decide +kernel, by decide +kernel, by decide +kernel⟩, by decide⟩
theorem mvX3_damage : xMv mX3_damage := ⟨xTbl_in 730 (by decide +kernel) rfl, xTbl_in 731 (by decide +kernel) rfl⟩
theorem okX4_goesThrough : xMok mX4_goesThrough 1 := ⟨xTbl_in 874 (by decide +kernel) rfl, xTbl_in 77 (by decide +kernel) rfl, ⟨by decide +kernel, by decide +kernel, by decide +kernel⟩, by decide⟩
theorem mvX4_goesThrough : xMv mX4_goesThrough := ⟨xTbl_in 873 (by decide +kernel) rfl, xTbl_in 23 (by decide +kernel) rfl⟩
theorem okX4_question : xMok mX4_question 2 := ⟨xTbl_in 1095 (by decide +kernel) rfl, xTbl_in 77 (by decide +kernel) rfl, ⟨by decide +kernel, by decide +kernel, by decide +kernel⟩, by decide⟩
theorem mvX4_question : xMv mX4_question := ⟨xTbl_in 1093 (by decide +kernel) rfl, xTbl_in 1094 (by decide +kernel) rfl⟩
theorem okX4_questions : xMok mX4_questions 1 := ⟨xTbl_in 1075 (by decide +kernel) rfl, xTbl_in 77 (by decide +kernel) rfl, ⟨by decide +kernel, by decide +kernel, by decide +kernel⟩, by decide⟩
theorem mvX4_questions : xMv mX4_questions := ⟨xTbl_in 1073 (by decide +kernel) rfl, xTbl_in 1074 (by decide +kernel) rfl⟩
theorem okX4_reasons : xMok mX4_reasons 0 := ⟨xTbl_in 1099 (by decide +kernel) rfl, xTbl_in 77 (by decide +kernel) rfl, ⟨by decide +kernel, by decide +kernel, by decide +kernel⟩, by decide⟩
theorem mvX4_reasons : xMv mX4_reasons := ⟨xTbl_in 1097 (by decide +kernel) rfl, xTbl_in 1098 (by decide +kernel) rfl⟩
theorem okX4_sound : xMok mX4_sound 0 := ⟨xTbl_in 1103 (by decide +kernel) rfl, xTbl_in 77 (by decide +kernel) rfl, ⟨by decide +kernel, by decide +kernel, by decide +kernel⟩, by decide⟩
theorem mvX4_sound : xMv mX4_sound := ⟨xTbl_in 1101 (by decide +kernel) rfl, xTbl_in 1102 (by decide +kernel) rfl⟩
theorem okX4_whatIs : xMok mX4_whatIs 2 := ⟨xTbl_in 1186 (by decide +kernel) rfl, xTbl_in 77 (by decide +kernel) rfl, ⟨by decide +kernel, by decide +kernel, by decide +kernel⟩, by decide⟩
theorem mvX4_whatIs : xMv mX4_whatIs := ⟨xTbl_in 1184 (by decide +kernel) rfl, xTbl_in 1185 (by decide +kernel) rfl⟩
theorem okX4_worst : xMok mX4_worst 0 := ⟨xTbl_in 1158 (by decide +kernel) rfl, xTbl_in 77 (by decide +kernel) rfl, ⟨by decide +kernel, by decide +kernel, by decide +kernel⟩, by decide⟩
theorem mvX4_worst : xMv mX4_worst := ⟨xTbl_in 1156 (by decide +kernel) rfl, xTbl_in 1157 (by decide +kernel) rfl⟩
theorem okX1_fault : xMok mX1_fault 0 := ⟨xTbl_in 253 (by decide +kernel) rfl, xTbl_in 76 (by decide +kernel) rfl, ⟨by decide +kernel, by decide +kernel, by decide +kernel⟩, by decide⟩
theorem mvX1_fault : xMv mX1_fault := ⟨xTbl_in 251 (by decide +kernel) rfl, xTbl_in 252 (by decide +kernel) rfl⟩
theorem okX4_volume : xMok mX4_volume 0 := ⟨xTbl_in 870 (by decide +kernel) rfl, xTbl_in 77 (by decide +kernel) rfl, ⟨by decide +kernel, by decide +kernel, by decide +kernel⟩, by decide⟩
theorem mvX4_volume : xMv mX4_volume := ⟨xTbl_in 868 (by decide +kernel) rfl, xTbl_in 869 (by decide +kernel) rfl⟩
theorem okX3_volume : xMok mX3_volume 0 := ⟨xTbl_in 249 (by decide +kernel) rfl, xTbl_in 72 (by decide +kernel) rfl, ⟨by decide +kernel, by decide +kernel, by decide +kernel⟩, by decide⟩
theorem mvX3_volume : xMv mX3_volume := ⟨xTbl_in 247 (by decide +kernel) rfl, xTbl_in 248 (by decide +kernel) rfl⟩
theorem ml_0_38 : Cond.methodLink (xown 0) 38 (xmy mX2_takeFrom) ∈ xTbl := xTbl_in 434 (by decide +kernel) rfl
theorem ml_0_42 : Cond.methodLink (xown 0) 42 (xmy mX0_mendPointers) ∈ xTbl := xTbl_in 441 (by decide +kernel) rfl
theorem ml_0_45 : Cond.methodLink (xown 0) 45 (xmy mX0_mendEntries) ∈ xTbl := xTbl_in 486 (by decide +kernel) rfl
theorem ml_0_48 : Cond.methodLink (xown 0) 48 (xmy mX0_mendConnections) ∈ xTbl := xTbl_in 496 (by decide +kernel) rfl
theorem ml_0_51 : Cond.methodLink (xown 0) 51 (xmy mX0_mendParents) ∈ xTbl := xTbl_in 542 (by decide +kernel) rfl
theorem ml_0_54 : Cond.methodLink (xown 0) 54 (xmy mX0_mendCounts) ∈ xTbl := xTbl_in 546 (by decide +kernel) rfl
theorem ml_0_57 : Cond.methodLink (xown 0) 57 (xmy mX0_mendMaps) ∈ xTbl := xTbl_in 555 (by decide +kernel) rfl
theorem ml_0_60 : Cond.methodLink (xown 0) 60 (xmy mX2_isDirectory) ∈ xTbl := xTbl_in 445 (by decide +kernel) rfl
theorem ml_0_64 : Cond.methodLink (xown 0) 64 (xmy mX0_asks) ∈ xTbl := xTbl_in 449 (by decide +kernel) rfl
theorem ml_0_68 : Cond.methodLink (xown 0) 68 (xmy mX2_wipe) ∈ xTbl := xTbl_in 453 (by decide +kernel) rfl
theorem ml_0_75 : Cond.methodLink (xown 0) 75 (xmy mX0_faultOfPointer) ∈ xTbl := xTbl_in 457 (by decide +kernel) rfl
theorem ml_0_82 : Cond.methodLink (xown 0) 82 (xmy mX0_cloneFor) ∈ xTbl := xTbl_in 463 (by decide +kernel) rfl
theorem ml_0_86 : Cond.methodLink (xown 0) 86 (xmy mX2_blockOf) ∈ xTbl := xTbl_in 479 (by decide +kernel) rfl
theorem ml_0_92 : Cond.methodLink (xown 0) 92 (xmy mX2_freeBlock) ∈ xTbl := xTbl_in 467 (by decide +kernel) rfl
theorem ml_0_102 : Cond.methodLink (xown 0) 102 (xmy mX0_faultOfEntry) ∈ xTbl := xTbl_in 490 (by decide +kernel) rfl
theorem ml_0_109 : Cond.methodLink (xown 0) 109 (xmy mX2_directories) ∈ xTbl := xTbl_in 500 (by decide +kernel) rfl
theorem ml_0_112 : Cond.methodLink (xown 0) 112 (xmy mX2_reachedFrom) ∈ xTbl := xTbl_in 505 (by decide +kernel) rfl
theorem ml_0_116 : Cond.methodLink (xown 0) 116 (xmy mX2_enteredByThese) ∈ xTbl := xTbl_in 517 (by decide +kernel) rfl
theorem ml_0_119 : Cond.methodLink (xown 0) 119 (xmy mJ6_numberOfTrailingZeros_0f7a4) ∈ xTbl := xTbl_in 518 (by decide +kernel) rfl
theorem ml_0_124 : Cond.methodLink (xown 0) 124 (xmy mX0_cutOff) ∈ xTbl := xTbl_in 519 (by decide +kernel) rfl
theorem ml_0_127 : Cond.methodLink (xown 0) 127 (xmy mX0_attach) ∈ xTbl := xTbl_in 527 (by decide +kernel) rfl
theorem ml_0_135 : Cond.methodLink (xown 0) 135 (xmy mX2_placeOfEntryTo) ∈ xTbl := xTbl_in 523 (by decide +kernel) rfl
theorem ml_0_138 : Cond.methodLink (xown 0) 138 (xmy mX2_emptySlotOf) ∈ xTbl := xTbl_in 531 (by decide +kernel) rfl
theorem ml_0_141 : Cond.methodLink (xown 0) 141 (xmy mX2_freeNameIn) ∈ xTbl := xTbl_in 536 (by decide +kernel) rfl
theorem ml_0_144 : Cond.methodLink (xown 0) 144 (xmy mX2_enter) ∈ xTbl := xTbl_in 540 (by decide +kernel) rfl
theorem ml_0_151 : Cond.methodLink (xown 0) 151 (xmy mX2_countEntries) ∈ xTbl := xTbl_in 550 (by decide +kernel) rfl
theorem ml_0_164 : Cond.methodLink (xown 0) 164 (xmy mX2_blocksPointedAt) ∈ xTbl := xTbl_in 559 (by decide +kernel) rfl
theorem ml_0_170 : Cond.methodLink (xown 0) 170 (xmy mX2_inodesInUse) ∈ xTbl := xTbl_in 560 (by decide +kernel) rfl
theorem ml_1_19 : Cond.methodLink (xown 1) 19 (xmy mX1_signAt) ∈ xTbl := xTbl_in 263 (by decide +kernel) rfl
theorem ml_1_23 : Cond.methodLink (xown 1) 23 (xmy mX1_digitAt) ∈ xTbl := xTbl_in 399 (by decide +kernel) rfl
theorem ml_1_28 : Cond.methodLink (xown 1) 28 (xmy mJ0_indexOf_0f7a4) ∈ xTbl := xTbl_in 267 (by decide +kernel) rfl
theorem ml_1_33 : Cond.methodLink (xown 1) 33 (xmy mX1_shapeOf) ∈ xTbl := xTbl_in 353 (by decide +kernel) rfl
theorem ml_1_37 : Cond.methodLink (xown 1) 37 (xmy mJ0_length_8abf5) ∈ xTbl := xTbl_in 362 (by decide +kernel) rfl
theorem ml_1_41 : Cond.methodLink (xown 1) 41 (xmy mX1_placeOfWrongLetter) ∈ xTbl := xTbl_in 254 (by decide +kernel) rfl
theorem ml_1_44 : Cond.methodLink (xown 1) 44 (xmy mX1_placeOfWrongStatement) ∈ xTbl := xTbl_in 391 (by decide +kernel) rfl
theorem ml_1_47 : Cond.methodLink (xown 1) 47 (xmy mX1_wrongLetterOf) ∈ xTbl := xTbl_in 258 (by decide +kernel) rfl
theorem ml_1_50 : Cond.methodLink (xown 1) 50 (xmy mX1_lengthAt) ∈ xTbl := xTbl_in 387 (by decide +kernel) rfl
theorem ml_1_55 : Cond.methodLink (xown 1) 55 (xmy mJ0_charAt_5068e) ∈ xTbl := xTbl_in 363 (by decide +kernel) rfl
theorem ml_1_59 : Cond.methodLink (xown 1) 59 (xmy mX1_fits) ∈ xTbl := xTbl_in 383 (by decide +kernel) rfl
theorem ml_1_63 : Cond.methodLink (xown 1) 63 (xmy mX1_stands) ∈ xTbl := xTbl_in 395 (by decide +kernel) rfl
theorem ml_1_67 : Cond.methodLink (xown 1) 67 (xmy mX1_pairAt) ∈ xTbl := xTbl_in 403 (by decide +kernel) rfl
theorem ml_2_37 : Cond.methodLink (xown 2) 37 (xmy mJ7_fill_53178) ∈ xTbl := xTbl_in 100 (by decide +kernel) rfl
theorem ml_2_49 : Cond.methodLink (xown 2) 49 (xmy mX2_isDirectory) ∈ xTbl := xTbl_in 504 (by decide +kernel) rfl
theorem ml_2_57 : Cond.methodLink (xown 2) 57 (xmy mX2_blockOf) ∈ xTbl := xTbl_in 678 (by decide +kernel) rfl
theorem ml_2_61 : Cond.methodLink (xown 2) 61 (xmy mX2_blocksPointedAt) ∈ xTbl := xTbl_in 471 (by decide +kernel) rfl
theorem ml_2_65 : Cond.methodLink (xown 2) 65 (xmy mJ6_numberOfTrailingZeros_0f7a4) ∈ xTbl := xTbl_in 475 (by decide +kernel) rfl
theorem ml_2_71 : Cond.methodLink (xown 2) 71 (xmy mX2_entriesIn) ∈ xTbl := xTbl_in 709 (by decide +kernel) rfl
theorem ml_2_74 : Cond.methodLink (xown 2) 74 (xmy mX2_enteredBy) ∈ xTbl := xTbl_in 513 (by decide +kernel) rfl
theorem ml_2_77 : Cond.methodLink (xown 2) 77 (xmy mX2_enteredByThese) ∈ xTbl := xTbl_in 509 (by decide +kernel) rfl
theorem ml_2_80 : Cond.methodLink (xown 2) 80 (xmy mX2_reachedFrom) ∈ xTbl := xTbl_in 663 (by decide +kernel) rfl
theorem ml_2_83 : Cond.methodLink (xown 2) 83 (xmy mJ6_bitCount_0f7a4) ∈ xTbl := xTbl_in 664 (by decide +kernel) rfl
theorem ml_2_86 : Cond.methodLink (xown 2) 86 (xmy mX2_blocksOf) ∈ xTbl := xTbl_in 674 (by decide +kernel) rfl
theorem ml_3_63 : Cond.methodLink (xown 3) 63 (xmy mX3_refusal) ∈ xTbl := xTbl_in 238 (by decide +kernel) rfl
theorem ml_3_70 : Cond.methodLink (xown 3) 70 (xmy mX1_append) ∈ xTbl := xTbl_in 242 (by decide +kernel) rfl
theorem ml_3_73 : Cond.methodLink (xown 3) 73 (xmy mX1_fault) ∈ xTbl := xTbl_in 250 (by decide +kernel) rfl
theorem ml_3_77 : Cond.methodLink (xown 3) 77 (xmy mX3_carryOut) ∈ xTbl := xTbl_in 407 (by decide +kernel) rfl
theorem ml_3_81 : Cond.methodLink (xown 3) 81 (xmy mX1_lengthAt) ∈ xTbl := xTbl_in 565 (by decide +kernel) rfl
theorem ml_3_84 : Cond.methodLink (xown 3) 84 (xmy mX3_isOutside) ∈ xTbl := xTbl_in 571 (by decide +kernel) rfl
theorem ml_3_106 : Cond.methodLink (xown 3) 106 (xmy mX2_entriesIn) ∈ xTbl := xTbl_in 574 (by decide +kernel) rfl
theorem ml_3_121 : Cond.methodLink (xown 3) 121 (xmy mX2_pointersTo) ∈ xTbl := xTbl_in 590 (by decide +kernel) rfl
theorem ml_3_124 : Cond.methodLink (xown 3) 124 (xmy mX2_pointAt) ∈ xTbl := xTbl_in 418 (by decide +kernel) rfl
theorem ml_3_128 : Cond.methodLink (xown 3) 128 (xmy mX2_enter) ∈ xTbl := xTbl_in 426 (by decide +kernel) rfl
theorem ml_3_133 : Cond.methodLink (xown 3) 133 (xmy mX0_run) ∈ xTbl := xTbl_in 430 (by decide +kernel) rfl
theorem ml_3_140 : Cond.methodLink (xown 3) 140 (xmy mX2_takeFrom) ∈ xTbl := xTbl_in 564 (by decide +kernel) rfl
theorem ml_3_147 : Cond.methodLink (xown 3) 147 (xmy mX0_askedFor) ∈ xTbl := xTbl_in 635 (by decide +kernel) rfl
theorem ml_3_159 : Cond.methodLink (xown 3) 159 (xmy mX2_depthOf) ∈ xTbl := xTbl_in 655 (by decide +kernel) rfl
theorem ml_3_162 : Cond.methodLink (xown 3) 162 (xmy mX2_inodesBelow) ∈ xTbl := xTbl_in 659 (by decide +kernel) rfl
theorem ml_3_165 : Cond.methodLink (xown 3) 165 (xmy mX2_blocksBelow) ∈ xTbl := xTbl_in 670 (by decide +kernel) rfl
theorem ml_3_168 : Cond.methodLink (xown 3) 168 (xmy mX3_inodeBySize) ∈ xTbl := xTbl_in 691 (by decide +kernel) rfl
theorem ml_3_172 : Cond.methodLink (xown 3) 172 (xmy mX2_inodesInUse) ∈ xTbl := xTbl_in 694 (by decide +kernel) rfl
theorem ml_3_175 : Cond.methodLink (xown 3) 175 (xmy mJ6_bitCount_0f7a4) ∈ xTbl := xTbl_in 703 (by decide +kernel) rfl
theorem ml_3_180 : Cond.methodLink (xown 3) 180 (xmy mX2_blocksPointedAt) ∈ xTbl := xTbl_in 704 (by decide +kernel) rfl
theorem ml_3_183 : Cond.methodLink (xown 3) 183 (xmy mX2_entriesInAll) ∈ xTbl := xTbl_in 705 (by decide +kernel) rfl
theorem ml_3_192 : Cond.methodLink (xown 3) 192 (xmy mX2_wipe) ∈ xTbl := xTbl_in 715 (by decide +kernel) rfl
theorem ml_3_195 : Cond.methodLink (xown 3) 195 (xmy mX2_blocksShared) ∈ xTbl := xTbl_in 724 (by decide +kernel) rfl
theorem ml_3_198 : Cond.methodLink (xown 3) 198 (xmy mX2_freeBlock) ∈ xTbl := xTbl_in 728 (by decide +kernel) rfl
theorem ml_3_203 : Cond.methodLink (xown 3) 203 (xmy mX3_leftWithout) ∈ xTbl := xTbl_in 734 (by decide +kernel) rfl
theorem ml_3_206 : Cond.methodLink (xown 3) 206 (xmy mX3_power) ∈ xTbl := xTbl_in 738 (by decide +kernel) rfl
theorem ml_3_210 : Cond.methodLink (xown 3) 210 (xmy mX3_partOfFraction) ∈ xTbl := xTbl_in 741 (by decide +kernel) rfl
theorem ml_3_214 : Cond.methodLink (xown 3) 214 (xmy mX3_rowIsAsked) ∈ xTbl := xTbl_in 755 (by decide +kernel) rfl
theorem ml_3_218 : Cond.methodLink (xown 3) 218 (xmy mX3_changeByLot) ∈ xTbl := xTbl_in 775 (by decide +kernel) rfl
theorem ml_3_221 : Cond.methodLink (xown 3) 221 (xmy mX2_directories) ∈ xTbl := xTbl_in 798 (by decide +kernel) rfl
theorem ml_3_224 : Cond.methodLink (xown 3) 224 (xmy mX1_digitAt) ∈ xTbl := xTbl_in 411 (by decide +kernel) rfl
theorem ml_3_227 : Cond.methodLink (xown 3) 227 (xmy mX1_pairAt) ∈ xTbl := xTbl_in 412 (by decide +kernel) rfl
theorem ml_3_230 : Cond.methodLink (xown 3) 230 (xmy mX1_signAt) ∈ xTbl := xTbl_in 413 (by decide +kernel) rfl
theorem ml_3_233 : Cond.methodLink (xown 3) 233 (xmy mX1_kindAt) ∈ xTbl := xTbl_in 414 (by decide +kernel) rfl
theorem ml_3_236 : Cond.methodLink (xown 3) 236 (xmy mX1_nameAt) ∈ xTbl := xTbl_in 422 (by decide +kernel) rfl
theorem ml_3_242 : Cond.methodLink (xown 3) 242 (xmy mX3_draw) ∈ xTbl := xTbl_in 779 (by decide +kernel) rfl
theorem ml_4_43 : Cond.methodLink (xown 4) 43 (xmy mX4_in) ∈ xTbl := xTbl_in 891 (by decide +kernel) rfl
theorem ml_4_47 : Cond.methodLink (xown 4) 47 (xmy mX4_isEntryTo) ∈ xTbl := xTbl_in 962 (by decide +kernel) rfl
theorem ml_4_51 : Cond.methodLink (xown 4) 51 (xmy mX4_pointersTo) ∈ xTbl := xTbl_in 943 (by decide +kernel) rfl
theorem ml_4_55 : Cond.methodLink (xown 4) 55 (xmy mX4_refused) ∈ xTbl := xTbl_in 863 (by decide +kernel) rfl
theorem ml_4_64 : Cond.methodLink (xown 4) 64 (xmy mX4_here) ∈ xTbl := xTbl_in 879 (by decide +kernel) rfl
theorem ml_4_72 : Cond.methodLink (xown 4) 72 (xmy mX4_one) ∈ xTbl := xTbl_in 887 (by decide +kernel) rfl
theorem ml_4_76 : Cond.methodLink (xown 4) 76 (xmy mX4_digit) ∈ xTbl := xTbl_in 883 (by decide +kernel) rfl
theorem ml_4_81 : Cond.methodLink (xown 4) 81 (xmy mJ0_charAt_5068e) ∈ xTbl := xTbl_in 899 (by decide +kernel) rfl
theorem ml_4_90 : Cond.methodLink (xown 4) 90 (xmy mX4_kindLetter) ∈ xTbl := xTbl_in 894 (by decide +kernel) rfl
theorem ml_4_93 : Cond.methodLink (xown 4) 93 (xmy mX4_twoDigits) ∈ xTbl := xTbl_in 900 (by decide +kernel) rfl
theorem ml_4_96 : Cond.methodLink (xown 4) 96 (xmy mX4_must) ∈ xTbl := xTbl_in 904 (by decide +kernel) rfl
theorem ml_4_100 : Cond.methodLink (xown 4) 100 (xmy mX4_checks) ∈ xTbl := xTbl_in 908 (by decide +kernel) rfl
theorem ml_4_103 : Cond.methodLink (xown 4) 103 (xmy mX4_states) ∈ xTbl := xTbl_in 875 (by decide +kernel) rfl
theorem ml_4_107 : Cond.methodLink (xown 4) 107 (xmy mX4_goesThrough) ∈ xTbl := xTbl_in 871 (by decide +kernel) rfl
theorem ml_4_111 : Cond.methodLink (xown 4) 111 (xmy mX4_isInode) ∈ xTbl := xTbl_in 1010 (by decide +kernel) rfl
theorem ml_4_115 : Cond.methodLink (xown 4) 115 (xmy mX4_holds) ∈ xTbl := xTbl_in 928 (by decide +kernel) rfl
theorem ml_4_118 : Cond.methodLink (xown 4) 118 (xmy mX4_lists) ∈ xTbl := xTbl_in 951 (by decide +kernel) rfl
theorem ml_4_121 : Cond.methodLink (xown 4) 121 (xmy mX4_pointerOf) ∈ xTbl := xTbl_in 1017 (by decide +kernel) rfl
theorem ml_4_124 : Cond.methodLink (xown 4) 124 (xmy mX4_slotOf) ∈ xTbl := xTbl_in 1025 (by decide +kernel) rfl
theorem ml_4_127 : Cond.methodLink (xown 4) 127 (xmy mX4_isBlock) ∈ xTbl := xTbl_in 1033 (by decide +kernel) rfl
theorem ml_4_130 : Cond.methodLink (xown 4) 130 (xmy mX4_becomes) ∈ xTbl := xTbl_in 994 (by decide +kernel) rfl
theorem ml_4_136 : Cond.methodLink (xown 4) 136 (xmy mX4_asks) ∈ xTbl := xTbl_in 916 (by decide +kernel) rfl
theorem ml_4_140 : Cond.methodLink (xown 4) 140 (xmy mX4_isRefused) ∈ xTbl := xTbl_in 931 (by decide +kernel) rfl
theorem ml_4_143 : Cond.methodLink (xown 4) 143 (xmy mX4_isSharedAhead) ∈ xTbl := xTbl_in 935 (by decide +kernel) rfl
theorem ml_4_146 : Cond.methodLink (xown 4) 146 (xmy mX4_freeBlock) ∈ xTbl := xTbl_in 939 (by decide +kernel) rfl
theorem ml_4_149 : Cond.methodLink (xown 4) 149 (xmy mX4_isNamedAhead) ∈ xTbl := xTbl_in 954 (by decide +kernel) rfl
theorem ml_4_152 : Cond.methodLink (xown 4) 152 (xmy mX4_isDirectory) ∈ xTbl := xTbl_in 912 (by decide +kernel) rfl
theorem ml_4_155 : Cond.methodLink (xown 4) 155 (xmy mX4_isListedAhead) ∈ xTbl := xTbl_in 958 (by decide +kernel) rfl
theorem ml_4_158 : Cond.methodLink (xown 4) 158 (xmy mX4_leastName) ∈ xTbl := xTbl_in 990 (by decide +kernel) rfl
theorem ml_4_161 : Cond.methodLink (xown 4) 161 (xmy mX4_wipes) ∈ xTbl := xTbl_in 920 (by decide +kernel) rfl
theorem ml_4_165 : Cond.methodLink (xown 4) 165 (xmy mX4_reached) ∈ xTbl := xTbl_in 974 (by decide +kernel) rfl
theorem ml_4_169 : Cond.methodLink (xown 4) 169 (xmy mX4_entriesTo) ∈ xTbl := xTbl_in 978 (by decide +kernel) rfl
theorem ml_4_172 : Cond.methodLink (xown 4) 172 (xmy mX4_lone) ∈ xTbl := xTbl_in 970 (by decide +kernel) rfl
theorem ml_4_175 : Cond.methodLink (xown 4) 175 (xmy mX4_entryTo) ∈ xTbl := xTbl_in 982 (by decide +kernel) rfl
theorem ml_4_178 : Cond.methodLink (xown 4) 178 (xmy mX4_attaches) ∈ xTbl := xTbl_in 986 (by decide +kernel) rfl
theorem ml_4_181 : Cond.methodLink (xown 4) 181 (xmy mX4_looksAtPointer) ∈ xTbl := xTbl_in 924 (by decide +kernel) rfl
theorem ml_4_184 : Cond.methodLink (xown 4) 184 (xmy mX4_looksAtSlot) ∈ xTbl := xTbl_in 947 (by decide +kernel) rfl
theorem ml_4_187 : Cond.methodLink (xown 4) 187 (xmy mX4_connects) ∈ xTbl := xTbl_in 966 (by decide +kernel) rfl
theorem ml_4_190 : Cond.methodLink (xown 4) 190 (xmy mX4_countsLinks) ∈ xTbl := xTbl_in 998 (by decide +kernel) rfl
theorem ml_4_193 : Cond.methodLink (xown 4) 193 (xmy mX4_maps) ∈ xTbl := xTbl_in 1002 (by decide +kernel) rfl
theorem ml_4_196 : Cond.methodLink (xown 4) 196 (xmy mX4_keeps) ∈ xTbl := xTbl_in 1080 (by decide +kernel) rfl
theorem ml_4_199 : Cond.methodLink (xown 4) 199 (xmy mX4_goesBack) ∈ xTbl := xTbl_in 1084 (by decide +kernel) rfl
theorem ml_4_202 : Cond.methodLink (xown 4) 202 (xmy mX4_thinks) ∈ xTbl := xTbl_in 1076 (by decide +kernel) rfl
theorem ml_4_205 : Cond.methodLink (xown 4) 205 (xmy mX4_manyOf) ∈ xTbl := xTbl_in 1088 (by decide +kernel) rfl
theorem ml_4_208 : Cond.methodLink (xown 4) 208 (xmy mX4_blocksOf) ∈ xTbl := xTbl_in 1123 (by decide +kernel) rfl
theorem ml_4_211 : Cond.methodLink (xown 4) 211 (xmy mX4_countOf) ∈ xTbl := xTbl_in 1116 (by decide +kernel) rfl
theorem ml_4_214 : Cond.methodLink (xown 4) 214 (xmy mX4_depthOf) ∈ xTbl := xTbl_in 1112 (by decide +kernel) rfl
theorem ml_4_217 : Cond.methodLink (xown 4) 217 (xmy mX4_blocksBelow) ∈ xTbl := xTbl_in 1119 (by decide +kernel) rfl
theorem ml_4_220 : Cond.methodLink (xown 4) 220 (xmy mX4_thenOf) ∈ xTbl := xTbl_in 1108 (by decide +kernel) rfl
theorem ml_4_223 : Cond.methodLink (xown 4) 223 (xmy mX4_entries) ∈ xTbl := xTbl_in 1147 (by decide +kernel) rfl
theorem ml_4_226 : Cond.methodLink (xown 4) 226 (xmy mX4_refusedLong) ∈ xTbl := xTbl_in 1167 (by decide +kernel) rfl
theorem ml_4_230 : Cond.methodLink (xown 4) 230 (xmy mX4_inodes) ∈ xTbl := xTbl_in 1172 (by decide +kernel) rfl
theorem ml_4_233 : Cond.methodLink (xown 4) 233 (xmy mX4_lowest) ∈ xTbl := xTbl_in 1176 (by decide +kernel) rfl
theorem ml_4_240 : Cond.methodLink (xown 4) 240 (xmy mX4_isSo) ∈ xTbl := xTbl_in 1187 (by decide +kernel) rfl
theorem ml_4_250 : Cond.methodLink (xown 4) 250 (xmy mX4_drawn) ∈ xTbl := xTbl_in 1211 (by decide +kernel) rfl
theorem ml_4_253 : Cond.methodLink (xown 4) 253 (xmy mX4_damages) ∈ xTbl := xTbl_in 1207 (by decide +kernel) rfl
theorem ml_4_259 : Cond.methodLink (xown 4) 259 (xmy mX4_kinds) ∈ xTbl := xTbl_in 1230 (by decide +kernel) rfl
theorem ml_5_335 : Cond.methodLink (xown 5) 335 (xmy mJ0_coder_7d493) ∈ xTbl := xTbl_in 285 (by decide +kernel) rfl
theorem ml_5_492 : Cond.methodLink (xown 5) 492 (xmy mJ0_isLatin1_aae02) ∈ xTbl := xTbl_in 275 (by decide +kernel) rfl
theorem ml_5_495 : Cond.methodLink (xown 5) 495 (xmy mJ1_charAt_3b067) ∈ xTbl := xTbl_in 367 (by decide +kernel) rfl
theorem ml_5_505 : Cond.methodLink (xown 5) 505 (xmy mJ0_length_8abf5) ∈ xTbl := xTbl_in 281 (by decide +kernel) rfl
theorem ml_5_633 : Cond.methodLink (xown 5) 633 (xmy mJ0_indexOf_7cf53) ∈ xTbl := xTbl_in 271 (by decide +kernel) rfl
theorem ml_5_637 : Cond.methodLink (xown 5) 637 (xmy mJ1_indexOf_4cfef) ∈ xTbl := xTbl_in 289 (by decide +kernel) rfl
theorem ml_5_1059 : Cond.methodLink (xown 5) 1059 (xmy mJ3_checkIndex_8e157) ∈ xTbl := xTbl_in 373 (by decide +kernel) rfl
theorem ml_6_9 : Cond.methodLink (xown 6) 9 (xmy mJ0_checkIndex_df160) ∈ xTbl := xTbl_in 370 (by decide +kernel) rfl
theorem ml_6_88 : Cond.methodLink (xown 6) 88 (xmy mJ1_canEncode_9a6ad) ∈ xTbl := xTbl_in 292 (by decide +kernel) rfl
theorem ml_6_95 : Cond.methodLink (xown 6) 95 (xmy mJ1_indexOfChar_4cfef) ∈ xTbl := xTbl_in 301 (by decide +kernel) rfl
theorem ml_0_130 : Cond.methodLink (xown 0) 130 Lib.Math.max.name ∈ xTbl := xTbl_in 541 (by decide +kernel) rfl
theorem ml_0_158 : Cond.methodLink (xown 0) 158 Lib.Math.min.name ∈ xTbl := xTbl_in 554 (by decide +kernel) rfl
theorem ml_3_186 : Cond.methodLink (xown 3) 186 Lib.Math.max.name ∈ xTbl := xTbl_in 710 (by decide +kernel) rfl
theorem ml_6_38 : Cond.methodLink (xown 6) 38 Lib.Math.min.name ∈ xTbl := xTbl_in 298 (by decide +kernel) rfl
theorem ml_6_92 : Cond.methodLink (xown 6) 92 Lib.Math.max.name ∈ xTbl := xTbl_in 295 (by decide +kernel) rfl
theorem ml_2_43 : Cond.methodLink (xown 2) 43 arraycopyName ∈ xTbl := xTbl_in 438 (by decide +kernel) rfl
theorem xn_native : Cond.native arraycopyName ∈ xTbl := xTbl_in 440 (by decide +kernel) rfl
theorem xn_static : Cond.static arraycopyName ∈ xTbl := xTbl_in 439 (by decide +kernel) rfl
theorem xn_init : Cond.initialized "java/lang/System" ∈ xTbl := xTbl_in 84 (by decide +kernel) rfl
end
section
/-! kinds of places; what a walk's result says; forgetting locals; switches -/
def xVol (v : Nat) : Prop := v = 1 ∨ v = 8 ∨ v = 15 ∨ v = 23 ∨ v = 35
def xChk (c : Nat) : Prop := c = 22 ∨ c = 34
def xRow (q : Nat) : Prop := xkd q = 5
def xStp (t : Nat) : Prop := 110 ≤ t ∧ t < 119
def xByt (t : Nat) : Prop := 130 ≤ t ∧ t < 139
def xAny (_ : Nat) : Prop := True
theorem xVol_0 {v : Nat} (h : xVol v) : xkd (v + 0) = 2 := by rcases h with rfl | rfl | rfl | rfl | rfl <;> rfl
theorem xVol_1 {v : Nat} (h : xVol v) : xkd (v + 1) = 5 := by rcases h with rfl | rfl | rfl | rfl | rfl <;> rfl
theorem xVol_l1 {v : Nat} (h : xVol v) : xln (v + 1) = 10 := by rcases h with rfl | rfl | rfl | rfl | rfl <;> rfl
theorem xVol_2 {v : Nat} (h : xVol v) : xkd (v + 2) = 5 := by rcases h with rfl | rfl | rfl | rfl | rfl <;> rfl
theorem xVol_l2 {v : Nat} (h : xVol v) : xln (v + 2) = 10 := by rcases h with rfl | rfl | rfl | rfl | rfl <;> rfl
theorem xVol_3 {v : Nat} (h : xVol v) : xkd (v + 3) = 5 := by rcases h with rfl | rfl | rfl | rfl | rfl <;> rfl
theorem xVol_l3 {v : Nat} (h : xVol v) : xln (v + 3) = 10 := by rcases h with rfl | rfl | rfl | rfl | rfl <;> rfl
theorem xVol_4 {v : Nat} (h : xVol v) : xkd (v + 4) = 5 := by rcases h with rfl | rfl | rfl | rfl | rfl <;> rfl
theorem xVol_l4 {v : Nat} (h : xVol v) : xln (v + 4) = 30 := by rcases h with rfl | rfl | rfl | rfl | rfl <;> rfl
theorem xVol_5 {v : Nat} (h : xVol v) : xkd (v + 5) = 5 := by rcases h with rfl | rfl | rfl | rfl | rfl <;> rfl
theorem xVol_l5 {v : Nat} (h : xVol v) : xln (v + 5) = 60 := by rcases h with rfl | rfl | rfl | rfl | rfl <;> rfl
theorem xVol_6 {v : Nat} (h : xVol v) : xkd (v + 6) = 5 := by rcases h with rfl | rfl | rfl | rfl | rfl <;> rfl
theorem xVol_l6 {v : Nat} (h : xVol v) : xln (v + 6) = 24 := by rcases h with rfl | rfl | rfl | rfl | rfl <;> rfl
theorem xVol_ne {v : Nat} (h : xVol v) : v ≠ 103 := by rcases h with rfl | rfl | rfl | rfl | rfl <;> decide
theorem xChk_0 {c : Nat} (h : xChk c) : xkd (c + 0) = 0 := by rcases h with rfl | rfl <;> rfl
theorem xChk_1 {c : Nat} (h : xChk c) : xkd (c + 1) = 2 := by rcases h with rfl | rfl <;> rfl
theorem xChk_2 {c : Nat} (h : xChk c) : xkd (c + 2) = 5 := by rcases h with rfl | rfl <;> rfl
theorem xChk_l2 {c : Nat} (h : xChk c) : xln (c + 2) = 10 := by rcases h with rfl | rfl <;> rfl
theorem xChk_3 {c : Nat} (h : xChk c) : xkd (c + 3) = 5 := by rcases h with rfl | rfl <;> rfl
theorem xChk_l3 {c : Nat} (h : xChk c) : xln (c + 3) = 10 := by rcases h with rfl | rfl <;> rfl
theorem xChk_4 {c : Nat} (h : xChk c) : xkd (c + 4) = 5 := by rcases h with rfl | rfl <;> rfl
theorem xChk_l4 {c : Nat} (h : xChk c) : xln (c + 4) = 10 := by rcases h with rfl | rfl <;> rfl
theorem xChk_5 {c : Nat} (h : xChk c) : xkd (c + 5) = 5 := by rcases h with rfl | rfl <;> rfl
theorem xChk_l5 {c : Nat} (h : xChk c) : xln (c + 5) = 30 := by rcases h with rfl | rfl <;> rfl
theorem xChk_6 {c : Nat} (h : xChk c) : xkd (c + 6) = 5 := by rcases h with rfl | rfl <;> rfl
theorem xChk_l6 {c : Nat} (h : xChk c) : xln (c + 6) = 60 := by rcases h with rfl | rfl <;> rfl
theorem xChk_7 {c : Nat} (h : xChk c) : xkd (c + 7) = 5 := by rcases h with rfl | rfl <;> rfl
theorem xChk_l7 {c : Nat} (h : xChk c) : xln (c + 7) = 24 := by rcases h with rfl | rfl <;> rfl
theorem xChk_8 {c : Nat} (h : xChk c) : xkd (c + 8) = 5 := by rcases h with rfl | rfl <;> rfl
theorem xChk_l8 {c : Nat} (h : xChk c) : xln (c + 8) = 180 := by rcases h with rfl | rfl <;> rfl
theorem xChk_9 {c : Nat} (h : xChk c) : xkd (c + 9) = 5 := by rcases h with rfl | rfl <;> rfl
theorem xChk_l9 {c : Nat} (h : xChk c) : xln (c + 9) = 180 := by rcases h with rfl | rfl <;> rfl
theorem xChk_10 {c : Nat} (h : xChk c) : xkd (c + 10) = 5 := by rcases h with rfl | rfl <;> rfl
theorem xChk_l10 {c : Nat} (h : xChk c) : xln (c + 10) = 180 := by rcases h with rfl | rfl <;> rfl
theorem xChk_11 {c : Nat} (h : xChk c) : xkd (c + 11) = 5 := by rcases h with rfl | rfl <;> rfl
theorem xChk_l11 {c : Nat} (h : xChk c) : xln (c + 11) = 10 := by rcases h with rfl | rfl <;> rfl
theorem xChk_ne {c : Nat} (h : xChk c) : c ≠ 103 := by rcases h with rfl | rfl <;> decide
theorem xChk_v {c : Nat} (h : xChk c) : xVol (c + 1) := by rcases h with rfl | rfl <;> simp [xVol]
theorem xVol_at1 : xVol 1 := by simp [xVol]
theorem xVol_at8 : xVol 8 := by simp [xVol]
theorem xVol_at15 : xVol 15 := by simp [xVol]
theorem xVol_at23 : xVol 23 := by simp [xVol]
theorem xVol_at35 : xVol 35 := by simp [xVol]
theorem xChk_at22 : xChk 22 := by simp [xChk]
theorem xChk_at34 : xChk 34 := by simp [xChk]
theorem xByt_of {t : Nat} (h : xStp t) : xByt (t + 20) := by unfold xStp at h; unfold xByt; omega
def xRi (Q : Int32 → xM → Prop) : Option Value → xM → Prop := fun r M => ∃ x, r = some (.int x) ∧ Q x M
def xRj (Q : Int64 → xM → Prop) : Option Value → xM → Prop := fun r M => ∃ x, r = some (.long x) ∧ Q x M
def xRa (Q : Nat → xM → Prop) : Option Value → xM → Prop := fun r M => ∃ x : Nat, r = some (.ref x) ∧ Q x M
def xRv (Q : xM → Prop) : Option Value → xM → Prop := fun r M => r = none ∧ Q M
def xmask : List Bool → List (Option Value) → List (Option Value)
  | b :: bs, v :: vs => (if b = true then v else none) :: xmask bs vs
  | _, vs => vs
theorem xmask_at {bs : List Bool} {L : List (Option Value)} {i : Nat} {v : Value} (h : (xmask bs L)[i]? = some (some v)) : L[i]? = some (some v) := by
  induction bs generalizing L i with
  | nil => simpa [xmask] using h
  | cons b bs ih =>
    cases L with
    | nil => simpa [xmask] using h
    | cons w L =>
      unfold xmask at h
      cases i with
      | zero =>
        simp only [List.getElem?_cons_zero, Option.some.injEq] at h ⊢
        split at h
        · exact h
        · cases h
      | succ i =>
        simp only [List.getElem?_cons_succ] at h ⊢
        exact ih h
theorem xmask_len {bs : List Bool} {L : List (Option Value)} : (xmask bs L).length = L.length := by
  induction bs generalizing L with
  | nil => rfl
  | cons b bs ih =>
    cases L with
    | nil => rfl
    | cons w L => simp [xmask, ih]
section XG
variable {l : Launch} {E : xE} {m : xMt} {R : Option Value → xM → Prop} {pc : Nat} {M : xM} {L L' : List (Option Value)} {st rest : List Value}
theorem Gx_mask (bs : List Bool) (h : xmask bs L = L') (k : Gx l E m R pc M L' st) : Gx l E m R pc M L st := by
  subst h
  intro p e s mi args below meth c H locs ls C hP hD hS hL
  exact k p e s mi args below meth c H locs ls C hP hD hS ⟨by rw [xmask_len]; exact hL.1, hL.2.1, hL.2.2.1, fun i v h => hL.2.2.2 i v (xmask_at h)⟩
theorem Gx_tabAt {dflt lo hi : Int} {offs : Array Int} {len : Nat} {x c : Int32} {off : Int} {tgt : Nat} (hx : x = c) (hd : decode (xmb m) pc = .ok (.tableswitch dflt lo hi offs, len)) (h1 : ¬ c.toInt < lo) (h2 : ¬ hi < c.toInt) (ho : offs[(c.toInt - lo).toNat]? = some off) (ht : (pc : Int) + off = (tgt : Int)) (k : Gx l E m R tgt M L st) : Gx l E m R pc M L (.int x :: st) := by
  subst hx
  exact Gx_tableIn hd h1 h2 ho ht k
theorem Gx_lookAt {dflt : Int} {ps : Array (Int × Int)} {len : Nat} {x c : Int32} {off : Int} {tgt : Nat} (hx : x = c) (hd : decode (xmb m) pc = .ok (.lookupswitch dflt ps, len)) (hp : (ps.toList.zip (ps.toList.drop 1)).all (fun (a, next) => a.1 < next.1) = true) (ho : Op.lookupswitch.offset ps.toList dflt c.toInt = off) (ht : (pc : Int) + off = (tgt : Int)) (k : Gx l E m R tgt M L st) : Gx l E m R pc M L (.int x :: st) := by
  subst hx
  exact Gx_lookup hd hp ho ht k
theorem Gx_callTp {mc : xMt} {n idx q : Nat} {As : List Value} {R' : Option Value → xM → Prop} (hd : decode (xmb m) pc = .ok (.invokevirtual idx, 3)) (hl : Cond.methodLink (xown (xmo m)) idx (xmy mc) ∈ xTbl) (hm : xMok mc n) (hv : xMv mc) (hn : As.length = n) (hdep : xmd mc + 1 ≤ xmd m) (hrest : (rest.map fun v => v.category).sum ≤ 8)
    (hq : xStp q) (he : (xmy mc).cls = "java/lang/String")
    (hC : Ct l E mc (.ref q :: As) M R') (k : ∀ r M', R' r M' → Gx l E m R (pc + 3) M' L (r.toList ++ rest)) : Gx l E m R pc M L (As.reverse ++ .ref q :: rest) := by
  obtain ⟨h1, h2⟩ := hq
  obtain ⟨i, rfl⟩ : ∃ i, q = 110 + i := ⟨q - 110, by omega⟩
  exact Gx_callT hd hl hm hv hn hdep hrest (by omega) he hC k
theorem xmm_max : Cond.static Lib.Math.max.name ∈ xTbl ∧ Cond.initialized "java/lang/Math" ∈ xTbl ∧ Cond.code Lib.Math.max.name Lib.Math.max.code 2 (some .int) ∈ xTbl := ⟨xTbl_in 296 (by decide +kernel) rfl, xTbl_in 80 (by decide +kernel) rfl, xTbl_in 297 (by decide +kernel) rfl⟩
theorem Gx_mmax {idx : Nat} {x y : Int32} (hd : decode (xmb m) pc = .ok (.invokestatic idx, 3)) (hl : Cond.methodLink (xown (xmo m)) idx Lib.Math.max.name ∈ xTbl) (hdep : 1 ≤ xmd m) (hrest : (rest.map fun v => v.category).sum ≤ 8) (k : Gx l E m R (pc + 3) M L (.int (if x < y then y else x) :: rest)) : Gx l E m R pc M L (.int y :: .int x :: rest) := by
  intro p e s mi args below meth c H locs ls C hP hD hS hL
  have C0 := C
  obtain ⟨hx, hb, hml, hrt, hlk, hown, hts, hK, hB⟩ := C
  have hSi := hK.2.1.2.2.2.2.2.2.1
  have hsum : ((rest.map (xv E)).map fun v => v.category).sum ≤ 8 := by
    have := x_rest (rest := rest) (pc := 0) (mi := mi) (ls := #[]) (st := []) hSi hrest
    omega
  exact va_mmax hx hb (hml.trans hL.2.1.symm) hown (hts _ hl) (hts _ xmm_max.1) (hts _ xmm_max.2.1) (hts _ xmm_max.2.2) hdep (by simp only [xR]; omega) (Nat.zero_le _) (Nat.zero_le _) hd (k p e s mi args below meth c H locs ls C0 hP hD hS hL)
theorem xmm_min : Cond.static Lib.Math.min.name ∈ xTbl ∧ Cond.initialized "java/lang/Math" ∈ xTbl ∧ Cond.code Lib.Math.min.name Lib.Math.min.code 2 (some .int) ∈ xTbl := ⟨xTbl_in 299 (by decide +kernel) rfl, xTbl_in 80 (by decide +kernel) rfl, xTbl_in 300 (by decide +kernel) rfl⟩
theorem Gx_mmin {idx : Nat} {x y : Int32} (hd : decode (xmb m) pc = .ok (.invokestatic idx, 3)) (hl : Cond.methodLink (xown (xmo m)) idx Lib.Math.min.name ∈ xTbl) (hdep : 1 ≤ xmd m) (hrest : (rest.map fun v => v.category).sum ≤ 8) (k : Gx l E m R (pc + 3) M L (.int (if y < x then y else x) :: rest)) : Gx l E m R pc M L (.int y :: .int x :: rest) := by
  intro p e s mi args below meth c H locs ls C hP hD hS hL
  have C0 := C
  obtain ⟨hx, hb, hml, hrt, hlk, hown, hts, hK, hB⟩ := C
  have hSi := hK.2.1.2.2.2.2.2.2.1
  have hsum : ((rest.map (xv E)).map fun v => v.category).sum ≤ 8 := by
    have := x_rest (rest := rest) (pc := 0) (mi := mi) (ls := #[]) (st := []) hSi hrest
    omega
  exact va_mmin hx hb (hml.trans hL.2.1.symm) hown (hts _ hl) (hts _ xmm_min.1) (hts _ xmm_min.2.1) (hts _ xmm_min.2.2) hdep (by simp only [xR]; omega) (Nat.zero_le _) (Nat.zero_le _) hd (k p e s mi args below meth c H locs ls C0 hP hD hS hL)
end XG
end
section
/-! walks: J0_coder_7d493, J0_isLatin1_aae02, J1_canEncode_9a6ad, J1_indexOfChar_4cfef, J3_checkIndex_8e157, J6_bitCount_0f7a4, J6_numberOfTrailingZeros_0f7a4, J7_fill_53178, X0_askedFor, X0_asks, X0_faultOfPointer, X1_append, X1_shapeOf -/
def eJ0_coder_7d493_0 : List xI := [(.getstatic 38, 3, 2, 0, 0)]
theorem kJ0_coder_7d493_0 : xcode (xmb mJ0_coder_7d493) (xmo mJ0_coder_7d493) 0 eJ0_coder_7d493_0 = true := by decide +kernel
def eJ0_coder_7d493_6 : List xI := [(.aload_n 0, 1, 0, 0, 0), (.getfield 15, 3, 9, 1, 0)]
theorem kJ0_coder_7d493_6 : xcode (xmb mJ0_coder_7d493) (xmo mJ0_coder_7d493) 6 eJ0_coder_7d493_6 = true := by decide +kernel
def wJ0_coder_7d493_14 (t : Nat) (Q : Int32 → xM → Prop) (M : xM) : Prop :=
    Q (0 : Int32) M
set_option maxHeartbeats 4000000 in
set_option maxRecDepth 100000 in
theorem tJ0_coder_7d493_14 {l : Launch} {E : xE} {t : Nat} {Q : Int32 → xM → Prop} (h_t : xStp t) (M : xM) (h : wJ0_coder_7d493_14 t Q M ) : Gx l E mJ0_coder_7d493 (xRi Q) 14 M [none] [.int (0 : Int32)] := by
  unfold wJ0_coder_7d493_14 at h
  exact Gx_iret (by decide +kernel) rfl (by decide) ⟨_, rfl, h⟩
def wJ0_coder_7d493 (M : xM) (t : Nat) (Q : Int32 → xM → Prop) : Prop :=
    wJ0_coder_7d493_14 t Q M
set_option maxHeartbeats 4000000 in
set_option maxRecDepth 100000 in
theorem tJ0_coder_7d493 {l : Launch} {E : xE} {M : xM} {t : Nat} {Q : Int32 → xM → Prop} (h_t : xStp t) (h : wJ0_coder_7d493 M t Q) : Ct l E mJ0_coder_7d493 [.ref t] M (xRi Q) := by
  refine Ct_of (by decide +kernel) rfl (Nat.le_of_ble_eq_true rfl) ?_
  unfold wJ0_coder_7d493 at h
  show Gx l E mJ0_coder_7d493 (xRi Q) 0 M [some (.ref t)] []
  refine Gx_run (es := eJ0_coder_7d493_0) (P := []) (M' := M) (L' := [some (.ref t)]) (st' := [.int (1 : Int32)]) (pc' := 3) kJ0_coder_7d493_0 rfl trivial rfl ?_
  refine Gx_if_eq (off := 10) (tgt := 13) (by decide +kernel) (by decide) (fun z => absurd z (by decide)) (fun _ => ?_)
  refine Gx_run (es := eJ0_coder_7d493_6) (P := [110 ≤ t, t < 119]) (M' := M) (L' := [some (.ref t)]) (st' := [.int (0 : Int32)]) (pc' := 10) kJ0_coder_7d493_6 rfl ⟨h_t.1, h_t.2, trivial⟩ rfl ?_
  refine Gx_goto (off := 4) (tgt := 14) (by decide +kernel) (by decide) ?_
  refine Gx_mask [false] (L' := [none]) rfl ?_
  exact tJ0_coder_7d493_14 h_t  M h
def eJ0_isLatin1_aae02_0 : List xI := [(.getstatic 38, 3, 2, 0, 0)]
theorem kJ0_isLatin1_aae02_0 : xcode (xmb mJ0_isLatin1_aae02) (xmo mJ0_isLatin1_aae02) 0 eJ0_isLatin1_aae02_0 = true := by decide +kernel
def eJ0_isLatin1_aae02_6 : List xI := [(.aload_n 0, 1, 0, 0, 0), (.getfield 15, 3, 9, 1, 0)]
theorem kJ0_isLatin1_aae02_6 : xcode (xmb mJ0_isLatin1_aae02) (xmo mJ0_isLatin1_aae02) 6 eJ0_isLatin1_aae02_6 = true := by decide +kernel
def eJ0_isLatin1_aae02_13 : List xI := [(.iconst 1, 1, 0, 0, (1))]
theorem kJ0_isLatin1_aae02_13 : xcode (xmb mJ0_isLatin1_aae02) (xmo mJ0_isLatin1_aae02) 13 eJ0_isLatin1_aae02_13 = true := by decide +kernel
def wJ0_isLatin1_aae02_18 (t : Nat) (Q : Int32 → xM → Prop) (M : xM) : Prop :=
    Q (1 : Int32) M
set_option maxHeartbeats 4000000 in
set_option maxRecDepth 100000 in
theorem tJ0_isLatin1_aae02_18 {l : Launch} {E : xE} {t : Nat} {Q : Int32 → xM → Prop} (h_t : xStp t) (M : xM) (h : wJ0_isLatin1_aae02_18 t Q M ) : Gx l E mJ0_isLatin1_aae02 (xRi Q) 18 M [none] [.int (1 : Int32)] := by
  unfold wJ0_isLatin1_aae02_18 at h
  exact Gx_iret (by decide +kernel) rfl (by decide) ⟨_, rfl, h⟩
def wJ0_isLatin1_aae02 (M : xM) (t : Nat) (Q : Int32 → xM → Prop) : Prop :=
    wJ0_isLatin1_aae02_18 t Q M
set_option maxHeartbeats 4000000 in
set_option maxRecDepth 100000 in
theorem tJ0_isLatin1_aae02 {l : Launch} {E : xE} {M : xM} {t : Nat} {Q : Int32 → xM → Prop} (h_t : xStp t) (h : wJ0_isLatin1_aae02 M t Q) : Ct l E mJ0_isLatin1_aae02 [.ref t] M (xRi Q) := by
  refine Ct_of (by decide +kernel) rfl (Nat.le_of_ble_eq_true rfl) ?_
  unfold wJ0_isLatin1_aae02 at h
  show Gx l E mJ0_isLatin1_aae02 (xRi Q) 0 M [some (.ref t)] []
  refine Gx_run (es := eJ0_isLatin1_aae02_0) (P := []) (M' := M) (L' := [some (.ref t)]) (st' := [.int (1 : Int32)]) (pc' := 3) kJ0_isLatin1_aae02_0 rfl trivial rfl ?_
  refine Gx_if_eq (off := 14) (tgt := 17) (by decide +kernel) (by decide) (fun z => absurd z (by decide)) (fun _ => ?_)
  refine Gx_run (es := eJ0_isLatin1_aae02_6) (P := [110 ≤ t, t < 119]) (M' := M) (L' := [some (.ref t)]) (st' := [.int (0 : Int32)]) (pc' := 10) kJ0_isLatin1_aae02_6 rfl ⟨h_t.1, h_t.2, trivial⟩ rfl ?_
  refine Gx_if_ne (off := 7) (tgt := 17) (by decide +kernel) (by decide) (fun z => absurd z (by decide)) (fun _ => ?_)
  refine Gx_run (es := eJ0_isLatin1_aae02_13) (P := []) (M' := M) (L' := [some (.ref t)]) (st' := [.int (1 : Int32)]) (pc' := 14) kJ0_isLatin1_aae02_13 rfl trivial rfl ?_
  refine Gx_goto (off := 4) (tgt := 18) (by decide +kernel) (by decide) ?_
  refine Gx_mask [false] (L' := [none]) rfl ?_
  exact tJ0_isLatin1_aae02_18 h_t  M h
def eJ1_canEncode_9a6ad_0 : List xI := [(.iload_n 0, 1, 0, 0, 0)]
theorem kJ1_canEncode_9a6ad_0 : xcode (xmb mJ1_canEncode_9a6ad) (xmo mJ1_canEncode_9a6ad) 0 eJ1_canEncode_9a6ad_0 = true := by decide +kernel
def eJ1_canEncode_9a6ad_15 : List xI := [(.iconst 0, 1, 0, 0, (0))]
theorem kJ1_canEncode_9a6ad_15 : xcode (xmb mJ1_canEncode_9a6ad) (xmo mJ1_canEncode_9a6ad) 15 eJ1_canEncode_9a6ad_15 = true := by decide +kernel
def eJ1_canEncode_9a6ad_4 : List xI := [(.iload_n 0, 1, 0, 0, 0), (.sipush 255, 3, 0, 0, (255))]
theorem kJ1_canEncode_9a6ad_4 : xcode (xmb mJ1_canEncode_9a6ad) (xmo mJ1_canEncode_9a6ad) 4 eJ1_canEncode_9a6ad_4 = true := by decide +kernel
def eJ1_canEncode_9a6ad_11 : List xI := [(.iconst 1, 1, 0, 0, (1))]
theorem kJ1_canEncode_9a6ad_11 : xcode (xmb mJ1_canEncode_9a6ad) (xmo mJ1_canEncode_9a6ad) 11 eJ1_canEncode_9a6ad_11 = true := by decide +kernel
def wJ1_canEncode_9a6ad_16 (p1 : Int32) (Q : Int32 → xM → Prop) (M : xM) (s0 : Int32) : Prop :=
    (s0 &&& 1 = s0) ∧ Q s0 M
set_option maxHeartbeats 4000000 in
set_option maxRecDepth 100000 in
theorem tJ1_canEncode_9a6ad_16 {l : Launch} {E : xE} {p1 : Int32} {Q : Int32 → xM → Prop} (M : xM) (s0 : Int32) (h : wJ1_canEncode_9a6ad_16 p1 Q M s0) : Gx l E mJ1_canEncode_9a6ad (xRi Q) 16 M [none] [.int s0] := by
  unfold wJ1_canEncode_9a6ad_16 at h
  exact Gx_iret (by decide +kernel) rfl (congrArg Value.int h.1) ⟨_, rfl, h.2⟩
def wJ1_canEncode_9a6ad_15 (p1 : Int32) (Q : Int32 → xM → Prop) (M : xM) : Prop :=
    wJ1_canEncode_9a6ad_16 p1 Q M (0 : Int32)
set_option maxHeartbeats 4000000 in
set_option maxRecDepth 100000 in
theorem tJ1_canEncode_9a6ad_15 {l : Launch} {E : xE} {p1 : Int32} {Q : Int32 → xM → Prop} (M : xM) (h : wJ1_canEncode_9a6ad_15 p1 Q M ) : Gx l E mJ1_canEncode_9a6ad (xRi Q) 15 M [none] [] := by
  unfold wJ1_canEncode_9a6ad_15 at h
  refine Gx_run (es := eJ1_canEncode_9a6ad_15) (P := []) (M' := M) (L' := [none]) (st' := [.int (0 : Int32)]) (pc' := 16) kJ1_canEncode_9a6ad_15 rfl trivial rfl ?_
  refine Gx_mask [false] (L' := [none]) rfl ?_
  exact tJ1_canEncode_9a6ad_16  M (0 : Int32) h
def wJ1_canEncode_9a6ad (M : xM) (p1 : Int32) (Q : Int32 → xM → Prop) : Prop :=
    (((p1 < 0) → (wJ1_canEncode_9a6ad_15 p1 Q M)) ∧ ((¬ p1 < 0) → (((((255 : Int32) < p1) → (wJ1_canEncode_9a6ad_15 p1 Q M)) ∧ ((¬ (255 : Int32) < p1) → (wJ1_canEncode_9a6ad_16 p1 Q M (1 : Int32)))))))
set_option maxHeartbeats 4000000 in
set_option maxRecDepth 100000 in
theorem tJ1_canEncode_9a6ad {l : Launch} {E : xE} {M : xM} {p1 : Int32} {Q : Int32 → xM → Prop} (h : wJ1_canEncode_9a6ad M p1 Q) : Ct l E mJ1_canEncode_9a6ad [.int p1] M (xRi Q) := by
  refine Ct_of (by decide +kernel) rfl (Nat.le_of_ble_eq_true rfl) ?_
  unfold wJ1_canEncode_9a6ad at h
  show Gx l E mJ1_canEncode_9a6ad (xRi Q) 0 M [some (.int p1)] []
  refine Gx_run (es := eJ1_canEncode_9a6ad_0) (P := []) (M' := M) (L' := [some (.int p1)]) (st' := [.int p1]) (pc' := 1) kJ1_canEncode_9a6ad_0 rfl trivial rfl ?_
  refine Gx_if_lt (off := 14) (tgt := 15) (by decide +kernel) (by decide) (fun z => ?_) (fun z => ?_)
  · have h := h.1 z
    refine Gx_mask [false] (L' := [none]) rfl ?_
    exact tJ1_canEncode_9a6ad_15  M h
  · have h := h.2 z
    refine Gx_run (es := eJ1_canEncode_9a6ad_4) (P := []) (M' := M) (L' := [some (.int p1)]) (st' := [.int (255 : Int32), .int p1]) (pc' := 8) kJ1_canEncode_9a6ad_4 rfl trivial rfl ?_
    refine Gx_icmp_gt (off := 7) (tgt := 15) (by decide +kernel) (by decide) (fun z => ?_) (fun z => ?_)
    · have h := h.1 z
      refine Gx_mask [false] (L' := [none]) rfl ?_
      exact tJ1_canEncode_9a6ad_15  M h
    · have h := h.2 z
      refine Gx_run (es := eJ1_canEncode_9a6ad_11) (P := []) (M' := M) (L' := [some (.int p1)]) (st' := [.int (1 : Int32)]) (pc' := 12) kJ1_canEncode_9a6ad_11 rfl trivial rfl ?_
      refine Gx_goto (off := 4) (tgt := 16) (by decide +kernel) (by decide) ?_
      refine Gx_mask [false] (L' := [none]) rfl ?_
      exact tJ1_canEncode_9a6ad_16  M (1 : Int32) h
def eJ1_indexOfChar_4cfef_0 : List xI := [(.iload_n 1, 1, 0, 0, 0), (.i2b, 1, 0, 0, 0), (.istore 4, 2, 0, 0, 0), (.iload_n 2, 1, 0, 0, 0), (.istore 5, 2, 0, 0, 0)]
theorem kJ1_indexOfChar_4cfef_0 : xcode (xmb mJ1_indexOfChar_4cfef) (xmo mJ1_indexOfChar_4cfef) 0 eJ1_indexOfChar_4cfef_0 = true := by decide +kernel
def eJ1_indexOfChar_4cfef_7 : List xI := [(.iload 5, 2, 0, 0, 0), (.iload_n 3, 1, 0, 0, 0)]
theorem kJ1_indexOfChar_4cfef_7 : xcode (xmb mJ1_indexOfChar_4cfef) (xmo mJ1_indexOfChar_4cfef) 7 eJ1_indexOfChar_4cfef_7 = true := by decide +kernel
def eJ1_indexOfChar_4cfef_31 : List xI := [(.iconst (-1), 1, 0, 0, (-1))]
theorem kJ1_indexOfChar_4cfef_31 : xcode (xmb mJ1_indexOfChar_4cfef) (xmo mJ1_indexOfChar_4cfef) 31 eJ1_indexOfChar_4cfef_31 = true := by decide +kernel
def eJ1_indexOfChar_4cfef_13 : List xI := [(.aload_n 0, 1, 0, 0, 0), (.iload 5, 2, 0, 0, 0), (.baload, 1, 0, 0, 0), (.iload 4, 2, 0, 0, 0)]
theorem kJ1_indexOfChar_4cfef_13 : xcode (xmb mJ1_indexOfChar_4cfef) (xmo mJ1_indexOfChar_4cfef) 13 eJ1_indexOfChar_4cfef_13 = true := by decide +kernel
def eJ1_indexOfChar_4cfef_25 : List xI := [(.iinc 5 1, 3, 0, 0, (1))]
theorem kJ1_indexOfChar_4cfef_25 : xcode (xmb mJ1_indexOfChar_4cfef) (xmo mJ1_indexOfChar_4cfef) 25 eJ1_indexOfChar_4cfef_25 = true := by decide +kernel
def eJ1_indexOfChar_4cfef_22 : List xI := [(.iload 5, 2, 0, 0, 0)]
theorem kJ1_indexOfChar_4cfef_22 : xcode (xmb mJ1_indexOfChar_4cfef) (xmo mJ1_indexOfChar_4cfef) 22 eJ1_indexOfChar_4cfef_22 = true := by decide +kernel
def lJ1_indexOfChar_4cfef_7 (p1 : Nat) (p2 : Int32) (p3 : Int32) (p4 : Int32) (Q : Int32 → xM → Prop) : Nat → xM → Int32 → Prop
  | 0 => fun _ _ => False
  | n + 1 => let k7 := lJ1_indexOfChar_4cfef_7 p1 p2 p3 p4 Q n; fun M a5 =>
    (((p4 ≤ a5) → (Q (-1 : Int32) M)) ∧ ((¬ p4 ≤ a5) → ((vp_in a5 (xsl (p1 - 130))) ∧ (((¬ (xsb (p1 - 130) a5.toNatClampNeg) = p2.toInt8.toInt32) → (k7 M (a5 + (1 : Int32)))) ∧ (((xsb (p1 - 130) a5.toNatClampNeg) = p2.toInt8.toInt32) → (Q a5 M))))))
set_option maxHeartbeats 4000000 in
set_option maxRecDepth 100000 in
theorem tJ1_indexOfChar_4cfef_7 {l : Launch} {E : xE} {p1 : Nat} {p2 : Int32} {p3 : Int32} {p4 : Int32} {Q : Int32 → xM → Prop} (h_p1 : xByt p1) (n : Nat) : ∀ (M : xM) (a5 : Int32), lJ1_indexOfChar_4cfef_7 p1 p2 p3 p4 Q n M a5 → Gx l E mJ1_indexOfChar_4cfef (xRi Q) 7 M [some (.ref p1), none, none, some (.int p4), some (.int p2.toInt8.toInt32), some (.int a5)] [] := by
  induction n with
  | zero => intro M a5 h; exact h.elim
  | succ n hk7 =>
      intro M a5 h
      unfold lJ1_indexOfChar_4cfef_7 at h
      dsimp only at h
      refine Gx_run (es := eJ1_indexOfChar_4cfef_7) (P := []) (M' := M) (L' := [some (.ref p1), none, none, some (.int p4), some (.int p2.toInt8.toInt32), some (.int a5)]) (st' := [.int p4, .int a5]) (pc' := 10) kJ1_indexOfChar_4cfef_7 rfl trivial rfl ?_
      refine Gx_icmp_ge (off := 21) (tgt := 31) (by decide +kernel) (by decide) (fun z => ?_) (fun z => ?_)
      · have h := h.1 z
        refine Gx_run (es := eJ1_indexOfChar_4cfef_31) (P := []) (M' := M) (L' := [some (.ref p1), none, none, some (.int p4), some (.int p2.toInt8.toInt32), some (.int a5)]) (st' := [.int (-1 : Int32)]) (pc' := 32) kJ1_indexOfChar_4cfef_31 rfl trivial rfl ?_
        exact Gx_iret (by decide +kernel) rfl rfl ⟨_, rfl, h⟩
      · have h := h.2 z
        obtain ⟨g13_0, h⟩ := h
        refine Gx_run (es := eJ1_indexOfChar_4cfef_13) (P := [130 ≤ p1, p1 < 139, vp_in a5 (xsl (p1 - 130))]) (M' := M) (L' := [some (.ref p1), none, none, some (.int p4), some (.int p2.toInt8.toInt32), some (.int a5)]) (st' := [.int p2.toInt8.toInt32, .int (xsb (p1 - 130) a5.toNatClampNeg)]) (pc' := 19) kJ1_indexOfChar_4cfef_13 rfl ⟨h_p1.1, h_p1.2, g13_0, trivial⟩ rfl ?_
        refine Gx_icmp_ne (off := 6) (tgt := 25) (by decide +kernel) (by decide) (fun z => ?_) (fun z => ?_)
        · have h := h.1 z
          refine Gx_run (es := eJ1_indexOfChar_4cfef_25) (P := []) (M' := M) (L' := [some (.ref p1), none, none, some (.int p4), some (.int p2.toInt8.toInt32), some (.int (a5 + (1 : Int32)))]) (st' := []) (pc' := 28) kJ1_indexOfChar_4cfef_25 rfl trivial rfl ?_
          refine Gx_goto (off := -21) (tgt := 7) (by decide +kernel) (by decide) ?_
          refine Gx_mask [true, false, false, true, true, true] (L' := [some (.ref p1), none, none, some (.int p4), some (.int p2.toInt8.toInt32), some (.int (a5 + (1 : Int32)))]) rfl ?_
          exact hk7 M (a5 + (1 : Int32)) h
        · have h := h.2 z
          refine Gx_run (es := eJ1_indexOfChar_4cfef_22) (P := []) (M' := M) (L' := [some (.ref p1), none, none, some (.int p4), some (.int p2.toInt8.toInt32), some (.int a5)]) (st' := [.int a5]) (pc' := 24) kJ1_indexOfChar_4cfef_22 rfl trivial rfl ?_
          exact Gx_iret (by decide +kernel) rfl rfl ⟨_, rfl, h⟩
def wJ1_indexOfChar_4cfef (M : xM) (p1 : Nat) (p2 : Int32) (p3 : Int32) (p4 : Int32) (Q : Int32 → xM → Prop) : Prop :=
    (∃ n : Nat, lJ1_indexOfChar_4cfef_7 p1 p2 p3 p4 Q n M p3)
set_option maxHeartbeats 4000000 in
set_option maxRecDepth 100000 in
theorem tJ1_indexOfChar_4cfef {l : Launch} {E : xE} {M : xM} {p1 : Nat} {p2 : Int32} {p3 : Int32} {p4 : Int32} {Q : Int32 → xM → Prop} (h_p1 : xByt p1) (h : wJ1_indexOfChar_4cfef M p1 p2 p3 p4 Q) : Ct l E mJ1_indexOfChar_4cfef [.ref p1, .int p2, .int p3, .int p4] M (xRi Q) := by
  refine Ct_of (by decide +kernel) rfl (Nat.le_of_ble_eq_true rfl) ?_
  unfold wJ1_indexOfChar_4cfef at h
  show Gx l E mJ1_indexOfChar_4cfef (xRi Q) 0 M [some (.ref p1), some (.int p2), some (.int p3), some (.int p4), none, none] []
  refine Gx_run (es := eJ1_indexOfChar_4cfef_0) (P := []) (M' := M) (L' := [some (.ref p1), some (.int p2), some (.int p3), some (.int p4), some (.int p2.toInt8.toInt32), some (.int p3)]) (st' := []) (pc' := 7) kJ1_indexOfChar_4cfef_0 rfl trivial rfl ?_
  refine Gx_mask [true, false, false, true, true, true] (L' := [some (.ref p1), none, none, some (.int p4), some (.int p2.toInt8.toInt32), some (.int p3)]) rfl ?_
  obtain ⟨n, h⟩ := h
  exact tJ1_indexOfChar_4cfef_7 h_p1  n M p3 h
def eJ3_checkIndex_8e157_0 : List xI := [(.iload_n 0, 1, 0, 0, 0)]
theorem kJ3_checkIndex_8e157_0 : xcode (xmb mJ3_checkIndex_8e157) (xmo mJ3_checkIndex_8e157) 0 eJ3_checkIndex_8e157_0 = true := by decide +kernel
def eJ3_checkIndex_8e157_9 : List xI := [(.aload_n 2, 1, 0, 0, 0), (.iload_n 0, 1, 0, 0, 0), (.iload_n 1, 1, 0, 0, 0)]
theorem kJ3_checkIndex_8e157_9 : xcode (xmb mJ3_checkIndex_8e157) (xmo mJ3_checkIndex_8e157) 9 eJ3_checkIndex_8e157_9 = true := by decide +kernel
def eJ3_checkIndex_8e157_4 : List xI := [(.iload_n 0, 1, 0, 0, 0), (.iload_n 1, 1, 0, 0, 0)]
theorem kJ3_checkIndex_8e157_4 : xcode (xmb mJ3_checkIndex_8e157) (xmo mJ3_checkIndex_8e157) 4 eJ3_checkIndex_8e157_4 = true := by decide +kernel
def eJ3_checkIndex_8e157_16 : List xI := [(.iload_n 0, 1, 0, 0, 0)]
theorem kJ3_checkIndex_8e157_16 : xcode (xmb mJ3_checkIndex_8e157) (xmo mJ3_checkIndex_8e157) 16 eJ3_checkIndex_8e157_16 = true := by decide +kernel
def wJ3_checkIndex_8e157_9 (p1 : Int32) (p2 : Int32) (p3 : Nat) (Q : Int32 → xM → Prop) (M : xM) : Prop :=
    False
set_option maxHeartbeats 4000000 in
set_option maxRecDepth 100000 in
theorem tJ3_checkIndex_8e157_9 {l : Launch} {E : xE} {p1 : Int32} {p2 : Int32} {p3 : Nat} {Q : Int32 → xM → Prop} (h_p3 : xAny p3) (M : xM) (h : wJ3_checkIndex_8e157_9 p1 p2 p3 Q M ) : Gx l E mJ3_checkIndex_8e157 (xRi Q) 9 M [some (.int p1), some (.int p2), some (.ref p3)] [] := by
  unfold wJ3_checkIndex_8e157_9 at h
  refine Gx_run (es := eJ3_checkIndex_8e157_9) (P := []) (M' := M) (L' := [some (.int p1), some (.int p2), some (.ref p3)]) (st' := [.int p2, .int p1, .ref p3]) (pc' := 12) kJ3_checkIndex_8e157_9 rfl trivial rfl ?_
  exact h.elim
def wJ3_checkIndex_8e157 (M : xM) (p1 : Int32) (p2 : Int32) (p3 : Nat) (Q : Int32 → xM → Prop) : Prop :=
    (((p1 < 0) → (wJ3_checkIndex_8e157_9 p1 p2 p3 Q M)) ∧ ((¬ p1 < 0) → ((((p1 < p2) → (Q p1 M)) ∧ ((¬ p1 < p2) → (wJ3_checkIndex_8e157_9 p1 p2 p3 Q M))))))
set_option maxHeartbeats 4000000 in
set_option maxRecDepth 100000 in
theorem tJ3_checkIndex_8e157 {l : Launch} {E : xE} {M : xM} {p1 : Int32} {p2 : Int32} {p3 : Nat} {Q : Int32 → xM → Prop} (h_p3 : xAny p3) (h : wJ3_checkIndex_8e157 M p1 p2 p3 Q) : Ct l E mJ3_checkIndex_8e157 [.int p1, .int p2, .ref p3] M (xRi Q) := by
  refine Ct_of (by decide +kernel) rfl (Nat.le_of_ble_eq_true rfl) ?_
  unfold wJ3_checkIndex_8e157 at h
  show Gx l E mJ3_checkIndex_8e157 (xRi Q) 0 M [some (.int p1), some (.int p2), some (.ref p3)] []
  refine Gx_run (es := eJ3_checkIndex_8e157_0) (P := []) (M' := M) (L' := [some (.int p1), some (.int p2), some (.ref p3)]) (st' := [.int p1]) (pc' := 1) kJ3_checkIndex_8e157_0 rfl trivial rfl ?_
  refine Gx_if_lt (off := 8) (tgt := 9) (by decide +kernel) (by decide) (fun z => ?_) (fun z => ?_)
  · have h := h.1 z
    refine Gx_mask [true, true, true] (L' := [some (.int p1), some (.int p2), some (.ref p3)]) rfl ?_
    exact tJ3_checkIndex_8e157_9 h_p3  M h
  · have h := h.2 z
    refine Gx_run (es := eJ3_checkIndex_8e157_4) (P := []) (M' := M) (L' := [some (.int p1), some (.int p2), some (.ref p3)]) (st' := [.int p2, .int p1]) (pc' := 6) kJ3_checkIndex_8e157_4 rfl trivial rfl ?_
    refine Gx_icmp_lt (off := 10) (tgt := 16) (by decide +kernel) (by decide) (fun z => ?_) (fun z => ?_)
    · have h := h.1 z
      refine Gx_run (es := eJ3_checkIndex_8e157_16) (P := []) (M' := M) (L' := [some (.int p1), some (.int p2), some (.ref p3)]) (st' := [.int p1]) (pc' := 17) kJ3_checkIndex_8e157_16 rfl trivial rfl ?_
      exact Gx_iret (by decide +kernel) rfl rfl ⟨_, rfl, h⟩
    · have h := h.2 z
      refine Gx_mask [true, true, true] (L' := [some (.int p1), some (.int p2), some (.ref p3)]) rfl ?_
      exact tJ3_checkIndex_8e157_9 h_p3  M h
def eJ6_bitCount_0f7a4_0 : List xI := [(.iload_n 0, 1, 0, 0, 0), (.iload_n 0, 1, 0, 0, 0), (.iconst 1, 1, 0, 0, (1)), (.iushr, 1, 0, 0, 0), (.ldc_w 265, 3, 0, 0, (1431655765)), (.iand, 1, 0, 0, 0), (.isub, 1, 0, 0, 0), (.istore_n 0, 1, 0, 0, 0), (.iload_n 0, 1, 0, 0, 0), (.ldc_w 266, 3, 0, 0, (858993459)), (.iand, 1, 0, 0, 0), (.iload_n 0, 1, 0, 0, 0), (.iconst 2, 1, 0, 0, (2)), (.iushr, 1, 0, 0, 0), (.ldc_w 266, 3, 0, 0, (858993459)), (.iand, 1, 0, 0, 0), (.iadd, 1, 0, 0, 0), (.istore_n 0, 1, 0, 0, 0), (.iload_n 0, 1, 0, 0, 0), (.iload_n 0, 1, 0, 0, 0), (.iconst 4, 1, 0, 0, (4)), (.iushr, 1, 0, 0, 0), (.iadd, 1, 0, 0, 0), (.ldc_w 267, 3, 0, 0, (252645135)), (.iand, 1, 0, 0, 0), (.istore_n 0, 1, 0, 0, 0), (.iload_n 0, 1, 0, 0, 0), (.iload_n 0, 1, 0, 0, 0), (.bipush 8, 2, 0, 0, (8)), (.iushr, 1, 0, 0, 0), (.iadd, 1, 0, 0, 0), (.istore_n 0, 1, 0, 0, 0), (.iload_n 0, 1, 0, 0, 0), (.iload_n 0, 1, 0, 0, 0), (.bipush 16, 2, 0, 0, (16)), (.iushr, 1, 0, 0, 0), (.iadd, 1, 0, 0, 0), (.istore_n 0, 1, 0, 0, 0), (.iload_n 0, 1, 0, 0, 0), (.bipush 63, 2, 0, 0, (63)), (.iand, 1, 0, 0, 0)]
theorem kJ6_bitCount_0f7a4_0 : xcode (xmb mJ6_bitCount_0f7a4) (xmo mJ6_bitCount_0f7a4) 0 eJ6_bitCount_0f7a4_0 = true := by decide +kernel
def wJ6_bitCount_0f7a4 (M : xM) (p1 : Int32) (Q : Int32 → xM → Prop) : Prop :=
    Q ((((((((p1 - ((p1.toUInt32 >>> ((1 : Int32).toUInt32 &&& Int32.toUInt32 31)).toInt32 &&& (1431655765 : Int32))) &&& (858993459 : Int32)) + (((p1 - ((p1.toUInt32 >>> ((1 : Int32).toUInt32 &&& Int32.toUInt32 31)).toInt32 &&& (1431655765 : Int32))).toUInt32 >>> ((2 : Int32).toUInt32 &&& Int32.toUInt32 31)).toInt32 &&& (858993459 : Int32))) + ((((p1 - ((p1.toUInt32 >>> ((1 : Int32).toUInt32 &&& Int32.toUInt32 31)).toInt32 &&& (1431655765 : Int32))) &&& (858993459 : Int32)) + (((p1 - ((p1.toUInt32 >>> ((1 : Int32).toUInt32 &&& Int32.toUInt32 31)).toInt32 &&& (1431655765 : Int32))).toUInt32 >>> ((2 : Int32).toUInt32 &&& Int32.toUInt32 31)).toInt32 &&& (858993459 : Int32))).toUInt32 >>> ((4 : Int32).toUInt32 &&& Int32.toUInt32 31)).toInt32) &&& (252645135 : Int32)) + ((((((p1 - ((p1.toUInt32 >>> ((1 : Int32).toUInt32 &&& Int32.toUInt32 31)).toInt32 &&& (1431655765 : Int32))) &&& (858993459 : Int32)) + (((p1 - ((p1.toUInt32 >>> ((1 : Int32).toUInt32 &&& Int32.toUInt32 31)).toInt32 &&& (1431655765 : Int32))).toUInt32 >>> ((2 : Int32).toUInt32 &&& Int32.toUInt32 31)).toInt32 &&& (858993459 : Int32))) + ((((p1 - ((p1.toUInt32 >>> ((1 : Int32).toUInt32 &&& Int32.toUInt32 31)).toInt32 &&& (1431655765 : Int32))) &&& (858993459 : Int32)) + (((p1 - ((p1.toUInt32 >>> ((1 : Int32).toUInt32 &&& Int32.toUInt32 31)).toInt32 &&& (1431655765 : Int32))).toUInt32 >>> ((2 : Int32).toUInt32 &&& Int32.toUInt32 31)).toInt32 &&& (858993459 : Int32))).toUInt32 >>> ((4 : Int32).toUInt32 &&& Int32.toUInt32 31)).toInt32) &&& (252645135 : Int32)).toUInt32 >>> ((8 : Int32).toUInt32 &&& Int32.toUInt32 31)).toInt32) + (((((((p1 - ((p1.toUInt32 >>> ((1 : Int32).toUInt32 &&& Int32.toUInt32 31)).toInt32 &&& (1431655765 : Int32))) &&& (858993459 : Int32)) + (((p1 - ((p1.toUInt32 >>> ((1 : Int32).toUInt32 &&& Int32.toUInt32 31)).toInt32 &&& (1431655765 : Int32))).toUInt32 >>> ((2 : Int32).toUInt32 &&& Int32.toUInt32 31)).toInt32 &&& (858993459 : Int32))) + ((((p1 - ((p1.toUInt32 >>> ((1 : Int32).toUInt32 &&& Int32.toUInt32 31)).toInt32 &&& (1431655765 : Int32))) &&& (858993459 : Int32)) + (((p1 - ((p1.toUInt32 >>> ((1 : Int32).toUInt32 &&& Int32.toUInt32 31)).toInt32 &&& (1431655765 : Int32))).toUInt32 >>> ((2 : Int32).toUInt32 &&& Int32.toUInt32 31)).toInt32 &&& (858993459 : Int32))).toUInt32 >>> ((4 : Int32).toUInt32 &&& Int32.toUInt32 31)).toInt32) &&& (252645135 : Int32)) + ((((((p1 - ((p1.toUInt32 >>> ((1 : Int32).toUInt32 &&& Int32.toUInt32 31)).toInt32 &&& (1431655765 : Int32))) &&& (858993459 : Int32)) + (((p1 - ((p1.toUInt32 >>> ((1 : Int32).toUInt32 &&& Int32.toUInt32 31)).toInt32 &&& (1431655765 : Int32))).toUInt32 >>> ((2 : Int32).toUInt32 &&& Int32.toUInt32 31)).toInt32 &&& (858993459 : Int32))) + ((((p1 - ((p1.toUInt32 >>> ((1 : Int32).toUInt32 &&& Int32.toUInt32 31)).toInt32 &&& (1431655765 : Int32))) &&& (858993459 : Int32)) + (((p1 - ((p1.toUInt32 >>> ((1 : Int32).toUInt32 &&& Int32.toUInt32 31)).toInt32 &&& (1431655765 : Int32))).toUInt32 >>> ((2 : Int32).toUInt32 &&& Int32.toUInt32 31)).toInt32 &&& (858993459 : Int32))).toUInt32 >>> ((4 : Int32).toUInt32 &&& Int32.toUInt32 31)).toInt32) &&& (252645135 : Int32)).toUInt32 >>> ((8 : Int32).toUInt32 &&& Int32.toUInt32 31)).toInt32).toUInt32 >>> ((16 : Int32).toUInt32 &&& Int32.toUInt32 31)).toInt32) &&& (63 : Int32)) M
set_option maxHeartbeats 4000000 in
set_option maxRecDepth 100000 in
theorem tJ6_bitCount_0f7a4 {l : Launch} {E : xE} {M : xM} {p1 : Int32} {Q : Int32 → xM → Prop} (h : wJ6_bitCount_0f7a4 M p1 Q) : Ct l E mJ6_bitCount_0f7a4 [.int p1] M (xRi Q) := by
  refine Ct_of (by decide +kernel) rfl (Nat.le_of_ble_eq_true rfl) ?_
  unfold wJ6_bitCount_0f7a4 at h
  show Gx l E mJ6_bitCount_0f7a4 (xRi Q) 0 M [some (.int p1)] []
  refine Gx_run (es := eJ6_bitCount_0f7a4_0) (P := []) (M' := M) (L' := [some (.int (((((((p1 - ((p1.toUInt32 >>> ((1 : Int32).toUInt32 &&& Int32.toUInt32 31)).toInt32 &&& (1431655765 : Int32))) &&& (858993459 : Int32)) + (((p1 - ((p1.toUInt32 >>> ((1 : Int32).toUInt32 &&& Int32.toUInt32 31)).toInt32 &&& (1431655765 : Int32))).toUInt32 >>> ((2 : Int32).toUInt32 &&& Int32.toUInt32 31)).toInt32 &&& (858993459 : Int32))) + ((((p1 - ((p1.toUInt32 >>> ((1 : Int32).toUInt32 &&& Int32.toUInt32 31)).toInt32 &&& (1431655765 : Int32))) &&& (858993459 : Int32)) + (((p1 - ((p1.toUInt32 >>> ((1 : Int32).toUInt32 &&& Int32.toUInt32 31)).toInt32 &&& (1431655765 : Int32))).toUInt32 >>> ((2 : Int32).toUInt32 &&& Int32.toUInt32 31)).toInt32 &&& (858993459 : Int32))).toUInt32 >>> ((4 : Int32).toUInt32 &&& Int32.toUInt32 31)).toInt32) &&& (252645135 : Int32)) + ((((((p1 - ((p1.toUInt32 >>> ((1 : Int32).toUInt32 &&& Int32.toUInt32 31)).toInt32 &&& (1431655765 : Int32))) &&& (858993459 : Int32)) + (((p1 - ((p1.toUInt32 >>> ((1 : Int32).toUInt32 &&& Int32.toUInt32 31)).toInt32 &&& (1431655765 : Int32))).toUInt32 >>> ((2 : Int32).toUInt32 &&& Int32.toUInt32 31)).toInt32 &&& (858993459 : Int32))) + ((((p1 - ((p1.toUInt32 >>> ((1 : Int32).toUInt32 &&& Int32.toUInt32 31)).toInt32 &&& (1431655765 : Int32))) &&& (858993459 : Int32)) + (((p1 - ((p1.toUInt32 >>> ((1 : Int32).toUInt32 &&& Int32.toUInt32 31)).toInt32 &&& (1431655765 : Int32))).toUInt32 >>> ((2 : Int32).toUInt32 &&& Int32.toUInt32 31)).toInt32 &&& (858993459 : Int32))).toUInt32 >>> ((4 : Int32).toUInt32 &&& Int32.toUInt32 31)).toInt32) &&& (252645135 : Int32)).toUInt32 >>> ((8 : Int32).toUInt32 &&& Int32.toUInt32 31)).toInt32) + (((((((p1 - ((p1.toUInt32 >>> ((1 : Int32).toUInt32 &&& Int32.toUInt32 31)).toInt32 &&& (1431655765 : Int32))) &&& (858993459 : Int32)) + (((p1 - ((p1.toUInt32 >>> ((1 : Int32).toUInt32 &&& Int32.toUInt32 31)).toInt32 &&& (1431655765 : Int32))).toUInt32 >>> ((2 : Int32).toUInt32 &&& Int32.toUInt32 31)).toInt32 &&& (858993459 : Int32))) + ((((p1 - ((p1.toUInt32 >>> ((1 : Int32).toUInt32 &&& Int32.toUInt32 31)).toInt32 &&& (1431655765 : Int32))) &&& (858993459 : Int32)) + (((p1 - ((p1.toUInt32 >>> ((1 : Int32).toUInt32 &&& Int32.toUInt32 31)).toInt32 &&& (1431655765 : Int32))).toUInt32 >>> ((2 : Int32).toUInt32 &&& Int32.toUInt32 31)).toInt32 &&& (858993459 : Int32))).toUInt32 >>> ((4 : Int32).toUInt32 &&& Int32.toUInt32 31)).toInt32) &&& (252645135 : Int32)) + ((((((p1 - ((p1.toUInt32 >>> ((1 : Int32).toUInt32 &&& Int32.toUInt32 31)).toInt32 &&& (1431655765 : Int32))) &&& (858993459 : Int32)) + (((p1 - ((p1.toUInt32 >>> ((1 : Int32).toUInt32 &&& Int32.toUInt32 31)).toInt32 &&& (1431655765 : Int32))).toUInt32 >>> ((2 : Int32).toUInt32 &&& Int32.toUInt32 31)).toInt32 &&& (858993459 : Int32))) + ((((p1 - ((p1.toUInt32 >>> ((1 : Int32).toUInt32 &&& Int32.toUInt32 31)).toInt32 &&& (1431655765 : Int32))) &&& (858993459 : Int32)) + (((p1 - ((p1.toUInt32 >>> ((1 : Int32).toUInt32 &&& Int32.toUInt32 31)).toInt32 &&& (1431655765 : Int32))).toUInt32 >>> ((2 : Int32).toUInt32 &&& Int32.toUInt32 31)).toInt32 &&& (858993459 : Int32))).toUInt32 >>> ((4 : Int32).toUInt32 &&& Int32.toUInt32 31)).toInt32) &&& (252645135 : Int32)).toUInt32 >>> ((8 : Int32).toUInt32 &&& Int32.toUInt32 31)).toInt32).toUInt32 >>> ((16 : Int32).toUInt32 &&& Int32.toUInt32 31)).toInt32))]) (st' := [.int ((((((((p1 - ((p1.toUInt32 >>> ((1 : Int32).toUInt32 &&& Int32.toUInt32 31)).toInt32 &&& (1431655765 : Int32))) &&& (858993459 : Int32)) + (((p1 - ((p1.toUInt32 >>> ((1 : Int32).toUInt32 &&& Int32.toUInt32 31)).toInt32 &&& (1431655765 : Int32))).toUInt32 >>> ((2 : Int32).toUInt32 &&& Int32.toUInt32 31)).toInt32 &&& (858993459 : Int32))) + ((((p1 - ((p1.toUInt32 >>> ((1 : Int32).toUInt32 &&& Int32.toUInt32 31)).toInt32 &&& (1431655765 : Int32))) &&& (858993459 : Int32)) + (((p1 - ((p1.toUInt32 >>> ((1 : Int32).toUInt32 &&& Int32.toUInt32 31)).toInt32 &&& (1431655765 : Int32))).toUInt32 >>> ((2 : Int32).toUInt32 &&& Int32.toUInt32 31)).toInt32 &&& (858993459 : Int32))).toUInt32 >>> ((4 : Int32).toUInt32 &&& Int32.toUInt32 31)).toInt32) &&& (252645135 : Int32)) + ((((((p1 - ((p1.toUInt32 >>> ((1 : Int32).toUInt32 &&& Int32.toUInt32 31)).toInt32 &&& (1431655765 : Int32))) &&& (858993459 : Int32)) + (((p1 - ((p1.toUInt32 >>> ((1 : Int32).toUInt32 &&& Int32.toUInt32 31)).toInt32 &&& (1431655765 : Int32))).toUInt32 >>> ((2 : Int32).toUInt32 &&& Int32.toUInt32 31)).toInt32 &&& (858993459 : Int32))) + ((((p1 - ((p1.toUInt32 >>> ((1 : Int32).toUInt32 &&& Int32.toUInt32 31)).toInt32 &&& (1431655765 : Int32))) &&& (858993459 : Int32)) + (((p1 - ((p1.toUInt32 >>> ((1 : Int32).toUInt32 &&& Int32.toUInt32 31)).toInt32 &&& (1431655765 : Int32))).toUInt32 >>> ((2 : Int32).toUInt32 &&& Int32.toUInt32 31)).toInt32 &&& (858993459 : Int32))).toUInt32 >>> ((4 : Int32).toUInt32 &&& Int32.toUInt32 31)).toInt32) &&& (252645135 : Int32)).toUInt32 >>> ((8 : Int32).toUInt32 &&& Int32.toUInt32 31)).toInt32) + (((((((p1 - ((p1.toUInt32 >>> ((1 : Int32).toUInt32 &&& Int32.toUInt32 31)).toInt32 &&& (1431655765 : Int32))) &&& (858993459 : Int32)) + (((p1 - ((p1.toUInt32 >>> ((1 : Int32).toUInt32 &&& Int32.toUInt32 31)).toInt32 &&& (1431655765 : Int32))).toUInt32 >>> ((2 : Int32).toUInt32 &&& Int32.toUInt32 31)).toInt32 &&& (858993459 : Int32))) + ((((p1 - ((p1.toUInt32 >>> ((1 : Int32).toUInt32 &&& Int32.toUInt32 31)).toInt32 &&& (1431655765 : Int32))) &&& (858993459 : Int32)) + (((p1 - ((p1.toUInt32 >>> ((1 : Int32).toUInt32 &&& Int32.toUInt32 31)).toInt32 &&& (1431655765 : Int32))).toUInt32 >>> ((2 : Int32).toUInt32 &&& Int32.toUInt32 31)).toInt32 &&& (858993459 : Int32))).toUInt32 >>> ((4 : Int32).toUInt32 &&& Int32.toUInt32 31)).toInt32) &&& (252645135 : Int32)) + ((((((p1 - ((p1.toUInt32 >>> ((1 : Int32).toUInt32 &&& Int32.toUInt32 31)).toInt32 &&& (1431655765 : Int32))) &&& (858993459 : Int32)) + (((p1 - ((p1.toUInt32 >>> ((1 : Int32).toUInt32 &&& Int32.toUInt32 31)).toInt32 &&& (1431655765 : Int32))).toUInt32 >>> ((2 : Int32).toUInt32 &&& Int32.toUInt32 31)).toInt32 &&& (858993459 : Int32))) + ((((p1 - ((p1.toUInt32 >>> ((1 : Int32).toUInt32 &&& Int32.toUInt32 31)).toInt32 &&& (1431655765 : Int32))) &&& (858993459 : Int32)) + (((p1 - ((p1.toUInt32 >>> ((1 : Int32).toUInt32 &&& Int32.toUInt32 31)).toInt32 &&& (1431655765 : Int32))).toUInt32 >>> ((2 : Int32).toUInt32 &&& Int32.toUInt32 31)).toInt32 &&& (858993459 : Int32))).toUInt32 >>> ((4 : Int32).toUInt32 &&& Int32.toUInt32 31)).toInt32) &&& (252645135 : Int32)).toUInt32 >>> ((8 : Int32).toUInt32 &&& Int32.toUInt32 31)).toInt32).toUInt32 >>> ((16 : Int32).toUInt32 &&& Int32.toUInt32 31)).toInt32) &&& (63 : Int32))]) (pc' := 52) kJ6_bitCount_0f7a4_0 rfl trivial rfl ?_
  exact Gx_iret (by decide +kernel) rfl rfl ⟨_, rfl, h⟩
def eJ6_numberOfTrailingZeros_0f7a4_0 : List xI := [(.iload_n 0, 1, 0, 0, 0), (.iconst (-1), 1, 0, 0, (-1)), (.ixor, 1, 0, 0, 0), (.iload_n 0, 1, 0, 0, 0), (.iconst 1, 1, 0, 0, (1)), (.isub, 1, 0, 0, 0), (.iand, 1, 0, 0, 0), (.istore_n 0, 1, 0, 0, 0), (.iload_n 0, 1, 0, 0, 0)]
theorem kJ6_numberOfTrailingZeros_0f7a4_0 : xcode (xmb mJ6_numberOfTrailingZeros_0f7a4) (xmo mJ6_numberOfTrailingZeros_0f7a4) 0 eJ6_numberOfTrailingZeros_0f7a4_0 = true := by decide +kernel
def eJ6_numberOfTrailingZeros_0f7a4_17 : List xI := [(.iconst 1, 1, 0, 0, (1)), (.istore_n 1, 1, 0, 0, 0), (.iload_n 0, 1, 0, 0, 0), (.ldc_w 264, 3, 0, 0, (65536))]
theorem kJ6_numberOfTrailingZeros_0f7a4_17 : xcode (xmb mJ6_numberOfTrailingZeros_0f7a4) (xmo mJ6_numberOfTrailingZeros_0f7a4) 17 eJ6_numberOfTrailingZeros_0f7a4_17 = true := by decide +kernel
def eJ6_numberOfTrailingZeros_0f7a4_34 : List xI := [(.iload_n 0, 1, 0, 0, 0), (.sipush 256, 3, 0, 0, (256))]
theorem kJ6_numberOfTrailingZeros_0f7a4_34 : xcode (xmb mJ6_numberOfTrailingZeros_0f7a4) (xmo mJ6_numberOfTrailingZeros_0f7a4) 34 eJ6_numberOfTrailingZeros_0f7a4_34 = true := by decide +kernel
def eJ6_numberOfTrailingZeros_0f7a4_49 : List xI := [(.iload_n 0, 1, 0, 0, 0), (.bipush 16, 2, 0, 0, (16))]
theorem kJ6_numberOfTrailingZeros_0f7a4_49 : xcode (xmb mJ6_numberOfTrailingZeros_0f7a4) (xmo mJ6_numberOfTrailingZeros_0f7a4) 49 eJ6_numberOfTrailingZeros_0f7a4_49 = true := by decide +kernel
def eJ6_numberOfTrailingZeros_0f7a4_62 : List xI := [(.iload_n 0, 1, 0, 0, 0), (.iconst 4, 1, 0, 0, (4))]
theorem kJ6_numberOfTrailingZeros_0f7a4_62 : xcode (xmb mJ6_numberOfTrailingZeros_0f7a4) (xmo mJ6_numberOfTrailingZeros_0f7a4) 62 eJ6_numberOfTrailingZeros_0f7a4_62 = true := by decide +kernel
def eJ6_numberOfTrailingZeros_0f7a4_74 : List xI := [(.iload_n 1, 1, 0, 0, 0), (.iload_n 0, 1, 0, 0, 0), (.iconst 1, 1, 0, 0, (1)), (.iushr, 1, 0, 0, 0), (.iadd, 1, 0, 0, 0)]
theorem kJ6_numberOfTrailingZeros_0f7a4_74 : xcode (xmb mJ6_numberOfTrailingZeros_0f7a4) (xmo mJ6_numberOfTrailingZeros_0f7a4) 74 eJ6_numberOfTrailingZeros_0f7a4_74 = true := by decide +kernel
def eJ6_numberOfTrailingZeros_0f7a4_67 : List xI := [(.iinc 1 2, 3, 0, 0, (2)), (.iload_n 0, 1, 0, 0, 0), (.iconst 2, 1, 0, 0, (2)), (.iushr, 1, 0, 0, 0), (.istore_n 0, 1, 0, 0, 0)]
theorem kJ6_numberOfTrailingZeros_0f7a4_67 : xcode (xmb mJ6_numberOfTrailingZeros_0f7a4) (xmo mJ6_numberOfTrailingZeros_0f7a4) 67 eJ6_numberOfTrailingZeros_0f7a4_67 = true := by decide +kernel
def eJ6_numberOfTrailingZeros_0f7a4_55 : List xI := [(.iinc 1 4, 3, 0, 0, (4)), (.iload_n 0, 1, 0, 0, 0), (.iconst 4, 1, 0, 0, (4)), (.iushr, 1, 0, 0, 0), (.istore_n 0, 1, 0, 0, 0)]
theorem kJ6_numberOfTrailingZeros_0f7a4_55 : xcode (xmb mJ6_numberOfTrailingZeros_0f7a4) (xmo mJ6_numberOfTrailingZeros_0f7a4) 55 eJ6_numberOfTrailingZeros_0f7a4_55 = true := by decide +kernel
def eJ6_numberOfTrailingZeros_0f7a4_41 : List xI := [(.iinc 1 8, 3, 0, 0, (8)), (.iload_n 0, 1, 0, 0, 0), (.bipush 8, 2, 0, 0, (8)), (.iushr, 1, 0, 0, 0), (.istore_n 0, 1, 0, 0, 0)]
theorem kJ6_numberOfTrailingZeros_0f7a4_41 : xcode (xmb mJ6_numberOfTrailingZeros_0f7a4) (xmo mJ6_numberOfTrailingZeros_0f7a4) 41 eJ6_numberOfTrailingZeros_0f7a4_41 = true := by decide +kernel
def eJ6_numberOfTrailingZeros_0f7a4_26 : List xI := [(.iinc 1 16, 3, 0, 0, (16)), (.iload_n 0, 1, 0, 0, 0), (.bipush 16, 2, 0, 0, (16)), (.iushr, 1, 0, 0, 0), (.istore_n 0, 1, 0, 0, 0)]
theorem kJ6_numberOfTrailingZeros_0f7a4_26 : xcode (xmb mJ6_numberOfTrailingZeros_0f7a4) (xmo mJ6_numberOfTrailingZeros_0f7a4) 26 eJ6_numberOfTrailingZeros_0f7a4_26 = true := by decide +kernel
def eJ6_numberOfTrailingZeros_0f7a4_12 : List xI := [(.iload_n 0, 1, 0, 0, 0), (.bipush 32, 2, 0, 0, (32)), (.iand, 1, 0, 0, 0)]
theorem kJ6_numberOfTrailingZeros_0f7a4_12 : xcode (xmb mJ6_numberOfTrailingZeros_0f7a4) (xmo mJ6_numberOfTrailingZeros_0f7a4) 12 eJ6_numberOfTrailingZeros_0f7a4_12 = true := by decide +kernel
def wJ6_numberOfTrailingZeros_0f7a4_74 (p1 : Int32) (Q : Int32 → xM → Prop) (M : xM) (a0 : Int32) (a1 : Int32) : Prop :=
    Q (a1 + (a0.toUInt32 >>> ((1 : Int32).toUInt32 &&& Int32.toUInt32 31)).toInt32) M
set_option maxHeartbeats 4000000 in
set_option maxRecDepth 100000 in
theorem tJ6_numberOfTrailingZeros_0f7a4_74 {l : Launch} {E : xE} {p1 : Int32} {Q : Int32 → xM → Prop} (M : xM) (a0 : Int32) (a1 : Int32) (h : wJ6_numberOfTrailingZeros_0f7a4_74 p1 Q M a0 a1) : Gx l E mJ6_numberOfTrailingZeros_0f7a4 (xRi Q) 74 M [some (.int a0), some (.int a1)] [] := by
  unfold wJ6_numberOfTrailingZeros_0f7a4_74 at h
  refine Gx_run (es := eJ6_numberOfTrailingZeros_0f7a4_74) (P := []) (M' := M) (L' := [some (.int a0), some (.int a1)]) (st' := [.int (a1 + (a0.toUInt32 >>> ((1 : Int32).toUInt32 &&& Int32.toUInt32 31)).toInt32)]) (pc' := 79) kJ6_numberOfTrailingZeros_0f7a4_74 rfl trivial rfl ?_
  exact Gx_iret (by decide +kernel) rfl rfl ⟨_, rfl, h⟩
def wJ6_numberOfTrailingZeros_0f7a4_62 (p1 : Int32) (Q : Int32 → xM → Prop) (M : xM) (a0 : Int32) (a1 : Int32) : Prop :=
    (((a0 ≤ (4 : Int32)) → (wJ6_numberOfTrailingZeros_0f7a4_74 p1 Q M a0 a1)) ∧ ((¬ a0 ≤ (4 : Int32)) → (wJ6_numberOfTrailingZeros_0f7a4_74 p1 Q M (a0.toUInt32 >>> ((2 : Int32).toUInt32 &&& Int32.toUInt32 31)).toInt32 (a1 + (2 : Int32)))))
set_option maxHeartbeats 4000000 in
set_option maxRecDepth 100000 in
theorem tJ6_numberOfTrailingZeros_0f7a4_62 {l : Launch} {E : xE} {p1 : Int32} {Q : Int32 → xM → Prop} (M : xM) (a0 : Int32) (a1 : Int32) (h : wJ6_numberOfTrailingZeros_0f7a4_62 p1 Q M a0 a1) : Gx l E mJ6_numberOfTrailingZeros_0f7a4 (xRi Q) 62 M [some (.int a0), some (.int a1)] [] := by
  unfold wJ6_numberOfTrailingZeros_0f7a4_62 at h
  refine Gx_run (es := eJ6_numberOfTrailingZeros_0f7a4_62) (P := []) (M' := M) (L' := [some (.int a0), some (.int a1)]) (st' := [.int (4 : Int32), .int a0]) (pc' := 64) kJ6_numberOfTrailingZeros_0f7a4_62 rfl trivial rfl ?_
  refine Gx_icmp_le (off := 10) (tgt := 74) (by decide +kernel) (by decide) (fun z => ?_) (fun z => ?_)
  · have h := h.1 z
    refine Gx_mask [true, true] (L' := [some (.int a0), some (.int a1)]) rfl ?_
    exact tJ6_numberOfTrailingZeros_0f7a4_74  M a0 a1 h
  · have h := h.2 z
    refine Gx_run (es := eJ6_numberOfTrailingZeros_0f7a4_67) (P := []) (M' := M) (L' := [some (.int (a0.toUInt32 >>> ((2 : Int32).toUInt32 &&& Int32.toUInt32 31)).toInt32), some (.int (a1 + (2 : Int32)))]) (st' := []) (pc' := 74) kJ6_numberOfTrailingZeros_0f7a4_67 rfl trivial rfl ?_
    refine Gx_mask [true, true] (L' := [some (.int (a0.toUInt32 >>> ((2 : Int32).toUInt32 &&& Int32.toUInt32 31)).toInt32), some (.int (a1 + (2 : Int32)))]) rfl ?_
    exact tJ6_numberOfTrailingZeros_0f7a4_74  M (a0.toUInt32 >>> ((2 : Int32).toUInt32 &&& Int32.toUInt32 31)).toInt32 (a1 + (2 : Int32)) h
def wJ6_numberOfTrailingZeros_0f7a4_49 (p1 : Int32) (Q : Int32 → xM → Prop) (M : xM) (a0 : Int32) (a1 : Int32) : Prop :=
    (((a0 ≤ (16 : Int32)) → (wJ6_numberOfTrailingZeros_0f7a4_62 p1 Q M a0 a1)) ∧ ((¬ a0 ≤ (16 : Int32)) → (wJ6_numberOfTrailingZeros_0f7a4_62 p1 Q M (a0.toUInt32 >>> ((4 : Int32).toUInt32 &&& Int32.toUInt32 31)).toInt32 (a1 + (4 : Int32)))))
set_option maxHeartbeats 4000000 in
set_option maxRecDepth 100000 in
theorem tJ6_numberOfTrailingZeros_0f7a4_49 {l : Launch} {E : xE} {p1 : Int32} {Q : Int32 → xM → Prop} (M : xM) (a0 : Int32) (a1 : Int32) (h : wJ6_numberOfTrailingZeros_0f7a4_49 p1 Q M a0 a1) : Gx l E mJ6_numberOfTrailingZeros_0f7a4 (xRi Q) 49 M [some (.int a0), some (.int a1)] [] := by
  unfold wJ6_numberOfTrailingZeros_0f7a4_49 at h
  refine Gx_run (es := eJ6_numberOfTrailingZeros_0f7a4_49) (P := []) (M' := M) (L' := [some (.int a0), some (.int a1)]) (st' := [.int (16 : Int32), .int a0]) (pc' := 52) kJ6_numberOfTrailingZeros_0f7a4_49 rfl trivial rfl ?_
  refine Gx_icmp_le (off := 10) (tgt := 62) (by decide +kernel) (by decide) (fun z => ?_) (fun z => ?_)
  · have h := h.1 z
    refine Gx_mask [true, true] (L' := [some (.int a0), some (.int a1)]) rfl ?_
    exact tJ6_numberOfTrailingZeros_0f7a4_62  M a0 a1 h
  · have h := h.2 z
    refine Gx_run (es := eJ6_numberOfTrailingZeros_0f7a4_55) (P := []) (M' := M) (L' := [some (.int (a0.toUInt32 >>> ((4 : Int32).toUInt32 &&& Int32.toUInt32 31)).toInt32), some (.int (a1 + (4 : Int32)))]) (st' := []) (pc' := 62) kJ6_numberOfTrailingZeros_0f7a4_55 rfl trivial rfl ?_
    refine Gx_mask [true, true] (L' := [some (.int (a0.toUInt32 >>> ((4 : Int32).toUInt32 &&& Int32.toUInt32 31)).toInt32), some (.int (a1 + (4 : Int32)))]) rfl ?_
    exact tJ6_numberOfTrailingZeros_0f7a4_62  M (a0.toUInt32 >>> ((4 : Int32).toUInt32 &&& Int32.toUInt32 31)).toInt32 (a1 + (4 : Int32)) h
def wJ6_numberOfTrailingZeros_0f7a4_34 (p1 : Int32) (Q : Int32 → xM → Prop) (M : xM) (a0 : Int32) (a1 : Int32) : Prop :=
    (((a0 ≤ (256 : Int32)) → (wJ6_numberOfTrailingZeros_0f7a4_49 p1 Q M a0 a1)) ∧ ((¬ a0 ≤ (256 : Int32)) → (wJ6_numberOfTrailingZeros_0f7a4_49 p1 Q M (a0.toUInt32 >>> ((8 : Int32).toUInt32 &&& Int32.toUInt32 31)).toInt32 (a1 + (8 : Int32)))))
set_option maxHeartbeats 4000000 in
set_option maxRecDepth 100000 in
theorem tJ6_numberOfTrailingZeros_0f7a4_34 {l : Launch} {E : xE} {p1 : Int32} {Q : Int32 → xM → Prop} (M : xM) (a0 : Int32) (a1 : Int32) (h : wJ6_numberOfTrailingZeros_0f7a4_34 p1 Q M a0 a1) : Gx l E mJ6_numberOfTrailingZeros_0f7a4 (xRi Q) 34 M [some (.int a0), some (.int a1)] [] := by
  unfold wJ6_numberOfTrailingZeros_0f7a4_34 at h
  refine Gx_run (es := eJ6_numberOfTrailingZeros_0f7a4_34) (P := []) (M' := M) (L' := [some (.int a0), some (.int a1)]) (st' := [.int (256 : Int32), .int a0]) (pc' := 38) kJ6_numberOfTrailingZeros_0f7a4_34 rfl trivial rfl ?_
  refine Gx_icmp_le (off := 11) (tgt := 49) (by decide +kernel) (by decide) (fun z => ?_) (fun z => ?_)
  · have h := h.1 z
    refine Gx_mask [true, true] (L' := [some (.int a0), some (.int a1)]) rfl ?_
    exact tJ6_numberOfTrailingZeros_0f7a4_49  M a0 a1 h
  · have h := h.2 z
    refine Gx_run (es := eJ6_numberOfTrailingZeros_0f7a4_41) (P := []) (M' := M) (L' := [some (.int (a0.toUInt32 >>> ((8 : Int32).toUInt32 &&& Int32.toUInt32 31)).toInt32), some (.int (a1 + (8 : Int32)))]) (st' := []) (pc' := 49) kJ6_numberOfTrailingZeros_0f7a4_41 rfl trivial rfl ?_
    refine Gx_mask [true, true] (L' := [some (.int (a0.toUInt32 >>> ((8 : Int32).toUInt32 &&& Int32.toUInt32 31)).toInt32), some (.int (a1 + (8 : Int32)))]) rfl ?_
    exact tJ6_numberOfTrailingZeros_0f7a4_49  M (a0.toUInt32 >>> ((8 : Int32).toUInt32 &&& Int32.toUInt32 31)).toInt32 (a1 + (8 : Int32)) h
def wJ6_numberOfTrailingZeros_0f7a4 (M : xM) (p1 : Int32) (Q : Int32 → xM → Prop) : Prop :=
    (((0 < ((p1 ^^^ (-1 : Int32)) &&& (p1 - (1 : Int32)))) → ((((((p1 ^^^ (-1 : Int32)) &&& (p1 - (1 : Int32))) ≤ (65536 : Int32)) → (wJ6_numberOfTrailingZeros_0f7a4_34 p1 Q M ((p1 ^^^ (-1 : Int32)) &&& (p1 - (1 : Int32))) (1 : Int32))) ∧ ((¬ ((p1 ^^^ (-1 : Int32)) &&& (p1 - (1 : Int32))) ≤ (65536 : Int32)) → (wJ6_numberOfTrailingZeros_0f7a4_34 p1 Q M (((p1 ^^^ (-1 : Int32)) &&& (p1 - (1 : Int32))).toUInt32 >>> ((16 : Int32).toUInt32 &&& Int32.toUInt32 31)).toInt32 ((1 : Int32) + (16 : Int32))))))) ∧ ((¬ 0 < ((p1 ^^^ (-1 : Int32)) &&& (p1 - (1 : Int32)))) → (Q (((p1 ^^^ (-1 : Int32)) &&& (p1 - (1 : Int32))) &&& (32 : Int32)) M)))
set_option maxHeartbeats 4000000 in
set_option maxRecDepth 100000 in
theorem tJ6_numberOfTrailingZeros_0f7a4 {l : Launch} {E : xE} {M : xM} {p1 : Int32} {Q : Int32 → xM → Prop} (h : wJ6_numberOfTrailingZeros_0f7a4 M p1 Q) : Ct l E mJ6_numberOfTrailingZeros_0f7a4 [.int p1] M (xRi Q) := by
  refine Ct_of (by decide +kernel) rfl (Nat.le_of_ble_eq_true rfl) ?_
  unfold wJ6_numberOfTrailingZeros_0f7a4 at h
  show Gx l E mJ6_numberOfTrailingZeros_0f7a4 (xRi Q) 0 M [some (.int p1), none] []
  refine Gx_run (es := eJ6_numberOfTrailingZeros_0f7a4_0) (P := []) (M' := M) (L' := [some (.int ((p1 ^^^ (-1 : Int32)) &&& (p1 - (1 : Int32)))), none]) (st' := [.int ((p1 ^^^ (-1 : Int32)) &&& (p1 - (1 : Int32)))]) (pc' := 9) kJ6_numberOfTrailingZeros_0f7a4_0 rfl trivial rfl ?_
  refine Gx_if_gt (off := 8) (tgt := 17) (by decide +kernel) (by decide) (fun z => ?_) (fun z => ?_)
  · have h := h.1 z
    refine Gx_run (es := eJ6_numberOfTrailingZeros_0f7a4_17) (P := []) (M' := M) (L' := [some (.int ((p1 ^^^ (-1 : Int32)) &&& (p1 - (1 : Int32)))), some (.int (1 : Int32))]) (st' := [.int (65536 : Int32), .int ((p1 ^^^ (-1 : Int32)) &&& (p1 - (1 : Int32)))]) (pc' := 23) kJ6_numberOfTrailingZeros_0f7a4_17 rfl trivial rfl ?_
    refine Gx_icmp_le (off := 11) (tgt := 34) (by decide +kernel) (by decide) (fun z => ?_) (fun z => ?_)
    · have h := h.1 z
      refine Gx_mask [true, true] (L' := [some (.int ((p1 ^^^ (-1 : Int32)) &&& (p1 - (1 : Int32)))), some (.int (1 : Int32))]) rfl ?_
      exact tJ6_numberOfTrailingZeros_0f7a4_34  M ((p1 ^^^ (-1 : Int32)) &&& (p1 - (1 : Int32))) (1 : Int32) h
    · have h := h.2 z
      refine Gx_run (es := eJ6_numberOfTrailingZeros_0f7a4_26) (P := []) (M' := M) (L' := [some (.int (((p1 ^^^ (-1 : Int32)) &&& (p1 - (1 : Int32))).toUInt32 >>> ((16 : Int32).toUInt32 &&& Int32.toUInt32 31)).toInt32), some (.int ((1 : Int32) + (16 : Int32)))]) (st' := []) (pc' := 34) kJ6_numberOfTrailingZeros_0f7a4_26 rfl trivial rfl ?_
      refine Gx_mask [true, true] (L' := [some (.int (((p1 ^^^ (-1 : Int32)) &&& (p1 - (1 : Int32))).toUInt32 >>> ((16 : Int32).toUInt32 &&& Int32.toUInt32 31)).toInt32), some (.int ((1 : Int32) + (16 : Int32)))]) rfl ?_
      exact tJ6_numberOfTrailingZeros_0f7a4_34  M (((p1 ^^^ (-1 : Int32)) &&& (p1 - (1 : Int32))).toUInt32 >>> ((16 : Int32).toUInt32 &&& Int32.toUInt32 31)).toInt32 ((1 : Int32) + (16 : Int32)) h
  · have h := h.2 z
    refine Gx_run (es := eJ6_numberOfTrailingZeros_0f7a4_12) (P := []) (M' := M) (L' := [some (.int ((p1 ^^^ (-1 : Int32)) &&& (p1 - (1 : Int32)))), none]) (st' := [.int (((p1 ^^^ (-1 : Int32)) &&& (p1 - (1 : Int32))) &&& (32 : Int32))]) (pc' := 16) kJ6_numberOfTrailingZeros_0f7a4_12 rfl trivial rfl ?_
    exact Gx_iret (by decide +kernel) rfl rfl ⟨_, rfl, h⟩
def eJ7_fill_53178_0 : List xI := [(.iconst 0, 1, 0, 0, (0)), (.istore_n 2, 1, 0, 0, 0), (.aload_n 0, 1, 0, 0, 0), (.arraylength, 1, 0, 0, 0), (.istore_n 3, 1, 0, 0, 0)]
theorem kJ7_fill_53178_0 : xcode (xmb mJ7_fill_53178) (xmo mJ7_fill_53178) 0 eJ7_fill_53178_0 = true := by decide +kernel
def eJ7_fill_53178_5 : List xI := [(.iload_n 2, 1, 0, 0, 0), (.iload_n 3, 1, 0, 0, 0)]
theorem kJ7_fill_53178_5 : xcode (xmb mJ7_fill_53178) (xmo mJ7_fill_53178) 5 eJ7_fill_53178_5 = true := by decide +kernel
def eJ7_fill_53178_10 : List xI := [(.aload_n 0, 1, 0, 0, 0), (.iload_n 2, 1, 0, 0, 0), (.iload_n 1, 1, 0, 0, 0), (.iastore, 1, 0, 0, 0), (.iinc 2 1, 3, 0, 0, (1))]
theorem kJ7_fill_53178_10 : xcode (xmb mJ7_fill_53178) (xmo mJ7_fill_53178) 10 eJ7_fill_53178_10 = true := by decide +kernel
def lJ7_fill_53178_5 (p1 : Nat) (p2 : Int32) (Q : xM → Prop) : Nat → xM → Int32 → Prop
  | 0 => fun _ _ => False
  | n + 1 => let k5 := lJ7_fill_53178_5 p1 p2 Q n; fun M a2 =>
    ((((nI (xln p1)) ≤ a2) → (Q M)) ∧ ((¬ (nI (xln p1)) ≤ a2) → ((vp_in a2 (xln p1)) ∧ k5 (xup M p1 a2.toNatClampNeg p2) (a2 + (1 : Int32)))))
set_option maxHeartbeats 4000000 in
set_option maxRecDepth 100000 in
theorem tJ7_fill_53178_5 {l : Launch} {E : xE} {p1 : Nat} {p2 : Int32} {Q : xM → Prop} (h_p1 : xRow p1) (n : Nat) : ∀ (M : xM) (a2 : Int32), lJ7_fill_53178_5 p1 p2 Q n M a2 → Gx l E mJ7_fill_53178 (xRv Q) 5 M [some (.ref p1), some (.int p2), some (.int a2), some (.int (nI (xln p1)))] [] := by
  induction n with
  | zero => intro M a2 h; exact h.elim
  | succ n hk5 =>
      intro M a2 h
      unfold lJ7_fill_53178_5 at h
      dsimp only at h
      refine Gx_run (es := eJ7_fill_53178_5) (P := []) (M' := M) (L' := [some (.ref p1), some (.int p2), some (.int a2), some (.int (nI (xln p1)))]) (st' := [.int (nI (xln p1)), .int a2]) (pc' := 7) kJ7_fill_53178_5 rfl trivial rfl ?_
      refine Gx_icmp_ge (off := 13) (tgt := 20) (by decide +kernel) (by decide) (fun z => ?_) (fun z => ?_)
      · have h := h.1 z
        exact Gx_vret (by decide +kernel) rfl ⟨rfl, h⟩
      · have h := h.2 z
        obtain ⟨g10_0, h⟩ := h
        refine Gx_run (es := eJ7_fill_53178_10) (P := [xkd p1 = 5, vp_in a2 (xln p1)]) (M' := (xup M p1 a2.toNatClampNeg p2)) (L' := [some (.ref p1), some (.int p2), some (.int (a2 + (1 : Int32))), some (.int (nI (xln p1)))]) (st' := []) (pc' := 17) kJ7_fill_53178_10 rfl ⟨h_p1, g10_0, trivial⟩ rfl ?_
        refine Gx_goto (off := -12) (tgt := 5) (by decide +kernel) (by decide) ?_
        refine Gx_mask [true, true, true, true] (L' := [some (.ref p1), some (.int p2), some (.int (a2 + (1 : Int32))), some (.int (nI (xln p1)))]) rfl ?_
        exact hk5 (xup M p1 a2.toNatClampNeg p2) (a2 + (1 : Int32)) h
def wJ7_fill_53178 (M : xM) (p1 : Nat) (p2 : Int32) (Q : xM → Prop) : Prop :=
    (∃ n : Nat, lJ7_fill_53178_5 p1 p2 Q n M (0 : Int32))
set_option maxHeartbeats 4000000 in
set_option maxRecDepth 100000 in
theorem tJ7_fill_53178 {l : Launch} {E : xE} {M : xM} {p1 : Nat} {p2 : Int32} {Q : xM → Prop} (h_p1 : xRow p1) (h : wJ7_fill_53178 M p1 p2 Q) : Ct l E mJ7_fill_53178 [.ref p1, .int p2] M (xRv Q) := by
  refine Ct_of (by decide +kernel) rfl (Nat.le_of_ble_eq_true rfl) ?_
  unfold wJ7_fill_53178 at h
  show Gx l E mJ7_fill_53178 (xRv Q) 0 M [some (.ref p1), some (.int p2), none, none] []
  refine Gx_run (es := eJ7_fill_53178_0) (P := [xkd p1 = 5]) (M' := M) (L' := [some (.ref p1), some (.int p2), some (.int (0 : Int32)), some (.int (nI (xln p1)))]) (st' := []) (pc' := 5) kJ7_fill_53178_0 rfl ⟨h_p1, trivial⟩ rfl ?_
  refine Gx_mask [true, true, true, true] (L' := [some (.ref p1), some (.int p2), some (.int (0 : Int32)), some (.int (nI (xln p1)))]) rfl ?_
  obtain ⟨n, h⟩ := h
  exact tJ7_fill_53178_5 h_p1  n M (0 : Int32) h
def eX0_askedFor_0 : List xI := [(.iconst 0, 1, 0, 0, (0)), (.istore_n 2, 1, 0, 0, 0), (.iconst 0, 1, 0, 0, (0)), (.istore_n 3, 1, 0, 0, 0)]
theorem kX0_askedFor_0 : xcode (xmb mX0_askedFor) (xmo mX0_askedFor) 0 eX0_askedFor_0 = true := by decide +kernel
def eX0_askedFor_4 : List xI := [(.iload_n 3, 1, 0, 0, 0), (.aload_n 0, 1, 0, 0, 0), (.getfield 28, 3, 0, 4, 0)]
theorem kX0_askedFor_4 : xcode (xmb mX0_askedFor) (xmo mX0_askedFor) 4 eX0_askedFor_4 = true := by decide +kernel
def eX0_askedFor_36 : List xI := [(.iload_n 2, 1, 0, 0, 0)]
theorem kX0_askedFor_36 : xcode (xmb mX0_askedFor) (xmo mX0_askedFor) 36 eX0_askedFor_36 = true := by decide +kernel
def eX0_askedFor_12 : List xI := [(.iload_n 2, 1, 0, 0, 0), (.aload_n 0, 1, 0, 0, 0), (.getfield 18, 3, 0, 1, 0), (.iload_n 3, 1, 0, 0, 0), (.iaload, 1, 0, 0, 0), (.iload_n 1, 1, 0, 0, 0)]
theorem kX0_askedFor_12 : xcode (xmb mX0_askedFor) (xmo mX0_askedFor) 12 eX0_askedFor_12 = true := by decide +kernel
def eX0_askedFor_27 : List xI := [(.iconst 0, 1, 0, 0, (0))]
theorem kX0_askedFor_27 : xcode (xmb mX0_askedFor) (xmo mX0_askedFor) 27 eX0_askedFor_27 = true := by decide +kernel
def eX0_askedFor_28 : List xI := [(.iadd, 1, 0, 0, 0), (.istore_n 2, 1, 0, 0, 0), (.iinc 3 1, 3, 0, 0, (1))]
theorem kX0_askedFor_28 : xcode (xmb mX0_askedFor) (xmo mX0_askedFor) 28 eX0_askedFor_28 = true := by decide +kernel
def eX0_askedFor_23 : List xI := [(.iconst 1, 1, 0, 0, (1))]
theorem kX0_askedFor_23 : xcode (xmb mX0_askedFor) (xmo mX0_askedFor) 23 eX0_askedFor_23 = true := by decide +kernel
def wX0_askedFor_28 (c : Nat) (p1 : Int32) (Q : Int32 → xM → Prop) (k4 : xM → Int32 → Int32 → Prop) (M : xM) (a3 : Int32) (s0 : Int32) (s1 : Int32) : Prop :=
    k4 M (s1 + s0) (a3 + (1 : Int32))
set_option maxHeartbeats 4000000 in
set_option maxRecDepth 100000 in
theorem tX0_askedFor_28 {l : Launch} {E : xE} {c : Nat} {p1 : Int32} {Q : Int32 → xM → Prop} {k4 : xM → Int32 → Int32 → Prop} (h_c : xChk c) (hk4 : ∀ (M : xM) (a2 : Int32) (a3 : Int32), k4 M a2 a3 → Gx l E mX0_askedFor (xRi Q) 4 M [some (.ref c), some (.int p1), some (.int a2), some (.int a3)] []) (M : xM) (a3 : Int32) (s0 : Int32) (s1 : Int32) (h : wX0_askedFor_28 c p1 Q k4 M a3 s0 s1) : Gx l E mX0_askedFor (xRi Q) 28 M [some (.ref c), some (.int p1), none, some (.int a3)] [.int s0, .int s1] := by
  unfold wX0_askedFor_28 at h
  refine Gx_run (es := eX0_askedFor_28) (P := []) (M' := M) (L' := [some (.ref c), some (.int p1), some (.int (s1 + s0)), some (.int (a3 + (1 : Int32)))]) (st' := []) (pc' := 33) kX0_askedFor_28 rfl trivial rfl ?_
  refine Gx_goto (off := -29) (tgt := 4) (by decide +kernel) (by decide) ?_
  refine Gx_mask [true, true, true, true] (L' := [some (.ref c), some (.int p1), some (.int (s1 + s0)), some (.int (a3 + (1 : Int32)))]) rfl ?_
  exact hk4 M (s1 + s0) (a3 + (1 : Int32)) h
def lX0_askedFor_4 (c : Nat) (p1 : Int32) (Q : Int32 → xM → Prop) : Nat → xM → Int32 → Int32 → Prop
  | 0 => fun _ _ _ => False
  | n + 1 => let k4 := lX0_askedFor_4 c p1 Q n; fun M a2 a3 =>
    ((((M c 4) ≤ a3) → (Q a2 M)) ∧ ((¬ (M c 4) ≤ a3) → ((vp_in a3 180) ∧ (((¬ (M (c + 8) a3.toNatClampNeg) = p1) → (wX0_askedFor_28 c p1 Q k4 M a3 (0 : Int32) a2)) ∧ (((M (c + 8) a3.toNatClampNeg) = p1) → (wX0_askedFor_28 c p1 Q k4 M a3 (1 : Int32) a2))))))
set_option maxHeartbeats 4000000 in
set_option maxRecDepth 100000 in
theorem tX0_askedFor_4 {l : Launch} {E : xE} {c : Nat} {p1 : Int32} {Q : Int32 → xM → Prop} (h_c : xChk c) (n : Nat) : ∀ (M : xM) (a2 : Int32) (a3 : Int32), lX0_askedFor_4 c p1 Q n M a2 a3 → Gx l E mX0_askedFor (xRi Q) 4 M [some (.ref c), some (.int p1), some (.int a2), some (.int a3)] [] := by
  induction n with
  | zero => intro M a2 a3 h; exact h.elim
  | succ n hk4 =>
      intro M a2 a3 h
      unfold lX0_askedFor_4 at h
      dsimp only at h
      refine Gx_run (es := eX0_askedFor_4) (P := [xkd c = 0]) (M' := M) (L' := [some (.ref c), some (.int p1), some (.int a2), some (.int a3)]) (st' := [.int (M c 4), .int a3]) (pc' := 9) kX0_askedFor_4 rfl ⟨(xChk_0 h_c), trivial⟩ rfl ?_
      refine Gx_icmp_ge (off := 27) (tgt := 36) (by decide +kernel) (by decide) (fun z => ?_) (fun z => ?_)
      · have h := h.1 z
        refine Gx_run (es := eX0_askedFor_36) (P := []) (M' := M) (L' := [some (.ref c), some (.int p1), some (.int a2), some (.int a3)]) (st' := [.int a2]) (pc' := 37) kX0_askedFor_36 rfl trivial rfl ?_
        exact Gx_iret (by decide +kernel) rfl rfl ⟨_, rfl, h⟩
      · have h := h.2 z
        obtain ⟨g12_0, h⟩ := h
        refine Gx_run (es := eX0_askedFor_12) (P := [xkd c = 0, xkd (c + 8) = 5, vp_in a3 (xln (c + 8))]) (M' := M) (L' := [some (.ref c), some (.int p1), some (.int a2), some (.int a3)]) (st' := [.int p1, .int (M (c + 8) a3.toNatClampNeg), .int a2]) (pc' := 20) kX0_askedFor_12 rfl ⟨(xChk_0 h_c), (xChk_8 h_c), (by rw [xChk_l8 h_c]; exact g12_0), trivial⟩ rfl ?_
        refine Gx_icmp_ne (off := 7) (tgt := 27) (by decide +kernel) (by decide) (fun z => ?_) (fun z => ?_)
        · have h := h.1 z
          refine Gx_run (es := eX0_askedFor_27) (P := []) (M' := M) (L' := [some (.ref c), some (.int p1), some (.int a2), some (.int a3)]) (st' := [.int (0 : Int32), .int a2]) (pc' := 28) kX0_askedFor_27 rfl trivial rfl ?_
          refine Gx_mask [true, true, false, true] (L' := [some (.ref c), some (.int p1), none, some (.int a3)]) rfl ?_
          exact tX0_askedFor_28 h_c  hk4 M a3 (0 : Int32) a2 h
        · have h := h.2 z
          refine Gx_run (es := eX0_askedFor_23) (P := []) (M' := M) (L' := [some (.ref c), some (.int p1), some (.int a2), some (.int a3)]) (st' := [.int (1 : Int32), .int a2]) (pc' := 24) kX0_askedFor_23 rfl trivial rfl ?_
          refine Gx_goto (off := 4) (tgt := 28) (by decide +kernel) (by decide) ?_
          refine Gx_mask [true, true, false, true] (L' := [some (.ref c), some (.int p1), none, some (.int a3)]) rfl ?_
          exact tX0_askedFor_28 h_c  hk4 M a3 (1 : Int32) a2 h
def wX0_askedFor (M : xM) (c : Nat) (p1 : Int32) (Q : Int32 → xM → Prop) : Prop :=
    (∃ n : Nat, lX0_askedFor_4 c p1 Q n M (0 : Int32) (0 : Int32))
set_option maxHeartbeats 4000000 in
set_option maxRecDepth 100000 in
theorem tX0_askedFor {l : Launch} {E : xE} {M : xM} {c : Nat} {p1 : Int32} {Q : Int32 → xM → Prop} (h_c : xChk c) (h : wX0_askedFor M c p1 Q) : Ct l E mX0_askedFor [.ref c, .int p1] M (xRi Q) := by
  refine Ct_of (by decide +kernel) rfl (Nat.le_of_ble_eq_true rfl) ?_
  unfold wX0_askedFor at h
  show Gx l E mX0_askedFor (xRi Q) 0 M [some (.ref c), some (.int p1), none, none] []
  refine Gx_run (es := eX0_askedFor_0) (P := []) (M' := M) (L' := [some (.ref c), some (.int p1), some (.int (0 : Int32)), some (.int (0 : Int32))]) (st' := []) (pc' := 4) kX0_askedFor_0 rfl trivial rfl ?_
  refine Gx_mask [true, true, true, true] (L' := [some (.ref c), some (.int p1), some (.int (0 : Int32)), some (.int (0 : Int32))]) rfl ?_
  obtain ⟨n, h⟩ := h
  exact tX0_askedFor_4 h_c  n M (0 : Int32) (0 : Int32) h
def eX0_asks_0 : List xI := [(.aload_n 0, 1, 0, 0, 0), (.getfield 35, 3, 0, 6, 0), (.iload_n 1, 1, 0, 0, 0), (.ishr, 1, 0, 0, 0), (.iconst 1, 1, 0, 0, (1)), (.iand, 1, 0, 0, 0)]
theorem kX0_asks_0 : xcode (xmb mX0_asks) (xmo mX0_asks) 0 eX0_asks_0 = true := by decide +kernel
def eX0_asks_21 : List xI := [(.iconst 0, 1, 0, 0, (0))]
theorem kX0_asks_21 : xcode (xmb mX0_asks) (xmo mX0_asks) 21 eX0_asks_21 = true := by decide +kernel
def eX0_asks_11 : List xI := [(.aload_n 0, 1, 0, 0, 0), (.getfield 28, 3, 0, 4, 0), (.sipush 180, 3, 0, 0, (180))]
theorem kX0_asks_11 : xcode (xmb mX0_asks) (xmo mX0_asks) 11 eX0_asks_11 = true := by decide +kernel
def eX0_asks_23 : List xI := [(.aload_n 0, 1, 0, 0, 0), (.getfield 18, 3, 0, 1, 0), (.aload_n 0, 1, 0, 0, 0), (.getfield 28, 3, 0, 4, 0), (.iload_n 1, 1, 0, 0, 0), (.iastore, 1, 0, 0, 0), (.aload_n 0, 1, 0, 0, 0), (.getfield 22, 3, 0, 2, 0), (.aload_n 0, 1, 0, 0, 0), (.getfield 28, 3, 0, 4, 0), (.iload_n 2, 1, 0, 0, 0), (.iastore, 1, 0, 0, 0), (.aload_n 0, 1, 0, 0, 0), (.getfield 25, 3, 0, 3, 0), (.aload_n 0, 1, 0, 0, 0), (.getfield 28, 3, 0, 4, 0), (.iload_n 3, 1, 0, 0, 0), (.iastore, 1, 0, 0, 0), (.aload_n 0, 1, 0, 0, 0), (.dup, 1, 0, 0, 0), (.getfield 28, 3, 0, 4, 0), (.iconst 1, 1, 0, 0, (1)), (.iadd, 1, 0, 0, 0), (.putfield 28, 3, 0, 4, 0), (.iconst 1, 1, 0, 0, (1))]
theorem kX0_asks_23 : xcode (xmb mX0_asks) (xmo mX0_asks) 23 eX0_asks_23 = true := by decide +kernel
def wX0_asks_21 (c : Nat) (p1 : Int32) (p2 : Int32) (p3 : Int32) (Q : Int32 → xM → Prop) (M : xM) : Prop :=
    Q (0 : Int32) M
set_option maxHeartbeats 4000000 in
set_option maxRecDepth 100000 in
theorem tX0_asks_21 {l : Launch} {E : xE} {c : Nat} {p1 : Int32} {p2 : Int32} {p3 : Int32} {Q : Int32 → xM → Prop} (h_c : xChk c) (M : xM) (h : wX0_asks_21 c p1 p2 p3 Q M ) : Gx l E mX0_asks (xRi Q) 21 M [none, none, none, none] [] := by
  unfold wX0_asks_21 at h
  refine Gx_run (es := eX0_asks_21) (P := []) (M' := M) (L' := [none, none, none, none]) (st' := [.int (0 : Int32)]) (pc' := 22) kX0_asks_21 rfl trivial rfl ?_
  exact Gx_iret (by decide +kernel) rfl (by decide) ⟨_, rfl, h⟩
def wX0_asks (M : xM) (c : Nat) (p1 : Int32) (p2 : Int32) (p3 : Int32) (Q : Int32 → xM → Prop) : Prop :=
    (((¬ (((M c 6) >>> (p1 &&& 31)) &&& (1 : Int32)) = 0) → (wX0_asks_21 c p1 p2 p3 Q M)) ∧ (((((M c 6) >>> (p1 &&& 31)) &&& (1 : Int32)) = 0) → (((((M c 4) < (180 : Int32)) → ((vp_in (M c 4) 180) ∧ (vp_in ((xup M (c + 8) (M c 4).toNatClampNeg p1) c 4) 180) ∧ (vp_in ((xup (xup M (c + 8) (M c 4).toNatClampNeg p1) (c + 9) ((xup M (c + 8) (M c 4).toNatClampNeg p1) c 4).toNatClampNeg p2) c 4) 180) ∧ Q (1 : Int32) (xup (xup (xup (xup M (c + 8) (M c 4).toNatClampNeg p1) (c + 9) ((xup M (c + 8) (M c 4).toNatClampNeg p1) c 4).toNatClampNeg p2) (c + 10) ((xup (xup M (c + 8) (M c 4).toNatClampNeg p1) (c + 9) ((xup M (c + 8) (M c 4).toNatClampNeg p1) c 4).toNatClampNeg p2) c 4).toNatClampNeg p3) c 4 (((xup (xup (xup M (c + 8) (M c 4).toNatClampNeg p1) (c + 9) ((xup M (c + 8) (M c 4).toNatClampNeg p1) c 4).toNatClampNeg p2) (c + 10) ((xup (xup M (c + 8) (M c 4).toNatClampNeg p1) (c + 9) ((xup M (c + 8) (M c 4).toNatClampNeg p1) c 4).toNatClampNeg p2) c 4).toNatClampNeg p3) c 4) + (1 : Int32))))) ∧ ((¬ (M c 4) < (180 : Int32)) → (wX0_asks_21 c p1 p2 p3 Q M))))))
set_option maxHeartbeats 4000000 in
set_option maxRecDepth 100000 in
theorem tX0_asks {l : Launch} {E : xE} {M : xM} {c : Nat} {p1 : Int32} {p2 : Int32} {p3 : Int32} {Q : Int32 → xM → Prop} (h_c : xChk c) (h : wX0_asks M c p1 p2 p3 Q) : Ct l E mX0_asks [.ref c, .int p1, .int p2, .int p3] M (xRi Q) := by
  refine Ct_of (by decide +kernel) rfl (Nat.le_of_ble_eq_true rfl) ?_
  unfold wX0_asks at h
  show Gx l E mX0_asks (xRi Q) 0 M [some (.ref c), some (.int p1), some (.int p2), some (.int p3)] []
  refine Gx_run (es := eX0_asks_0) (P := [xkd c = 0]) (M' := M) (L' := [some (.ref c), some (.int p1), some (.int p2), some (.int p3)]) (st' := [.int (((M c 6) >>> (p1 &&& 31)) &&& (1 : Int32))]) (pc' := 8) kX0_asks_0 rfl ⟨(xChk_0 h_c), trivial⟩ rfl ?_
  refine Gx_if_ne (off := 13) (tgt := 21) (by decide +kernel) (by decide) (fun z => ?_) (fun z => ?_)
  · have h := h.1 z
    refine Gx_mask [false, false, false, false] (L' := [none, none, none, none]) rfl ?_
    exact tX0_asks_21 h_c  M h
  · have h := h.2 z
    refine Gx_run (es := eX0_asks_11) (P := [xkd c = 0]) (M' := M) (L' := [some (.ref c), some (.int p1), some (.int p2), some (.int p3)]) (st' := [.int (180 : Int32), .int (M c 4)]) (pc' := 18) kX0_asks_11 rfl ⟨(xChk_0 h_c), trivial⟩ rfl ?_
    refine Gx_icmp_lt (off := 5) (tgt := 23) (by decide +kernel) (by decide) (fun z => ?_) (fun z => ?_)
    · have h := h.1 z
      obtain ⟨g23_0, g23_1, g23_2, h⟩ := h
      refine Gx_run (es := eX0_asks_23) (P := [xkd c = 0, xkd c = 0, xkd (c + 8) = 5, vp_in (M c 4) (xln (c + 8)), xkd c = 0, xkd c = 0, xkd (c + 9) = 5, vp_in ((xup M (c + 8) (M c 4).toNatClampNeg p1) c 4) (xln (c + 9)), xkd c = 0, xkd c = 0, xkd (c + 10) = 5, vp_in ((xup (xup M (c + 8) (M c 4).toNatClampNeg p1) (c + 9) ((xup M (c + 8) (M c 4).toNatClampNeg p1) c 4).toNatClampNeg p2) c 4) (xln (c + 10)), xkd c = 0, xkd c = 0]) (M' := (xup (xup (xup (xup M (c + 8) (M c 4).toNatClampNeg p1) (c + 9) ((xup M (c + 8) (M c 4).toNatClampNeg p1) c 4).toNatClampNeg p2) (c + 10) ((xup (xup M (c + 8) (M c 4).toNatClampNeg p1) (c + 9) ((xup M (c + 8) (M c 4).toNatClampNeg p1) c 4).toNatClampNeg p2) c 4).toNatClampNeg p3) c 4 (((xup (xup (xup M (c + 8) (M c 4).toNatClampNeg p1) (c + 9) ((xup M (c + 8) (M c 4).toNatClampNeg p1) c 4).toNatClampNeg p2) (c + 10) ((xup (xup M (c + 8) (M c 4).toNatClampNeg p1) (c + 9) ((xup M (c + 8) (M c 4).toNatClampNeg p1) c 4).toNatClampNeg p2) c 4).toNatClampNeg p3) c 4) + (1 : Int32)))) (L' := [some (.ref c), some (.int p1), some (.int p2), some (.int p3)]) (st' := [.int (1 : Int32)]) (pc' := 64) kX0_asks_23 rfl ⟨(xChk_0 h_c), (xChk_0 h_c), (xChk_8 h_c), (by rw [xChk_l8 h_c]; exact g23_0), (xChk_0 h_c), (xChk_0 h_c), (xChk_9 h_c), (by rw [xChk_l9 h_c]; exact g23_1), (xChk_0 h_c), (xChk_0 h_c), (xChk_10 h_c), (by rw [xChk_l10 h_c]; exact g23_2), (xChk_0 h_c), (xChk_0 h_c), trivial⟩ rfl ?_
      exact Gx_iret (by decide +kernel) rfl (by decide) ⟨_, rfl, h⟩
    · have h := h.2 z
      refine Gx_mask [false, false, false, false] (L' := [none, none, none, none]) rfl ?_
      exact tX0_asks_21 h_c  M h
def eX0_faultOfPointer_0 : List xI := [(.aload_n 0, 1, 0, 0, 0), (.getfield 12, 3, 0, 0, 0), (.getfield 79, 3, 2, 3, 0), (.iconst 3, 1, 0, 0, (3)), (.iload_n 1, 1, 0, 0, 0), (.imul, 1, 0, 0, 0), (.iload_n 2, 1, 0, 0, 0), (.iadd, 1, 0, 0, 0), (.iaload, 1, 0, 0, 0), (.istore 4, 2, 0, 0, 0), (.iload 4, 2, 0, 0, 0), (.bipush (-9), 2, 0, 0, (-9))]
theorem kX0_faultOfPointer_0 : xcode (xmb mX0_faultOfPointer) (xmo mX0_faultOfPointer) 0 eX0_faultOfPointer_0 = true := by decide +kernel
def eX0_faultOfPointer_24 : List xI := [(.iload_n 2, 1, 0, 0, 0), (.getstatic 89, 3, 0, 0, 0), (.aload_n 0, 1, 0, 0, 0), (.getfield 12, 3, 0, 0, 0), (.getfield 72, 3, 2, 0, 0), (.iload_n 1, 1, 0, 0, 0), (.iaload, 1, 0, 0, 0), (.iaload, 1, 1, 0, 0)]
theorem kX0_faultOfPointer_24 : xcode (xmb mX0_faultOfPointer) (xmo mX0_faultOfPointer) 24 eX0_faultOfPointer_24 = true := by decide +kernel
def eX0_faultOfPointer_43 : List xI := [(.iload 4, 2, 0, 0, 0), (.bipush 24, 2, 0, 0, (24))]
theorem kX0_faultOfPointer_43 : xcode (xmb mX0_faultOfPointer) (xmo mX0_faultOfPointer) 43 eX0_faultOfPointer_43 = true := by decide +kernel
def eX0_faultOfPointer_52 : List xI := [(.iload_n 3, 1, 0, 0, 0), (.iload 4, 2, 0, 0, 0), (.ishr, 1, 0, 0, 0), (.iconst 1, 1, 0, 0, (1)), (.iand, 1, 0, 0, 0)]
theorem kX0_faultOfPointer_52 : xcode (xmb mX0_faultOfPointer) (xmo mX0_faultOfPointer) 52 eX0_faultOfPointer_52 = true := by decide +kernel
def eX0_faultOfPointer_65 : List xI := [(.iconst 0, 1, 0, 0, (0))]
theorem kX0_faultOfPointer_65 : xcode (xmb mX0_faultOfPointer) (xmo mX0_faultOfPointer) 65 eX0_faultOfPointer_65 = true := by decide +kernel
def eX0_faultOfPointer_61 : List xI := [(.iconst 4, 1, 0, 0, (4))]
theorem kX0_faultOfPointer_61 : xcode (xmb mX0_faultOfPointer) (xmo mX0_faultOfPointer) 61 eX0_faultOfPointer_61 = true := by decide +kernel
def eX0_faultOfPointer_50 : List xI := [(.iconst 3, 1, 0, 0, (3))]
theorem kX0_faultOfPointer_50 : xcode (xmb mX0_faultOfPointer) (xmo mX0_faultOfPointer) 50 eX0_faultOfPointer_50 = true := by decide +kernel
def eX0_faultOfPointer_41 : List xI := [(.iconst 2, 1, 0, 0, (2))]
theorem kX0_faultOfPointer_41 : xcode (xmb mX0_faultOfPointer) (xmo mX0_faultOfPointer) 41 eX0_faultOfPointer_41 = true := by decide +kernel
def eX0_faultOfPointer_22 : List xI := [(.iconst 0, 1, 0, 0, (0))]
theorem kX0_faultOfPointer_22 : xcode (xmb mX0_faultOfPointer) (xmo mX0_faultOfPointer) 22 eX0_faultOfPointer_22 = true := by decide +kernel
def wX0_faultOfPointer_66 (c : Nat) (p1 : Int32) (p2 : Int32) (p3 : Int32) (Q : Int32 → xM → Prop) (M : xM) (s0 : Int32) : Prop :=
    Q s0 M
set_option maxHeartbeats 4000000 in
set_option maxRecDepth 100000 in
theorem tX0_faultOfPointer_66 {l : Launch} {E : xE} {c : Nat} {p1 : Int32} {p2 : Int32} {p3 : Int32} {Q : Int32 → xM → Prop} (h_c : xChk c) (M : xM) (s0 : Int32) (h : wX0_faultOfPointer_66 c p1 p2 p3 Q M s0) : Gx l E mX0_faultOfPointer (xRi Q) 66 M [none, none, none, none, none] [.int s0] := by
  unfold wX0_faultOfPointer_66 at h
  exact Gx_iret (by decide +kernel) rfl rfl ⟨_, rfl, h⟩
def wX0_faultOfPointer (M : xM) (c : Nat) (p1 : Int32) (p2 : Int32) (p3 : Int32) (Q : Int32 → xM → Prop) : Prop :=
    (vp_in (((3 : Int32) * p1) + p2) 30) ∧ (((¬ (M (c + 5) (((3 : Int32) * p1) + p2).toNatClampNeg) = (-9 : Int32)) → ((vp_in p1 10) ∧ (vp_in (M (c + 2) p1.toNatClampNeg) 6) ∧ (((p2 < (xhold (M (c + 2) p1.toNatClampNeg).toNatClampNeg)) → (((((M (c + 5) (((3 : Int32) * p1) + p2).toNatClampNeg) < (24 : Int32)) → ((((((p3 >>> ((M (c + 5) (((3 : Int32) * p1) + p2).toNatClampNeg) &&& 31)) &&& (1 : Int32)) = 0) → (wX0_faultOfPointer_66 c p1 p2 p3 Q M (0 : Int32))) ∧ ((¬ ((p3 >>> ((M (c + 5) (((3 : Int32) * p1) + p2).toNatClampNeg) &&& 31)) &&& (1 : Int32)) = 0) → (wX0_faultOfPointer_66 c p1 p2 p3 Q M (4 : Int32)))))) ∧ ((¬ (M (c + 5) (((3 : Int32) * p1) + p2).toNatClampNeg) < (24 : Int32)) → (Q (3 : Int32) M))))) ∧ ((¬ p2 < (xhold (M (c + 2) p1.toNatClampNeg).toNatClampNeg)) → (Q (2 : Int32) M))))) ∧ (((M (c + 5) (((3 : Int32) * p1) + p2).toNatClampNeg) = (-9 : Int32)) → (Q (0 : Int32) M)))
set_option maxHeartbeats 4000000 in
set_option maxRecDepth 100000 in
theorem tX0_faultOfPointer {l : Launch} {E : xE} {M : xM} {c : Nat} {p1 : Int32} {p2 : Int32} {p3 : Int32} {Q : Int32 → xM → Prop} (h_c : xChk c) (h : wX0_faultOfPointer M c p1 p2 p3 Q) : Ct l E mX0_faultOfPointer [.ref c, .int p1, .int p2, .int p3] M (xRi Q) := by
  refine Ct_of (by decide +kernel) rfl (Nat.le_of_ble_eq_true rfl) ?_
  unfold wX0_faultOfPointer at h
  show Gx l E mX0_faultOfPointer (xRi Q) 0 M [some (.ref c), some (.int p1), some (.int p2), some (.int p3), none] []
  obtain ⟨g0_0, h⟩ := h
  refine Gx_run (es := eX0_faultOfPointer_0) (P := [xkd c = 0, xkd (c + 1) = 2, xkd (c + 5) = 5, vp_in (((3 : Int32) * p1) + p2) (xln (c + 5))]) (M' := M) (L' := [some (.ref c), some (.int p1), some (.int p2), some (.int p3), some (.int (M (c + 5) (((3 : Int32) * p1) + p2).toNatClampNeg))]) (st' := [.int (-9 : Int32), .int (M (c + 5) (((3 : Int32) * p1) + p2).toNatClampNeg)]) (pc' := 19) kX0_faultOfPointer_0 rfl ⟨(xChk_0 h_c), (xChk_1 h_c), (xChk_5 h_c), (by rw [xChk_l5 h_c]; exact g0_0), trivial⟩ rfl ?_
  refine Gx_icmp_ne (off := 5) (tgt := 24) (by decide +kernel) (by decide) (fun z => ?_) (fun z => ?_)
  · have h := h.1 z
    obtain ⟨g24_0, g24_1, h⟩ := h
    refine Gx_run (es := eX0_faultOfPointer_24) (P := [xkd c = 0, xkd (c + 1) = 2, xkd (c + 2) = 5, vp_in p1 (xln (c + 2)), 100 = 100, vp_in (M (c + 2) p1.toNatClampNeg) 6]) (M' := M) (L' := [some (.ref c), some (.int p1), some (.int p2), some (.int p3), some (.int (M (c + 5) (((3 : Int32) * p1) + p2).toNatClampNeg))]) (st' := [.int (xhold (M (c + 2) p1.toNatClampNeg).toNatClampNeg), .int p2]) (pc' := 38) kX0_faultOfPointer_24 rfl ⟨(xChk_0 h_c), (xChk_1 h_c), (xChk_2 h_c), (by rw [xChk_l2 h_c]; exact g24_0), rfl, g24_1, trivial⟩ rfl ?_
    refine Gx_icmp_lt (off := 5) (tgt := 43) (by decide +kernel) (by decide) (fun z => ?_) (fun z => ?_)
    · have h := h.1 z
      refine Gx_run (es := eX0_faultOfPointer_43) (P := []) (M' := M) (L' := [some (.ref c), some (.int p1), some (.int p2), some (.int p3), some (.int (M (c + 5) (((3 : Int32) * p1) + p2).toNatClampNeg))]) (st' := [.int (24 : Int32), .int (M (c + 5) (((3 : Int32) * p1) + p2).toNatClampNeg)]) (pc' := 47) kX0_faultOfPointer_43 rfl trivial rfl ?_
      refine Gx_icmp_lt (off := 5) (tgt := 52) (by decide +kernel) (by decide) (fun z => ?_) (fun z => ?_)
      · have h := h.1 z
        refine Gx_run (es := eX0_faultOfPointer_52) (P := []) (M' := M) (L' := [some (.ref c), some (.int p1), some (.int p2), some (.int p3), some (.int (M (c + 5) (((3 : Int32) * p1) + p2).toNatClampNeg))]) (st' := [.int ((p3 >>> ((M (c + 5) (((3 : Int32) * p1) + p2).toNatClampNeg) &&& 31)) &&& (1 : Int32))]) (pc' := 58) kX0_faultOfPointer_52 rfl trivial rfl ?_
        refine Gx_if_eq (off := 7) (tgt := 65) (by decide +kernel) (by decide) (fun z => ?_) (fun z => ?_)
        · have h := h.1 z
          refine Gx_run (es := eX0_faultOfPointer_65) (P := []) (M' := M) (L' := [some (.ref c), some (.int p1), some (.int p2), some (.int p3), some (.int (M (c + 5) (((3 : Int32) * p1) + p2).toNatClampNeg))]) (st' := [.int (0 : Int32)]) (pc' := 66) kX0_faultOfPointer_65 rfl trivial rfl ?_
          refine Gx_mask [false, false, false, false, false] (L' := [none, none, none, none, none]) rfl ?_
          exact tX0_faultOfPointer_66 h_c  M (0 : Int32) h
        · have h := h.2 z
          refine Gx_run (es := eX0_faultOfPointer_61) (P := []) (M' := M) (L' := [some (.ref c), some (.int p1), some (.int p2), some (.int p3), some (.int (M (c + 5) (((3 : Int32) * p1) + p2).toNatClampNeg))]) (st' := [.int (4 : Int32)]) (pc' := 62) kX0_faultOfPointer_61 rfl trivial rfl ?_
          refine Gx_goto (off := 4) (tgt := 66) (by decide +kernel) (by decide) ?_
          refine Gx_mask [false, false, false, false, false] (L' := [none, none, none, none, none]) rfl ?_
          exact tX0_faultOfPointer_66 h_c  M (4 : Int32) h
      · have h := h.2 z
        refine Gx_run (es := eX0_faultOfPointer_50) (P := []) (M' := M) (L' := [some (.ref c), some (.int p1), some (.int p2), some (.int p3), some (.int (M (c + 5) (((3 : Int32) * p1) + p2).toNatClampNeg))]) (st' := [.int (3 : Int32)]) (pc' := 51) kX0_faultOfPointer_50 rfl trivial rfl ?_
        exact Gx_iret (by decide +kernel) rfl rfl ⟨_, rfl, h⟩
    · have h := h.2 z
      refine Gx_run (es := eX0_faultOfPointer_41) (P := []) (M' := M) (L' := [some (.ref c), some (.int p1), some (.int p2), some (.int p3), some (.int (M (c + 5) (((3 : Int32) * p1) + p2).toNatClampNeg))]) (st' := [.int (2 : Int32)]) (pc' := 42) kX0_faultOfPointer_41 rfl trivial rfl ?_
      exact Gx_iret (by decide +kernel) rfl rfl ⟨_, rfl, h⟩
  · have h := h.2 z
    refine Gx_run (es := eX0_faultOfPointer_22) (P := []) (M' := M) (L' := [some (.ref c), some (.int p1), some (.int p2), some (.int p3), some (.int (M (c + 5) (((3 : Int32) * p1) + p2).toNatClampNeg))]) (st' := [.int (0 : Int32)]) (pc' := 23) kX0_faultOfPointer_22 rfl trivial rfl ?_
    exact Gx_iret (by decide +kernel) rfl rfl ⟨_, rfl, h⟩
def eX1_append_0 : List xI := [(.aload_n 0, 1, 0, 0, 0), (.getfield 15, 3, 1, 1, 0), (.bipush 96, 2, 0, 0, (96))]
theorem kX1_append_0 : xcode (xmb mX1_append) (xmo mX1_append) 0 eX1_append_0 = true := by decide +kernel
def eX1_append_29 : List xI := [(.aload_n 0, 1, 0, 0, 0), (.getfield 15, 3, 1, 1, 0)]
theorem kX1_append_29 : xcode (xmb mX1_append) (xmo mX1_append) 29 eX1_append_29 = true := by decide +kernel
def eX1_append_9 : List xI := [(.aload_n 0, 1, 0, 0, 0), (.getfield 9, 3, 1, 0, 0), (.aload_n 0, 1, 0, 0, 0), (.getfield 15, 3, 1, 1, 0), (.iload_n 1, 1, 0, 0, 0), (.iastore, 1, 0, 0, 0), (.aload_n 0, 1, 0, 0, 0), (.dup, 1, 0, 0, 0), (.getfield 15, 3, 1, 1, 0), (.iconst 1, 1, 0, 0, (1)), (.iadd, 1, 0, 0, 0), (.putfield 15, 3, 1, 1, 0)]
theorem kX1_append_9 : xcode (xmb mX1_append) (xmo mX1_append) 9 eX1_append_9 = true := by decide +kernel
def wX1_append_29 (p1 : Int32) (Q : Int32 → xM → Prop) (M : xM) : Prop :=
    Q (M 46 1) M
set_option maxHeartbeats 4000000 in
set_option maxRecDepth 100000 in
theorem tX1_append_29 {l : Launch} {E : xE} {p1 : Int32} {Q : Int32 → xM → Prop} (M : xM) (h : wX1_append_29 p1 Q M ) : Gx l E mX1_append (xRi Q) 29 M [some (.ref 46), none] [] := by
  unfold wX1_append_29 at h
  refine Gx_run (es := eX1_append_29) (P := [xkd 46 = 1]) (M' := M) (L' := [some (.ref 46), none]) (st' := [.int (M 46 1)]) (pc' := 33) kX1_append_29 rfl ⟨rfl, trivial⟩ rfl ?_
  exact Gx_iret (by decide +kernel) rfl rfl ⟨_, rfl, h⟩
def wX1_append (M : xM) (p1 : Int32) (Q : Int32 → xM → Prop) : Prop :=
    ((((96 : Int32) ≤ (M 46 1)) → (wX1_append_29 p1 Q M)) ∧ ((¬ (96 : Int32) ≤ (M 46 1)) → ((vp_in (M 46 1) 96) ∧ wX1_append_29 p1 Q (xup (xup M 47 (M 46 1).toNatClampNeg p1) 46 1 (((xup M 47 (M 46 1).toNatClampNeg p1) 46 1) + (1 : Int32))))))
set_option maxHeartbeats 4000000 in
set_option maxRecDepth 100000 in
theorem tX1_append {l : Launch} {E : xE} {M : xM} {p1 : Int32} {Q : Int32 → xM → Prop} (h : wX1_append M p1 Q) : Ct l E mX1_append [.ref 46, .int p1] M (xRi Q) := by
  refine Ct_of (by decide +kernel) rfl (Nat.le_of_ble_eq_true rfl) ?_
  unfold wX1_append at h
  show Gx l E mX1_append (xRi Q) 0 M [some (.ref 46), some (.int p1)] []
  refine Gx_run (es := eX1_append_0) (P := [xkd 46 = 1]) (M' := M) (L' := [some (.ref 46), some (.int p1)]) (st' := [.int (96 : Int32), .int (M 46 1)]) (pc' := 6) kX1_append_0 rfl ⟨rfl, trivial⟩ rfl ?_
  refine Gx_icmp_ge (off := 23) (tgt := 29) (by decide +kernel) (by decide) (fun z => ?_) (fun z => ?_)
  · have h := h.1 z
    refine Gx_mask [true, false] (L' := [some (.ref 46), none]) rfl ?_
    exact tX1_append_29  M h
  · have h := h.2 z
    obtain ⟨g9_0, h⟩ := h
    refine Gx_run (es := eX1_append_9) (P := [xkd 46 = 1, xkd 46 = 1, xkd 47 = 5, vp_in (M 46 1) (xln 47), xkd 46 = 1, xkd 46 = 1]) (M' := (xup (xup M 47 (M 46 1).toNatClampNeg p1) 46 1 (((xup M 47 (M 46 1).toNatClampNeg p1) 46 1) + (1 : Int32)))) (L' := [some (.ref 46), some (.int p1)]) (st' := []) (pc' := 29) kX1_append_9 rfl ⟨rfl, rfl, rfl, g9_0, rfl, rfl, trivial⟩ rfl ?_
    refine Gx_mask [true, false] (L' := [some (.ref 46), none]) rfl ?_
    exact tX1_append_29  (xup (xup M 47 (M 46 1).toNatClampNeg p1) 46 1 (((xup M 47 (M 46 1).toNatClampNeg p1) 46 1) + (1 : Int32))) h
def eX1_shapeOf_0 : List xI := [(.iload_n 0, 1, 0, 0, 0)]
theorem kX1_shapeOf_0 : xcode (xmb mX1_shapeOf) (xmo mX1_shapeOf) 0 eX1_shapeOf_0 = true := by decide +kernel
def eX1_shapeOf_111 : List xI := [(.ldc 72, 2, 1, 2, 0)]
theorem kX1_shapeOf_111 : xcode (xmb mX1_shapeOf) (xmo mX1_shapeOf) 111 eX1_shapeOf_111 = true := by decide +kernel
def eX1_shapeOf_114 : List xI := [(.ldc 74, 2, 1, 3, 0)]
theorem kX1_shapeOf_114 : xcode (xmb mX1_shapeOf) (xmo mX1_shapeOf) 114 eX1_shapeOf_114 = true := by decide +kernel
def eX1_shapeOf_108 : List xI := [(.ldc 70, 2, 1, 1, 0)]
theorem kX1_shapeOf_108 : xcode (xmb mX1_shapeOf) (xmo mX1_shapeOf) 108 eX1_shapeOf_108 = true := by decide +kernel
def eX1_shapeOf_117 : List xI := [(.ldc 76, 2, 1, 4, 0)]
theorem kX1_shapeOf_117 : xcode (xmb mX1_shapeOf) (xmo mX1_shapeOf) 117 eX1_shapeOf_117 = true := by decide +kernel
def eX1_shapeOf_120 : List xI := [(.ldc 78, 2, 1, 5, 0)]
theorem kX1_shapeOf_120 : xcode (xmb mX1_shapeOf) (xmo mX1_shapeOf) 120 eX1_shapeOf_120 = true := by decide +kernel
def eX1_shapeOf_123 : List xI := [(.ldc 80, 2, 1, 6, 0)]
theorem kX1_shapeOf_123 : xcode (xmb mX1_shapeOf) (xmo mX1_shapeOf) 123 eX1_shapeOf_123 = true := by decide +kernel
def wX1_shapeOf_111 (p1 : Int32) (Q : Nat → xM → Prop) (M : xM) : Prop :=
    Q 112 M
set_option maxHeartbeats 4000000 in
set_option maxRecDepth 100000 in
theorem tX1_shapeOf_111 {l : Launch} {E : xE} {p1 : Int32} {Q : Nat → xM → Prop} (M : xM) (h : wX1_shapeOf_111 p1 Q M ) : Gx l E mX1_shapeOf (xRa Q) 111 M [none] [] := by
  unfold wX1_shapeOf_111 at h
  refine Gx_run (es := eX1_shapeOf_111) (P := []) (M' := M) (L' := [none]) (st' := [.ref 112]) (pc' := 113) kX1_shapeOf_111 rfl trivial rfl ?_
  exact Gx_aret (by decide +kernel) rfl (by decide) ⟨_, rfl, h⟩
def wX1_shapeOf_117 (p1 : Int32) (Q : Nat → xM → Prop) (M : xM) : Prop :=
    Q 114 M
set_option maxHeartbeats 4000000 in
set_option maxRecDepth 100000 in
theorem tX1_shapeOf_117 {l : Launch} {E : xE} {p1 : Int32} {Q : Nat → xM → Prop} (M : xM) (h : wX1_shapeOf_117 p1 Q M ) : Gx l E mX1_shapeOf (xRa Q) 117 M [none] [] := by
  unfold wX1_shapeOf_117 at h
  refine Gx_run (es := eX1_shapeOf_117) (P := []) (M' := M) (L' := [none]) (st' := [.ref 114]) (pc' := 119) kX1_shapeOf_117 rfl trivial rfl ?_
  exact Gx_aret (by decide +kernel) rfl (by decide) ⟨_, rfl, h⟩
def wX1_shapeOf (M : xM) (p1 : Int32) (Q : Nat → xM → Prop) : Prop :=
    (((p1 = (98 : Int32)) → (wX1_shapeOf_111 p1 Q M)) ∧ ((¬ p1 = (98 : Int32)) → (((p1 = (101 : Int32)) → (Q 113 M)) ∧ ((¬ p1 = (101 : Int32)) → (((p1 = (105 : Int32)) → (Q 111 M)) ∧ ((¬ p1 = (105 : Int32)) → (((p1 = (109 : Int32)) → (wX1_shapeOf_117 p1 Q M)) ∧ ((¬ p1 = (109 : Int32)) → (((p1 = (112 : Int32)) → (wX1_shapeOf_111 p1 Q M)) ∧ ((¬ p1 = (112 : Int32)) → (((p1 = (117 : Int32)) → (Q 115 M)) ∧ ((¬ p1 = (117 : Int32)) → (((p1 = (120 : Int32)) → (wX1_shapeOf_117 p1 Q M)) ∧ ((¬ p1 = (120 : Int32)) → (Q 116 M)))))))))))))))
set_option maxHeartbeats 4000000 in
set_option maxRecDepth 100000 in
theorem tX1_shapeOf {l : Launch} {E : xE} {M : xM} {p1 : Int32} {Q : Nat → xM → Prop} (h : wX1_shapeOf M p1 Q) : Ct l E mX1_shapeOf [.int p1] M (xRa Q) := by
  refine Ct_of (by decide +kernel) rfl (Nat.le_of_ble_eq_true rfl) ?_
  unfold wX1_shapeOf at h
  show Gx l E mX1_shapeOf (xRa Q) 0 M [some (.int p1)] []
  refine Gx_run (es := eX1_shapeOf_0) (P := []) (M' := M) (L' := [some (.int p1)]) (st' := [.int p1]) (pc' := 1) kX1_shapeOf_0 rfl trivial rfl ?_
  by_cases z98 : p1 = (98 : Int32)
  · have h := h.1 z98
    refine Gx_tabAt (dflt := 122) (lo := 98) (hi := 120) (offs := #[110, 122, 122, 113, 122, 122, 122, 107, 122, 122, 122, 116, 122, 122, 110, 122, 122, 122, 122, 119, 122, 122, 116]) (len := 107) z98 (by decide +kernel) (by decide) (by decide) (off := 110) (tgt := 111) rfl (by decide) ?_
    refine Gx_mask [false] (L' := [none]) rfl ?_
    exact tX1_shapeOf_111  M h
  replace h := h.2 z98
  by_cases z101 : p1 = (101 : Int32)
  · have h := h.1 z101
    refine Gx_tabAt (dflt := 122) (lo := 98) (hi := 120) (offs := #[110, 122, 122, 113, 122, 122, 122, 107, 122, 122, 122, 116, 122, 122, 110, 122, 122, 122, 122, 119, 122, 122, 116]) (len := 107) z101 (by decide +kernel) (by decide) (by decide) (off := 113) (tgt := 114) rfl (by decide) ?_
    refine Gx_run (es := eX1_shapeOf_114) (P := []) (M' := M) (L' := [some (.int p1)]) (st' := [.ref 113]) (pc' := 116) kX1_shapeOf_114 rfl trivial rfl ?_
    exact Gx_aret (by decide +kernel) rfl (by decide) ⟨_, rfl, h⟩
  replace h := h.2 z101
  by_cases z105 : p1 = (105 : Int32)
  · have h := h.1 z105
    refine Gx_tabAt (dflt := 122) (lo := 98) (hi := 120) (offs := #[110, 122, 122, 113, 122, 122, 122, 107, 122, 122, 122, 116, 122, 122, 110, 122, 122, 122, 122, 119, 122, 122, 116]) (len := 107) z105 (by decide +kernel) (by decide) (by decide) (off := 107) (tgt := 108) rfl (by decide) ?_
    refine Gx_run (es := eX1_shapeOf_108) (P := []) (M' := M) (L' := [some (.int p1)]) (st' := [.ref 111]) (pc' := 110) kX1_shapeOf_108 rfl trivial rfl ?_
    exact Gx_aret (by decide +kernel) rfl (by decide) ⟨_, rfl, h⟩
  replace h := h.2 z105
  by_cases z109 : p1 = (109 : Int32)
  · have h := h.1 z109
    refine Gx_tabAt (dflt := 122) (lo := 98) (hi := 120) (offs := #[110, 122, 122, 113, 122, 122, 122, 107, 122, 122, 122, 116, 122, 122, 110, 122, 122, 122, 122, 119, 122, 122, 116]) (len := 107) z109 (by decide +kernel) (by decide) (by decide) (off := 116) (tgt := 117) rfl (by decide) ?_
    refine Gx_mask [false] (L' := [none]) rfl ?_
    exact tX1_shapeOf_117  M h
  replace h := h.2 z109
  by_cases z112 : p1 = (112 : Int32)
  · have h := h.1 z112
    refine Gx_tabAt (dflt := 122) (lo := 98) (hi := 120) (offs := #[110, 122, 122, 113, 122, 122, 122, 107, 122, 122, 122, 116, 122, 122, 110, 122, 122, 122, 122, 119, 122, 122, 116]) (len := 107) z112 (by decide +kernel) (by decide) (by decide) (off := 110) (tgt := 111) rfl (by decide) ?_
    refine Gx_mask [false] (L' := [none]) rfl ?_
    exact tX1_shapeOf_111  M h
  replace h := h.2 z112
  by_cases z117 : p1 = (117 : Int32)
  · have h := h.1 z117
    refine Gx_tabAt (dflt := 122) (lo := 98) (hi := 120) (offs := #[110, 122, 122, 113, 122, 122, 122, 107, 122, 122, 122, 116, 122, 122, 110, 122, 122, 122, 122, 119, 122, 122, 116]) (len := 107) z117 (by decide +kernel) (by decide) (by decide) (off := 119) (tgt := 120) rfl (by decide) ?_
    refine Gx_run (es := eX1_shapeOf_120) (P := []) (M' := M) (L' := [some (.int p1)]) (st' := [.ref 115]) (pc' := 122) kX1_shapeOf_120 rfl trivial rfl ?_
    exact Gx_aret (by decide +kernel) rfl (by decide) ⟨_, rfl, h⟩
  replace h := h.2 z117
  by_cases z120 : p1 = (120 : Int32)
  · have h := h.1 z120
    refine Gx_tabAt (dflt := 122) (lo := 98) (hi := 120) (offs := #[110, 122, 122, 113, 122, 122, 122, 107, 122, 122, 122, 116, 122, 122, 110, 122, 122, 122, 122, 119, 122, 122, 116]) (len := 107) z120 (by decide +kernel) (by decide) (by decide) (off := 116) (tgt := 117) rfl (by decide) ?_
    refine Gx_mask [false] (L' := [none]) rfl ?_
    exact tX1_shapeOf_117  M h
  replace h := h.2 z120
  suffices hk : Gx l E mX1_shapeOf _ 123 M [some (.int p1)] [] by
    by_cases z99 : p1 = (99 : Int32)
    · exact Gx_tabAt (dflt := 122) (lo := 98) (hi := 120) (offs := #[110, 122, 122, 113, 122, 122, 122, 107, 122, 122, 122, 116, 122, 122, 110, 122, 122, 122, 122, 119, 122, 122, 116]) (len := 107) z99 (by decide +kernel) (by decide) (by decide) (off := 122) (tgt := 123) rfl (by decide) hk
    by_cases z100 : p1 = (100 : Int32)
    · exact Gx_tabAt (dflt := 122) (lo := 98) (hi := 120) (offs := #[110, 122, 122, 113, 122, 122, 122, 107, 122, 122, 122, 116, 122, 122, 110, 122, 122, 122, 122, 119, 122, 122, 116]) (len := 107) z100 (by decide +kernel) (by decide) (by decide) (off := 122) (tgt := 123) rfl (by decide) hk
    by_cases z102 : p1 = (102 : Int32)
    · exact Gx_tabAt (dflt := 122) (lo := 98) (hi := 120) (offs := #[110, 122, 122, 113, 122, 122, 122, 107, 122, 122, 122, 116, 122, 122, 110, 122, 122, 122, 122, 119, 122, 122, 116]) (len := 107) z102 (by decide +kernel) (by decide) (by decide) (off := 122) (tgt := 123) rfl (by decide) hk
    by_cases z103 : p1 = (103 : Int32)
    · exact Gx_tabAt (dflt := 122) (lo := 98) (hi := 120) (offs := #[110, 122, 122, 113, 122, 122, 122, 107, 122, 122, 122, 116, 122, 122, 110, 122, 122, 122, 122, 119, 122, 122, 116]) (len := 107) z103 (by decide +kernel) (by decide) (by decide) (off := 122) (tgt := 123) rfl (by decide) hk
    by_cases z104 : p1 = (104 : Int32)
    · exact Gx_tabAt (dflt := 122) (lo := 98) (hi := 120) (offs := #[110, 122, 122, 113, 122, 122, 122, 107, 122, 122, 122, 116, 122, 122, 110, 122, 122, 122, 122, 119, 122, 122, 116]) (len := 107) z104 (by decide +kernel) (by decide) (by decide) (off := 122) (tgt := 123) rfl (by decide) hk
    by_cases z106 : p1 = (106 : Int32)
    · exact Gx_tabAt (dflt := 122) (lo := 98) (hi := 120) (offs := #[110, 122, 122, 113, 122, 122, 122, 107, 122, 122, 122, 116, 122, 122, 110, 122, 122, 122, 122, 119, 122, 122, 116]) (len := 107) z106 (by decide +kernel) (by decide) (by decide) (off := 122) (tgt := 123) rfl (by decide) hk
    by_cases z107 : p1 = (107 : Int32)
    · exact Gx_tabAt (dflt := 122) (lo := 98) (hi := 120) (offs := #[110, 122, 122, 113, 122, 122, 122, 107, 122, 122, 122, 116, 122, 122, 110, 122, 122, 122, 122, 119, 122, 122, 116]) (len := 107) z107 (by decide +kernel) (by decide) (by decide) (off := 122) (tgt := 123) rfl (by decide) hk
    by_cases z108 : p1 = (108 : Int32)
    · exact Gx_tabAt (dflt := 122) (lo := 98) (hi := 120) (offs := #[110, 122, 122, 113, 122, 122, 122, 107, 122, 122, 122, 116, 122, 122, 110, 122, 122, 122, 122, 119, 122, 122, 116]) (len := 107) z108 (by decide +kernel) (by decide) (by decide) (off := 122) (tgt := 123) rfl (by decide) hk
    by_cases z110 : p1 = (110 : Int32)
    · exact Gx_tabAt (dflt := 122) (lo := 98) (hi := 120) (offs := #[110, 122, 122, 113, 122, 122, 122, 107, 122, 122, 122, 116, 122, 122, 110, 122, 122, 122, 122, 119, 122, 122, 116]) (len := 107) z110 (by decide +kernel) (by decide) (by decide) (off := 122) (tgt := 123) rfl (by decide) hk
    by_cases z111 : p1 = (111 : Int32)
    · exact Gx_tabAt (dflt := 122) (lo := 98) (hi := 120) (offs := #[110, 122, 122, 113, 122, 122, 122, 107, 122, 122, 122, 116, 122, 122, 110, 122, 122, 122, 122, 119, 122, 122, 116]) (len := 107) z111 (by decide +kernel) (by decide) (by decide) (off := 122) (tgt := 123) rfl (by decide) hk
    by_cases z113 : p1 = (113 : Int32)
    · exact Gx_tabAt (dflt := 122) (lo := 98) (hi := 120) (offs := #[110, 122, 122, 113, 122, 122, 122, 107, 122, 122, 122, 116, 122, 122, 110, 122, 122, 122, 122, 119, 122, 122, 116]) (len := 107) z113 (by decide +kernel) (by decide) (by decide) (off := 122) (tgt := 123) rfl (by decide) hk
    by_cases z114 : p1 = (114 : Int32)
    · exact Gx_tabAt (dflt := 122) (lo := 98) (hi := 120) (offs := #[110, 122, 122, 113, 122, 122, 122, 107, 122, 122, 122, 116, 122, 122, 110, 122, 122, 122, 122, 119, 122, 122, 116]) (len := 107) z114 (by decide +kernel) (by decide) (by decide) (off := 122) (tgt := 123) rfl (by decide) hk
    by_cases z115 : p1 = (115 : Int32)
    · exact Gx_tabAt (dflt := 122) (lo := 98) (hi := 120) (offs := #[110, 122, 122, 113, 122, 122, 122, 107, 122, 122, 122, 116, 122, 122, 110, 122, 122, 122, 122, 119, 122, 122, 116]) (len := 107) z115 (by decide +kernel) (by decide) (by decide) (off := 122) (tgt := 123) rfl (by decide) hk
    by_cases z116 : p1 = (116 : Int32)
    · exact Gx_tabAt (dflt := 122) (lo := 98) (hi := 120) (offs := #[110, 122, 122, 113, 122, 122, 122, 107, 122, 122, 122, 116, 122, 122, 110, 122, 122, 122, 122, 119, 122, 122, 116]) (len := 107) z116 (by decide +kernel) (by decide) (by decide) (off := 122) (tgt := 123) rfl (by decide) hk
    by_cases z118 : p1 = (118 : Int32)
    · exact Gx_tabAt (dflt := 122) (lo := 98) (hi := 120) (offs := #[110, 122, 122, 113, 122, 122, 122, 107, 122, 122, 122, 116, 122, 122, 110, 122, 122, 122, 122, 119, 122, 122, 116]) (len := 107) z118 (by decide +kernel) (by decide) (by decide) (off := 122) (tgt := 123) rfl (by decide) hk
    by_cases z119 : p1 = (119 : Int32)
    · exact Gx_tabAt (dflt := 122) (lo := 98) (hi := 120) (offs := #[110, 122, 122, 113, 122, 122, 122, 107, 122, 122, 122, 116, 122, 122, 110, 122, 122, 122, 122, 119, 122, 122, 116]) (len := 107) z119 (by decide +kernel) (by decide) (by decide) (off := 122) (tgt := 123) rfl (by decide) hk
    refine Gx_tableOut (dflt := 122) (lo := 98) (hi := 120) (offs := #[110, 122, 122, 113, 122, 122, 122, 107, 122, 122, 122, 116, 122, 122, 110, 122, 122, 122, 122, 119, 122, 122, 116]) (len := 107) (tgt := 123) (by decide +kernel) ?_ (by decide) hk
    have n98 := lv_neT (a := 98) z98 (by decide)
    have n99 := lv_neT (a := 99) z99 (by decide)
    have n100 := lv_neT (a := 100) z100 (by decide)
    have n101 := lv_neT (a := 101) z101 (by decide)
    have n102 := lv_neT (a := 102) z102 (by decide)
    have n103 := lv_neT (a := 103) z103 (by decide)
    have n104 := lv_neT (a := 104) z104 (by decide)
    have n105 := lv_neT (a := 105) z105 (by decide)
    have n106 := lv_neT (a := 106) z106 (by decide)
    have n107 := lv_neT (a := 107) z107 (by decide)
    have n108 := lv_neT (a := 108) z108 (by decide)
    have n109 := lv_neT (a := 109) z109 (by decide)
    have n110 := lv_neT (a := 110) z110 (by decide)
    have n111 := lv_neT (a := 111) z111 (by decide)
    have n112 := lv_neT (a := 112) z112 (by decide)
    have n113 := lv_neT (a := 113) z113 (by decide)
    have n114 := lv_neT (a := 114) z114 (by decide)
    have n115 := lv_neT (a := 115) z115 (by decide)
    have n116 := lv_neT (a := 116) z116 (by decide)
    have n117 := lv_neT (a := 117) z117 (by decide)
    have n118 := lv_neT (a := 118) z118 (by decide)
    have n119 := lv_neT (a := 119) z119 (by decide)
    have n120 := lv_neT (a := 120) z120 (by decide)
    omega
  refine Gx_run (es := eX1_shapeOf_123) (P := []) (M' := M) (L' := [some (.int p1)]) (st' := [.ref 116]) (pc' := 125) kX1_shapeOf_123 rfl trivial rfl ?_
  exact Gx_aret (by decide +kernel) rfl (by decide) ⟨_, rfl, h⟩
end
