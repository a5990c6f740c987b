section
-- ===== PART A: goes FIRST, ahead of the names: the tables' words, and 'selects' of the private methods out of them =====
/-- a private method of a class that the tables say can be made, by its rows of tables_1 -/
def lw_okq (q : MethodName × Nat) : Prop := (q.1.cls ≠ "java/lang/invoke/MethodHandle" ∧ q.1.cls ≠ "java/lang/invoke/VarHandle") ∧ Cond.instantiable q.1.cls q.2 ∈ tables_1 ∧ Cond.privateMethod q.1 ∈ tables_1 ∧ Cond.instanceMethod q.1 ∈ tables_1
theorem lw_p0 : lw_okq (⟨"VolumeInFivePasses", "refusal", "(I)I"⟩, 13) := ⟨⟨by decide +kernel, by decide +kernel⟩, List.mem_of_getElem? (i := 16) (by decide +kernel), List.mem_of_getElem? (i := 168) (by decide +kernel), List.mem_of_getElem? (i := 169) (by decide +kernel)⟩
theorem lw_p1 : lw_okq (⟨"VolumeInFivePasses$Letters", "placeOfWrongLetter", "()I"⟩, 2) := ⟨⟨by decide +kernel, by decide +kernel⟩, List.mem_of_getElem? (i := 110) (by decide +kernel), List.mem_of_getElem? (i := 184) (by decide +kernel), List.mem_of_getElem? (i := 185) (by decide +kernel)⟩
theorem lw_p2 : lw_okq (⟨"VolumeInFivePasses$Letters", "wrongLetterOf", "(I)I"⟩, 2) := ⟨⟨by decide +kernel, by decide +kernel⟩, List.mem_of_getElem? (i := 110) (by decide +kernel), List.mem_of_getElem? (i := 188) (by decide +kernel), List.mem_of_getElem? (i := 189) (by decide +kernel)⟩
theorem lw_p3 : lw_okq (⟨"VolumeInFivePasses$Letters", "placeOfWrongStatement", "()I"⟩, 2) := ⟨⟨by decide +kernel, by decide +kernel⟩, List.mem_of_getElem? (i := 110) (by decide +kernel), List.mem_of_getElem? (i := 321) (by decide +kernel), List.mem_of_getElem? (i := 322) (by decide +kernel)⟩
theorem lw_p4 : lw_okq (⟨"VolumeInFivePasses$Letters", "stands", "(I)Z"⟩, 2) := ⟨⟨by decide +kernel, by decide +kernel⟩, List.mem_of_getElem? (i := 110) (by decide +kernel), List.mem_of_getElem? (i := 325) (by decide +kernel), List.mem_of_getElem? (i := 326) (by decide +kernel)⟩
theorem lw_p5 : lw_okq (⟨"VolumeInFivePasses", "carryOut", "(I)V"⟩, 13) := ⟨⟨by decide +kernel, by decide +kernel⟩, List.mem_of_getElem? (i := 16) (by decide +kernel), List.mem_of_getElem? (i := 337) (by decide +kernel), List.mem_of_getElem? (i := 338) (by decide +kernel)⟩
theorem lw_p6 : lw_okq (⟨"VolumeInFivePasses$Check", "mendPointers", "()V"⟩, 7) := ⟨⟨by decide +kernel, by decide +kernel⟩, List.mem_of_getElem? (i := 75) (by decide +kernel), List.mem_of_getElem? (i := 371) (by decide +kernel), List.mem_of_getElem? (i := 372) (by decide +kernel)⟩
theorem lw_p7 : lw_okq (⟨"VolumeInFivePasses$Check", "asks", "(III)Z"⟩, 7) := ⟨⟨by decide +kernel, by decide +kernel⟩, List.mem_of_getElem? (i := 75) (by decide +kernel), List.mem_of_getElem? (i := 379) (by decide +kernel), List.mem_of_getElem? (i := 380) (by decide +kernel)⟩
theorem lw_p8 : lw_okq (⟨"VolumeInFivePasses$Check", "faultOfPointer", "(III)I"⟩, 7) := ⟨⟨by decide +kernel, by decide +kernel⟩, List.mem_of_getElem? (i := 75) (by decide +kernel), List.mem_of_getElem? (i := 387) (by decide +kernel), List.mem_of_getElem? (i := 388) (by decide +kernel)⟩
theorem lw_p9 : lw_okq (⟨"VolumeInFivePasses$Check", "cloneFor", "(II)I"⟩, 7) := ⟨⟨by decide +kernel, by decide +kernel⟩, List.mem_of_getElem? (i := 75) (by decide +kernel), List.mem_of_getElem? (i := 393) (by decide +kernel), List.mem_of_getElem? (i := 394) (by decide +kernel)⟩
theorem lw_p10 : lw_okq (⟨"VolumeInFivePasses$Check", "mendEntries", "()V"⟩, 7) := ⟨⟨by decide +kernel, by decide +kernel⟩, List.mem_of_getElem? (i := 75) (by decide +kernel), List.mem_of_getElem? (i := 416) (by decide +kernel), List.mem_of_getElem? (i := 417) (by decide +kernel)⟩
theorem lw_p11 : lw_okq (⟨"VolumeInFivePasses$Check", "faultOfEntry", "(IIII)I"⟩, 7) := ⟨⟨by decide +kernel, by decide +kernel⟩, List.mem_of_getElem? (i := 75) (by decide +kernel), List.mem_of_getElem? (i := 420) (by decide +kernel), List.mem_of_getElem? (i := 421) (by decide +kernel)⟩
theorem lw_p12 : lw_okq (⟨"VolumeInFivePasses$Check", "mendConnections", "()V"⟩, 7) := ⟨⟨by decide +kernel, by decide +kernel⟩, List.mem_of_getElem? (i := 75) (by decide +kernel), List.mem_of_getElem? (i := 426) (by decide +kernel), List.mem_of_getElem? (i := 427) (by decide +kernel)⟩
theorem lw_p13 : lw_okq (⟨"VolumeInFivePasses$Check", "cutOff", "(I)V"⟩, 7) := ⟨⟨by decide +kernel, by decide +kernel⟩, List.mem_of_getElem? (i := 75) (by decide +kernel), List.mem_of_getElem? (i := 449) (by decide +kernel), List.mem_of_getElem? (i := 450) (by decide +kernel)⟩
theorem lw_p14 : lw_okq (⟨"VolumeInFivePasses$Check", "attach", "(I)I"⟩, 7) := ⟨⟨by decide +kernel, by decide +kernel⟩, List.mem_of_getElem? (i := 75) (by decide +kernel), List.mem_of_getElem? (i := 457) (by decide +kernel), List.mem_of_getElem? (i := 458) (by decide +kernel)⟩
theorem lw_p15 : lw_okq (⟨"VolumeInFivePasses$Check", "mendParents", "()V"⟩, 7) := ⟨⟨by decide +kernel, by decide +kernel⟩, List.mem_of_getElem? (i := 75) (by decide +kernel), List.mem_of_getElem? (i := 472) (by decide +kernel), List.mem_of_getElem? (i := 473) (by decide +kernel)⟩
def lw_privs_1 : List (MethodName × Nat) := [(⟨"VolumeInFivePasses", "refusal", "(I)I"⟩, 13), (⟨"VolumeInFivePasses$Letters", "placeOfWrongLetter", "()I"⟩, 2), (⟨"VolumeInFivePasses$Letters", "wrongLetterOf", "(I)I"⟩, 2), (⟨"VolumeInFivePasses$Letters", "placeOfWrongStatement", "()I"⟩, 2), (⟨"VolumeInFivePasses$Letters", "stands", "(I)Z"⟩, 2), (⟨"VolumeInFivePasses", "carryOut", "(I)V"⟩, 13), (⟨"VolumeInFivePasses$Check", "mendPointers", "()V"⟩, 7), (⟨"VolumeInFivePasses$Check", "asks", "(III)Z"⟩, 7), (⟨"VolumeInFivePasses$Check", "faultOfPointer", "(III)I"⟩, 7), (⟨"VolumeInFivePasses$Check", "cloneFor", "(II)I"⟩, 7), (⟨"VolumeInFivePasses$Check", "mendEntries", "()V"⟩, 7), (⟨"VolumeInFivePasses$Check", "faultOfEntry", "(IIII)I"⟩, 7), (⟨"VolumeInFivePasses$Check", "mendConnections", "()V"⟩, 7), (⟨"VolumeInFivePasses$Check", "cutOff", "(I)V"⟩, 7), (⟨"VolumeInFivePasses$Check", "attach", "(I)I"⟩, 7), (⟨"VolumeInFivePasses$Check", "mendParents", "()V"⟩, 7)]
theorem lw_r1 : ∀ q ∈ lw_privs_1, lw_okq q := List.forall_mem_cons.mpr ⟨lw_p0, List.forall_mem_cons.mpr ⟨lw_p1, List.forall_mem_cons.mpr ⟨lw_p2, List.forall_mem_cons.mpr ⟨lw_p3, List.forall_mem_cons.mpr ⟨lw_p4, List.forall_mem_cons.mpr ⟨lw_p5, List.forall_mem_cons.mpr ⟨lw_p6, List.forall_mem_cons.mpr ⟨lw_p7, List.forall_mem_cons.mpr ⟨lw_p8, List.forall_mem_cons.mpr ⟨lw_p9, List.forall_mem_cons.mpr ⟨lw_p10, List.forall_mem_cons.mpr ⟨lw_p11, List.forall_mem_cons.mpr ⟨lw_p12, List.forall_mem_cons.mpr ⟨lw_p13, List.forall_mem_cons.mpr ⟨lw_p14, List.forall_mem_cons.mpr ⟨lw_p15, fun _ h => absurd h List.not_mem_nil⟩⟩⟩⟩⟩⟩⟩⟩⟩⟩⟩⟩⟩⟩⟩⟩
theorem lw_p16 : lw_okq (⟨"VolumeInFivePasses$Check", "mendCounts", "()V"⟩, 7) := ⟨⟨by decide +kernel, by decide +kernel⟩, List.mem_of_getElem? (i := 75) (by decide +kernel), List.mem_of_getElem? (i := 476) (by decide +kernel), List.mem_of_getElem? (i := 477) (by decide +kernel)⟩
theorem lw_p17 : lw_okq (⟨"VolumeInFivePasses$Check", "mendMaps", "()V"⟩, 7) := ⟨⟨by decide +kernel, by decide +kernel⟩, List.mem_of_getElem? (i := 75) (by decide +kernel), List.mem_of_getElem? (i := 485) (by decide +kernel), List.mem_of_getElem? (i := 486) (by decide +kernel)⟩
theorem lw_p18 : lw_okq (⟨"VolumeInFivePasses", "leftWithout", "(I)I"⟩, 13) := ⟨⟨by decide +kernel, by decide +kernel⟩, List.mem_of_getElem? (i := 16) (by decide +kernel), List.mem_of_getElem? (i := 664) (by decide +kernel), List.mem_of_getElem? (i := 665) (by decide +kernel)⟩
theorem lw_p19 : lw_okq (⟨"VolumeInFivePasses", "rowIsAsked", "()Z"⟩, 13) := ⟨⟨by decide +kernel, by decide +kernel⟩, List.mem_of_getElem? (i := 16) (by decide +kernel), List.mem_of_getElem? (i := 685) (by decide +kernel), List.mem_of_getElem? (i := 686) (by decide +kernel)⟩
theorem lw_p20 : lw_okq (⟨"VolumeInFivePasses", "changeByLot", "()V"⟩, 13) := ⟨⟨by decide +kernel, by decide +kernel⟩, List.mem_of_getElem? (i := 16) (by decide +kernel), List.mem_of_getElem? (i := 705) (by decide +kernel), List.mem_of_getElem? (i := 706) (by decide +kernel)⟩
theorem lw_p21 : lw_okq (⟨"VolumeInFivePasses", "draw", "(I)I"⟩, 13) := ⟨⟨by decide +kernel, by decide +kernel⟩, List.mem_of_getElem? (i := 16) (by decide +kernel), List.mem_of_getElem? (i := 709) (by decide +kernel), List.mem_of_getElem? (i := 710) (by decide +kernel)⟩
theorem lw_p22 : lw_okq (⟨"VolumeInFivePassesModel", "refused", "(I)I"⟩, 18) := ⟨⟨by decide +kernel, by decide +kernel⟩, List.mem_of_getElem? (i := 729) (by decide +kernel), List.mem_of_getElem? (i := 793) (by decide +kernel), List.mem_of_getElem? (i := 794) (by decide +kernel)⟩
theorem lw_p23 : lw_okq (⟨"VolumeInFivePassesModel", "goesThrough", "(Z)I"⟩, 18) := ⟨⟨by decide +kernel, by decide +kernel⟩, List.mem_of_getElem? (i := 729) (by decide +kernel), List.mem_of_getElem? (i := 801) (by decide +kernel), List.mem_of_getElem? (i := 802) (by decide +kernel)⟩
theorem lw_p24 : lw_okq (⟨"VolumeInFivePassesModel", "states", "(Z)V"⟩, 18) := ⟨⟨by decide +kernel, by decide +kernel⟩, List.mem_of_getElem? (i := 729) (by decide +kernel), List.mem_of_getElem? (i := 805) (by decide +kernel), List.mem_of_getElem? (i := 806) (by decide +kernel)⟩
theorem lw_p25 : lw_okq (⟨"VolumeInFivePassesModel", "here", "()I"⟩, 18) := ⟨⟨by decide +kernel, by decide +kernel⟩, List.mem_of_getElem? (i := 729) (by decide +kernel), List.mem_of_getElem? (i := 809) (by decide +kernel), List.mem_of_getElem? (i := 810) (by decide +kernel)⟩
theorem lw_p26 : lw_okq (⟨"VolumeInFivePassesModel", "digit", "()I"⟩, 18) := ⟨⟨by decide +kernel, by decide +kernel⟩, List.mem_of_getElem? (i := 729) (by decide +kernel), List.mem_of_getElem? (i := 813) (by decide +kernel), List.mem_of_getElem? (i := 814) (by decide +kernel)⟩
theorem lw_p27 : lw_okq (⟨"VolumeInFivePassesModel", "one", "(II)I"⟩, 18) := ⟨⟨by decide +kernel, by decide +kernel⟩, List.mem_of_getElem? (i := 729) (by decide +kernel), List.mem_of_getElem? (i := 817) (by decide +kernel), List.mem_of_getElem? (i := 818) (by decide +kernel)⟩
theorem lw_p28 : lw_okq (⟨"VolumeInFivePassesModel", "kindLetter", "()I"⟩, 18) := ⟨⟨by decide +kernel, by decide +kernel⟩, List.mem_of_getElem? (i := 729) (by decide +kernel), List.mem_of_getElem? (i := 824) (by decide +kernel), List.mem_of_getElem? (i := 825) (by decide +kernel)⟩
theorem lw_p29 : lw_okq (⟨"VolumeInFivePassesModel", "twoDigits", "()I"⟩, 18) := ⟨⟨by decide +kernel, by decide +kernel⟩, List.mem_of_getElem? (i := 729) (by decide +kernel), List.mem_of_getElem? (i := 830) (by decide +kernel), List.mem_of_getElem? (i := 831) (by decide +kernel)⟩
theorem lw_p30 : lw_okq (⟨"VolumeInFivePassesModel", "must", "(ZI)V"⟩, 18) := ⟨⟨by decide +kernel, by decide +kernel⟩, List.mem_of_getElem? (i := 729) (by decide +kernel), List.mem_of_getElem? (i := 834) (by decide +kernel), List.mem_of_getElem? (i := 835) (by decide +kernel)⟩
theorem lw_p31 : lw_okq (⟨"VolumeInFivePassesModel", "checks", "()I"⟩, 18) := ⟨⟨by decide +kernel, by decide +kernel⟩, List.mem_of_getElem? (i := 729) (by decide +kernel), List.mem_of_getElem? (i := 838) (by decide +kernel), List.mem_of_getElem? (i := 839) (by decide +kernel)⟩
def lw_privs_2 : List (MethodName × Nat) := [(⟨"VolumeInFivePasses$Check", "mendCounts", "()V"⟩, 7), (⟨"VolumeInFivePasses$Check", "mendMaps", "()V"⟩, 7), (⟨"VolumeInFivePasses", "leftWithout", "(I)I"⟩, 13), (⟨"VolumeInFivePasses", "rowIsAsked", "()Z"⟩, 13), (⟨"VolumeInFivePasses", "changeByLot", "()V"⟩, 13), (⟨"VolumeInFivePasses", "draw", "(I)I"⟩, 13), (⟨"VolumeInFivePassesModel", "refused", "(I)I"⟩, 18), (⟨"VolumeInFivePassesModel", "goesThrough", "(Z)I"⟩, 18), (⟨"VolumeInFivePassesModel", "states", "(Z)V"⟩, 18), (⟨"VolumeInFivePassesModel", "here", "()I"⟩, 18), (⟨"VolumeInFivePassesModel", "digit", "()I"⟩, 18), (⟨"VolumeInFivePassesModel", "one", "(II)I"⟩, 18), (⟨"VolumeInFivePassesModel", "kindLetter", "()I"⟩, 18), (⟨"VolumeInFivePassesModel", "twoDigits", "()I"⟩, 18), (⟨"VolumeInFivePassesModel", "must", "(ZI)V"⟩, 18), (⟨"VolumeInFivePassesModel", "checks", "()I"⟩, 18)]
theorem lw_r2 : ∀ q ∈ lw_privs_2, lw_okq q := List.forall_mem_cons.mpr ⟨lw_p16, List.forall_mem_cons.mpr ⟨lw_p17, List.forall_mem_cons.mpr ⟨lw_p18, List.forall_mem_cons.mpr ⟨lw_p19, List.forall_mem_cons.mpr ⟨lw_p20, List.forall_mem_cons.mpr ⟨lw_p21, List.forall_mem_cons.mpr ⟨lw_p22, List.forall_mem_cons.mpr ⟨lw_p23, List.forall_mem_cons.mpr ⟨lw_p24, List.forall_mem_cons.mpr ⟨lw_p25, List.forall_mem_cons.mpr ⟨lw_p26, List.forall_mem_cons.mpr ⟨lw_p27, List.forall_mem_cons.mpr ⟨lw_p28, List.forall_mem_cons.mpr ⟨lw_p29, List.forall_mem_cons.mpr ⟨lw_p30, List.forall_mem_cons.mpr ⟨lw_p31, fun _ h => absurd h List.not_mem_nil⟩⟩⟩⟩⟩⟩⟩⟩⟩⟩⟩⟩⟩⟩⟩⟩
theorem lw_p32 : lw_okq (⟨"VolumeInFivePassesModel", "isDirectory", "(I)Z"⟩, 18) := ⟨⟨by decide +kernel, by decide +kernel⟩, List.mem_of_getElem? (i := 729) (by decide +kernel), List.mem_of_getElem? (i := 842) (by decide +kernel), List.mem_of_getElem? (i := 843) (by decide +kernel)⟩
theorem lw_p33 : lw_okq (⟨"VolumeInFivePassesModel", "asks", "(III)V"⟩, 18) := ⟨⟨by decide +kernel, by decide +kernel⟩, List.mem_of_getElem? (i := 729) (by decide +kernel), List.mem_of_getElem? (i := 846) (by decide +kernel), List.mem_of_getElem? (i := 847) (by decide +kernel)⟩
theorem lw_p34 : lw_okq (⟨"VolumeInFivePassesModel", "wipes", "(II)V"⟩, 18) := ⟨⟨by decide +kernel, by decide +kernel⟩, List.mem_of_getElem? (i := 729) (by decide +kernel), List.mem_of_getElem? (i := 850) (by decide +kernel), List.mem_of_getElem? (i := 851) (by decide +kernel)⟩
theorem lw_p35 : lw_okq (⟨"VolumeInFivePassesModel", "looksAtPointer", "(II)V"⟩, 18) := ⟨⟨by decide +kernel, by decide +kernel⟩, List.mem_of_getElem? (i := 729) (by decide +kernel), List.mem_of_getElem? (i := 854) (by decide +kernel), List.mem_of_getElem? (i := 855) (by decide +kernel)⟩
theorem lw_p36 : lw_okq (⟨"VolumeInFivePassesModel", "isRefused", "(I)Z"⟩, 18) := ⟨⟨by decide +kernel, by decide +kernel⟩, List.mem_of_getElem? (i := 729) (by decide +kernel), List.mem_of_getElem? (i := 861) (by decide +kernel), List.mem_of_getElem? (i := 862) (by decide +kernel)⟩
theorem lw_p37 : lw_okq (⟨"VolumeInFivePassesModel", "isSharedAhead", "(I)Z"⟩, 18) := ⟨⟨by decide +kernel, by decide +kernel⟩, List.mem_of_getElem? (i := 729) (by decide +kernel), List.mem_of_getElem? (i := 865) (by decide +kernel), List.mem_of_getElem? (i := 866) (by decide +kernel)⟩
theorem lw_p38 : lw_okq (⟨"VolumeInFivePassesModel", "freeBlock", "()I"⟩, 18) := ⟨⟨by decide +kernel, by decide +kernel⟩, List.mem_of_getElem? (i := 729) (by decide +kernel), List.mem_of_getElem? (i := 869) (by decide +kernel), List.mem_of_getElem? (i := 870) (by decide +kernel)⟩
theorem lw_p39 : lw_okq (⟨"VolumeInFivePassesModel", "pointersTo", "(I)I"⟩, 18) := ⟨⟨by decide +kernel, by decide +kernel⟩, List.mem_of_getElem? (i := 729) (by decide +kernel), List.mem_of_getElem? (i := 873) (by decide +kernel), List.mem_of_getElem? (i := 874) (by decide +kernel)⟩
theorem lw_p40 : lw_okq (⟨"VolumeInFivePassesModel", "looksAtSlot", "(II)V"⟩, 18) := ⟨⟨by decide +kernel, by decide +kernel⟩, List.mem_of_getElem? (i := 729) (by decide +kernel), List.mem_of_getElem? (i := 877) (by decide +kernel), List.mem_of_getElem? (i := 878) (by decide +kernel)⟩
theorem lw_p41 : lw_okq (⟨"VolumeInFivePassesModel", "isNamedAhead", "(II)Z"⟩, 18) := ⟨⟨by decide +kernel, by decide +kernel⟩, List.mem_of_getElem? (i := 729) (by decide +kernel), List.mem_of_getElem? (i := 884) (by decide +kernel), List.mem_of_getElem? (i := 885) (by decide +kernel)⟩
theorem lw_p42 : lw_okq (⟨"VolumeInFivePassesModel", "isListedAhead", "(II)Z"⟩, 18) := ⟨⟨by decide +kernel, by decide +kernel⟩, List.mem_of_getElem? (i := 729) (by decide +kernel), List.mem_of_getElem? (i := 888) (by decide +kernel), List.mem_of_getElem? (i := 889) (by decide +kernel)⟩
theorem lw_p43 : lw_okq (⟨"VolumeInFivePassesModel", "isEntryTo", "(II)Z"⟩, 18) := ⟨⟨by decide +kernel, by decide +kernel⟩, List.mem_of_getElem? (i := 729) (by decide +kernel), List.mem_of_getElem? (i := 892) (by decide +kernel), List.mem_of_getElem? (i := 893) (by decide +kernel)⟩
theorem lw_p44 : lw_okq (⟨"VolumeInFivePassesModel", "connects", "()V"⟩, 18) := ⟨⟨by decide +kernel, by decide +kernel⟩, List.mem_of_getElem? (i := 729) (by decide +kernel), List.mem_of_getElem? (i := 896) (by decide +kernel), List.mem_of_getElem? (i := 897) (by decide +kernel)⟩
theorem lw_p45 : lw_okq (⟨"VolumeInFivePassesModel", "lone", "()I"⟩, 18) := ⟨⟨by decide +kernel, by decide +kernel⟩, List.mem_of_getElem? (i := 729) (by decide +kernel), List.mem_of_getElem? (i := 900) (by decide +kernel), List.mem_of_getElem? (i := 901) (by decide +kernel)⟩
theorem lw_p46 : lw_okq (⟨"VolumeInFivePassesModel", "reached", "(IZ)I"⟩, 18) := ⟨⟨by decide +kernel, by decide +kernel⟩, List.mem_of_getElem? (i := 729) (by decide +kernel), List.mem_of_getElem? (i := 904) (by decide +kernel), List.mem_of_getElem? (i := 905) (by decide +kernel)⟩
theorem lw_p47 : lw_okq (⟨"VolumeInFivePassesModel", "entriesTo", "(I)I"⟩, 18) := ⟨⟨by decide +kernel, by decide +kernel⟩, List.mem_of_getElem? (i := 729) (by decide +kernel), List.mem_of_getElem? (i := 908) (by decide +kernel), List.mem_of_getElem? (i := 909) (by decide +kernel)⟩
def lw_privs_3 : List (MethodName × Nat) := [(⟨"VolumeInFivePassesModel", "isDirectory", "(I)Z"⟩, 18), (⟨"VolumeInFivePassesModel", "asks", "(III)V"⟩, 18), (⟨"VolumeInFivePassesModel", "wipes", "(II)V"⟩, 18), (⟨"VolumeInFivePassesModel", "looksAtPointer", "(II)V"⟩, 18), (⟨"VolumeInFivePassesModel", "isRefused", "(I)Z"⟩, 18), (⟨"VolumeInFivePassesModel", "isSharedAhead", "(I)Z"⟩, 18), (⟨"VolumeInFivePassesModel", "freeBlock", "()I"⟩, 18), (⟨"VolumeInFivePassesModel", "pointersTo", "(I)I"⟩, 18), (⟨"VolumeInFivePassesModel", "looksAtSlot", "(II)V"⟩, 18), (⟨"VolumeInFivePassesModel", "isNamedAhead", "(II)Z"⟩, 18), (⟨"VolumeInFivePassesModel", "isListedAhead", "(II)Z"⟩, 18), (⟨"VolumeInFivePassesModel", "isEntryTo", "(II)Z"⟩, 18), (⟨"VolumeInFivePassesModel", "connects", "()V"⟩, 18), (⟨"VolumeInFivePassesModel", "lone", "()I"⟩, 18), (⟨"VolumeInFivePassesModel", "reached", "(IZ)I"⟩, 18), (⟨"VolumeInFivePassesModel", "entriesTo", "(I)I"⟩, 18)]
theorem lw_r3 : ∀ q ∈ lw_privs_3, lw_okq q := List.forall_mem_cons.mpr ⟨lw_p32, List.forall_mem_cons.mpr ⟨lw_p33, List.forall_mem_cons.mpr ⟨lw_p34, List.forall_mem_cons.mpr ⟨lw_p35, List.forall_mem_cons.mpr ⟨lw_p36, List.forall_mem_cons.mpr ⟨lw_p37, List.forall_mem_cons.mpr ⟨lw_p38, List.forall_mem_cons.mpr ⟨lw_p39, List.forall_mem_cons.mpr ⟨lw_p40, List.forall_mem_cons.mpr ⟨lw_p41, List.forall_mem_cons.mpr ⟨lw_p42, List.forall_mem_cons.mpr ⟨lw_p43, List.forall_mem_cons.mpr ⟨lw_p44, List.forall_mem_cons.mpr ⟨lw_p45, List.forall_mem_cons.mpr ⟨lw_p46, List.forall_mem_cons.mpr ⟨lw_p47, fun _ h => absurd h List.not_mem_nil⟩⟩⟩⟩⟩⟩⟩⟩⟩⟩⟩⟩⟩⟩⟩⟩
theorem lw_p48 : lw_okq (⟨"VolumeInFivePassesModel", "entryTo", "(I)I"⟩, 18) := ⟨⟨by decide +kernel, by decide +kernel⟩, List.mem_of_getElem? (i := 729) (by decide +kernel), List.mem_of_getElem? (i := 912) (by decide +kernel), List.mem_of_getElem? (i := 913) (by decide +kernel)⟩
theorem lw_p49 : lw_okq (⟨"VolumeInFivePassesModel", "attaches", "(I)I"⟩, 18) := ⟨⟨by decide +kernel, by decide +kernel⟩, List.mem_of_getElem? (i := 729) (by decide +kernel), List.mem_of_getElem? (i := 916) (by decide +kernel), List.mem_of_getElem? (i := 917) (by decide +kernel)⟩
theorem lw_p50 : lw_okq (⟨"VolumeInFivePassesModel", "leastName", "()I"⟩, 18) := ⟨⟨by decide +kernel, by decide +kernel⟩, List.mem_of_getElem? (i := 729) (by decide +kernel), List.mem_of_getElem? (i := 920) (by decide +kernel), List.mem_of_getElem? (i := 921) (by decide +kernel)⟩
theorem lw_p51 : lw_okq (⟨"VolumeInFivePassesModel", "becomes", "(II)I"⟩, 18) := ⟨⟨by decide +kernel, by decide +kernel⟩, List.mem_of_getElem? (i := 729) (by decide +kernel), List.mem_of_getElem? (i := 924) (by decide +kernel), List.mem_of_getElem? (i := 925) (by decide +kernel)⟩
theorem lw_p52 : lw_okq (⟨"VolumeInFivePassesModel", "countsLinks", "()V"⟩, 18) := ⟨⟨by decide +kernel, by decide +kernel⟩, List.mem_of_getElem? (i := 729) (by decide +kernel), List.mem_of_getElem? (i := 928) (by decide +kernel), List.mem_of_getElem? (i := 929) (by decide +kernel)⟩
theorem lw_p53 : lw_okq (⟨"VolumeInFivePassesModel", "maps", "()V"⟩, 18) := ⟨⟨by decide +kernel, by decide +kernel⟩, List.mem_of_getElem? (i := 729) (by decide +kernel), List.mem_of_getElem? (i := 932) (by decide +kernel), List.mem_of_getElem? (i := 933) (by decide +kernel)⟩
theorem lw_p54 : lw_okq (⟨"VolumeInFivePassesModel", "pointerOf", "(II)I"⟩, 18) := ⟨⟨by decide +kernel, by decide +kernel⟩, List.mem_of_getElem? (i := 729) (by decide +kernel), List.mem_of_getElem? (i := 947) (by decide +kernel), List.mem_of_getElem? (i := 948) (by decide +kernel)⟩
theorem lw_p55 : lw_okq (⟨"VolumeInFivePassesModel", "slotOf", "(II)I"⟩, 18) := ⟨⟨by decide +kernel, by decide +kernel⟩, List.mem_of_getElem? (i := 729) (by decide +kernel), List.mem_of_getElem? (i := 955) (by decide +kernel), List.mem_of_getElem? (i := 956) (by decide +kernel)⟩
theorem lw_p56 : lw_okq (⟨"VolumeInFivePassesModel", "thinks", "()V"⟩, 18) := ⟨⟨by decide +kernel, by decide +kernel⟩, List.mem_of_getElem? (i := 729) (by decide +kernel), List.mem_of_getElem? (i := 1006) (by decide +kernel), List.mem_of_getElem? (i := 1007) (by decide +kernel)⟩
theorem lw_p57 : lw_okq (⟨"VolumeInFivePassesModel", "keeps", "()V"⟩, 18) := ⟨⟨by decide +kernel, by decide +kernel⟩, List.mem_of_getElem? (i := 729) (by decide +kernel), List.mem_of_getElem? (i := 1010) (by decide +kernel), List.mem_of_getElem? (i := 1011) (by decide +kernel)⟩
theorem lw_p58 : lw_okq (⟨"VolumeInFivePassesModel", "goesBack", "()V"⟩, 18) := ⟨⟨by decide +kernel, by decide +kernel⟩, List.mem_of_getElem? (i := 729) (by decide +kernel), List.mem_of_getElem? (i := 1014) (by decide +kernel), List.mem_of_getElem? (i := 1015) (by decide +kernel)⟩
theorem lw_p59 : lw_okq (⟨"VolumeInFivePassesModel", "manyOf", "(I)I"⟩, 18) := ⟨⟨by decide +kernel, by decide +kernel⟩, List.mem_of_getElem? (i := 729) (by decide +kernel), List.mem_of_getElem? (i := 1018) (by decide +kernel), List.mem_of_getElem? (i := 1019) (by decide +kernel)⟩
theorem lw_p60 : lw_okq (⟨"VolumeInFivePassesModel", "thenOf", "(II)I"⟩, 18) := ⟨⟨by decide +kernel, by decide +kernel⟩, List.mem_of_getElem? (i := 729) (by decide +kernel), List.mem_of_getElem? (i := 1038) (by decide +kernel), List.mem_of_getElem? (i := 1039) (by decide +kernel)⟩
theorem lw_p61 : lw_okq (⟨"VolumeInFivePassesModel", "depthOf", "(I)I"⟩, 18) := ⟨⟨by decide +kernel, by decide +kernel⟩, List.mem_of_getElem? (i := 729) (by decide +kernel), List.mem_of_getElem? (i := 1042) (by decide +kernel), List.mem_of_getElem? (i := 1043) (by decide +kernel)⟩
theorem lw_p62 : lw_okq (⟨"VolumeInFivePassesModel", "blocksBelow", "(I)I"⟩, 18) := ⟨⟨by decide +kernel, by decide +kernel⟩, List.mem_of_getElem? (i := 729) (by decide +kernel), List.mem_of_getElem? (i := 1049) (by decide +kernel), List.mem_of_getElem? (i := 1050) (by decide +kernel)⟩
theorem lw_p63 : lw_okq (⟨"VolumeInFivePassesModel", "blocksOf", "(I)I"⟩, 18) := ⟨⟨by decide +kernel, by decide +kernel⟩, List.mem_of_getElem? (i := 729) (by decide +kernel), List.mem_of_getElem? (i := 1053) (by decide +kernel), List.mem_of_getElem? (i := 1054) (by decide +kernel)⟩
def lw_privs_4 : List (MethodName × Nat) := [(⟨"VolumeInFivePassesModel", "entryTo", "(I)I"⟩, 18), (⟨"VolumeInFivePassesModel", "attaches", "(I)I"⟩, 18), (⟨"VolumeInFivePassesModel", "leastName", "()I"⟩, 18), (⟨"VolumeInFivePassesModel", "becomes", "(II)I"⟩, 18), (⟨"VolumeInFivePassesModel", "countsLinks", "()V"⟩, 18), (⟨"VolumeInFivePassesModel", "maps", "()V"⟩, 18), (⟨"VolumeInFivePassesModel", "pointerOf", "(II)I"⟩, 18), (⟨"VolumeInFivePassesModel", "slotOf", "(II)I"⟩, 18), (⟨"VolumeInFivePassesModel", "thinks", "()V"⟩, 18), (⟨"VolumeInFivePassesModel", "keeps", "()V"⟩, 18), (⟨"VolumeInFivePassesModel", "goesBack", "()V"⟩, 18), (⟨"VolumeInFivePassesModel", "manyOf", "(I)I"⟩, 18), (⟨"VolumeInFivePassesModel", "thenOf", "(II)I"⟩, 18), (⟨"VolumeInFivePassesModel", "depthOf", "(I)I"⟩, 18), (⟨"VolumeInFivePassesModel", "blocksBelow", "(I)I"⟩, 18), (⟨"VolumeInFivePassesModel", "blocksOf", "(I)I"⟩, 18)]
theorem lw_r4 : ∀ q ∈ lw_privs_4, lw_okq q := List.forall_mem_cons.mpr ⟨lw_p48, List.forall_mem_cons.mpr ⟨lw_p49, List.forall_mem_cons.mpr ⟨lw_p50, List.forall_mem_cons.mpr ⟨lw_p51, List.forall_mem_cons.mpr ⟨lw_p52, List.forall_mem_cons.mpr ⟨lw_p53, List.forall_mem_cons.mpr ⟨lw_p54, List.forall_mem_cons.mpr ⟨lw_p55, List.forall_mem_cons.mpr ⟨lw_p56, List.forall_mem_cons.mpr ⟨lw_p57, List.forall_mem_cons.mpr ⟨lw_p58, List.forall_mem_cons.mpr ⟨lw_p59, List.forall_mem_cons.mpr ⟨lw_p60, List.forall_mem_cons.mpr ⟨lw_p61, List.forall_mem_cons.mpr ⟨lw_p62, List.forall_mem_cons.mpr ⟨lw_p63, fun _ h => absurd h List.not_mem_nil⟩⟩⟩⟩⟩⟩⟩⟩⟩⟩⟩⟩⟩⟩⟩⟩
theorem lw_p64 : lw_okq (⟨"VolumeInFivePassesModel", "entries", "()I"⟩, 18) := ⟨⟨by decide +kernel, by decide +kernel⟩, List.mem_of_getElem? (i := 729) (by decide +kernel), List.mem_of_getElem? (i := 1077) (by decide +kernel), List.mem_of_getElem? (i := 1078) (by decide +kernel)⟩
theorem lw_p65 : lw_okq (⟨"VolumeInFivePassesModel", "refusedLong", "(I)J"⟩, 18) := ⟨⟨by decide +kernel, by decide +kernel⟩, List.mem_of_getElem? (i := 729) (by decide +kernel), List.mem_of_getElem? (i := 1097) (by decide +kernel), List.mem_of_getElem? (i := 1098) (by decide +kernel)⟩
theorem lw_p66 : lw_okq (⟨"VolumeInFivePassesModel", "inodes", "()I"⟩, 18) := ⟨⟨by decide +kernel, by decide +kernel⟩, List.mem_of_getElem? (i := 729) (by decide +kernel), List.mem_of_getElem? (i := 1102) (by decide +kernel), List.mem_of_getElem? (i := 1103) (by decide +kernel)⟩
theorem lw_p67 : lw_okq (⟨"VolumeInFivePassesModel", "isSo", "()Z"⟩, 18) := ⟨⟨by decide +kernel, by decide +kernel⟩, List.mem_of_getElem? (i := 729) (by decide +kernel), List.mem_of_getElem? (i := 1117) (by decide +kernel), List.mem_of_getElem? (i := 1118) (by decide +kernel)⟩
theorem lw_p68 : lw_okq (⟨"VolumeInFivePassesModel", "damages", "()V"⟩, 18) := ⟨⟨by decide +kernel, by decide +kernel⟩, List.mem_of_getElem? (i := 729) (by decide +kernel), List.mem_of_getElem? (i := 1137) (by decide +kernel), List.mem_of_getElem? (i := 1138) (by decide +kernel)⟩
theorem lw_p69 : lw_okq (⟨"VolumeInFivePassesModel", "drawn", "(I)I"⟩, 18) := ⟨⟨by decide +kernel, by decide +kernel⟩, List.mem_of_getElem? (i := 729) (by decide +kernel), List.mem_of_getElem? (i := 1141) (by decide +kernel), List.mem_of_getElem? (i := 1142) (by decide +kernel)⟩
theorem lw_p70 : lw_okq (⟨"VolumeInFivePassesModel", "kinds", "(Z)I"⟩, 18) := ⟨⟨by decide +kernel, by decide +kernel⟩, List.mem_of_getElem? (i := 729) (by decide +kernel), List.mem_of_getElem? (i := 1160) (by decide +kernel), List.mem_of_getElem? (i := 1161) (by decide +kernel)⟩
def lw_privs_5 : List (MethodName × Nat) := [(⟨"VolumeInFivePassesModel", "entries", "()I"⟩, 18), (⟨"VolumeInFivePassesModel", "refusedLong", "(I)J"⟩, 18), (⟨"VolumeInFivePassesModel", "inodes", "()I"⟩, 18), (⟨"VolumeInFivePassesModel", "isSo", "()Z"⟩, 18), (⟨"VolumeInFivePassesModel", "damages", "()V"⟩, 18), (⟨"VolumeInFivePassesModel", "drawn", "(I)I"⟩, 18), (⟨"VolumeInFivePassesModel", "kinds", "(Z)I"⟩, 18)]
theorem lw_r5 : ∀ q ∈ lw_privs_5, lw_okq q := List.forall_mem_cons.mpr ⟨lw_p64, List.forall_mem_cons.mpr ⟨lw_p65, List.forall_mem_cons.mpr ⟨lw_p66, List.forall_mem_cons.mpr ⟨lw_p67, List.forall_mem_cons.mpr ⟨lw_p68, List.forall_mem_cons.mpr ⟨lw_p69, List.forall_mem_cons.mpr ⟨lw_p70, fun _ h => absurd h List.not_mem_nil⟩⟩⟩⟩⟩⟩⟩
def lw_privs : List (MethodName × Nat) := lw_privs_1 ++ (lw_privs_2 ++ (lw_privs_3 ++ (lw_privs_4 ++ (lw_privs_5))))
def lw_tbl : List Cond := k2_sels lw_privs ++ tables_1
theorem lw_privs_ok : ∀ q ∈ lw_privs, lw_okq q := by
  show ∀ q ∈ lw_privs_1 ++ (lw_privs_2 ++ (lw_privs_3 ++ (lw_privs_4 ++ (lw_privs_5)))), lw_okq q
  exact List.forall_mem_append.mpr ⟨lw_r1, List.forall_mem_append.mpr ⟨lw_r2, List.forall_mem_append.mpr ⟨lw_r3, List.forall_mem_append.mpr ⟨lw_r4, lw_r5⟩⟩⟩⟩
-- ===== end of PART A; then your names; then what follows =====
end
section
def RX0 : String := "VolumeInFivePasses$Check"
def TX0 : u_T := fun k => match k with
  | 0 => ("VolumeInFivePasses$Check", "volume", "LVolumeInFivePasses$Volume;", true)
  | 1 => ("VolumeInFivePasses$Check", "whys", "[I", true)
  | 2 => ("VolumeInFivePasses$Check", "whos", "[I", true)
  | 3 => ("VolumeInFivePasses$Check", "places", "[I", true)
  | 4 => ("VolumeInFivePasses$Check", "asked", "I", false)
  | 5 => ("VolumeInFivePasses$Check", "entered", "[I", true)
  | _ => ("VolumeInFivePasses$Check", "refusedReasons", "I", false)
def tyX0 : Nat → FieldType := fun k => match k with
  | 0 => .object "VolumeInFivePasses$Volume"
  | 1 => .array .int
  | 2 => .array .int
  | 3 => .array .int
  | 4 => .int
  | 5 => .array .int
  | _ => .int
theorem nmX0 : ∀ a, a < 7 → ∀ b, b < 7 → a ≠ b → (TX0 a).2.1 ≠ (TX0 b).2.1 := by decide +kernel
theorem tyX0_ok : ∀ k, k < 7 → parseFieldDescriptor (TX0 k).2.2.1 = some (tyX0 k) := by decide +kernel
abbrev cX0_init : ByteArray := prog_2_method_1_code
def yX0_init : MethodName := ⟨RX0, "<init>", "()V"⟩
abbrev cX0_run : ByteArray := prog_2_method_2_code
def yX0_run : MethodName := ⟨RX0, "run", "(LVolumeInFivePasses$Volume;I)V"⟩
abbrev cX0_askedFor : ByteArray := prog_2_method_3_code
def yX0_askedFor : MethodName := ⟨RX0, "askedFor", "(I)I"⟩
abbrev cX0_asks : ByteArray := prog_2_method_4_code
def yX0_asks : MethodName := ⟨RX0, "asks", "(III)Z"⟩
abbrev cX0_mendPointers : ByteArray := prog_2_method_5_code
def yX0_mendPointers : MethodName := ⟨RX0, "mendPointers", "()V"⟩
abbrev cX0_faultOfPointer : ByteArray := prog_2_method_6_code
def yX0_faultOfPointer : MethodName := ⟨RX0, "faultOfPointer", "(III)I"⟩
abbrev cX0_cloneFor : ByteArray := prog_2_method_7_code
def yX0_cloneFor : MethodName := ⟨RX0, "cloneFor", "(II)I"⟩
abbrev cX0_mendEntries : ByteArray := prog_2_method_8_code
def yX0_mendEntries : MethodName := ⟨RX0, "mendEntries", "()V"⟩
abbrev cX0_faultOfEntry : ByteArray := prog_2_method_9_code
def yX0_faultOfEntry : MethodName := ⟨RX0, "faultOfEntry", "(IIII)I"⟩
abbrev cX0_mendConnections : ByteArray := prog_2_method_10_code
def yX0_mendConnections : MethodName := ⟨RX0, "mendConnections", "()V"⟩
abbrev cX0_cutOff : ByteArray := prog_2_method_11_code
def yX0_cutOff : MethodName := ⟨RX0, "cutOff", "(I)V"⟩
abbrev cX0_attach : ByteArray := prog_2_method_12_code
def yX0_attach : MethodName := ⟨RX0, "attach", "(I)I"⟩
abbrev cX0_mendParents : ByteArray := prog_2_method_13_code
def yX0_mendParents : MethodName := ⟨RX0, "mendParents", "()V"⟩
abbrev cX0_mendCounts : ByteArray := prog_2_method_14_code
def yX0_mendCounts : MethodName := ⟨RX0, "mendCounts", "()V"⟩
abbrev cX0_mendMaps : ByteArray := prog_2_method_15_code
def yX0_mendMaps : MethodName := ⟨RX0, "mendMaps", "()V"⟩
def RX1 : String := "VolumeInFivePasses$Letters"
def TX1 : u_T := fun k => match k with
  | 0 => ("VolumeInFivePasses$Letters", "signs", "[I", true)
  | _ => ("VolumeInFivePasses$Letters", "size", "I", false)
def tyX1 : Nat → FieldType := fun k => match k with
  | 0 => .array .int
  | _ => .int
theorem nmX1 : ∀ a, a < 2 → ∀ b, b < 2 → a ≠ b → (TX1 a).2.1 ≠ (TX1 b).2.1 := by decide +kernel
theorem tyX1_ok : ∀ k, k < 2 → parseFieldDescriptor (TX1 k).2.2.1 = some (tyX1 k) := by decide +kernel
abbrev cX1_init : ByteArray := prog_3_method_1_code
def yX1_init : MethodName := ⟨RX1, "<init>", "()V"⟩
abbrev cX1_append : ByteArray := prog_3_method_2_code
def yX1_append : MethodName := ⟨RX1, "append", "(I)I"⟩
abbrev cX1_signAt : ByteArray := prog_3_method_3_code
def yX1_signAt : MethodName := ⟨RX1, "signAt", "(I)I"⟩
abbrev cX1_digitAt : ByteArray := prog_3_method_4_code
def yX1_digitAt : MethodName := ⟨RX1, "digitAt", "(I)I"⟩
abbrev cX1_pairAt : ByteArray := prog_3_method_5_code
def yX1_pairAt : MethodName := ⟨RX1, "pairAt", "(I)I"⟩
abbrev cX1_kindAt : ByteArray := prog_3_method_6_code
def yX1_kindAt : MethodName := ⟨RX1, "kindAt", "(I)I"⟩
abbrev cX1_nameAt : ByteArray := prog_3_method_7_code
def yX1_nameAt : MethodName := ⟨RX1, "nameAt", "(I)I"⟩
abbrev cX1_lengthAt : ByteArray := prog_3_method_8_code
def yX1_lengthAt : MethodName := ⟨RX1, "lengthAt", "(I)I"⟩
abbrev cX1_fault : ByteArray := prog_3_method_9_code
def yX1_fault : MethodName := ⟨RX1, "fault", "()I"⟩
abbrev cX1_placeOfWrongLetter : ByteArray := prog_3_method_10_code
def yX1_placeOfWrongLetter : MethodName := ⟨RX1, "placeOfWrongLetter", "()I"⟩
abbrev cX1_wrongLetterOf : ByteArray := prog_3_method_11_code
def yX1_wrongLetterOf : MethodName := ⟨RX1, "wrongLetterOf", "(I)I"⟩
abbrev cX1_placeOfWrongStatement : ByteArray := prog_3_method_12_code
def yX1_placeOfWrongStatement : MethodName := ⟨RX1, "placeOfWrongStatement", "()I"⟩
abbrev cX1_stands : ByteArray := prog_3_method_13_code
def yX1_stands : MethodName := ⟨RX1, "stands", "(I)Z"⟩
abbrev cX1_shapeOf : ByteArray := prog_3_method_14_code
def yX1_shapeOf : MethodName := ⟨RX1, "shapeOf", "(I)Ljava/lang/String;"⟩
abbrev cX1_fits : ByteArray := prog_3_method_15_code
def yX1_fits : MethodName := ⟨RX1, "fits", "(CI)Z"⟩
def RX2 : String := "VolumeInFivePasses$Volume"
def TX2 : u_T := fun k => match k with
  | 0 => ("VolumeInFivePasses$Volume", "kinds", "[I", true)
  | 1 => ("VolumeInFivePasses$Volume", "linkCounts", "[I", true)
  | 2 => ("VolumeInFivePasses$Volume", "parents", "[I", true)
  | 3 => ("VolumeInFivePasses$Volume", "targets", "[I", true)
  | 4 => ("VolumeInFivePasses$Volume", "entries", "[I", true)
  | 5 => ("VolumeInFivePasses$Volume", "bytes", "[I", true)
  | 6 => ("VolumeInFivePasses$Volume", "blockMap", "I", false)
  | _ => ("VolumeInFivePasses$Volume", "inodeMap", "I", false)
def tyX2 : Nat → FieldType := fun k => match k with
  | 0 => .array .int
  | 1 => .array .int
  | 2 => .array .int
  | 3 => .array .int
  | 4 => .array .int
  | 5 => .array .int
  | 6 => .int
  | _ => .int
theorem nmX2 : ∀ a, a < 8 → ∀ b, b < 8 → a ≠ b → (TX2 a).2.1 ≠ (TX2 b).2.1 := by decide +kernel
theorem tyX2_ok : ∀ k, k < 8 → parseFieldDescriptor (TX2 k).2.2.1 = some (tyX2 k) := by decide +kernel
abbrev cX2_init : ByteArray := prog_4_method_1_code
def yX2_init : MethodName := ⟨RX2, "<init>", "()V"⟩
abbrev cX2_takeFrom : ByteArray := prog_4_method_2_code
def yX2_takeFrom : MethodName := ⟨RX2, "takeFrom", "(LVolumeInFivePasses$Volume;)V"⟩
abbrev cX2_wipe : ByteArray := prog_4_method_3_code
def yX2_wipe : MethodName := ⟨RX2, "wipe", "(I)V"⟩
abbrev cX2_pointAt : ByteArray := prog_4_method_4_code
def yX2_pointAt : MethodName := ⟨RX2, "pointAt", "(III)V"⟩
abbrev cX2_enter : ByteArray := prog_4_method_5_code
def yX2_enter : MethodName := ⟨RX2, "enter", "(IIII)V"⟩
abbrev cX2_isDirectory : ByteArray := prog_4_method_6_code
def yX2_isDirectory : MethodName := ⟨RX2, "isDirectory", "(I)Z"⟩
abbrev cX2_inodesInUse : ByteArray := prog_4_method_7_code
def yX2_inodesInUse : MethodName := ⟨RX2, "inodesInUse", "()I"⟩
abbrev cX2_directories : ByteArray := prog_4_method_8_code
def yX2_directories : MethodName := ⟨RX2, "directories", "()I"⟩
abbrev cX2_pointersTo : ByteArray := prog_4_method_9_code
def yX2_pointersTo : MethodName := ⟨RX2, "pointersTo", "(I)I"⟩
abbrev cX2_blockOf : ByteArray := prog_4_method_10_code
def yX2_blockOf : MethodName := ⟨RX2, "blockOf", "(II)I"⟩
abbrev cX2_blocksOf : ByteArray := prog_4_method_11_code
def yX2_blocksOf : MethodName := ⟨RX2, "blocksOf", "(I)I"⟩
abbrev cX2_blocksPointedAt : ByteArray := prog_4_method_12_code
def yX2_blocksPointedAt : MethodName := ⟨RX2, "blocksPointedAt", "()I"⟩
abbrev cX2_blocksShared : ByteArray := prog_4_method_13_code
def yX2_blocksShared : MethodName := ⟨RX2, "blocksShared", "()I"⟩
abbrev cX2_freeBlock : ByteArray := prog_4_method_14_code
def yX2_freeBlock : MethodName := ⟨RX2, "freeBlock", "()I"⟩
abbrev cX2_entriesIn : ByteArray := prog_4_method_15_code
def yX2_entriesIn : MethodName := ⟨RX2, "entriesIn", "(I)I"⟩
abbrev cX2_entriesInAll : ByteArray := prog_4_method_16_code
def yX2_entriesInAll : MethodName := ⟨RX2, "entriesInAll", "()I"⟩
abbrev cX2_placeOfEntryTo : ByteArray := prog_4_method_17_code
def yX2_placeOfEntryTo : MethodName := ⟨RX2, "placeOfEntryTo", "(I)I"⟩
abbrev cX2_countEntries : ByteArray := prog_4_method_18_code
def yX2_countEntries : MethodName := ⟨RX2, "countEntries", "([I)V"⟩
abbrev cX2_enteredBy : ByteArray := prog_4_method_19_code
def yX2_enteredBy : MethodName := ⟨RX2, "enteredBy", "(I)I"⟩
abbrev cX2_enteredByThese : ByteArray := prog_4_method_20_code
def yX2_enteredByThese : MethodName := ⟨RX2, "enteredByThese", "(I)I"⟩
abbrev cX2_reachedFrom : ByteArray := prog_4_method_21_code
def yX2_reachedFrom : MethodName := ⟨RX2, "reachedFrom", "(I)I"⟩
abbrev cX2_depthOf : ByteArray := prog_4_method_22_code
def yX2_depthOf : MethodName := ⟨RX2, "depthOf", "(I)I"⟩
abbrev cX2_inodesBelow : ByteArray := prog_4_method_23_code
def yX2_inodesBelow : MethodName := ⟨RX2, "inodesBelow", "(I)I"⟩
abbrev cX2_blocksBelow : ByteArray := prog_4_method_24_code
def yX2_blocksBelow : MethodName := ⟨RX2, "blocksBelow", "(I)I"⟩
abbrev cX2_emptySlotOf : ByteArray := prog_4_method_25_code
def yX2_emptySlotOf : MethodName := ⟨RX2, "emptySlotOf", "(I)I"⟩
abbrev cX2_freeNameIn : ByteArray := prog_4_method_26_code
def yX2_freeNameIn : MethodName := ⟨RX2, "freeNameIn", "(I)I"⟩
def RX3 : String := "VolumeInFivePasses"
def TX3 : u_T := fun k => match k with
  | 0 => ("VolumeInFivePasses", "now", "LVolumeInFivePasses$Volume;", true)
  | 1 => ("VolumeInFivePasses", "trial", "LVolumeInFivePasses$Volume;", true)
  | 2 => ("VolumeInFivePasses", "taken", "LVolumeInFivePasses$Volume;", true)
  | 3 => ("VolumeInFivePasses", "isTaken", "Z", false)
  | 4 => ("VolumeInFivePasses", "takenRefused", "I", false)
  | 5 => ("VolumeInFivePasses", "mind", "LVolumeInFivePasses$Check;", true)
  | 6 => ("VolumeInFivePasses", "again", "LVolumeInFivePasses$Check;", true)
  | 7 => ("VolumeInFivePasses", "letters", "LVolumeInFivePasses$Letters;", true)
  | 8 => ("VolumeInFivePasses", "told", "[I", true)
  | 9 => ("VolumeInFivePasses", "toldSize", "I", false)
  | 10 => ("VolumeInFivePasses", "refusals", "[I", true)
  | 11 => ("VolumeInFivePasses", "refused", "I", false)
  | _ => ("VolumeInFivePasses", "seed", "I", false)
def tyX3 : Nat → FieldType := fun k => match k with
  | 0 => .object "VolumeInFivePasses$Volume"
  | 1 => .object "VolumeInFivePasses$Volume"
  | 2 => .object "VolumeInFivePasses$Volume"
  | 3 => .boolean
  | 4 => .int
  | 5 => .object "VolumeInFivePasses$Check"
  | 6 => .object "VolumeInFivePasses$Check"
  | 7 => .object "VolumeInFivePasses$Letters"
  | 8 => .array .int
  | 9 => .int
  | 10 => .array .int
  | 11 => .int
  | _ => .int
theorem nmX3 : ∀ a, a < 13 → ∀ b, b < 13 → a ≠ b → (TX3 a).2.1 ≠ (TX3 b).2.1 := by decide +kernel
theorem tyX3_ok : ∀ k, k < 13 → parseFieldDescriptor (TX3 k).2.2.1 = some (tyX3 k) := by decide +kernel
abbrev cX3_init : ByteArray := prog_1_method_1_code
def yX3_init : MethodName := ⟨RX3, "<init>", "()V"⟩
abbrev cX3_letter : ByteArray := prog_1_method_2_code
def yX3_letter : MethodName := ⟨RX3, "letter", "(I)I"⟩
abbrev cX3_volume : ByteArray := prog_1_method_3_code
def yX3_volume : MethodName := ⟨RX3, "volume", "()I"⟩
abbrev cX3_inode : ByteArray := prog_1_method_4_code
def yX3_inode : MethodName := ⟨RX3, "inode", "(II)I"⟩
abbrev cX3_pointer : ByteArray := prog_1_method_5_code
def yX3_pointer : MethodName := ⟨RX3, "pointer", "(II)I"⟩
abbrev cX3_slot : ByteArray := prog_1_method_6_code
def yX3_slot : MethodName := ⟨RX3, "slot", "(II)I"⟩
abbrev cX3_block : ByteArray := prog_1_method_7_code
def yX3_block : MethodName := ⟨RX3, "block", "(II)I"⟩
abbrev cX3_kind : ByteArray := prog_1_method_8_code
def yX3_kind : MethodName := ⟨RX3, "kind", "(II)I"⟩
abbrev cX3_points : ByteArray := prog_1_method_9_code
def yX3_points : MethodName := ⟨RX3, "points", "(III)I"⟩
abbrev cX3_enters : ByteArray := prog_1_method_10_code
def yX3_enters : MethodName := ⟨RX3, "enters", "(IIII)I"⟩
abbrev cX3_empties : ByteArray := prog_1_method_11_code
def yX3_empties : MethodName := ⟨RX3, "empties", "(II)I"⟩
abbrev cX3_links : ByteArray := prog_1_method_12_code
def yX3_links : MethodName := ⟨RX3, "links", "(III)I"⟩
abbrev cX3_marks : ByteArray := prog_1_method_13_code
def yX3_marks : MethodName := ⟨RX3, "marks", "(II)I"⟩
abbrev cX3_writes : ByteArray := prog_1_method_14_code
def yX3_writes : MethodName := ⟨RX3, "writes", "(II)I"⟩
abbrev cX3_refuses : ByteArray := prog_1_method_15_code
def yX3_refuses : MethodName := ⟨RX3, "refuses", "(I)I"⟩
abbrev cX3_check : ByteArray := prog_1_method_16_code
def yX3_check : MethodName := ⟨RX3, "check", "()I"⟩
abbrev cX3_questions : ByteArray := prog_1_method_17_code
def yX3_questions : MethodName := ⟨RX3, "questions", "(I)I"⟩
abbrev cX3_question : ByteArray := prog_1_method_18_code
def yX3_question : MethodName := ⟨RX3, "question", "(II)I"⟩
abbrev cX3_reasons : ByteArray := prog_1_method_19_code
def yX3_reasons : MethodName := ⟨RX3, "reasons", "()I"⟩
abbrev cX3_sound : ByteArray := prog_1_method_20_code
def yX3_sound : MethodName := ⟨RX3, "sound", "()I"⟩
abbrev cX3_then : ByteArray := prog_1_method_21_code
def yX3_then : MethodName := ⟨RX3, "then", "(II)I"⟩
abbrev cX3_slotThen : ByteArray := prog_1_method_22_code
def yX3_slotThen : MethodName := ⟨RX3, "slotThen", "(II)I"⟩
abbrev cX3_pointerThen : ByteArray := prog_1_method_23_code
def yX3_pointerThen : MethodName := ⟨RX3, "pointerThen", "(II)I"⟩
abbrev cX3_largest : ByteArray := prog_1_method_24_code
def yX3_largest : MethodName := ⟨RX3, "largest", "(I)I"⟩
abbrev cX3_second : ByteArray := prog_1_method_25_code
def yX3_second : MethodName := ⟨RX3, "second", "()I"⟩
abbrev cX3_loses : ByteArray := prog_1_method_26_code
def yX3_loses : MethodName := ⟨RX3, "loses", "(I)I"⟩
abbrev cX3_mend : ByteArray := prog_1_method_27_code
def yX3_mend : MethodName := ⟨RX3, "mend", "(I)I"⟩
abbrev cX3_worst : ByteArray := prog_1_method_28_code
def yX3_worst : MethodName := ⟨RX3, "worst", "()I"⟩
abbrev cX3_shared : ByteArray := prog_1_method_29_code
def yX3_shared : MethodName := ⟨RX3, "shared", "(I)I"⟩
abbrev cX3_damage : ByteArray := prog_1_method_30_code
def yX3_damage : MethodName := ⟨RX3, "damage", "(III)J"⟩
abbrev cX3_mean : ByteArray := prog_1_method_31_code
def yX3_mean : MethodName := ⟨RX3, "mean", "(I)J"⟩
abbrev cX3_whatIs : ByteArray := prog_1_method_32_code
def yX3_whatIs : MethodName := ⟨RX3, "whatIs", "(II)I"⟩
abbrev cX3_row : ByteArray := prog_1_method_33_code
def yX3_row : MethodName := ⟨RX3, "row", "(I)I"⟩
abbrev cX3_judge : ByteArray := prog_1_method_34_code
def yX3_judge : MethodName := ⟨RX3, "judge", "()I"⟩
abbrev cX3_clear : ByteArray := prog_1_method_35_code
def yX3_clear : MethodName := ⟨RX3, "clear", "()I"⟩
abbrev cX3_lots : ByteArray := prog_1_method_36_code
def yX3_lots : MethodName := ⟨RX3, "lots", "(III)I"⟩
abbrev cX3_image : ByteArray := prog_1_method_37_code
def yX3_image : MethodName := ⟨RX3, "image", "()I"⟩
abbrev cX3_on : ByteArray := prog_1_method_38_code
def yX3_on : MethodName := ⟨RX3, "on", "()I"⟩
abbrev cX3_count : ByteArray := prog_1_method_39_code
def yX3_count : MethodName := ⟨RX3, "count", "(I)I"⟩
abbrev cX3_isOutside : ByteArray := prog_1_method_40_code
def yX3_isOutside : MethodName := ⟨RX3, "isOutside", "(II)Z"⟩
abbrev cX3_refusal : ByteArray := prog_1_method_41_code
def yX3_refusal : MethodName := ⟨RX3, "refusal", "(I)I"⟩
abbrev cX3_carryOut : ByteArray := prog_1_method_42_code
def yX3_carryOut : MethodName := ⟨RX3, "carryOut", "(I)V"⟩
abbrev cX3_inodeBySize : ByteArray := prog_1_method_43_code
def yX3_inodeBySize : MethodName := ⟨RX3, "inodeBySize", "(LVolumeInFivePasses$Volume;I)I"⟩
abbrev cX3_leftWithout : ByteArray := prog_1_method_44_code
def yX3_leftWithout : MethodName := ⟨RX3, "leftWithout", "(I)I"⟩
abbrev cX3_power : ByteArray := prog_1_method_45_code
def yX3_power : MethodName := ⟨RX3, "power", "(II)J"⟩
abbrev cX3_partOfFraction : ByteArray := prog_1_method_46_code
def yX3_partOfFraction : MethodName := ⟨RX3, "partOfFraction", "(JJI)J"⟩
abbrev cX3_rowIsAsked : ByteArray := prog_1_method_47_code
def yX3_rowIsAsked : MethodName := ⟨RX3, "rowIsAsked", "()Z"⟩
abbrev cX3_changeByLot : ByteArray := prog_1_method_48_code
def yX3_changeByLot : MethodName := ⟨RX3, "changeByLot", "()V"⟩
abbrev cX3_draw : ByteArray := prog_1_method_49_code
def yX3_draw : MethodName := ⟨RX3, "draw", "(I)I"⟩
def RX4 : String := "VolumeInFivePassesModel"
def TX4 : u_T := fun k => match k with
  | 0 => ("VolumeInFivePassesModel", "thrown", "I", false)
  | 1 => ("VolumeInFivePassesModel", "s", "[I", true)
  | 2 => ("VolumeInFivePassesModel", "image", "[I", true)
  | 3 => ("VolumeInFivePassesModel", "frame", "[I", true)
  | 4 => ("VolumeInFivePassesModel", "hasImage", "Z", false)
  | 5 => ("VolumeInFivePassesModel", "counts", "[I", true)
  | 6 => ("VolumeInFivePassesModel", "letters", "[I", true)
  | 7 => ("VolumeInFivePassesModel", "lettered", "I", false)
  | 8 => ("VolumeInFivePassesModel", "spot", "I", false)
  | 9 => ("VolumeInFivePassesModel", "isWrong", "Z", false)
  | 10 => ("VolumeInFivePassesModel", "strange", "I", false)
  | 11 => ("VolumeInFivePassesModel", "reasonOf", "[I", true)
  | 12 => ("VolumeInFivePassesModel", "whoOf", "[I", true)
  | 13 => ("VolumeInFivePassesModel", "placeOf", "[I", true)
  | 14 => ("VolumeInFivePassesModel", "asked", "I", false)
  | 15 => ("VolumeInFivePassesModel", "row", "[I", true)
  | 16 => ("VolumeInFivePassesModel", "rowed", "I", false)
  | _ => ("VolumeInFivePassesModel", "lot", "I", false)
def tyX4 : Nat → FieldType := fun k => match k with
  | 0 => .int
  | 1 => .array .int
  | 2 => .array .int
  | 3 => .array .int
  | 4 => .boolean
  | 5 => .array .int
  | 6 => .array .int
  | 7 => .int
  | 8 => .int
  | 9 => .boolean
  | 10 => .int
  | 11 => .array .int
  | 12 => .array .int
  | 13 => .array .int
  | 14 => .int
  | 15 => .array .int
  | 16 => .int
  | _ => .int
theorem nmX4 : ∀ a, a < 18 → ∀ b, b < 18 → a ≠ b → (TX4 a).2.1 ≠ (TX4 b).2.1 := by decide +kernel
theorem tyX4_ok : ∀ k, k < 18 → parseFieldDescriptor (TX4 k).2.2.1 = some (tyX4 k) := by decide +kernel
abbrev cX4_init : ByteArray := prog_6_method_1_code
def yX4_init : MethodName := ⟨RX4, "<init>", "()V"⟩
abbrev cX4_in : ByteArray := prog_6_method_3_code
def yX4_in : MethodName := ⟨RX4, "in", "(III)Z"⟩
abbrev cX4_refused : ByteArray := prog_6_method_4_code
def yX4_refused : MethodName := ⟨RX4, "refused", "(I)I"⟩
abbrev cX4_refusedLong : ByteArray := prog_6_method_5_code
def yX4_refusedLong : MethodName := ⟨RX4, "refusedLong", "(I)J"⟩
abbrev cX4_isInode : ByteArray := prog_6_method_6_code
def yX4_isInode : MethodName := ⟨RX4, "isInode", "(I)Z"⟩
abbrev cX4_isBlock : ByteArray := prog_6_method_7_code
def yX4_isBlock : MethodName := ⟨RX4, "isBlock", "(I)Z"⟩
abbrev cX4_keeps : ByteArray := prog_6_method_8_code
def yX4_keeps : MethodName := ⟨RX4, "keeps", "()V"⟩
abbrev cX4_goesBack : ByteArray := prog_6_method_9_code
def yX4_goesBack : MethodName := ⟨RX4, "goesBack", "()V"⟩
abbrev cX4_holds : ByteArray := prog_6_method_10_code
def yX4_holds : MethodName := ⟨RX4, "holds", "(I)I"⟩
abbrev cX4_lists : ByteArray := prog_6_method_11_code
def yX4_lists : MethodName := ⟨RX4, "lists", "(I)I"⟩
abbrev cX4_isDirectory : ByteArray := prog_6_method_12_code
def yX4_isDirectory : MethodName := ⟨RX4, "isDirectory", "(I)Z"⟩
abbrev cX4_pointersTo : ByteArray := prog_6_method_13_code
def yX4_pointersTo : MethodName := ⟨RX4, "pointersTo", "(I)I"⟩
abbrev cX4_isEntryTo : ByteArray := prog_6_method_14_code
def yX4_isEntryTo : MethodName := ⟨RX4, "isEntryTo", "(II)Z"⟩
abbrev cX4_entriesTo : ByteArray := prog_6_method_15_code
def yX4_entriesTo : MethodName := ⟨RX4, "entriesTo", "(I)I"⟩
abbrev cX4_entryTo : ByteArray := prog_6_method_16_code
def yX4_entryTo : MethodName := ⟨RX4, "entryTo", "(I)I"⟩
abbrev cX4_entries : ByteArray := prog_6_method_17_code
def yX4_entries : MethodName := ⟨RX4, "entries", "()I"⟩
abbrev cX4_inodes : ByteArray := prog_6_method_18_code
def yX4_inodes : MethodName := ⟨RX4, "inodes", "()I"⟩
abbrev cX4_freeBlock : ByteArray := prog_6_method_19_code
def yX4_freeBlock : MethodName := ⟨RX4, "freeBlock", "()I"⟩
abbrev cX4_wipes : ByteArray := prog_6_method_20_code
def yX4_wipes : MethodName := ⟨RX4, "wipes", "(II)V"⟩
abbrev cX4_letter : ByteArray := prog_6_method_21_code
def yX4_letter : MethodName := ⟨RX4, "letter", "(I)I"⟩
abbrev cX4_here : ByteArray := prog_6_method_22_code
def yX4_here : MethodName := ⟨RX4, "here", "()I"⟩
abbrev cX4_one : ByteArray := prog_6_method_23_code
def yX4_one : MethodName := ⟨RX4, "one", "(II)I"⟩
abbrev cX4_digit : ByteArray := prog_6_method_24_code
def yX4_digit : MethodName := ⟨RX4, "digit", "()I"⟩
abbrev cX4_twoDigits : ByteArray := prog_6_method_25_code
def yX4_twoDigits : MethodName := ⟨RX4, "twoDigits", "()I"⟩
abbrev cX4_kindLetter : ByteArray := prog_6_method_26_code
def yX4_kindLetter : MethodName := ⟨RX4, "kindLetter", "()I"⟩
abbrev cX4_must : ByteArray := prog_6_method_27_code
def yX4_must : MethodName := ⟨RX4, "must", "(ZI)V"⟩
abbrev cX4_states : ByteArray := prog_6_method_28_code
def yX4_states : MethodName := ⟨RX4, "states", "(Z)V"⟩
abbrev cX4_goesThrough : ByteArray := prog_6_method_29_code
def yX4_goesThrough : MethodName := ⟨RX4, "goesThrough", "(Z)I"⟩
abbrev cX4_volume : ByteArray := prog_6_method_30_code
def yX4_volume : MethodName := ⟨RX4, "volume", "()I"⟩
abbrev cX4_inode : ByteArray := prog_6_method_31_code
def yX4_inode : MethodName := ⟨RX4, "inode", "(II)I"⟩
abbrev cX4_pointerOf : ByteArray := prog_6_method_32_code
def yX4_pointerOf : MethodName := ⟨RX4, "pointerOf", "(II)I"⟩
abbrev cX4_slotOf : ByteArray := prog_6_method_33_code
def yX4_slotOf : MethodName := ⟨RX4, "slotOf", "(II)I"⟩
abbrev cX4_pointer : ByteArray := prog_6_method_34_code
def yX4_pointer : MethodName := ⟨RX4, "pointer", "(II)I"⟩
abbrev cX4_slot : ByteArray := prog_6_method_35_code
def yX4_slot : MethodName := ⟨RX4, "slot", "(II)I"⟩
abbrev cX4_block : ByteArray := prog_6_method_36_code
def yX4_block : MethodName := ⟨RX4, "block", "(II)I"⟩
abbrev cX4_becomes : ByteArray := prog_6_method_37_code
def yX4_becomes : MethodName := ⟨RX4, "becomes", "(II)I"⟩
abbrev cX4_kind : ByteArray := prog_6_method_38_code
def yX4_kind : MethodName := ⟨RX4, "kind", "(II)I"⟩
abbrev cX4_points : ByteArray := prog_6_method_39_code
def yX4_points : MethodName := ⟨RX4, "points", "(III)I"⟩
abbrev cX4_enters : ByteArray := prog_6_method_40_code
def yX4_enters : MethodName := ⟨RX4, "enters", "(IIII)I"⟩
abbrev cX4_empties : ByteArray := prog_6_method_41_code
def yX4_empties : MethodName := ⟨RX4, "empties", "(II)I"⟩
abbrev cX4_links : ByteArray := prog_6_method_42_code
def yX4_links : MethodName := ⟨RX4, "links", "(III)I"⟩
abbrev cX4_marks : ByteArray := prog_6_method_43_code
def yX4_marks : MethodName := ⟨RX4, "marks", "(II)I"⟩
abbrev cX4_writes : ByteArray := prog_6_method_44_code
def yX4_writes : MethodName := ⟨RX4, "writes", "(II)I"⟩
abbrev cX4_refuses : ByteArray := prog_6_method_45_code
def yX4_refuses : MethodName := ⟨RX4, "refuses", "(I)I"⟩
abbrev cX4_isRefused : ByteArray := prog_6_method_46_code
def yX4_isRefused : MethodName := ⟨RX4, "isRefused", "(I)Z"⟩
abbrev cX4_asks : ByteArray := prog_6_method_47_code
def yX4_asks : MethodName := ⟨RX4, "asks", "(III)V"⟩
abbrev cX4_isSharedAhead : ByteArray := prog_6_method_48_code
def yX4_isSharedAhead : MethodName := ⟨RX4, "isSharedAhead", "(I)Z"⟩
abbrev cX4_looksAtPointer : ByteArray := prog_6_method_49_code
def yX4_looksAtPointer : MethodName := ⟨RX4, "looksAtPointer", "(II)V"⟩
abbrev cX4_isNamedAhead : ByteArray := prog_6_method_50_code
def yX4_isNamedAhead : MethodName := ⟨RX4, "isNamedAhead", "(II)Z"⟩
abbrev cX4_isListedAhead : ByteArray := prog_6_method_51_code
def yX4_isListedAhead : MethodName := ⟨RX4, "isListedAhead", "(II)Z"⟩
abbrev cX4_looksAtSlot : ByteArray := prog_6_method_52_code
def yX4_looksAtSlot : MethodName := ⟨RX4, "looksAtSlot", "(II)V"⟩
abbrev cX4_reached : ByteArray := prog_6_method_53_code
def yX4_reached : MethodName := ⟨RX4, "reached", "(IZ)I"⟩
abbrev cX4_leastName : ByteArray := prog_6_method_54_code
def yX4_leastName : MethodName := ⟨RX4, "leastName", "()I"⟩
abbrev cX4_attaches : ByteArray := prog_6_method_55_code
def yX4_attaches : MethodName := ⟨RX4, "attaches", "(I)I"⟩
abbrev cX4_lone : ByteArray := prog_6_method_56_code
def yX4_lone : MethodName := ⟨RX4, "lone", "()I"⟩
abbrev cX4_connects : ByteArray := prog_6_method_57_code
def yX4_connects : MethodName := ⟨RX4, "connects", "()V"⟩
abbrev cX4_countsLinks : ByteArray := prog_6_method_58_code
def yX4_countsLinks : MethodName := ⟨RX4, "countsLinks", "()V"⟩
abbrev cX4_maps : ByteArray := prog_6_method_59_code
def yX4_maps : MethodName := ⟨RX4, "maps", "()V"⟩
abbrev cX4_checks : ByteArray := prog_6_method_60_code
def yX4_checks : MethodName := ⟨RX4, "checks", "()I"⟩
abbrev cX4_check : ByteArray := prog_6_method_61_code
def yX4_check : MethodName := ⟨RX4, "check", "()I"⟩
abbrev cX4_thinks : ByteArray := prog_6_method_62_code
def yX4_thinks : MethodName := ⟨RX4, "thinks", "()V"⟩
abbrev cX4_manyOf : ByteArray := prog_6_method_63_code
def yX4_manyOf : MethodName := ⟨RX4, "manyOf", "(I)I"⟩
abbrev cX4_questions : ByteArray := prog_6_method_64_code
def yX4_questions : MethodName := ⟨RX4, "questions", "(I)I"⟩
abbrev cX4_question : ByteArray := prog_6_method_65_code
def yX4_question : MethodName := ⟨RX4, "question", "(II)I"⟩
abbrev cX4_reasons : ByteArray := prog_6_method_66_code
def yX4_reasons : MethodName := ⟨RX4, "reasons", "()I"⟩
abbrev cX4_sound : ByteArray := prog_6_method_67_code
def yX4_sound : MethodName := ⟨RX4, "sound", "()I"⟩
abbrev cX4_countOf : ByteArray := prog_6_method_68_code
def yX4_countOf : MethodName := ⟨RX4, "countOf", "(I)I"⟩
abbrev cX4_blocksOf : ByteArray := prog_6_method_69_code
def yX4_blocksOf : MethodName := ⟨RX4, "blocksOf", "(I)I"⟩
abbrev cX4_blocksBelow : ByteArray := prog_6_method_70_code
def yX4_blocksBelow : MethodName := ⟨RX4, "blocksBelow", "(I)I"⟩
abbrev cX4_depthOf : ByteArray := prog_6_method_71_code
def yX4_depthOf : MethodName := ⟨RX4, "depthOf", "(I)I"⟩
abbrev cX4_thenOf : ByteArray := prog_6_method_72_code
def yX4_thenOf : MethodName := ⟨RX4, "thenOf", "(II)I"⟩
abbrev cX4_then : ByteArray := prog_6_method_73_code
def yX4_then : MethodName := ⟨RX4, "then", "(II)I"⟩
abbrev cX4_slotThen : ByteArray := prog_6_method_74_code
def yX4_slotThen : MethodName := ⟨RX4, "slotThen", "(II)I"⟩
abbrev cX4_pointerThen : ByteArray := prog_6_method_75_code
def yX4_pointerThen : MethodName := ⟨RX4, "pointerThen", "(II)I"⟩
abbrev cX4_largest : ByteArray := prog_6_method_76_code
def yX4_largest : MethodName := ⟨RX4, "largest", "(I)I"⟩
abbrev cX4_second : ByteArray := prog_6_method_77_code
def yX4_second : MethodName := ⟨RX4, "second", "()I"⟩
abbrev cX4_loses : ByteArray := prog_6_method_78_code
def yX4_loses : MethodName := ⟨RX4, "loses", "(I)I"⟩
abbrev cX4_mend : ByteArray := prog_6_method_79_code
def yX4_mend : MethodName := ⟨RX4, "mend", "(I)I"⟩
abbrev cX4_worst : ByteArray := prog_6_method_80_code
def yX4_worst : MethodName := ⟨RX4, "worst", "()I"⟩
abbrev cX4_shared : ByteArray := prog_6_method_81_code
def yX4_shared : MethodName := ⟨RX4, "shared", "(I)I"⟩
abbrev cX4_lowest : ByteArray := prog_6_method_82_code
def yX4_lowest : MethodName := ⟨RX4, "lowest", "(JJI)J"⟩
abbrev cX4_damage : ByteArray := prog_6_method_83_code
def yX4_damage : MethodName := ⟨RX4, "damage", "(III)J"⟩
abbrev cX4_mean : ByteArray := prog_6_method_84_code
def yX4_mean : MethodName := ⟨RX4, "mean", "(I)J"⟩
abbrev cX4_isSo : ByteArray := prog_6_method_85_code
def yX4_isSo : MethodName := ⟨RX4, "isSo", "()Z"⟩
abbrev cX4_whatIs : ByteArray := prog_6_method_86_code
def yX4_whatIs : MethodName := ⟨RX4, "whatIs", "(II)I"⟩
abbrev cX4_row : ByteArray := prog_6_method_87_code
def yX4_row : MethodName := ⟨RX4, "row", "(I)I"⟩
abbrev cX4_judge : ByteArray := prog_6_method_88_code
def yX4_judge : MethodName := ⟨RX4, "judge", "()I"⟩
abbrev cX4_clear : ByteArray := prog_6_method_89_code
def yX4_clear : MethodName := ⟨RX4, "clear", "()I"⟩
abbrev cX4_drawn : ByteArray := prog_6_method_90_code
def yX4_drawn : MethodName := ⟨RX4, "drawn", "(I)I"⟩
abbrev cX4_damages : ByteArray := prog_6_method_91_code
def yX4_damages : MethodName := ⟨RX4, "damages", "()V"⟩
abbrev cX4_lots : ByteArray := prog_6_method_92_code
def yX4_lots : MethodName := ⟨RX4, "lots", "(III)I"⟩
abbrev cX4_image : ByteArray := prog_6_method_93_code
def yX4_image : MethodName := ⟨RX4, "image", "()I"⟩
abbrev cX4_on : ByteArray := prog_6_method_94_code
def yX4_on : MethodName := ⟨RX4, "on", "()I"⟩
abbrev cX4_kinds : ByteArray := prog_6_method_95_code
def yX4_kinds : MethodName := ⟨RX4, "kinds", "(Z)I"⟩
abbrev cX4_count : ByteArray := prog_6_method_96_code
def yX4_count : MethodName := ⟨RX4, "count", "(I)I"⟩
def RJ11 : String := "java/lang/Character"
abbrev cJ11_isValidCodePoint_9a6ad : ByteArray := prog_7_method_11_code
def yJ11_isValidCodePoint_9a6ad : MethodName := ⟨RJ11, "isValidCodePoint", "(I)Z"⟩
abbrev cJ11_highSurrogate_5068e : ByteArray := prog_7_method_28_code
def yJ11_highSurrogate_5068e : MethodName := ⟨RJ11, "highSurrogate", "(I)C"⟩
abbrev cJ11_lowSurrogate_5068e : ByteArray := prog_7_method_29_code
def yJ11_lowSurrogate_5068e : MethodName := ⟨RJ11, "lowSurrogate", "(I)C"⟩
def RJ6 : String := "java/lang/Integer"
abbrev cJ6_numberOfTrailingZeros_0f7a4 : ByteArray := prog_8_method_48_code
def yJ6_numberOfTrailingZeros_0f7a4 : MethodName := ⟨RJ6, "numberOfTrailingZeros", "(I)I"⟩
abbrev cJ6_bitCount_0f7a4 : ByteArray := prog_8_method_49_code
def yJ6_bitCount_0f7a4 : MethodName := ⟨RJ6, "bitCount", "(I)I"⟩
def RJ9 : String := "java/lang/Math"
abbrev cJ9_max_7cf53 : ByteArray := prog_9_method_65_code
def yJ9_max_7cf53 : MethodName := ⟨RJ9, "max", "(II)I"⟩
abbrev cJ9_max_f86c9 : ByteArray := prog_9_method_66_code
def yJ9_max_f86c9 : MethodName := ⟨RJ9, "max", "(JJ)J"⟩
abbrev cJ9_min_7cf53 : ByteArray := prog_9_method_69_code
def yJ9_min_7cf53 : MethodName := ⟨RJ9, "min", "(II)I"⟩
def RJ0 : String := "java/lang/String"
abbrev cJ0_length_8abf5 : ByteArray := prog_10_method_54_code
def yJ0_length_8abf5 : MethodName := ⟨RJ0, "length", "()I"⟩
abbrev cJ0_charAt_5068e : ByteArray := prog_10_method_56_code
def yJ0_charAt_5068e : MethodName := ⟨RJ0, "charAt", "(I)C"⟩
abbrev cJ0_indexOf_0f7a4 : ByteArray := prog_10_method_79_code
def yJ0_indexOf_0f7a4 : MethodName := ⟨RJ0, "indexOf", "(I)I"⟩
abbrev cJ0_indexOf_7cf53 : ByteArray := prog_10_method_80_code
def yJ0_indexOf_7cf53 : MethodName := ⟨RJ0, "indexOf", "(II)I"⟩
abbrev cJ0_coder_7d493 : ByteArray := prog_10_method_152_code
def yJ0_coder_7d493 : MethodName := ⟨RJ0, "coder", "()B"⟩
abbrev cJ0_isLatin1_aae02 : ByteArray := prog_10_method_154_code
def yJ0_isLatin1_aae02 : MethodName := ⟨RJ0, "isLatin1", "()Z"⟩
abbrev cJ0_checkIndex_df160 : ByteArray := prog_10_method_155_code
def yJ0_checkIndex_df160 : MethodName := ⟨RJ0, "checkIndex", "(II)V"⟩
abbrev cJ0_checkBoundsBeginEnd_23922 : ByteArray := prog_10_method_158_code
def yJ0_checkBoundsBeginEnd_23922 : MethodName := ⟨RJ0, "checkBoundsBeginEnd", "(III)V"⟩
def RJ1 : String := "java/lang/StringLatin1"
abbrev cJ1_charAt_3b067 : ByteArray := prog_11_method_2_code
def yJ1_charAt_3b067 : MethodName := ⟨RJ1, "charAt", "([BI)C"⟩
abbrev cJ1_canEncode_9a6ad : ByteArray := prog_11_method_4_code
def yJ1_canEncode_9a6ad : MethodName := ⟨RJ1, "canEncode", "(I)Z"⟩
abbrev cJ1_indexOf_4cfef : ByteArray := prog_11_method_22_code
def yJ1_indexOf_4cfef : MethodName := ⟨RJ1, "indexOf", "([BIII)I"⟩
abbrev cJ1_indexOfChar_4cfef : ByteArray := prog_11_method_23_code
def yJ1_indexOfChar_4cfef : MethodName := ⟨RJ1, "indexOfChar", "([BIII)I"⟩
def RJ2 : String := "java/lang/StringUTF16"
abbrev cJ2_getChar_3b067 : ByteArray := prog_12_method_5_code
def yJ2_getChar_3b067 : MethodName := ⟨RJ2, "getChar", "([BI)C"⟩
abbrev cJ2_length_9d52b : ByteArray := prog_12_method_6_code
def yJ2_length_9d52b : MethodName := ⟨RJ2, "length", "([B)I"⟩
abbrev cJ2_indexOf_4cfef : ByteArray := prog_12_method_40_code
def yJ2_indexOf_4cfef : MethodName := ⟨RJ2, "indexOf", "([BIII)I"⟩
abbrev cJ2_indexOfChar_4cfef : ByteArray := prog_12_method_47_code
def yJ2_indexOfChar_4cfef : MethodName := ⟨RJ2, "indexOfChar", "([BIII)I"⟩
abbrev cJ2_indexOfCharUnsafe_4cfef : ByteArray := prog_12_method_48_code
def yJ2_indexOfCharUnsafe_4cfef : MethodName := ⟨RJ2, "indexOfCharUnsafe", "([BIII)I"⟩
abbrev cJ2_indexOfSupplementary_4cfef : ByteArray := prog_12_method_49_code
def yJ2_indexOfSupplementary_4cfef : MethodName := ⟨RJ2, "indexOfSupplementary", "([BIII)I"⟩
abbrev cJ2_charAt_3b067 : ByteArray := prog_12_method_83_code
def yJ2_charAt_3b067 : MethodName := ⟨RJ2, "charAt", "([BI)C"⟩
abbrev cJ2_checkIndex_2214a : ByteArray := prog_12_method_91_code
def yJ2_checkIndex_2214a : MethodName := ⟨RJ2, "checkIndex", "(I[B)V"⟩
abbrev cJ2_checkBoundsBeginEnd_d044e : ByteArray := prog_12_method_93_code
def yJ2_checkBoundsBeginEnd_d044e : MethodName := ⟨RJ2, "checkBoundsBeginEnd", "(II[B)V"⟩
def RJ10 : String := "java/lang/System"
def RJ7 : String := "java/util/Arrays"
abbrev cJ7_fill_53178 : ByteArray := prog_14_method_103_code
def yJ7_fill_53178 : MethodName := ⟨RJ7, "fill", "([II)V"⟩
def RJ3 : String := "jdk/internal/util/Preconditions"
abbrev cJ3_checkIndex_8e157 : ByteArray := prog_15_method_11_code
def yJ3_checkIndex_8e157 : MethodName := ⟨RJ3, "checkIndex", "(IILjava/util/function/BiFunction;)I"⟩
abbrev cJ3_checkFromToIndex_8c36e : ByteArray := prog_15_method_12_code
def yJ3_checkFromToIndex_8c36e : MethodName := ⟨RJ3, "checkFromToIndex", "(IIILjava/util/function/BiFunction;)I"⟩
def RL : String := "VolumeInFivePassesLaw"
abbrev cL_law : ByteArray := code
def yL_law : MethodName := ⟨RL, "law", "([I)Z"⟩
abbrev vwCl : List vw_C := [(RX0, TX0, 7), (RX1, TX1, 2), (RX2, TX2, 8), (RX3, TX3, 13), (RX4, TX4, 18)]
end
section
/-! AN ABSTRACT MACHINE: addresses are places (0 .. 59 the objects and rows of the system, 100 ff. what is static), all else are ints in slots. Its steps are sound over the kit's W. -/
-- the tables' words that stay
def xTbl : List Cond := lw_tbl.filter goodWord
theorem xTbl_in {w : Cond} (i : Nat) (h : lw_tbl[i]? = some w) (g : goodWord w = true) : w ∈ xTbl := List.mem_filter.mpr ⟨List.mem_of_getElem? h, g⟩
theorem xTbl_good : ∀ w ∈ xTbl, (w.onTables && w.keeps) = true ∨ ∃ ty, w = .arrayClass ty := fun _ h => good_of_word (List.mem_filter.mp h).2
theorem xTbl_sub : ∀ w ∈ xTbl, w ∈ lw_tbl := fun _ h => (List.mem_filter.mp h).1
-- memory: places, slots
abbrev xM : Type := Nat → Nat → Int32
/-- fields' and addresses' table, addresses of places, the class of int rows, the least address that is the system's own, the formatter's value -/
abbrev xE : Type := va_G × (Nat → Nat) × ClassId × Nat × Value
abbrev xeD (E : xE) : va_G := E.1
abbrev xeA (E : xE) : Nat → Nat := E.2.1
abbrev xeC (E : xE) : ClassId := E.2.2.1
abbrev xeB (E : xE) : Nat := E.2.2.2.1
abbrev xeS (E : xE) : Value := E.2.2.2.2
def xv (E : xE) : Value → Value
  | .ref k => if k = 103 then xeS E else .ref (xeA E k)
  | v => v
theorem xv_int (E : xE) (x : Int32) : xv E (.int x) = .int x := rfl
theorem xv_long (E : xE) (x : Int64) : xv E (.long x) = .long x := rfl
theorem xv_ref {E : xE} {k : Nat} (h : k ≠ 103) : xv E (.ref k) = .ref (xeA E k) := by simp [xv, h]
-- the layout: kinds of places (0 Check, 1 Letters, 2 Volume, 3 the class, 4 the reference, 5 a row of ints), rows' lengths
def xkdL : List Nat := [3, 2,5,5,5,5,5,5, 2,5,5,5,5,5,5, 2,5,5,5,5,5,5, 0,2,5,5,5,5,5,5,5,5,5,5, 0,2,5,5,5,5,5,5,5,5,5,5, 1,5, 5,5, 4,5,5,5,5,5,5,5,5,5]
def xlnL : List Nat := [0, 0,10,10,10,30,60,24, 0,10,10,10,30,60,24, 0,10,10,10,30,60,24, 0,0,10,10,10,30,60,24,180,180,180,10, 0,0,10,10,10,30,60,24,180,180,180,10, 0,96, 32,7, 0,147,147,147,17,96,400,400,400,32]
def xkd (p : Nat) : Nat := xkdL.getD p 9
def xln (p : Nat) : Nat := xlnL.getD p 0
-- an object's slot: how far from it the place lies that it refers to; none: an int
def xfoL : List (List (Option Nat)) := [[some 1, some 8, some 9, some 10, none, some 11, none], [some 1, none], [some 1, some 2, some 3, some 4, some 5, some 6, none, none], [some 1, some 8, some 15, none, none, some 22, some 34, some 46, some 48, none, some 49, none, none], [none, some 1, some 2, some 3, none, some 4, some 5, none, none, none, none, some 6, some 7, some 8, none, some 9, none, none]]
def xnf (ci : Nat) : Nat := (xfoL.getD ci []).length
def xfo (ci k : Nat) : Option Nat := (xfoL.getD ci []).getD k none
def xfv (E : xE) (M : xM) (p ci k : Nat) : Value := match xfo ci k with | some o => .ref (xeA E (p + o)) | none => .int (M p k)
def xfs (E : xE) (M : xM) (p ci : Nat) : List Value := (List.range (xnf ci)).map (xfv E M p ci)
def xcell (E : xE) (M : xM) (p : Nat) : va_E := if xkd p = 5 then .inl (xeC E, xln p, .inl (M p)) else .inr (xkd p, xfs E M p (xkd p))
def xws (E : xE) (M : xM) : va_W := (List.range 60).map (fun p => (xeA E p, xcell E M p))
def xup (M : xM) (p k : Nat) (x : Int32) : xM := fun a => if a = p then upd (M p) k x else M a
theorem xup_at (M : xM) (p k : Nat) (x : Int32) : xup M p k x p = upd (M p) k x := by simp [xup]
theorem xup_ne (M : xM) {p a : Nat} (k : Nat) (x : Int32) (h : a ≠ p) : xup M p k x a = M a := by simp [xup, h]
theorem xkd_lt {p : Nat} (h : xkd p ≠ 9) : p < 60 := by
  rcases Nat.lt_or_ge p 60 with q | q
  · exact q
  · exact absurd (by simp [xkd, xkdL, List.getD_eq_getElem?_getD, List.getElem?_eq_none (l := [3, 2,5,5,5,5,5,5, 2,5,5,5,5,5,5, 2,5,5,5,5,5,5, 0,2,5,5,5,5,5,5,5,5,5,5, 0,2,5,5,5,5,5,5,5,5,5,5, 1,5, 5,5, 4,5,5,5,5,5,5,5,5,5]) (i := p) (by simpa using q)]) h
theorem xws_get (E : xE) (M : xM) {p : Nat} (h : p < 60) : (xws E M)[p]? = some (xeA E p, xcell E M p) := by simp [xws, h]
theorem xws_set (E : xE) (M M' : xM) {p : Nat} {e : va_E} (_h : p < 60) (ho : ∀ a, a ≠ p → M' a = M a) (he : xcell E M' p = e) : (xws E M).set p (xeA E p, e) = xws E M' := by
  apply List.ext_getElem?
  intro i
  rw [List.getElem?_set]
  by_cases hi : p = i
  · subst hi
    simp [xws, he, _h]
  · simp only [xws, List.getElem?_map, hi, if_false]
    by_cases h2 : i < 60
    · simp only [List.getElem?_range h2, Option.map_some]
      have h3 : M' i = M i := ho i (fun z => hi z.symm)
      have h4 : xcell E M' i = xcell E M i := by
        unfold xcell xfs
        rw [h3]
        have h5 : xfv E M' i (xkd i) = xfv E M i (xkd i) := by
          funext k
          unfold xfv
          rw [h3]
        rw [h5]
      rw [h4]
    · rw [List.getElem?_eq_none (by simpa using h2)]
      rfl
theorem xws_fst (E : xE) (M M' : xM) {k : Nat} {q : Nat × va_E} (h : (xws E M')[k]? = some q) : ∃ e, (xws E M)[k]? = some (q.1, e) := by
  simp only [xws, List.getElem?_map] at h ⊢
  cases hr : (List.range 60)[k]? with
  | none => rw [hr] at h; cases h
  | some z =>
    rw [hr] at h
    simp only [Option.map_some, Option.some.injEq] at h ⊢
    subst h
    exact ⟨_, rfl⟩
theorem xD_any {E : xE} {A : Nat → Prop} {M M' : xM} (h : va_D A (xws E M)) : va_D A (xws E M') := by
  refine ⟨fun i j p q hi hj e => ?_, fun k q hk => ?_⟩
  · obtain ⟨e1, h1⟩ := xws_fst E M M' hi
    obtain ⟨e2, h2⟩ := xws_fst E M M' hj
    exact h.1 i j _ _ h1 h2 e
  · obtain ⟨e1, h1⟩ := xws_fst E M M' hk
    exact h.2 k (q.1, e1) h1
theorem xcell_row (E : xE) (M : xM) {p : Nat} (h : xkd p = 5) : xcell E M p = .inl (xeC E, xln p, .inl (M p)) := by simp [xcell, h]
theorem xcell_obj (E : xE) (M : xM) {p ci : Nat} (h : xkd p = ci) (h5 : ci ≠ 5) : xcell E M p = .inr (ci, xfs E M p ci) := by subst h; simp [xcell, h5]
theorem xfs_get (E : xE) (M : xM) (p ci : Nat) {k : Nat} (h : k < xnf ci) : (xfs E M p ci)[k]? = some (xfv E M p ci k) := by simp [xfs, h]
theorem xfs_len (E : xE) (M : xM) (p ci : Nat) : (xfs E M p ci).length = xnf ci := by simp [xfs]
theorem xfs_set (E : xE) (M : xM) (p ci : Nat) {k : Nat} (x : Int32) (hk : xfo ci k = none) : (xfs E M p ci).set k (.int x) = xfs E (xup M p k x) p ci := by
  apply List.ext_getElem?
  intro i
  rw [List.getElem?_set]
  simp only [xfs_len]
  by_cases hi : k = i
  · subst hi
    by_cases h2 : k < xnf ci
    · simp [h2, xfs, xfv, hk, xup_at, upd]
    · simp [h2, xfs]
  · simp only [hi, if_false]
    by_cases h2 : i < xnf ci
    · rw [xfs_get E _ p ci h2, xfs_get E _ p ci h2]
      simp only [xfv, xup_at, upd, if_neg (fun z : i = k => hi z.symm)]
    · rw [List.getElem?_eq_none (by simpa [xfs_len] using h2), List.getElem?_eq_none (by simpa [xfs_len] using h2)]
-- string constants: places 110 .. 118; their bytes: 130 .. 138
def xstO : List (Nat × Nat × String) := [(1, 53, "ipexbmuc"), (1, 70, "9k99"), (1, 72, "9999"), (1, 74, "99a9"), (1, 76, "99"), (1, 78, "9"), (1, 80, ""), (1, 26, "nfdlgh"), (4, 79, "nfdlgh")]
def xstB : List (List Int32) := [[105,112,101,120,98,109,117,99], [57,107,57,57], [57,57,57,57], [57,57,97,57], [57,57], [57], [], [110,102,100,108,103,104], [110,102,100,108,103,104]]
def xsb (i j : Nat) : Int32 := (xstB.getD i []).getD j 0
def xsl (i : Nat) : Nat := (xstB.getD i []).length
def xhold (j : Nat) : Int32 := ([0, 3, 1, 0, 2, 1] : List Int32).getD j 0
def xlist (j : Nat) : Int32 := ([0, 0, 4, 0, 0, 6] : List Int32).getD j 0
def xown (k : Nat) : String := ([RX0, RX1, RX2, RX3, RX4, RJ0, RJ1, RJ2, RJ3, RJ6, RJ7, RJ9, RL] : List String).getD k ""
-- what is static, at a state U with the heap H
def xA (E : xE) : Nat → Prop := fun q => xeB E ≤ q
def xStr (E : xE) (i : Nat) (U : State) (H : Heap) : Prop := va_O "java/lang/String" (xeA E (110 + i)) (xA E) U H ∧ va_OF "java/lang/String" "coder" "B" (.int 0) (xeA E (110 + i)) (xA E) U H ∧ va_OF "java/lang/String" "value" "[B" (.ref (xeA E (130 + i))) (xeA E (110 + i)) (xA E) U H ∧ va_T .byte (xeA E (130 + i)) (xsl i) (fun j => .int (xsb i j)) (xA E) U H
def xLnk (E : xE) (U : State) : Prop := (∀ i q, xstO[i]? = some q → vk_R (xown q.1) q.2.1 q.2.2 (xeA E (110 + i)) U) ∧ va_Nw (.fieldLinkNest RX0 89 RX3 "HOLDS" "[I" RX3) U ∧ va_Nw (.fieldLinkNest RX0 106 RX3 "LISTS" "[I" RX3) U ∧ va_Nw (.fieldLinkNest RX2 89 RX3 "LISTS" "[I" RX3) U ∧ va_Nw (.methodLinkNest RX2 53 yX3_isOutside RX3) U
def xSta (E : xE) (U : State) (H : Heap) : Prop := va_Z RX3 "HOLDS" "[I" (.ref (xeA E 100)) (xA E) U H ∧ va_T .int (xeA E 100) 6 (fun j => .int (xhold j)) (xA E) U H ∧ va_Z RX3 "LISTS" "[I" (.ref (xeA E 101)) (xA E) U H ∧ va_T .int (xeA E 101) 6 (fun j => .int (xlist j)) (xA E) U H ∧ va_Z RJ0 "COMPACT_STRINGS" "Z" (.int 1) (xA E) U H ∧ va_Z RJ3 "SIOOBE_FORMATTER" "Ljava/util/function/BiFunction;" (xeS E) (xA E) U H ∧ (xeS E = .null ∨ ∃ t, xeS E = .ref t) ∧ ∀ i, i < 9 → xStr E i U H
def xK (E : xE) (U : State) (H : Heap) : Prop := va_K (xeD E) vwCl [(xeC E, .int)] U ∧ xSta E U H ∧ xLnk E U
theorem xSta.moved {E : xE} {u U : State} {H : Heap} (hvm : u.vm.Alike U.vm) (h : xSta E u H) : xSta E U H := by
  obtain ⟨h1, h2, h3, h4, h5, h6, h7, h8⟩ := h
  exact ⟨va_Z.moved hvm h1, va_T.moved hvm h2, va_Z.moved hvm h3, va_T.moved hvm h4, va_Z.moved hvm h5, va_Z.moved hvm h6, h7, fun i hi => ⟨va_O.moved hvm (h8 i hi).1, va_OF.moved hvm (h8 i hi).2.1, va_OF.moved hvm (h8 i hi).2.2.1, va_T.moved hvm (h8 i hi).2.2.2⟩⟩
theorem xSta.kept {E : xE} {U : State} {H H1 : Heap} (h : xSta E U H) (hq : ∀ a : Nat, a < H.size → ¬ xA E a → H1[a]? = H[a]?) : xSta E U H1 := by
  obtain ⟨h1, h2, h3, h4, h5, h6, h7, h8⟩ := h
  exact ⟨h1.kept hq, h2.kept hq, h3.kept hq, h4.kept hq, h5.kept hq, h6.kept hq, h7, fun i hi => ⟨(h8 i hi).1.kept hq, (h8 i hi).2.1.kept hq, (h8 i hi).2.2.1.kept hq, (h8 i hi).2.2.2.kept hq⟩⟩
theorem xLnk.same {E : xE} {u U : State} (hv : U.vm = u.vm) (h : xLnk E u) : xLnk E U := ⟨fun i q hq => vk_R.same hv (h.1 i q hq), va_Nw.same rfl hv.symm h.2.1, va_Nw.same rfl hv.symm h.2.2.1, va_Nw.same rfl hv.symm h.2.2.2.1, va_Nw.same rfl hv.symm h.2.2.2.2⟩
theorem xLnk.warm {E : xE} {s U : State} (hW : s.WarmedH U.vm) (h : xLnk E s) : xLnk E U := ⟨fun i q hq => vk_R.warm hW (h.1 i q hq), va_Nw.warmF hW h.2.1, va_Nw.warmF hW h.2.2.1, va_Nw.warmF hW h.2.2.2.1, va_Nw.warmM hW h.2.2.2.2⟩
end
section
/-! contracts over the abstract machine, and the judgement Gx: 'from this abstract state the method comes to an end with R' -/
abbrev xMt : Type := MethodName × Nat × ByteArray × Nat × Option FieldType × Nat
abbrev xmy (m : xMt) : MethodName := m.1
abbrev xmo (m : xMt) : Nat := m.2.1
abbrev xmb (m : xMt) : ByteArray := m.2.2.1
abbrev xmn (m : xMt) : Nat := m.2.2.2.1
abbrev xmr (m : xMt) : Option FieldType := m.2.2.2.2.1
abbrev xmd (m : xMt) : Nat := m.2.2.2.2.2
def xR (d : Nat) : Room := { frames := d, cells := 0, slots := 0, locals := 39 * d }
def xWd (m : xMt) : List Cond := .code (xmy m) (xmb m) (xmn m) (xmr m) :: xTbl
def xW (E : xE) (M : xM) (U : State) : Prop := va_P (xeD E) vwCl (xws E M) U.heap ∧ va_D (xA E) (xws E M)
def xQ (E : xE) (R : Option Value → xM → Prop) : Array Value → State → Outcome → State → Prop := fun _ st o t => (∃ (r : Option Value) (M' : xM), o = .returned (r.map (xv E)) ∧ R r M' ∧ xW E M' t) ∧ va_F (xA E) st t
def xPre (E : xE) (M : xM) (U : State) : Prop := xW E M U ∧ xK E U U.heap ∧ xeB E ≤ U.heap.size
def Ct (l : Launch) (E : xE) (m : xMt) (args : List Value) (M : xM) (R : Option Value → xM → Prop) : Prop := Met l (xmy m) (xWd m) (xR (xmd m)) (va_Pc (args.map (xv E)) (xPre E M)) (xQ E R) 0 0 (xA E)
/-- the locals: what is known of each place -/
def xL (E : xE) (nL : Nat) (ls : Array Slot) (L : List (Option Value)) : Prop := L.length = nL ∧ ls.size = nL ∧ lv_wf ls ∧ ∀ (i : Nat) (v : Value), L[i]? = some (some v) → ls[i]? = some (Slot.val (xv E v))
def xCtx (m : xMt) (E : xE) (p : Program) (s : State) (mi : MethodId) (args : Array Value) (meth : Method) (c : Code) : Prop := p.tables.exec = Jvm.exec ∧ c.code = xmb m ∧ c.maxLocals = xmn m ∧ meth.sig.returnType = xmr m ∧ meth.locks = false ∧ s.vm.findClass (xown (xmo m)) = some mi.cls ∧ (∀ w ∈ xTbl, w.before args s = true) ∧ xK E s s.heap ∧ xeB E ≤ s.heap.size
def Gx (l : Launch) (E : xE) (m : xMt) (R : Option Value → xM → Prop) (pc : Nat) (M : xM) (L : List (Option Value)) (st : List Value) : Prop :=
  ∀ (p : Program) (e : Env) (s : State) (mi : MethodId) (args : Array Value) (below : List Frame) (meth : Method) (c : Code) (H : Heap) (locs : List Loc) (ls : Array Slot),
    xCtx m E p s mi args meth c → va_P (xeD E) vwCl (xws E M) H → va_D (xA E) (xws E M) → va_S (xA E) s.heap H locs → xL E (xmn m) ls L →
    W p l e (xR (xmd m)) s mi args below meth c H locs 0 0 (MQ below (xQ E R) args s 0 0 (xA E)) (F0 mi pc ls (st.map (xv E)))
section XR
variable {l : Launch} {E : xE} {m : xMt} {R : Option Value → xM → Prop} {pc : Nat} {M : xM} {L : List (Option Value)} {st : List Value}
-- the end
theorem Gx_iret {x : Int32} {ty : FieldType} (hd : decode (xmb m) pc = .ok (.ireturn, 1)) (hr : xmr m = some ty) (hn : narrow ty (.int x) = .int x) (h : R (some (.int x)) M) : Gx l E m R pc M L [.int x] := by
  intro p e s mi args below meth c H locs ls C hP hD hS hL
  obtain ⟨hx, hb, hml, hrt, hlk, hown, hts, hK, hB⟩ := C
  exact W.zret hx hb (hrt.trans hr) hn (fun t ht hW => ⟨⟨some (.int x), M, rfl, h, by rw [ht]; exact hP, hD⟩, hS.F ht⟩) hS.2.2 hd hlk
theorem Gx_lret {x : Int64} (hd : decode (xmb m) pc = .ok (.lreturn, 1)) (hr : xmr m = some .long) (h : R (some (.long x)) M) : Gx l E m R pc M L [.long x] := by
  intro p e s mi args below meth c H locs ls C hP hD hS hL
  obtain ⟨hx, hb, hml, hrt, hlk, hown, hts, hK, hB⟩ := C
  exact W.lret hx hb (hrt.trans hr) (fun t ht hW => ⟨⟨some (.long x), M, rfl, h, by rw [ht]; exact hP, hD⟩, hS.F ht⟩) hS.2.2 hd hlk
theorem Gx_vret (hd : decode (xmb m) pc = .ok (.return_, 1)) (hr : xmr m = none) (h : R none M) : Gx l E m R pc M L [] := by
  intro p e s mi args below meth c H locs ls C hP hD hS hL
  obtain ⟨hx, hb, hml, hrt, hlk, hown, hts, hK, hB⟩ := C
  exact W.vret hx hb (hrt.trans hr) (fun t ht hW => ⟨⟨none, M, rfl, h, by rw [ht]; exact hP, hD⟩, hS.F ht⟩) hS.2.2 hd hlk
theorem Gx_aret {x : Nat} {n : String} (hd : decode (xmb m) pc = .ok (.areturn, 1)) (hr : xmr m = some (.object n)) (hx0 : x ≠ 103) (h : R (some (.ref x)) M) : Gx l E m R pc M L [.ref x] := by
  intro p e s mi args below meth c H locs ls C hP hD hS hL
  obtain ⟨hx, hb, hml, hrt, hlk, hown, hts, hK, hB⟩ := C
  have e1 : List.map (xv E) [Value.ref x] = [.ref (xeA E x)] := by simp [xv_ref hx0]
  rw [e1]
  exact W.aret hx hb (hrt.trans hr) (Or.inl ⟨n, rfl⟩) (Or.inr ⟨_, rfl⟩) (fun t ht hW => ⟨⟨some (.ref x), M, by simp [xv_ref hx0], h, by rw [ht]; exact hP, hD⟩, hS.F ht⟩) hS.2.2 hd hlk
-- branches
theorem Gx_goto {off : Int} {tgt : Nat} (hd : decode (xmb m) pc = .ok (.goto off, 3)) (ht : (pc : Int) + off = (tgt : Int)) (k : Gx l E m R tgt M L st) : Gx l E m R pc M L st := by
  intro p e s mi args below meth c H locs ls C hP hD hS hL
  exact lv_goto C.1 C.2.1 hd ht (k p e s mi args below meth c H locs ls C hP hD hS hL)
theorem Gx_if_eq {x : Int32} {off : Int} {tgt : Nat} (hd : decode (xmb m) pc = .ok (.ifCond .eq off, 3)) (ht : (pc : Int) + off = (tgt : Int)) (kt : x = 0 → Gx l E m R tgt M L st) (kf : ¬ x = 0 → Gx l E m R (pc + 3) M L st) : Gx l E m R pc M L (.int x :: st) := by
  intro p e s mi args below meth c H locs ls C hP hD hS hL
  exact lv_if_eq C.1 C.2.1 hd ht (fun h => kt h p e s mi args below meth c H locs ls C hP hD hS hL) (fun h => kf h p e s mi args below meth c H locs ls C hP hD hS hL)
theorem Gx_icmp_eq {x y : Int32} {off : Int} {tgt : Nat} (hd : decode (xmb m) pc = .ok (.if_icmp .eq off, 3)) (ht : (pc : Int) + off = (tgt : Int)) (kt : x = y → Gx l E m R tgt M L st) (kf : ¬ x = y → Gx l E m R (pc + 3) M L st) : Gx l E m R pc M L (.int y :: .int x :: st) := by
  intro p e s mi args below meth c H locs ls C hP hD hS hL
  exact lv_icmp_eq C.1 C.2.1 hd ht (fun h => kt h p e s mi args below meth c H locs ls C hP hD hS hL) (fun h => kf h p e s mi args below meth c H locs ls C hP hD hS hL)
theorem Gx_if_ne {x : Int32} {off : Int} {tgt : Nat} (hd : decode (xmb m) pc = .ok (.ifCond .ne off, 3)) (ht : (pc : Int) + off = (tgt : Int)) (kt : ¬ x = 0 → Gx l E m R tgt M L st) (kf : x = 0 → Gx l E m R (pc + 3) M L st) : Gx l E m R pc M L (.int x :: st) := by
  intro p e s mi args below meth c H locs ls C hP hD hS hL
  exact lv_if_ne C.1 C.2.1 hd ht (fun h => kt h p e s mi args below meth c H locs ls C hP hD hS hL) (fun h => kf h p e s mi args below meth c H locs ls C hP hD hS hL)
theorem Gx_icmp_ne {x y : Int32} {off : Int} {tgt : Nat} (hd : decode (xmb m) pc = .ok (.if_icmp .ne off, 3)) (ht : (pc : Int) + off = (tgt : Int)) (kt : ¬ x = y → Gx l E m R tgt M L st) (kf : x = y → Gx l E m R (pc + 3) M L st) : Gx l E m R pc M L (.int y :: .int x :: st) := by
  intro p e s mi args below meth c H locs ls C hP hD hS hL
  exact lv_icmp_ne C.1 C.2.1 hd ht (fun h => kt h p e s mi args below meth c H locs ls C hP hD hS hL) (fun h => kf h p e s mi args below meth c H locs ls C hP hD hS hL)
theorem Gx_if_lt {x : Int32} {off : Int} {tgt : Nat} (hd : decode (xmb m) pc = .ok (.ifCond .lt off, 3)) (ht : (pc : Int) + off = (tgt : Int)) (kt : x < 0 → Gx l E m R tgt M L st) (kf : ¬ x < 0 → Gx l E m R (pc + 3) M L st) : Gx l E m R pc M L (.int x :: st) := by
  intro p e s mi args below meth c H locs ls C hP hD hS hL
  exact lv_if_lt C.1 C.2.1 hd ht (fun h => kt h p e s mi args below meth c H locs ls C hP hD hS hL) (fun h => kf h p e s mi args below meth c H locs ls C hP hD hS hL)
theorem Gx_icmp_lt {x y : Int32} {off : Int} {tgt : Nat} (hd : decode (xmb m) pc = .ok (.if_icmp .lt off, 3)) (ht : (pc : Int) + off = (tgt : Int)) (kt : x < y → Gx l E m R tgt M L st) (kf : ¬ x < y → Gx l E m R (pc + 3) M L st) : Gx l E m R pc M L (.int y :: .int x :: st) := by
  intro p e s mi args below meth c H locs ls C hP hD hS hL
  exact lv_icmp_lt C.1 C.2.1 hd ht (fun h => kt h p e s mi args below meth c H locs ls C hP hD hS hL) (fun h => kf h p e s mi args below meth c H locs ls C hP hD hS hL)
theorem Gx_if_ge {x : Int32} {off : Int} {tgt : Nat} (hd : decode (xmb m) pc = .ok (.ifCond .ge off, 3)) (ht : (pc : Int) + off = (tgt : Int)) (kt : 0 ≤ x → Gx l E m R tgt M L st) (kf : ¬ 0 ≤ x → Gx l E m R (pc + 3) M L st) : Gx l E m R pc M L (.int x :: st) := by
  intro p e s mi args below meth c H locs ls C hP hD hS hL
  exact lv_if_ge C.1 C.2.1 hd ht (fun h => kt h p e s mi args below meth c H locs ls C hP hD hS hL) (fun h => kf h p e s mi args below meth c H locs ls C hP hD hS hL)
theorem Gx_icmp_ge {x y : Int32} {off : Int} {tgt : Nat} (hd : decode (xmb m) pc = .ok (.if_icmp .ge off, 3)) (ht : (pc : Int) + off = (tgt : Int)) (kt : y ≤ x → Gx l E m R tgt M L st) (kf : ¬ y ≤ x → Gx l E m R (pc + 3) M L st) : Gx l E m R pc M L (.int y :: .int x :: st) := by
  intro p e s mi args below meth c H locs ls C hP hD hS hL
  exact lv_icmp_ge C.1 C.2.1 hd ht (fun h => kt h p e s mi args below meth c H locs ls C hP hD hS hL) (fun h => kf h p e s mi args below meth c H locs ls C hP hD hS hL)
theorem Gx_if_gt {x : Int32} {off : Int} {tgt : Nat} (hd : decode (xmb m) pc = .ok (.ifCond .gt off, 3)) (ht : (pc : Int) + off = (tgt : Int)) (kt : 0 < x → Gx l E m R tgt M L st) (kf : ¬ 0 < x → Gx l E m R (pc + 3) M L st) : Gx l E m R pc M L (.int x :: st) := by
  intro p e s mi args below meth c H locs ls C hP hD hS hL
  exact lv_if_gt C.1 C.2.1 hd ht (fun h => kt h p e s mi args below meth c H locs ls C hP hD hS hL) (fun h => kf h p e s mi args below meth c H locs ls C hP hD hS hL)
theorem Gx_icmp_gt {x y : Int32} {off : Int} {tgt : Nat} (hd : decode (xmb m) pc = .ok (.if_icmp .gt off, 3)) (ht : (pc : Int) + off = (tgt : Int)) (kt : y < x → Gx l E m R tgt M L st) (kf : ¬ y < x → Gx l E m R (pc + 3) M L st) : Gx l E m R pc M L (.int y :: .int x :: st) := by
  intro p e s mi args below meth c H locs ls C hP hD hS hL
  exact lv_icmp_gt C.1 C.2.1 hd ht (fun h => kt h p e s mi args below meth c H locs ls C hP hD hS hL) (fun h => kf h p e s mi args below meth c H locs ls C hP hD hS hL)
theorem Gx_if_le {x : Int32} {off : Int} {tgt : Nat} (hd : decode (xmb m) pc = .ok (.ifCond .le off, 3)) (ht : (pc : Int) + off = (tgt : Int)) (kt : x ≤ 0 → Gx l E m R tgt M L st) (kf : ¬ x ≤ 0 → Gx l E m R (pc + 3) M L st) : Gx l E m R pc M L (.int x :: st) := by
  intro p e s mi args below meth c H locs ls C hP hD hS hL
  exact lv_if_le C.1 C.2.1 hd ht (fun h => kt h p e s mi args below meth c H locs ls C hP hD hS hL) (fun h => kf h p e s mi args below meth c H locs ls C hP hD hS hL)
theorem Gx_icmp_le {x y : Int32} {off : Int} {tgt : Nat} (hd : decode (xmb m) pc = .ok (.if_icmp .le off, 3)) (ht : (pc : Int) + off = (tgt : Int)) (kt : x ≤ y → Gx l E m R tgt M L st) (kf : ¬ x ≤ y → Gx l E m R (pc + 3) M L st) : Gx l E m R pc M L (.int y :: .int x :: st) := by
  intro p e s mi args below meth c H locs ls C hP hD hS hL
  exact lv_icmp_le C.1 C.2.1 hd ht (fun h => kt h p e s mi args below meth c H locs ls C hP hD hS hL) (fun h => kf h p e s mi args below meth c H locs ls C hP hD hS hL)
theorem Gx_lookup {dflt : Int} {ps : Array (Int × Int)} {len : Nat} {x : Int32} {off : Int} {tgt : Nat} (hd : decode (xmb m) pc = .ok (.lookupswitch dflt ps, len)) (hp : (ps.toList.zip (ps.toList.drop 1)).all (fun (a, next) => a.1 < next.1) = true) (ho : Op.lookupswitch.offset ps.toList dflt x.toInt = off) (ht : (pc : Int) + off = (tgt : Int)) (k : Gx l E m R tgt M L st) : Gx l E m R pc M L (.int x :: st) := by
  intro p e s mi args below meth c H locs ls C hP hD hS hL
  exact lv_lookup C.1 C.2.1 hd hp ho ht (k p e s mi args below meth c H locs ls C hP hD hS hL)
theorem Gx_tableOut {dflt lo hi : Int} {offs : Array Int} {len : Nat} {x : Int32} {tgt : Nat} (hd : decode (xmb m) pc = .ok (.tableswitch dflt lo hi offs, len)) (h : x.toInt < lo ∨ hi < x.toInt) (ht : (pc : Int) + dflt = (tgt : Int)) (k : Gx l E m R tgt M L st) : Gx l E m R pc M L (.int x :: st) := by
  intro p e s mi args below meth c H locs ls C hP hD hS hL
  exact lv_tableOut C.1 C.2.1 hd h ht (k p e s mi args below meth c H locs ls C hP hD hS hL)
theorem Gx_tableIn {dflt lo hi : Int} {offs : Array Int} {len : Nat} {x : Int32} {off : Int} {tgt : Nat} (hd : decode (xmb m) pc = .ok (.tableswitch dflt lo hi offs, len)) (h1 : ¬ x.toInt < lo) (h2 : ¬ hi < x.toInt) (ho : offs[(x.toInt - lo).toNat]? = some off) (ht : (pc : Int) + off = (tgt : Int)) (k : Gx l E m R tgt M L st) : Gx l E m R pc M L (.int x :: st) := by
  intro p e s mi args below meth c H locs ls C hP hD hS hL
  exact lv_tableIn C.1 C.2.1 hd h1 h2 ho ht (k p e s mi args below meth c H locs ls C hP hD hS hL)
end XR
-- the way in
def xent : List Value → List (Option Value)
  | [] => []
  | v :: vs => if v.category = 2 then some v :: none :: xent vs else some v :: xent vs
def xin (args : List Value) (n : Nat) : List (Option Value) := xent args ++ List.replicate (n - (xent args).length) none
theorem xv_cat {E : xE} (hS : xeS E = .null ∨ ∃ t, xeS E = .ref t) (v : Value) : (xv E v).category = v.category := by
  cases v with
  | ref k =>
    show (if k = 103 then xeS E else .ref (xeA E k)).category = _
    by_cases hk : k = 103
    · rw [if_pos hk]
      rcases hS with h | ⟨t, h⟩ <;> rw [h] <;> rfl
    · rw [if_neg hk]; rfl
  | _ => rfl
theorem xent_len {E : xE} (hS : xeS E = .null ∨ ∃ t, xeS E = .ref t) (vs : List Value) : (lg_sl (vs.map (xv E))).length = (xent vs).length := by
  induction vs with
  | nil => rfl
  | cons v vs ih =>
    have e1 : lg_sl (List.map (xv E) (v :: vs)) = (if (xv E v).category = 2 then [Slot.val (xv E v), Slot.second] else [Slot.val (xv E v)]) ++ lg_sl (vs.map (xv E)) := by simp [lg_sl]
    rw [e1, List.length_append, ih, xv_cat hS, xent]
    split
    · simp only [List.length_cons, List.length_nil]; omega
    · simp only [List.length_cons, List.length_nil]; omega
theorem xent_args {E : xE} (hS : xeS E = .null ∨ ∃ t, xeS E = .ref t) (vs : List Value) : ∀ (k i : Nat) (v : Value), (xent vs)[i]? = some (some v) → (k + i, xv E v) ∈ lv_args k (vs.map (xv E)) := by
  induction vs with
  | nil => intro k i v h; simp [xent] at h
  | cons w vs ih =>
    intro k i v h
    rw [List.map_cons]
    rw [lv_args, xv_cat hS]
    rw [xent] at h
    split at h
    · rename_i hc
      rw [if_pos hc]
      match i, h with
      | 0, h => simp only [List.getElem?_cons_zero, Option.some.injEq] at h; subst h; exact List.mem_cons_self
      | 1, h => simp at h
      | i + 2, h =>
        have := ih (k + 2) i v (by simpa using h)
        exact List.mem_cons_of_mem _ (by rwa [show k + (i + 2) = k + 2 + i by omega])
    · rename_i hc
      rw [if_neg hc]
      match i, h with
      | 0, h => simp only [List.getElem?_cons_zero, Option.some.injEq] at h; subst h; exact List.mem_cons_self
      | i + 1, h =>
        have := ih (k + 1) i v (by simpa using h)
        exact List.mem_cons_of_mem _ (by rwa [show k + (i + 1) = k + 1 + i by omega])
theorem xin_has {E : xE} (hS : xeS E = .null ∨ ∃ t, xeS E = .ref t) {vs : List Value} {n : Nat} (h : (xent vs).length ≤ n) : xL E n ((lg_sl (vs.map (xv E)) ++ List.replicate (n - (lg_sl (vs.map (xv E))).length) Slot.unset).toArray) (xin vs n) := by
  obtain ⟨h1, h2, h3⟩ := lv_entry (vs.map (xv E)) (n := n) (by rw [xent_len hS]; exact h)
  refine ⟨by unfold xin; rw [List.length_append, List.length_replicate]; omega, h1, h2, fun i v hv => ?_⟩
  unfold xin at hv
  rcases Nat.lt_or_ge i (xent vs).length with q | q
  · rw [List.getElem?_append_left q] at hv
    have := h3 _ (xent_args hS vs 0 i v hv)
    simpa using this
  · rw [List.getElem?_append_right q] at hv
    have := List.eq_of_mem_replicate (List.mem_of_getElem? hv)
    cases this
theorem Ct_of {l : Launch} {E : xE} {m : xMt} {vs : List Value} {M : xM} {R : Option Value → xM → Prop} (hy : plainName (xmy m).cls = true) (ho : (xmy m).cls = xown (xmo m)) (hn : (xent vs).length ≤ xmn m) (k : Gx l E m R 0 M (xin vs (xmn m)) []) : Ct l E m vs M R := by
  refine Met.ofW (cc := xmb m) (maxL := xmn m) (ret := xmr m) (ws' := xTbl) hy rfl ?_
  intro p e s mi args below meth c s₁ B hml hv
  obtain ⟨rfl, ⟨hP, hD⟩, hK, hB⟩ := hv
  have hts := atoms_spec (ws := xWd m) B.pre
  have hown : s.vm.findClass (xmy m).cls = some mi.cls := findClass_of_methodNamed B.named
  have hSi := hK.2.1.2.2.2.2.2.2.1
  rw [lg_entry_eq]
  exact k p e s mi _ below meth c s.heap [] _ ⟨B.exec, B.bytes, hml, B.returns, B.notSynchronized, ho ▸ hown, fun w h => hts w (List.mem_cons_of_mem _ h), hK, hB⟩ hP hD va_S.rf (xin_has hSi hn)
end
section
/-! calls over the abstract machine -/
def xMok (m : xMt) (n : Nat) : Prop := Cond.code (xmy m) (xmb m) (xmn m) (xmr m) ∈ xTbl ∧ Cond.initialized (xmy m).cls ∈ xTbl ∧ ((xmy m).cls ≠ "java/lang/invoke/MethodHandle" ∧ (xmy m).cls ≠ "java/lang/invoke/VarHandle" ∧ (parseMethodDescriptor (xmy m).desc).map (fun d => d.parameters.length) = some n) ∧ xmn m ≤ 20
def xMv (m : xMt) : Prop := Cond.instanceMethod (xmy m) ∈ xTbl ∧ Cond.selects (xmy m).cls (xmy m) (xmy m) ∈ xTbl
theorem xWd_good {m : xMt} {n : Nat} (h : xMok m n) : GoodIn xTbl (xWd m) := by
  intro w hw
  rcases List.mem_cons.mp hw with rfl | hw
  · exact ⟨h.1, xTbl_good _ h.1⟩
  · exact ⟨hw, xTbl_good _ hw⟩
theorem x_room {d d' nL : Nat} (h : d' + 1 ≤ d) (hn : nL ≤ 20) : (xR d').frames + 1 ≤ (xR d).frames ∧ 8 + (nL + 11) + (xR d').locals ≤ (xR d).locals := by
  simp only [xR]
  omega
theorem xPre_blind {E : xE} {M : xM} {av : List Value} : FrameBlind (va_Pc av (xPre E M)) := by
  intro a U g mk q
  obtain ⟨q0, ⟨q1, q2⟩, ⟨q3, q4, q5⟩, q6⟩ := q
  exact ⟨q0, ⟨q1, q2⟩, ⟨va_K.moved (u := U) (U := U.calling g mk a) (Vm.Alike.refl U.vm) q3, xSta.moved (u := U) (U := U.calling g mk a) (Vm.Alike.refl U.vm) q4, xLnk.same (u := U) (U := U.calling g mk a) rfl q5⟩, q6⟩
theorem xPre_at {E : xE} {M : xM} {s U : State} {H : Heap} {locs : List Loc} (hK : xK E s s.heap) (hB : xeB E ≤ s.heap.size) (hP : va_P (xeD E) vwCl (xws E M) H) (hD : va_D (xA E) (xws E M)) (hS : va_S (xA E) s.heap H locs) (hU : U.heap = H) (hW : s.WarmedH U.vm) : xPre E M U := by
  subst hU
  exact ⟨⟨hP, hD⟩, ⟨va_K.moved hW.alike hK.1, (hK.2.1.kept hS.2.1).moved hW.alike, hK.2.2.warm hW⟩, Nat.le_trans hB hS.1⟩
section XC
variable {p : Program} {l : Launch} {e : Env} {Rm : Room} {s : State} {m : MethodId} {args : Array Value} {below : List Frame} {meth : Method} {c : Code} {H : Heap} {locs : List Loc} {Q : State → Prop} {pc : Nat} {ls : Array Slot} {rest st0 : List Value} {a : Array Value} {E : xE}
theorem x_call {R' : Option Value → xM → Prop} (hr : va_Run p l e Rm s m args below meth c H locs 0 0 0 0 (F0 m pc ls st0) rest (xQ E R' a) (xA E)) (hS : va_S (xA E) s.heap H locs)
    (kk : ∀ (r : Option Value) (M' : xM) (H1 : Heap) (locs1 : List Loc), R' r M' → va_P (xeD E) vwCl (xws E M') H1 → va_D (xA E) (xws E M') → va_S (xA E) s.heap H1 locs1 → W p l e Rm s m args below meth c H1 locs1 0 0 Q (F0 m (pc + 3) ls ((r.map (xv E)).toList ++ rest))) : W p l e Rm s m args below meth c H locs 0 0 Q (F0 m pc ls st0) := by
  intro T hT X
  obtain ⟨v, st₀, t, T', L, h0, X', hL, e1, e2, ⟨⟨r, M', hv, hp, hb⟩, hz, hk⟩, st⟩ := hr T hT X
  cases hv
  rw [h0] at hz hk
  obtain ⟨t2, a1, b1⟩ := kk r M' T'.heap (locs ++ L) hp (by rw [e1]; exact hb.1) hb.2
    ⟨Nat.le_trans hS.1 (by rw [e1]; exact hz), fun q h1 h2 => by rw [e1, hk q (Nat.lt_of_lt_of_le h1 hS.1) h2]; exact hS.2.1 q h1 h2, fun q hq => by
      rcases List.mem_append.mp hq with h | h
      · exact hS.2.2 q h
      · exact hL q h⟩ T' rfl X'
  exact ⟨t2, st t2 a1, b1⟩
end XC
section XR
variable {l : Launch} {E : xE} {m : xMt} {R : Option Value → xM → Prop} {pc : Nat} {M : xM} {L : List (Option Value)} {rest : List Value}
theorem x_rest {mi : MethodId} {ls : Array Slot} {st : List Value} {E : xE} (hS : xeS E = .null ∨ ∃ t, xeS E = .ref t) (h : (rest.map fun v => v.category).sum ≤ 8) : 2 * (F0 mi pc ls st).monitorRoom + ((rest.map (xv E)).map fun v => v.category).sum ≤ 8 := by
  apply lv_room
  rw [List.map_map]
  have e1 : ((fun v => v.category) ∘ xv E) = (fun v : Value => v.category) := funext fun v => xv_cat hS v
  rw [e1]
  exact h
theorem x_stackV {As : List Value} {q : Nat} (hq : q ≠ 103) : List.map (xv E) (As.reverse ++ .ref q :: rest) = (As.map (xv E)).reverse ++ .ref (xeA E q) :: rest.map (xv E) := by simp [xv_ref hq]
theorem x_stackS {As : List Value} : List.map (xv E) (As.reverse ++ rest) = (As.map (xv E)).reverse ++ rest.map (xv E) := by simp
/-- a call of a method of one of the system's objects, or of a string constant -/
theorem Gx_callR {mc : xMt} {n idx q : Nat} {As : List Value} {R' : Option Value → xM → Prop} (hd : decode (xmb m) pc = .ok (.invokevirtual idx, 3)) (hl : Cond.methodLink (xown (xmo m)) idx (xmy mc) ∈ xTbl) (hm : xMok mc n) (hv : xMv mc) (hn : As.length = n) (hdep : xmd mc + 1 ≤ xmd m) (hrest : (rest.map fun v => v.category).sum ≤ 8) (hq : q ≠ 103)
    (hrc : ∀ (s : State) (H : Heap) (locs : List Loc), xK E s s.heap → va_P (xeD E) vwCl (xws E M) H → va_S (xA E) s.heap H locs → ∃ cell : Cell, H[xeA E q]? = some cell ∧ cell.vm.isStatics = false ∧ s.vm.findClass (xmy mc).cls = some cell.cls)
    (hC : Ct l E mc (.ref q :: As) M R') (k : ∀ r M', R' r M' → Gx l E m R (pc + 3) M' L (r.toList ++ rest)) : Gx l E m R pc M L (As.reverse ++ .ref q :: rest) := by
  intro p e s mi args below meth c H locs ls C hP hD hS hL
  have C0 := C
  obtain ⟨hx, hb, hml, hrt, hlk, hown, hts, hK, hB⟩ := C
  have hSi := hK.2.1.2.2.2.2.2.2.1
  rw [x_stackV hq]
  refine x_call (va_runV (own := xown (xmo m)) (C := (xmy mc).cls) (As := As.map (xv E)) (rest := rest.map (xv E)) (b := xeA E q) (ws := xWd mc) (rm := xR (xmd mc)) (Ts := xTbl) ⟨hx, hb, hml, hown, hts⟩ hC ⟨callB_of n hts (xWd_good hm) rfl rfl rfl (hts _ hm.2.1) (hts _ hl) hm.2.2.1 (x_room hdep hm.2.2.2), hts _ hv.1, hts _ hv.2⟩ ⟨xPre_blind, hrc s H locs hK hP hS, fun U hU hW => ⟨by simp [xv_ref hq], xPre_at hK hB hP hD hS hU hW⟩⟩ rfl (by rw [List.length_map]; exact hn) hL.2.1 rfl (x_rest hSi hrest) hd ⟨Nat.zero_le _, Nat.zero_le _⟩) hS (fun r M' H1 locs1 hR hP1 hD1 hS1 => ?_)
  have := k r M' hR p e s mi args below meth c H1 locs1 ls C0 hP1 hD1 hS1 hL
  rw [List.map_append] at this
  have e1 : List.map (xv E) r.toList = (r.map (xv E)).toList := by cases r <;> rfl
  rw [e1] at this
  exact this
theorem Gx_callV {mc : xMt} {n idx q ci : Nat} {rc : vw_C} {As : List Value} {R' : Option Value → xM → Prop} (hd : decode (xmb m) pc = .ok (.invokevirtual idx, 3)) (hl : Cond.methodLink (xown (xmo m)) idx (xmy mc) ∈ xTbl) (hm : xMok mc n) (hv : xMv mc) (hn : As.length = n) (hdep : xmd mc + 1 ≤ xmd m) (hrest : (rest.map fun v => v.category).sum ≤ 8)
    (hk : xkd q = ci) (hc : vwCl[ci]? = some rc) (he : rc.1 = (xmy mc).cls)
    (hC : Ct l E mc (.ref q :: As) M R') (k : ∀ r M', R' r M' → Gx l E m R (pc + 3) M' L (r.toList ++ rest)) : Gx l E m R pc M L (As.reverse ++ .ref q :: rest) := by
  have hci : ci < 5 := (List.getElem?_eq_some_iff.mp hc).1
  have hq : q < 60 := xkd_lt (by omega)
  refine Gx_callR hd hl hm hv hn hdep hrest (by omega) (fun s H locs hK hP hS => ?_) hC k
  have h1 := xws_get E M hq
  rw [xcell_obj E M hk (by omega)] at h1
  have h2 := va_recv hK.1 hP hc h1
  rw [he] at h2
  exact h2
theorem Gx_callT {mc : xMt} {n idx i : Nat} {As : List Value} {R' : Option Value → xM → Prop} (hd : decode (xmb m) pc = .ok (.invokevirtual idx, 3)) (hl : Cond.methodLink (xown (xmo m)) idx (xmy mc) ∈ xTbl) (hm : xMok mc n) (hv : xMv mc) (hn : As.length = n) (hdep : xmd mc + 1 ≤ xmd m) (hrest : (rest.map fun v => v.category).sum ≤ 8)
    (hi : i < 9) (he : (xmy mc).cls = "java/lang/String")
    (hC : Ct l E mc (.ref (110 + i) :: As) M R') (k : ∀ r M', R' r M' → Gx l E m R (pc + 3) M' L (r.toList ++ rest)) : Gx l E m R pc M L (As.reverse ++ .ref (110 + i) :: rest) := by
  refine Gx_callR hd hl hm hv hn hdep hrest (by omega) (fun s H locs hK hP hS => ?_) hC k
  obtain ⟨cell, h1, h2, h3, -⟩ := (hK.2.1.2.2.2.2.2.2.2 i hi).1.kept hS.2.1
  exact ⟨cell, h1, h2, he ▸ h3⟩
theorem Gx_callS {mc : xMt} {n idx : Nat} {As : List Value} {R' : Option Value → xM → Prop} (hd : decode (xmb m) pc = .ok (.invokestatic idx, 3)) (hl : Cond.methodLink (xown (xmo m)) idx (xmy mc) ∈ xTbl) (hm : xMok mc n) (hv : Cond.static (xmy mc) ∈ xTbl) (hn : As.length = n) (hdep : xmd mc + 1 ≤ xmd m) (hrest : (rest.map fun v => v.category).sum ≤ 8)
    (hC : Ct l E mc As M R') (k : ∀ r M', R' r M' → Gx l E m R (pc + 3) M' L (r.toList ++ rest)) : Gx l E m R pc M L (As.reverse ++ rest) := by
  intro p e s mi args below meth c H locs ls C hP hD hS hL
  have C0 := C
  obtain ⟨hx, hb, hml, hrt, hlk, hown, hts, hK, hB⟩ := C
  have hSi := hK.2.1.2.2.2.2.2.2.1
  rw [x_stackS]
  refine x_call (va_runS (own := xown (xmo m)) (As := As.map (xv E)) (rest := rest.map (xv E)) (ws := xWd mc) (rm := xR (xmd mc)) (Ts := xTbl) ⟨hx, hb, hml, hown, hts⟩ hC ⟨callB_of n hts (xWd_good hm) rfl rfl rfl (hts _ hm.2.1) (hts _ hl) hm.2.2.1 (x_room hdep hm.2.2.2), hts _ hv⟩ ⟨xPre_blind, fun U hU hW => ⟨rfl, xPre_at hK hB hP hD hS hU hW⟩⟩ rfl (by rw [List.length_map]; exact hn) hL.2.1 rfl (x_rest hSi hrest) hd ⟨Nat.zero_le _, Nat.zero_le _⟩) hS (fun r M' H1 locs1 hR hP1 hD1 hS1 => ?_)
  have := k r M' hR p e s mi args below meth c H1 locs1 ls C0 hP1 hD1 hS1 hL
  rw [List.map_append] at this
  have e1 : List.map (xv E) r.toList = (r.map (xv E)).toList := by cases r <;> rfl
  rw [e1] at this
  exact this
/-- a call of the class's isOutside out of Volume -/
theorem Gx_callN {mc : xMt} {n : Nat} {As : List Value} {R' : Option Value → xM → Prop} (hd : decode (xmb m) pc = .ok (.invokestatic 53, 3)) (ho : xmo m = 2) (hy : xmy mc = yX3_isOutside) (hm : xMok mc n) (hv : Cond.static (xmy mc) ∈ xTbl) (hn : As.length = n) (hdep : xmd mc + 1 ≤ xmd m) (hrest : (rest.map fun v => v.category).sum ≤ 8)
    (hC : Ct l E mc As M R') (k : ∀ r M', R' r M' → Gx l E m R (pc + 3) M' L (r.toList ++ rest)) : Gx l E m R pc M L (As.reverse ++ rest) := by
  intro p e s mi args below meth c H locs ls C hP hD hS hL
  have C0 := C
  obtain ⟨hx, hb, hml, hrt, hlk, hown, hts, hK, hB⟩ := C
  have hSi := hK.2.1.2.2.2.2.2.2.1
  rw [x_stackS]
  have hl : va_Nw (.methodLinkNest RX2 53 (xmy mc) RX3) s := by rw [hy]; exact hK.2.2.2.2.2.2
  have hown2 : s.vm.findClass RX2 = some mi.cls := by rw [ho] at hown; exact hown
  refine x_call (va_runSN (own := RX2) (host := RX3) (As := As.map (xv E)) (rest := rest.map (xv E)) (ws := xWd mc) (rm := xR (xmd mc)) (Ts := xTbl) ⟨hx, hb, hml, hown2, hts⟩ hC ⟨va_cnB n hts (xWd_good hm) rfl rfl rfl hl (hts _ hm.2.1) hm.2.2.1 (x_room hdep hm.2.2.2), hts _ hv, trivial⟩ ⟨xPre_blind, fun U hU hW => ⟨rfl, xPre_at hK hB hP hD hS hU hW⟩⟩ rfl (by rw [List.length_map]; exact hn) hL.2.1 rfl (x_rest hSi hrest) hd ⟨Nat.zero_le _, Nat.zero_le _⟩) hS (fun r M' H1 locs1 hR hP1 hD1 hS1 => ?_)
  have := k r M' hR p e s mi args below meth c H1 locs1 ls C0 hP1 hD1 hS1 hL
  rw [List.map_append] at this
  have e1 : List.map (xv E) r.toList = (r.map (xv E)).toList := by cases r <;> rfl
  rw [e1] at this
  exact this
/-- System.arraycopy of a whole row's begin -/
theorem Gx_copy {idx q1 q0 : Nat} {sp dp n : Int32} (hd : decode (xmb m) pc = .ok (.invokestatic idx, 3)) (hl : Cond.methodLink (xown (xmo m)) idx arraycopyName ∈ xTbl) (hnat : Cond.native arraycopyName ∈ xTbl) (hst : Cond.static arraycopyName ∈ xTbl) (hini : Cond.initialized "java/lang/System" ∈ xTbl) (hdep : 1 ≤ xmd m) (hrest : (rest.map fun v => v.category).sum ≤ 8)
    (k0 : xkd q0 = 5) (k1 : xkd q1 = 5) (h1 : ¬ sp < 0) (h2 : ¬ dp < 0) (h3 : ¬ n < 0) (h4 : sp.toNatClampNeg + n.toNatClampNeg ≤ xln q0) (h5 : dp.toNatClampNeg + n.toNatClampNeg ≤ xln q1)
    (k : Gx l E m R (pc + 3) (fun a => if a = q1 then va_cpy (M q0) (M q1) sp.toNatClampNeg dp.toNatClampNeg n.toNatClampNeg else M a) L rest) : Gx l E m R pc M L (.int n :: .int dp :: .ref q1 :: .int sp :: .ref q0 :: rest) := by
  intro p e s mi args below meth c H locs ls C hP hD hS hL
  have C0 := C
  obtain ⟨hx, hb, hml, hrt, hlk, hown, hts, hK, hB⟩ := C
  have hSi := hK.2.1.2.2.2.2.2.2.1
  have hq0 : q0 < 60 := xkd_lt (by omega)
  have hq1 : q1 < 60 := xkd_lt (by omega)
  have e1 : List.map (xv E) (.int n :: .int dp :: .ref q1 :: .int sp :: .ref q0 :: rest) = .int n :: .int dp :: .ref (xeA E q1) :: .int sp :: .ref (xeA E q0) :: rest.map (xv E) := by
    simp [xv_int, xv_ref (E := E) (show q0 ≠ 103 by omega), xv_ref (E := E) (show q1 ≠ 103 by omega)]
  rw [e1]
  have g0 := xws_get E M hq0
  have g1 := xws_get E M hq1
  rw [xcell_row E M k0] at g0
  rw [xcell_row E M k1] at g1
  have hsum : ((rest.map (xv E)).map fun v => v.category).sum ≤ 8 := by
    have := x_rest (rest := rest) (pc := 0) (mi := mi) (ls := #[]) (st := []) hSi hrest
    omega
  refine va_copyi hx hb (hml.trans hL.2.1.symm) hown (hts _ hl) (hts _ hnat) (hts _ hst) (hts _ hini) hK.1 hP hD hS q0 q1 0 0 g0 g1 rfl rfl rfl h1 h2 h3 h4 h5 (fun i _ => rfl) hdep ?_ hd (fun H1 locs1 hP1 hD1 hS1 => ?_)
  · have : nativeFrameWords "java/lang/System" "arraycopy" 5 ≤ 20 := by decide +kernel
    simp only [xR]
    omega
  · rw [xws_set E M (fun a => if a = q1 then va_cpy (M q0) (M q1) sp.toNatClampNeg dp.toNatClampNeg n.toNatClampNeg else M a) hq1 (fun a ha => by simp [ha]) (by rw [xcell_row E _ k1]; simp)] at hP1 hD1
    exact k p e s mi args below meth c H1 locs1 ls C0 hP1 hD1 hS1 hL
end XR
end
section
/-! straight stretches of code over the abstract machine: xs computes them, Gx_run says that the machine follows -/
section XI
variable {l : Launch} {E : xE} {m : xMt} {R : Option Value → xM → Prop} {pc : Nat} {M : xM} {L : List (Option Value)} {st : List Value}
theorem Gx_iadd {x y : Int32} (hd : decode (xmb m) pc = .ok (.iadd, 1)) (k : Gx l E m R (pc + 1) M L (.int (x + y) :: st)) : Gx l E m R pc M L (.int y :: .int x :: st) := by
  intro p e s mi args below meth c H locs ls C hP hD hS hL
  exact lv_iadd C.1 C.2.1 hd (k p e s mi args below meth c H locs ls C hP hD hS hL)
theorem Gx_isub {x y : Int32} (hd : decode (xmb m) pc = .ok (.isub, 1)) (k : Gx l E m R (pc + 1) M L (.int (x - y) :: st)) : Gx l E m R pc M L (.int y :: .int x :: st) := by
  intro p e s mi args below meth c H locs ls C hP hD hS hL
  exact lv_isub C.1 C.2.1 hd (k p e s mi args below meth c H locs ls C hP hD hS hL)
theorem Gx_imul {x y : Int32} (hd : decode (xmb m) pc = .ok (.imul, 1)) (k : Gx l E m R (pc + 1) M L (.int (x * y) :: st)) : Gx l E m R pc M L (.int y :: .int x :: st) := by
  intro p e s mi args below meth c H locs ls C hP hD hS hL
  exact lv_imul C.1 C.2.1 hd (k p e s mi args below meth c H locs ls C hP hD hS hL)
theorem Gx_iand {x y : Int32} (hd : decode (xmb m) pc = .ok (.iand, 1)) (k : Gx l E m R (pc + 1) M L (.int (x &&& y) :: st)) : Gx l E m R pc M L (.int y :: .int x :: st) := by
  intro p e s mi args below meth c H locs ls C hP hD hS hL
  exact lv_iand C.1 C.2.1 hd (k p e s mi args below meth c H locs ls C hP hD hS hL)
theorem Gx_ior {x y : Int32} (hd : decode (xmb m) pc = .ok (.ior, 1)) (k : Gx l E m R (pc + 1) M L (.int (x ||| y) :: st)) : Gx l E m R pc M L (.int y :: .int x :: st) := by
  intro p e s mi args below meth c H locs ls C hP hD hS hL
  exact lv_ior C.1 C.2.1 hd (k p e s mi args below meth c H locs ls C hP hD hS hL)
theorem Gx_ixor {x y : Int32} (hd : decode (xmb m) pc = .ok (.ixor, 1)) (k : Gx l E m R (pc + 1) M L (.int (x ^^^ y) :: st)) : Gx l E m R pc M L (.int y :: .int x :: st) := by
  intro p e s mi args below meth c H locs ls C hP hD hS hL
  exact lv_ixor C.1 C.2.1 hd (k p e s mi args below meth c H locs ls C hP hD hS hL)
theorem Gx_ishl {x y : Int32} (hd : decode (xmb m) pc = .ok (.ishl, 1)) (k : Gx l E m R (pc + 1) M L (.int (x <<< (y &&& 31)) :: st)) : Gx l E m R pc M L (.int y :: .int x :: st) := by
  intro p e s mi args below meth c H locs ls C hP hD hS hL
  exact lv_ishl C.1 C.2.1 hd (k p e s mi args below meth c H locs ls C hP hD hS hL)
theorem Gx_ishr {x y : Int32} (hd : decode (xmb m) pc = .ok (.ishr, 1)) (k : Gx l E m R (pc + 1) M L (.int (x >>> (y &&& 31)) :: st)) : Gx l E m R pc M L (.int y :: .int x :: st) := by
  intro p e s mi args below meth c H locs ls C hP hD hS hL
  exact lv_ishr C.1 C.2.1 hd (k p e s mi args below meth c H locs ls C hP hD hS hL)
theorem Gx_idiv {x y : Int32} (hd : decode (xmb m) pc = .ok (.idiv, 1)) (hne : ¬ y = 0) (k : Gx l E m R (pc + 1) M L (.int (x / y) :: st)) : Gx l E m R pc M L (.int y :: .int x :: st) := by
  intro p e s mi args below meth c H locs ls C hP hD hS hL
  exact lv_idiv C.1 C.2.1 hd hne (k p e s mi args below meth c H locs ls C hP hD hS hL)
theorem Gx_irem {x y : Int32} (hd : decode (xmb m) pc = .ok (.irem, 1)) (hne : ¬ y = 0) (k : Gx l E m R (pc + 1) M L (.int (x - x / y * y) :: st)) : Gx l E m R pc M L (.int y :: .int x :: st) := by
  intro p e s mi args below meth c H locs ls C hP hD hS hL
  exact lv_irem C.1 C.2.1 hd hne (k p e s mi args below meth c H locs ls C hP hD hS hL)
theorem Gx_iushr {x y : Int32} (hd : decode (xmb m) pc = .ok (.iushr, 1)) (k : Gx l E m R (pc + 1) M L (.int (x.toUInt32 >>> (y.toUInt32 &&& Int32.toUInt32 31)).toInt32 :: st)) : Gx l E m R pc M L (.int y :: .int x :: st) := by
  intro p e s mi args below meth c H locs ls C hP hD hS hL
  exact lv_iushr C.1 C.2.1 hd rfl (k p e s mi args below meth c H locs ls C hP hD hS hL)
theorem Gx_ineg {x : Int32} (hd : decode (xmb m) pc = .ok (.ineg, 1)) (k : Gx l E m R (pc + 1) M L (.int (-x) :: st)) : Gx l E m R pc M L (.int x :: st) := by
  intro p e s mi args below meth c H locs ls C hP hD hS hL
  exact lv_ineg C.1 C.2.1 hd (k p e s mi args below meth c H locs ls C hP hD hS hL)
theorem Gx_ladd {x y : Int64} (hd : decode (xmb m) pc = .ok (.ladd, 1)) (k : Gx l E m R (pc + 1) M L (.long (x + y) :: st)) : Gx l E m R pc M L (.long y :: .long x :: st) := by
  intro p e s mi args below meth c H locs ls C hP hD hS hL
  exact lv_ladd C.1 C.2.1 hd (k p e s mi args below meth c H locs ls C hP hD hS hL)
theorem Gx_lsub {x y : Int64} (hd : decode (xmb m) pc = .ok (.lsub, 1)) (k : Gx l E m R (pc + 1) M L (.long (x - y) :: st)) : Gx l E m R pc M L (.long y :: .long x :: st) := by
  intro p e s mi args below meth c H locs ls C hP hD hS hL
  exact lv_lsub C.1 C.2.1 hd (k p e s mi args below meth c H locs ls C hP hD hS hL)
theorem Gx_lmul {x y : Int64} (hd : decode (xmb m) pc = .ok (.lmul, 1)) (k : Gx l E m R (pc + 1) M L (.long (x * y) :: st)) : Gx l E m R pc M L (.long y :: .long x :: st) := by
  intro p e s mi args below meth c H locs ls C hP hD hS hL
  exact lv_lmul C.1 C.2.1 hd (k p e s mi args below meth c H locs ls C hP hD hS hL)
theorem Gx_ldiv {x y : Int64} (hd : decode (xmb m) pc = .ok (.ldiv, 1)) (hne : ¬ y = 0) (k : Gx l E m R (pc + 1) M L (.long (x / y) :: st)) : Gx l E m R pc M L (.long y :: .long x :: st) := by
  intro p e s mi args below meth c H locs ls C hP hD hS hL
  exact lv_ldiv C.1 C.2.1 hd hne (k p e s mi args below meth c H locs ls C hP hD hS hL)
theorem Gx_lrem {x y : Int64} (hd : decode (xmb m) pc = .ok (.lrem, 1)) (hne : ¬ y = 0) (k : Gx l E m R (pc + 1) M L (.long (x - x / y * y) :: st)) : Gx l E m R pc M L (.long y :: .long x :: st) := by
  intro p e s mi args below meth c H locs ls C hP hD hS hL
  exact lv_lrem C.1 C.2.1 hd hne (k p e s mi args below meth c H locs ls C hP hD hS hL)
theorem Gx_lcmp {x y : Int64} (hd : decode (xmb m) pc = .ok (.lcmp, 1)) (k : Gx l E m R (pc + 1) M L (.int (lg_cmp x y) :: st)) : Gx l E m R pc M L (.long y :: .long x :: st) := by
  intro p e s mi args below meth c H locs ls C hP hD hS hL
  exact W.lcmp C.1 C.2.1 hd (k p e s mi args below meth c H locs ls C hP hD hS hL)
theorem Gx_i2l {x : Int32} (hd : decode (xmb m) pc = .ok (.i2l, 1)) (k : Gx l E m R (pc + 1) M L (.long x.toInt64 :: st)) : Gx l E m R pc M L (.int x :: st) := by
  intro p e s mi args below meth c H locs ls C hP hD hS hL
  exact lv_i2l C.1 C.2.1 hd rfl (k p e s mi args below meth c H locs ls C hP hD hS hL)
theorem Gx_i2b {x : Int32} (hd : decode (xmb m) pc = .ok (.i2b, 1)) (k : Gx l E m R (pc + 1) M L (.int x.toInt8.toInt32 :: st)) : Gx l E m R pc M L (.int x :: st) := by
  intro p e s mi args below meth c H locs ls C hP hD hS hL
  exact lv_i2b C.1 C.2.1 hd rfl (k p e s mi args below meth c H locs ls C hP hD hS hL)
theorem Gx_i2c {x : Int32} (hd : decode (xmb m) pc = .ok (.i2c, 1)) (k : Gx l E m R (pc + 1) M L (.int (x.toUInt32 % 65536).toInt32 :: st)) : Gx l E m R pc M L (.int x :: st) := by
  intro p e s mi args below meth c H locs ls C hP hD hS hL
  exact lv_i2c C.1 C.2.1 hd rfl (k p e s mi args below meth c H locs ls C hP hD hS hL)
theorem Gx_iconst {n : Int} {v : Int32} (hd : decode (xmb m) pc = .ok (.iconst n, 1)) (hv : Int32.ofInt n = v) (k : Gx l E m R (pc + 1) M L (.int v :: st)) : Gx l E m R pc M L (st) := by
  intro p e s mi args below meth c H locs ls C hP hD hS hL
  exact lv_iconst C.1 C.2.1 hd hv (k p e s mi args below meth c H locs ls C hP hD hS hL)
theorem Gx_bipush {n : Int} {v : Int32} (hd : decode (xmb m) pc = .ok (.bipush n, 2)) (hv : (Int8.ofInt n).toInt32 = v) (k : Gx l E m R (pc + 2) M L (.int v :: st)) : Gx l E m R pc M L (st) := by
  intro p e s mi args below meth c H locs ls C hP hD hS hL
  exact lv_bipush C.1 C.2.1 hd hv (k p e s mi args below meth c H locs ls C hP hD hS hL)
theorem Gx_sipush {n : Int} {v : Int32} (hd : decode (xmb m) pc = .ok (.sipush n, 3)) (hv : (Int16.ofInt n).toInt32 = v) (k : Gx l E m R (pc + 3) M L (.int v :: st)) : Gx l E m R pc M L (st) := by
  intro p e s mi args below meth c H locs ls C hP hD hS hL
  exact lv_sipush C.1 C.2.1 hd hv (k p e s mi args below meth c H locs ls C hP hD hS hL)
theorem Gx_lconst {n : Fin 2} {v : Int64} (hd : decode (xmb m) pc = .ok (.lconst n, 1)) (hv : Int64.ofNat (n : Nat) = v) (k : Gx l E m R (pc + 1) M L (.long v :: st)) : Gx l E m R pc M L (st) := by
  intro p e s mi args below meth c H locs ls C hP hD hS hL
  exact lv_lconst C.1 C.2.1 hd hv (k p e s mi args below meth c H locs ls C hP hD hS hL)
theorem Gx_dup {v : Value} (hc : v.category = 1) (hd : decode (xmb m) pc = .ok (.dup, 1)) (k : Gx l E m R (pc + 1) M L (v :: v :: st)) : Gx l E m R pc M L (v :: st) := by
  intro p e s mi args below meth c H locs ls C hP hD hS hL
  exact lv_dup C.1 C.2.1 hd (by rw [xv_cat C.2.2.2.2.2.2.2.1.2.1.2.2.2.2.2.2.1]; exact hc) (k p e s mi args below meth c H locs ls C hP hD hS hL)
theorem Gx_pop {v : Value} (hc : v.category = 1) (hd : decode (xmb m) pc = .ok (.pop, 1)) (k : Gx l E m R (pc + 1) M L st) : Gx l E m R pc M L (v :: st) := by
  intro p e s mi args below meth c H locs ls C hP hD hS hL
  exact lv_pop C.1 C.2.1 hd (by rw [xv_cat C.2.2.2.2.2.2.2.1.2.1.2.2.2.2.2.2.1]; exact hc) (k p e s mi args below meth c H locs ls C hP hD hS hL)
theorem Gx_dup2 {v w : Value} (hc : v.category = 1) (hc2 : w.category = 1) (hd : decode (xmb m) pc = .ok (.dup2, 1)) (k : Gx l E m R (pc + 1) M L (v :: w :: v :: w :: st)) : Gx l E m R pc M L (v :: w :: st) := by
  intro p e s mi args below meth c H locs ls C hP hD hS hL
  exact lv_dup2_11 C.1 C.2.1 hd (by rw [xv_cat C.2.2.2.2.2.2.2.1.2.1.2.2.2.2.2.2.1]; exact hc) (by rw [xv_cat C.2.2.2.2.2.2.2.1.2.1.2.2.2.2.2.2.1]; exact hc2) (k p e s mi args below meth c H locs ls C hP hD hS hL)
theorem Gx_iload {i : Nat} {x : Int32} (hd : decode (xmb m) pc = .ok (.iload i, 2)) (hl : L[i]? = some (some (.int x))) (k : Gx l E m R (pc + 2) M L (.int x :: st)) : Gx l E m R pc M L st := by
  intro p e s mi args below meth c H locs ls C hP hD hS hL
  exact lv_iload C.1 C.2.1 hd (hL.2.2.2 i _ hl) (k p e s mi args below meth c H locs ls C hP hD hS hL)
theorem Gx_iload_n {i : Fin 4} {x : Int32} (hd : decode (xmb m) pc = .ok (.iload_n i, 1)) (hl : L[(i : Nat)]? = some (some (.int x))) (k : Gx l E m R (pc + 1) M L (.int x :: st)) : Gx l E m R pc M L st := by
  intro p e s mi args below meth c H locs ls C hP hD hS hL
  exact lv_iload_n C.1 C.2.1 hd rfl (hL.2.2.2 i _ hl) (k p e s mi args below meth c H locs ls C hP hD hS hL)
theorem Gx_lload {i : Nat} {x : Int64} (hd : decode (xmb m) pc = .ok (.lload i, 2)) (hl : L[i]? = some (some (.long x))) (k : Gx l E m R (pc + 2) M L (.long x :: st)) : Gx l E m R pc M L st := by
  intro p e s mi args below meth c H locs ls C hP hD hS hL
  exact lv_lload C.1 C.2.1 hd (hL.2.2.2 i _ hl) (k p e s mi args below meth c H locs ls C hP hD hS hL)
theorem Gx_lload_n {i : Fin 4} {x : Int64} (hd : decode (xmb m) pc = .ok (.lload_n i, 1)) (hl : L[(i : Nat)]? = some (some (.long x))) (k : Gx l E m R (pc + 1) M L (.long x :: st)) : Gx l E m R pc M L st := by
  intro p e s mi args below meth c H locs ls C hP hD hS hL
  exact lv_lload_n C.1 C.2.1 hd rfl (hL.2.2.2 i _ hl) (k p e s mi args below meth c H locs ls C hP hD hS hL)
theorem lv_nload {p : Program} {l : Launch} {e : Env} {R : Room} {s : State} {m : MethodId} {args : Array Value} {below : List Frame} {meth : Method} {c : Code} {H : Heap} {locs : List Loc} {cells slots : Nat} {Q : State → Prop} {cc : ByteArray} {pc : Nat} {ls : Array Slot} {rest : List Value} (hexec : p.tables.exec = Jvm.exec) (hb : c.code = cc) {k : Fin 4} (hdg : decode cc pc = .ok (.aload_n k, 1)) (hl : ls[(k : Nat)]? = some (.val .null)) (kk : W p l e R s m args below meth c H locs cells slots Q (F0 m (pc + 1) ls (.null :: rest))) : W p l e R s m args below meth c H locs cells slots Q (F0 m pc ls rest) := by
  intro T hT X
  obtain ⟨t, a, b⟩ := kk T hT X
  refine ⟨t, ?_, b⟩
  jvm_step X.here [X.here.top, hexec, hb, hdg, hl]
  exact ⟨rfl, a⟩
theorem Gx_aload_n {i : Fin 4} {x : Nat} (hd : decode (xmb m) pc = .ok (.aload_n i, 1)) (hl : L[(i : Nat)]? = some (some (.ref x))) (k : Gx l E m R (pc + 1) M L (.ref x :: st)) : Gx l E m R pc M L st := by
  intro p e s mi args below meth c H locs ls C hP hD hS hL
  have h1 := hL.2.2.2 i _ hl
  have h2 := k p e s mi args below meth c H locs ls C hP hD hS hL
  rw [List.map_cons] at h2
  by_cases hx : x = 103
  · subst hx
    have e1 : xv E (.ref 103) = xeS E := rfl
    rw [e1] at h1 h2
    rcases C.2.2.2.2.2.2.2.1.2.1.2.2.2.2.2.2.1 with h | ⟨t, h⟩
    · rw [h] at h1 h2
      exact lv_nload C.1 C.2.1 hd h1 h2
    · rw [h] at h1 h2
      exact lv_aload_n C.1 C.2.1 hd rfl h1 h2
  · rw [xv_ref hx] at h1 h2
    exact lv_aload_n C.1 C.2.1 hd rfl h1 h2
/-- a value of one word may be laid at place i -/
def xfree (L : List (Option Value)) (i : Nat) : Bool := decide (i < L.length) && (match i with | 0 => true | j + 1 => match L.getD j none with | some (.long _) => false | some (.double _) => false | _ => true)
theorem xfree_prev {L : List (Option Value)} {i j : Nat} {w : Value} (h : xfree L i = true) (hj : L[j]? = some (some w)) (hji : j + 1 = i) : ¬ w.category = 2 := by
  subst hji
  unfold xfree at h
  simp only [Bool.and_eq_true] at h
  have h2 := h.2
  rw [List.getD_eq_getElem?_getD, hj] at h2
  intro hc
  cases w <;> simp_all [Value.category]
def xpairs (E : xE) (L : List (Option Value)) : List (Nat × Value) := L.zipIdx.filterMap (fun q => q.1.map (fun v => (q.2, xv E v)))
theorem xpairs_in {E : xE} {L : List (Option Value)} {q : Nat × Value} : q ∈ xpairs E L ↔ ∃ v, L[q.1]? = some (some v) ∧ q.2 = xv E v := by
  unfold xpairs
  simp only [List.mem_filterMap, Option.map_eq_some_iff]
  constructor
  · rintro ⟨⟨o, i⟩, h1, v, h2, rfl⟩
    have := List.mem_zipIdx_iff_getElem?.mp h1
    simp only at this h2
    exact ⟨v, by rw [this, h2], rfl⟩
  · rintro ⟨v, h1, h2⟩
    exact ⟨(some v, q.1), List.mem_zipIdx_iff_getElem?.mpr (by simpa using h1), v, rfl, by rw [← h2]⟩
theorem xL_has {E : xE} {nL : Nat} {ls : Array Slot} {L : List (Option Value)} (h : xL E nL ls L) : lv_has ls nL (xpairs E L) := by
  refine ⟨h.2.1, h.2.2.1, fun q hq => ?_⟩
  obtain ⟨v, h1, h2⟩ := xpairs_in.mp hq
  rw [h2]
  exact h.2.2.2 _ _ h1
theorem xL_put1 {E : xE} {nL i : Nat} {ls ls' : Array Slot} {L : List (Option Value)} {v : Value} (hL : xL E nL ls L) (hS : xeS E = .null ∨ ∃ t, xeS E = .ref t) (hf : xfree L i = true) (h : lv_has ls' nL ((i, xv E v) :: (xpairs E L).filter (fun q => !(q.1 == i) && !(q.1 + 1 == i && q.2.category == 2)))) : xL E nL ls' (L.set i (some v)) := by
  refine ⟨by rw [List.length_set]; exact hL.1, h.1, h.2.1, fun j w hj => ?_⟩
  rw [List.getElem?_set] at hj
  by_cases hji : i = j
  · subst hji
    rw [if_pos rfl] at hj
    split at hj
    · simp only [Option.some.injEq] at hj
      subst hj
      exact h.2.2 _ List.mem_cons_self
    · cases hj
  · rw [if_neg hji] at hj
    refine h.2.2 (j, xv E w) (List.mem_cons_of_mem _ (List.mem_filter.mpr ⟨xpairs_in.mpr ⟨w, hj, rfl⟩, ?_⟩))
    have h2 : ¬ (j + 1 = i ∧ (xv E w).category = 2) := fun z => xfree_prev hf hj z.1 (by rw [← xv_cat hS]; exact z.2)
    have h3 : ¬ j = i := fun z => hji z.symm
    simp only [Bool.and_eq_true, Bool.not_eq_true', beq_eq_false_iff_ne, ne_eq, Bool.and_eq_false_iff]
    refine ⟨h3, ?_⟩
    by_cases h4 : j + 1 = i
    · exact Or.inr (fun z => h2 ⟨h4, z⟩)
    · exact Or.inl h4
theorem xL_put2 {E : xE} {nL i : Nat} {ls ls' : Array Slot} {L : List (Option Value)} {v : Value} (hL : xL E nL ls L) (hS : xeS E = .null ∨ ∃ t, xeS E = .ref t) (hf : xfree L i = true) (h : lv_has ls' nL ((i, xv E v) :: (xpairs E L).filter (fun q => !(q.1 == i) && (!(q.1 == i + 1) && !(q.1 + 1 == i && q.2.category == 2))))) : xL E nL ls' ((L.set i (some v)).set (i + 1) none) := by
  refine ⟨by rw [List.length_set, List.length_set]; exact hL.1, h.1, h.2.1, fun j w hj => ?_⟩
  rw [List.getElem?_set] at hj
  by_cases hj1 : i + 1 = j
  · rw [if_pos hj1] at hj
    split at hj <;> cases hj
  · rw [if_neg hj1, List.getElem?_set] at hj
    by_cases hji : i = j
    · subst hji
      rw [if_pos rfl] at hj
      split at hj
      · simp only [Option.some.injEq] at hj
        subst hj
        exact h.2.2 _ List.mem_cons_self
      · cases hj
    · rw [if_neg hji] at hj
      refine h.2.2 (j, xv E w) (List.mem_cons_of_mem _ (List.mem_filter.mpr ⟨xpairs_in.mpr ⟨w, hj, rfl⟩, ?_⟩))
      have h2 : ¬ (j + 1 = i ∧ (xv E w).category = 2) := fun z => xfree_prev hf hj z.1 (by rw [← xv_cat hS]; exact z.2)
      have h3 : ¬ j = i := fun z => hji z.symm
      have h5 : ¬ j = i + 1 := fun z => hj1 z.symm
      simp only [Bool.and_eq_true, Bool.not_eq_true', beq_eq_false_iff_ne, ne_eq, Bool.and_eq_false_iff]
      refine ⟨h3, h5, ?_⟩
      by_cases h4 : j + 1 = i
      · exact Or.inr (fun z => h2 ⟨h4, z⟩)
      · exact Or.inl h4
theorem xfree_lt {L : List (Option Value)} {i : Nat} (h : xfree L i = true) : i < L.length := by
  unfold xfree at h
  simp only [Bool.and_eq_true, decide_eq_true_eq] at h
  exact h.1
theorem Gx_istore {i : Nat} {x : Int32} (hd : decode (xmb m) pc = .ok (.istore i, 2)) (hf : xfree L i = true) (k : Gx l E m R (pc + 2) M (L.set i (some (.int x))) st) : Gx l E m R pc M L (.int x :: st) := by
  intro p e s mi args below meth c H locs ls C hP hD hS hL
  exact lv_istore C.1 C.2.1 hd (xL_has hL) (by rw [← hL.1]; exact xfree_lt hf) rfl (fun ls' hl' => k p e s mi args below meth c H locs ls' C hP hD hS (xL_put1 (v := .int x) hL C.2.2.2.2.2.2.2.1.2.1.2.2.2.2.2.2.1 hf hl'))
theorem Gx_istore_n {i : Fin 4} {x : Int32} (hd : decode (xmb m) pc = .ok (.istore_n i, 1)) (hf : xfree L (i : Nat) = true) (k : Gx l E m R (pc + 1) M (L.set (i : Nat) (some (.int x))) st) : Gx l E m R pc M L (.int x :: st) := by
  intro p e s mi args below meth c H locs ls C hP hD hS hL
  exact lv_istore_n C.1 C.2.1 hd rfl (xL_has hL) (by rw [← hL.1]; exact xfree_lt hf) rfl (fun ls' hl' => k p e s mi args below meth c H locs ls' C hP hD hS (xL_put1 (v := .int x) hL C.2.2.2.2.2.2.2.1.2.1.2.2.2.2.2.2.1 hf hl'))
theorem Gx_lstore {i : Nat} {x : Int64} (hd : decode (xmb m) pc = .ok (.lstore i, 2)) (hf : xfree L i = true) (h2 : i + 1 < L.length) (k : Gx l E m R (pc + 2) M ((L.set i (some (.long x))).set (i + 1) none) st) : Gx l E m R pc M L (.long x :: st) := by
  intro p e s mi args below meth c H locs ls C hP hD hS hL
  exact lv_lstore C.1 C.2.1 hd (xL_has hL) (by rw [← hL.1]; exact h2) rfl (fun ls' hl' => k p e s mi args below meth c H locs ls' C hP hD hS (xL_put2 (v := .long x) hL C.2.2.2.2.2.2.2.1.2.1.2.2.2.2.2.2.1 hf hl'))
theorem Gx_lstore_n {i : Fin 4} {x : Int64} (hd : decode (xmb m) pc = .ok (.lstore_n i, 1)) (hf : xfree L (i : Nat) = true) (h2 : (i : Nat) + 1 < L.length) (k : Gx l E m R (pc + 1) M ((L.set (i : Nat) (some (.long x))).set ((i : Nat) + 1) none) st) : Gx l E m R pc M L (.long x :: st) := by
  intro p e s mi args below meth c H locs ls C hP hD hS hL
  exact lv_lstore_n C.1 C.2.1 hd rfl (xL_has hL) (by rw [← hL.1]; exact h2) rfl (fun ls' hl' => k p e s mi args below meth c H locs ls' C hP hD hS (xL_put2 (v := .long x) hL C.2.2.2.2.2.2.2.1.2.1.2.2.2.2.2.2.1 hf hl'))
theorem Gx_astore_n {i : Fin 4} {x : Nat} (hx : x ≠ 103) (hd : decode (xmb m) pc = .ok (.astore_n i, 1)) (hf : xfree L (i : Nat) = true) (k : Gx l E m R (pc + 1) M (L.set (i : Nat) (some (.ref x))) st) : Gx l E m R pc M L (.ref x :: st) := by
  intro p e s mi args below meth c H locs ls C hP hD hS hL
  rw [List.map_cons, xv_ref hx]
  exact lv_astore_n C.1 C.2.1 hd rfl (xL_has hL) (by rw [← hL.1]; exact xfree_lt hf) rfl (fun ls' hl' => k p e s mi args below meth c H locs ls' C hP hD hS (xL_put1 (v := .ref x) hL C.2.2.2.2.2.2.2.1.2.1.2.2.2.2.2.2.1 hf (by rw [xv_ref hx]; exact hl')))
theorem Gx_iinc {i : Nat} {n : Int} {x v : Int32} (hd : decode (xmb m) pc = .ok (.iinc i n, 3)) (hv : Int32.ofInt n = v) (hl : L[i]? = some (some (.int x))) (hf : xfree L i = true) (k : Gx l E m R (pc + 3) M (L.set i (some (.int (x + v)))) st) : Gx l E m R pc M L st := by
  intro p e s mi args below meth c H locs ls C hP hD hS hL
  have hm : (i, xv E (.int x)) ∈ xpairs E L := xpairs_in.mpr ⟨.int x, hl, rfl⟩
  obtain ⟨kx, hk⟩ := List.getElem?_of_mem hm
  exact lv_iinc (k := kx) (v := x + v) C.1 C.2.1 hd (xL_has hL) hk (by rw [hv]) (by rw [← hL.1]; exact xfree_lt hf) rfl (fun ls' hl' => k p e s mi args below meth c H locs ls' C hP hD hS (xL_put1 (v := .int (x + v)) hL C.2.2.2.2.2.2.2.1.2.1.2.2.2.2.2.2.1 hf hl'))
end XI
end
section
/-! the tables' words, by their places: fields, statics, constants -/
/-- field links: the class that links, its number there, the field's class and slot; the word's place -/
def xftI : List (Nat × Nat × Nat × Nat × Nat) := [(2, 9, 2, 0, 103), (3, 88, 2, 0, 104), (0, 72, 2, 0, 105), (2, 15, 2, 1, 106), (3, 91, 2, 1, 107), (0, 155, 2, 1, 108), (2, 18, 2, 2, 109), (3, 94, 2, 2, 110), (0, 148, 2, 2, 111), (2, 21, 2, 3, 112), (3, 109, 2, 3, 113), (0, 79, 2, 3, 114), (2, 24, 2, 4, 115), (3, 112, 2, 4, 116), (0, 99, 2, 4, 117), (2, 27, 2, 5, 118), (0, 96, 2, 5, 119), (3, 115, 2, 5, 120), (2, 30, 2, 6, 121), (3, 118, 2, 6, 122), (0, 161, 2, 6, 123), (2, 34, 2, 7, 124), (3, 97, 2, 7, 125), (0, 167, 2, 7, 126), (0, 12, 0, 0, 153), (3, 137, 0, 0, 154), (0, 18, 0, 1, 155), (3, 150, 0, 1, 156), (0, 22, 0, 2, 157), (3, 153, 0, 2, 158), (0, 25, 0, 3, 159), (3, 156, 0, 3, 160), (0, 28, 0, 4, 161), (3, 144, 0, 4, 162), (0, 32, 0, 5, 163), (0, 35, 0, 6, 164), (1, 9, 1, 0, 186), (1, 15, 1, 1, 187), (3, 67, 1, 1, 188), (3, 10, 3, 0, 194), (3, 16, 3, 1, 195), (3, 19, 3, 2, 196), (3, 22, 3, 3, 197), (3, 26, 3, 4, 198), (3, 33, 3, 5, 199), (3, 37, 3, 6, 200), (3, 43, 3, 7, 201), (3, 47, 3, 8, 202), (3, 51, 3, 9, 203), (3, 54, 3, 10, 204), (3, 57, 3, 11, 205), (3, 60, 3, 12, 206), (4, 7, 4, 1, 805), (4, 13, 4, 2, 806), (4, 16, 4, 3, 807), (4, 256, 4, 4, 808), (4, 19, 4, 5, 809), (4, 22, 4, 6, 810), (4, 58, 4, 7, 811), (4, 61, 4, 8, 812), (4, 68, 4, 9, 813), (4, 87, 4, 10, 814), (4, 25, 4, 11, 815), (4, 28, 4, 12, 816), (4, 31, 4, 13, 817), (4, 133, 4, 14, 818), (4, 34, 4, 15, 819), (4, 237, 4, 16, 820), (4, 244, 4, 17, 821), (5, 15, 9, 1, 1234), (5, 9, 9, 0, 1235)]
def xgtI : List (Nat × Nat × Nat × Nat) := [(5, 38, 2, 279), (5, 1053, 3, 322), (3, 100, 0, 572), (3, 103, 1, 573)]
def xctI : List (Nat × Nat × Int32 × Nat) := [(7, 227, 65536, 309), (9, 264, 65536, 478), (3, 132, 118800, 626), (9, 265, 1431655765, 667), (9, 266, 858993459, 668), (9, 267, 252645135, 669), (3, 245, 1664525, 783), (3, 246, 1013904223, 784), (3, 247, 2147483647, 785), (4, 247, 1664525, 1215), (4, 248, 1013904223, 1216), (4, 249, 2147483647, 1217)]
def xft : List (Nat × Nat × Nat × Nat) := xftI.map (fun q => (q.1, q.2.1, q.2.2.1, q.2.2.2.1))
def xgt : List (Nat × Nat × Nat) := xgtI.map (fun q => (q.1, q.2.1, q.2.2.1))
def xct : List (Nat × Nat × Int32) := xctI.map (fun q => (q.1, q.2.1, q.2.2.1))
def xfd (a b : Nat) : String × String × String := if a = 9 then ("java/lang/String", if b = 0 then ("value", "[B") else ("coder", "B")) else match vwCl[a]? with | some r => ((r.2.1 b).1, (r.2.1 b).2.1, (r.2.1 b).2.2.1) | none => ("", "", "")
def xgd (a : Nat) : String × String × String := ([(RX3, "HOLDS", "[I"), (RX3, "LISTS", "[I"), (RJ0, "COMPACT_STRINGS", "Z"), (RJ3, "SIOOBE_FORMATTER", "Ljava/util/function/BiFunction;")] : List (String × String × String)).getD a ("", "", "")
theorem x_all {α : Type} {l : List α} {p : α → Bool} (h : l.all p = true) {a : α} (ha : a ∈ l) : p a = true := List.all_eq_true.mp h a ha
set_option maxRecDepth 100000 in
theorem xft_ok : ∀ q ∈ xft, Cond.fieldLink (xown q.1) q.2.1 (xfd q.2.2.1 q.2.2.2).1 (xfd q.2.2.1 q.2.2.2).2.1 (xfd q.2.2.1 q.2.2.2).2.2 ∈ xTbl := by
  intro q hq
  obtain ⟨z, hz, rfl⟩ := List.mem_map.mp hq
  have h : xftI.all (fun q => decide (lw_tbl[q.2.2.2.2]? = some (Cond.fieldLink (xown q.1) q.2.1 (xfd q.2.2.1 q.2.2.2.1).1 (xfd q.2.2.1 q.2.2.2.1).2.1 (xfd q.2.2.1 q.2.2.2.1).2.2))) = true := by decide +kernel
  exact xTbl_in _ (of_decide_eq_true (x_all h hz)) rfl
set_option maxRecDepth 100000 in
theorem xgt_ok : ∀ q ∈ xgt, Cond.fieldLink (xown q.1) q.2.1 (xgd q.2.2).1 (xgd q.2.2).2.1 (xgd q.2.2).2.2 ∈ xTbl := by
  intro q hq
  obtain ⟨z, hz, rfl⟩ := List.mem_map.mp hq
  have h : xgtI.all (fun q => decide (lw_tbl[q.2.2.2]? = some (Cond.fieldLink (xown q.1) q.2.1 (xgd q.2.2.1).1 (xgd q.2.2.1).2.1 (xgd q.2.2.1).2.2))) = true := by decide +kernel
  exact xTbl_in _ (of_decide_eq_true (x_all h hz)) rfl
set_option maxRecDepth 100000 in
theorem xct_ok : ∀ q ∈ xct, Cond.constant (xown q.1) q.2.1 q.2.2 ∈ xTbl := by
  intro q hq
  obtain ⟨z, hz, rfl⟩ := List.mem_map.mp hq
  have h : xctI.all (fun q => decide (lw_tbl[q.2.2.2]? = some (Cond.constant (xown q.1) q.2.1 q.2.2.1))) = true := by decide +kernel
  exact xTbl_in _ (of_decide_eq_true (x_all h hz)) rfl
theorem xlc_3 : Cond.constantLong (xown 3) 201 4000000000000000000 ∈ xTbl := xTbl_in 733 (by decide +kernel) rfl
theorem xlc_4 : Cond.constantLong (xown 4) 41 4000000000000000000 ∈ xTbl := xTbl_in 1171 (by decide +kernel) rfl
theorem xly_0 : ∀ w ∈ u_ws RX0 TX0 7, w ∈ xTbl := by
  intro w hw
  have e : u_ws RX0 TX0 7 = ([165, 167, 169, 171, 173, 175, 177] : List Nat).filterMap (fun i => lw_tbl[i]?) := by decide +kernel
  have g : (u_ws RX0 TX0 7).all goodWord = true := by decide +kernel
  have g1 := x_all g hw
  rw [e] at hw
  obtain ⟨i, -, hi⟩ := List.mem_filterMap.mp hw
  exact xTbl_in i hi g1
theorem xly_1 : ∀ w ∈ u_ws RX1 TX1 2, w ∈ xTbl := by
  intro w hw
  have e : u_ws RX1 TX1 2 = ([189, 191] : List Nat).filterMap (fun i => lw_tbl[i]?) := by decide +kernel
  have g : (u_ws RX1 TX1 2).all goodWord = true := by decide +kernel
  have g1 := x_all g hw
  rw [e] at hw
  obtain ⟨i, -, hi⟩ := List.mem_filterMap.mp hw
  exact xTbl_in i hi g1
theorem xly_2 : ∀ w ∈ u_ws RX2 TX2 8, w ∈ xTbl := by
  intro w hw
  have e : u_ws RX2 TX2 8 = ([127, 129, 131, 133, 135, 137, 139, 141] : List Nat).filterMap (fun i => lw_tbl[i]?) := by decide +kernel
  have g : (u_ws RX2 TX2 8).all goodWord = true := by decide +kernel
  have g1 := x_all g hw
  rw [e] at hw
  obtain ⟨i, -, hi⟩ := List.mem_filterMap.mp hw
  exact xTbl_in i hi g1
theorem xly_3 : ∀ w ∈ u_ws RX3 TX3 13, w ∈ xTbl := by
  intro w hw
  have e : u_ws RX3 TX3 13 = ([207, 209, 211, 213, 215, 217, 219, 221, 223, 225, 227, 229, 231] : List Nat).filterMap (fun i => lw_tbl[i]?) := by decide +kernel
  have g : (u_ws RX3 TX3 13).all goodWord = true := by decide +kernel
  have g1 := x_all g hw
  rw [e] at hw
  obtain ⟨i, -, hi⟩ := List.mem_filterMap.mp hw
  exact xTbl_in i hi g1
theorem xly_4 : ∀ w ∈ u_ws RX4 TX4 18, w ∈ xTbl := by
  intro w hw
  have e : u_ws RX4 TX4 18 = ([822, 824, 826, 828, 830, 832, 834, 836, 838, 840, 842, 844, 846, 848, 850, 852, 854, 856] : List Nat).filterMap (fun i => lw_tbl[i]?) := by decide +kernel
  have g : (u_ws RX4 TX4 18).all goodWord = true := by decide +kernel
  have g1 := x_all g hw
  rw [e] at hw
  obtain ⟨i, -, hi⟩ := List.mem_filterMap.mp hw
  exact xTbl_in i hi g1
end
section
/-! memory steps; xs: a straight stretch at once -/
section XM
variable {l : Launch} {E : xE} {m : xMt} {R : Option Value → xM → Prop} {pc : Nat} {M : xM} {L : List (Option Value)} {st : List Value}
theorem xvw {ci : Nat} (h : ci < 5) : ∃ n, vwCl[ci]? = some ((vwCl.getD ci ("", fun _ => ("", "", "", false), 0)).1, (vwCl.getD ci ("", fun _ => ("", "", "", false), 0)).2.1, n) ∧ n = xnf ci ∧ ∀ w ∈ u_ws (vwCl.getD ci ("", fun _ => ("", "", "", false), 0)).1 (vwCl.getD ci ("", fun _ => ("", "", "", false), 0)).2.1 n, w ∈ xTbl := by
  match ci, h with
  | 0, _ => exact ⟨7, rfl, rfl, xly_0⟩
  | 1, _ => exact ⟨2, rfl, rfl, xly_1⟩
  | 2, _ => exact ⟨8, rfl, rfl, xly_2⟩
  | 3, _ => exact ⟨13, rfl, rfl, xly_3⟩
  | 4, _ => exact ⟨18, rfl, rfl, xly_4⟩
theorem xfd_eq {a b : Nat} (h : a < 5) : xfd a b = (((vwCl.getD a ("", fun _ => ("", "", "", false), 0)).2.1 b).1, ((vwCl.getD a ("", fun _ => ("", "", "", false), 0)).2.1 b).2.1, ((vwCl.getD a ("", fun _ => ("", "", "", false), 0)).2.1 b).2.2.1) := by
  match a, h with
  | 0, _ => rfl
  | 1, _ => rfl
  | 2, _ => rfl
  | 3, _ => rfl
  | 4, _ => rfl
theorem x_get {idx a b p : Nat} {v : Value} (hd : decode (xmb m) pc = .ok (.getfield idx, 3)) (hl : (xmo m, idx, a, b) ∈ xft) (ha : a < 5) (hb : b < xnf a) (hk : xkd p = a) (hv : ∀ E : xE, xv E v = xfv E M p a b) (k : Gx l E m R (pc + 3) M L (v :: st)) : Gx l E m R pc M L (.ref p :: st) := by
  intro pr e s mi args below meth c H locs ls C hP hD hS hL
  have hp : p < 60 := xkd_lt (by omega)
  have h1 := xws_get E M hp
  rw [xcell_obj E M hk (by omega)] at h1
  obtain ⟨n, hc, hn, hin⟩ := xvw ha
  have hw := xft_ok _ hl
  simp only [xfd_eq ha] at hw
  have k1 := k pr e s mi args below meth c H locs ls C hP hD hS hL
  rw [List.map_cons, hv E] at k1
  rw [List.map_cons, xv_ref (show p ≠ 103 by omega)]
  exact va_get C.1 C.2.1 C.2.2.2.2.2.2.1 hin C.2.2.2.2.2.1 C.2.2.2.2.2.2.2.1.1 hP p h1 hc b (by omega) (C.2.2.2.2.2.2.1 _ hw) (fun x h => h) (xfs_get E M p a hb) hd k1
theorem Gx_getI {idx a b p : Nat} (hd : decode (xmb m) pc = .ok (.getfield idx, 3)) (hl : (xmo m, idx, a, b) ∈ xft) (ha : a < 5) (hb : b < xnf a) (hk : xkd p = a) (hf : xfo a b = none) (k : Gx l E m R (pc + 3) M L (.int (M p b) :: st)) : Gx l E m R pc M L (.ref p :: st) :=
  x_get hd hl ha hb hk (fun E => by unfold xfv; rw [hf]; rfl) k
theorem xfo_in : ∀ p, p < 60 → xkd p < 5 → ∀ k, k < 18 → ∀ o, xfo (xkd p) k = some o → p + o < 60 := by decide +kernel
theorem Gx_getR {idx a b p o : Nat} (hd : decode (xmb m) pc = .ok (.getfield idx, 3)) (hl : (xmo m, idx, a, b) ∈ xft) (ha : a < 5) (hb : b < xnf a) (hk : xkd p = a) (hf : xfo a b = some o) (k : Gx l E m R (pc + 3) M L (.ref (p + o) :: st)) : Gx l E m R pc M L (.ref p :: st) := by
  have hp : p < 60 := xkd_lt (by omega)
  have hb18 : b < 18 := by
    have : ∀ a, a < 5 → xnf a ≤ 18 := by decide
    have := this a ha
    omega
  have h60 := xfo_in p hp (by omega) b hb18 o (by rw [hk]; exact hf)
  exact x_get hd hl ha hb hk (fun E => by unfold xfv; rw [hf]; exact xv_ref (by omega)) k
/-- the fields of one bit -/
def xbit (a b : Nat) : Bool := (a == 3 && b == 3) || (a == 4 && (b == 4 || b == 9))
theorem x_put {idx a b p : Nat} {x : Int32} {ty : FieldType} (ty0 : Nat → FieldType) (hd : decode (xmb m) pc = .ok (.putfield idx, 3)) (hl : (xmo m, idx, a, b) ∈ xft) (ha : a < 5) (hb : b < xnf a) (hk : xkd p = a) (hf : xfo a b = none)
    (hty : ∀ k, k < xnf a → parseFieldDescriptor ((vwCl.getD a ("", fun _ => ("", "", "", false), 0)).2.1 k).2.2.1 = some (ty0 k)) (hnm : ∀ x, x < xnf a → ∀ y, y < xnf a → x ≠ y → ((vwCl.getD a ("", fun _ => ("", "", "", false), 0)).2.1 x).2.1 ≠ ((vwCl.getD a ("", fun _ => ("", "", "", false), 0)).2.1 y).2.1)
    (hfin : ((vwCl.getD a ("", fun _ => ("", "", "", false), 0)).2.1 b).2.2.2 = false) (hdt : ty0 b = ty) (hn : narrow ty (.int x) = .int x) (hfit : fits ty (.int x) = true) (k : Gx l E m R (pc + 3) (xup M p b x) L st) : Gx l E m R pc M L (.int x :: .ref p :: st) := by
  intro pr e s mi args below meth c H locs ls C hP hD hS hL
  have hp : p < 60 := xkd_lt (by omega)
  have h1 := xws_get E M hp
  rw [xcell_obj E M hk (by omega)] at h1
  obtain ⟨n, hc, hn0, hin⟩ := xvw ha
  subst hn0
  have hw := xft_ok _ hl
  simp only [xfd_eq ha] at hw
  rw [List.map_cons, List.map_cons, xv_int, xv_ref (show p ≠ 103 by omega)]
  refine va_put C.1 C.2.1 C.2.2.2.2.2.2.1 hin ty0 hty hnm C.2.2.2.2.2.1 C.2.2.2.2.2.2.2.1.1 hP hD hS p h1 hc b hb (C.2.2.2.2.2.2.1 _ hw) (fun x h => h) hfin (ty := ty) (by rw [← hdt]; exact hty b hb) hn hfit (by rw [xfs_len]; exact hb) hd (fun H1 locs1 hP1 hD1 hS1 => ?_)
  rw [xws_set E M (xup M p b x) hp (fun a ha => xup_ne M b x ha) (by rw [xcell_obj E _ hk (by omega), xfs_set E M p a x hf])] at hP1 hD1
  exact k pr e s mi args below meth c H1 locs1 ls C hP1 hD1 hS1 hL
theorem Gx_put {idx a b p : Nat} {x : Int32} (hd : decode (xmb m) pc = .ok (.putfield idx, 3)) (hl : (xmo m, idx, a, b) ∈ xft) (ha : a < 5) (hb : b < xnf a) (hk : xkd p = a) (hf : xfo a b = none) (hx : xbit a b = true → x = 0 ∨ x = 1) (k : Gx l E m R (pc + 3) (xup M p b x) L st) : Gx l E m R pc M L (.int x :: .ref p :: st) := by
  have key : ∀ b, b < xnf a → xfo a b = none → ((vwCl.getD a ("", fun _ => ("", "", "", false), 0)).2.1 b).2.2.2 = false ∧ ((xbit a b = true ∧ (([tyX0, tyX1, tyX2, tyX3, tyX4] : List (Nat → FieldType)).getD a tyX0) b = .boolean) ∨ (([tyX0, tyX1, tyX2, tyX3, tyX4] : List (Nat → FieldType)).getD a tyX0) b = .int) := by
    match a, ha with
    | 0, _ => decide +kernel
    | 1, _ => decide +kernel
    | 2, _ => decide +kernel
    | 3, _ => decide +kernel
    | 4, _ => decide +kernel
  obtain ⟨hfin, hty⟩ := key b hb hf
  have hp : (∀ k, k < xnf a → parseFieldDescriptor ((vwCl.getD a ("", fun _ => ("", "", "", false), 0)).2.1 k).2.2.1 = some ((([tyX0, tyX1, tyX2, tyX3, tyX4] : List (Nat → FieldType)).getD a tyX0) k)) ∧ (∀ x, x < xnf a → ∀ y, y < xnf a → x ≠ y → ((vwCl.getD a ("", fun _ => ("", "", "", false), 0)).2.1 x).2.1 ≠ ((vwCl.getD a ("", fun _ => ("", "", "", false), 0)).2.1 y).2.1) := by
    match a, ha with
    | 0, _ => exact ⟨tyX0_ok, nmX0⟩
    | 1, _ => exact ⟨tyX1_ok, nmX1⟩
    | 2, _ => exact ⟨tyX2_ok, nmX2⟩
    | 3, _ => exact ⟨tyX3_ok, nmX3⟩
    | 4, _ => exact ⟨tyX4_ok, nmX4⟩
  rcases hty with ⟨h1, h2⟩ | h2
  · exact x_put _ hd hl ha hb hk hf hp.1 hp.2 hfin h2 (by rcases hx h1 with rfl | rfl <;> rfl) (by rcases hx h1 with rfl | rfl <;> rfl) k
  · exact x_put _ hd hl ha hb hk hf hp.1 hp.2 hfin h2 rfl rfl k
theorem Gx_iald {p : Nat} {i : Int32} (hd : decode (xmb m) pc = .ok (.iaload, 1)) (hk : xkd p = 5) (hin : vp_in i (xln p)) (k : Gx l E m R (pc + 1) M L (.int (M p i.toNatClampNeg) :: st)) : Gx l E m R pc M L (.int i :: .ref p :: st) := by
  intro pr e s mi args below meth c H locs ls C hP hD hS hL
  have hp : p < 60 := xkd_lt (by omega)
  have h1 := xws_get E M hp
  rw [xcell_row E M hk] at h1
  rw [List.map_cons, List.map_cons, xv_int, xv_ref (show p ≠ 103 by omega)]
  exact va_iald C.1 C.2.1 C.2.2.2.2.2.2.2.1.1 hP p 0 h1 rfl hin hd (k pr e s mi args below meth c H locs ls C hP hD hS hL)
theorem Gx_iast {p : Nat} {i x : Int32} (hd : decode (xmb m) pc = .ok (.iastore, 1)) (hk : xkd p = 5) (hin : vp_in i (xln p)) (k : Gx l E m R (pc + 1) (xup M p i.toNatClampNeg x) L st) : Gx l E m R pc M L (.int x :: .int i :: .ref p :: st) := by
  intro pr e s mi args below meth c H locs ls C hP hD hS hL
  have hp : p < 60 := xkd_lt (by omega)
  have h1 := xws_get E M hp
  rw [xcell_row E M hk] at h1
  rw [List.map_cons, List.map_cons, List.map_cons, xv_int, xv_int, xv_ref (show p ≠ 103 by omega)]
  refine va_iast C.1 C.2.1 C.2.2.2.2.2.2.2.1.1 hP hD hS p 0 h1 rfl hin hd (fun H1 locs1 hP1 hD1 hS1 => ?_)
  rw [xws_set E M (xup M p i.toNatClampNeg x) hp (fun a ha => xup_ne M _ x ha) (by rw [xcell_row E _ hk, xup_at])] at hP1 hD1
  exact k pr e s mi args below meth c H1 locs1 ls C hP1 hD1 hS1 hL
theorem Gx_alen {p : Nat} (hd : decode (xmb m) pc = .ok (.arraylength, 1)) (hk : xkd p = 5) (k : Gx l E m R (pc + 1) M L (.int (nI (xln p)) :: st)) : Gx l E m R pc M L (.ref p :: st) := by
  intro pr e s mi args below meth c H locs ls C hP hD hS hL
  have hp : p < 60 := xkd_lt (by omega)
  have h1 := xws_get E M hp
  rw [xcell_row E M hk] at h1
  rw [List.map_cons, xv_ref (show p ≠ 103 by omega)]
  exact va_alen C.1 C.2.1 C.2.2.2.2.2.2.2.1.1 hP p 0 h1 rfl rfl hd (k pr e s mi args below meth c H locs ls C hP hD hS hL)
-- what is static
theorem Gx_holds {i : Int32} (hd : decode (xmb m) pc = .ok (.iaload, 1)) (hin : vp_in i 6) (k : Gx l E m R (pc + 1) M L (.int (xhold i.toNatClampNeg) :: st)) : Gx l E m R pc M L (.int i :: .ref 100 :: st) := by
  intro pr e s mi args below meth c H locs ls C hP hD hS hL
  rw [List.map_cons, List.map_cons, xv_int, xv_ref (show 100 ≠ 103 by omega)]
  exact va_ti C.1 C.2.1 C.2.2.2.2.2.2.2.1.2.1.2.1 hS hin rfl hd (k pr e s mi args below meth c H locs ls C hP hD hS hL)
theorem Gx_lists {i : Int32} (hd : decode (xmb m) pc = .ok (.iaload, 1)) (hin : vp_in i 6) (k : Gx l E m R (pc + 1) M L (.int (xlist i.toNatClampNeg) :: st)) : Gx l E m R pc M L (.int i :: .ref 101 :: st) := by
  intro pr e s mi args below meth c H locs ls C hP hD hS hL
  rw [List.map_cons, List.map_cons, xv_int, xv_ref (show 101 ≠ 103 by omega)]
  exact va_ti C.1 C.2.1 C.2.2.2.2.2.2.2.1.2.1.2.2.2.1 hS hin rfl hd (k pr e s mi args below meth c H locs ls C hP hD hS hL)
theorem Gx_bald {i : Int32} {j : Nat} (hd : decode (xmb m) pc = .ok (.baload, 1)) (hj : j < 9) (hin : vp_in i (xsl j)) (k : Gx l E m R (pc + 1) M L (.int (xsb j i.toNatClampNeg) :: st)) : Gx l E m R pc M L (.int i :: .ref (130 + j) :: st) := by
  intro pr e s mi args below meth c H locs ls C hP hD hS hL
  rw [List.map_cons, List.map_cons, xv_int, xv_ref (show 130 + j ≠ 103 by omega)]
  exact va_tb C.1 C.2.1 (C.2.2.2.2.2.2.2.1.2.1.2.2.2.2.2.2.2 j hj).2.2.2 hS hin rfl hd (k pr e s mi args below meth c H locs ls C hP hD hS hL)
theorem Gx_blen {j : Nat} (hd : decode (xmb m) pc = .ok (.arraylength, 1)) (hj : j < 9) (k : Gx l E m R (pc + 1) M L (.int (nI (xsl j)) :: st)) : Gx l E m R pc M L (.ref (130 + j) :: st) := by
  intro pr e s mi args below meth c H locs ls C hP hD hS hL
  rw [List.map_cons, xv_ref (show 130 + j ≠ 103 by omega)]
  exact va_tlen C.1 C.2.1 (C.2.2.2.2.2.2.2.1.2.1.2.2.2.2.2.2.2 j hj).2.2.2 hS rfl hd (k pr e s mi args below meth c H locs ls C hP hD hS hL)
theorem Gx_value {j idx : Nat} (hd : decode (xmb m) pc = .ok (.getfield idx, 3)) (hl : (xmo m, idx, 9, 0) ∈ xft) (hj : j < 9) (k : Gx l E m R (pc + 3) M L (.ref (130 + j) :: st)) : Gx l E m R pc M L (.ref (110 + j) :: st) := by
  intro pr e s mi args below meth c H locs ls C hP hD hS hL
  have k1 := k pr e s mi args below meth c H locs ls C hP hD hS hL
  rw [List.map_cons, xv_ref (show 130 + j ≠ 103 by omega)] at k1
  rw [List.map_cons, xv_ref (show 110 + j ≠ 103 by omega)]
  exact vk_getf C.1 C.2.1 (C.2.2.2.2.2.2.2.1.2.1.2.2.2.2.2.2.2 j hj).2.2.1 hS C.2.2.2.2.2.1 (C.2.2.2.2.2.2.1 _ (xft_ok _ hl)) (fun x h => h) hd k1
theorem Gx_coder {j idx : Nat} (hd : decode (xmb m) pc = .ok (.getfield idx, 3)) (hl : (xmo m, idx, 9, 1) ∈ xft) (hj : j < 9) (k : Gx l E m R (pc + 3) M L (.int 0 :: st)) : Gx l E m R pc M L (.ref (110 + j) :: st) := by
  intro pr e s mi args below meth c H locs ls C hP hD hS hL
  have k1 := k pr e s mi args below meth c H locs ls C hP hD hS hL
  rw [List.map_cons, xv_int] at k1
  rw [List.map_cons, xv_ref (show 110 + j ≠ 103 by omega)]
  exact vk_getf C.1 C.2.1 (C.2.2.2.2.2.2.2.1.2.1.2.2.2.2.2.2.2 j hj).2.1 hS C.2.2.2.2.2.1 (C.2.2.2.2.2.2.1 _ (xft_ok _ hl)) (fun x h => h) hd k1
/-- the value of a static, by its place in xgd -/
def xgv (a : Nat) : Value := ([.ref 100, .ref 101, .int 1, .ref 103] : List Value).getD a .null
theorem Gx_gets {idx a : Nat} (hd : decode (xmb m) pc = .ok (.getstatic idx, 3)) (hl : (xmo m, idx, a) ∈ xgt) (ha : a < 4) (k : Gx l E m R (pc + 3) M L (xgv a :: st)) : Gx l E m R pc M L st := by
  intro pr e s mi args below meth c H locs ls C hP hD hS hL
  have k1 := k pr e s mi args below meth c H locs ls C hP hD hS hL
  have hw := C.2.2.2.2.2.2.1 _ (xgt_ok _ hl)
  have hZ := C.2.2.2.2.2.2.2.1.2.1
  match a, ha with
  | 0, _ => exact va_gets C.1 C.2.1 hZ.1 hS C.2.2.2.2.2.1 hw (fun x h => h) hd k1
  | 1, _ => exact va_gets C.1 C.2.1 hZ.2.2.1 hS C.2.2.2.2.2.1 hw (fun x h => h) hd k1
  | 2, _ => exact va_gets C.1 C.2.1 hZ.2.2.2.2.1 hS C.2.2.2.2.2.1 hw (fun x h => h) hd k1
  | 3, _ => exact va_gets C.1 C.2.1 hZ.2.2.2.2.2.1 hS C.2.2.2.2.2.1 hw (fun x h => h) hd k1
/-- .. out of a nested class: the class, the number there, the place in xgd -/
def xgn : List (Nat × Nat × Nat) := [(0, 89, 0), (0, 106, 1), (2, 89, 1)]
theorem Gx_getsN {idx a : Nat} (hd : decode (xmb m) pc = .ok (.getstatic idx, 3)) (hl : (xmo m, idx, a) ∈ xgn) (k : Gx l E m R (pc + 3) M L (xgv a :: st)) : Gx l E m R pc M L st := by
  intro pr e s mi args below meth c H locs ls C hP hD hS hL
  have k1 := k pr e s mi args below meth c H locs ls C hP hD hS hL
  have hZ := C.2.2.2.2.2.2.2.1.2.1
  have hN := C.2.2.2.2.2.2.2.1.2.2.2
  have hown := C.2.2.2.2.2.1
  simp only [xgn, List.mem_cons, List.not_mem_nil, or_false, Prod.mk.injEq] at hl
  rcases hl with ⟨h1, rfl, rfl⟩ | ⟨h1, rfl, rfl⟩ | ⟨h1, rfl, rfl⟩
  · rw [h1] at hown
    exact va_getsN C.1 C.2.1 hZ.1 hS hown (va_Nw.use rfl hN.1) (fun x h => h) hd k1
  · rw [h1] at hown
    exact va_getsN C.1 C.2.1 hZ.2.2.1 hS hown (va_Nw.use rfl hN.2.1) (fun x h => h) hd k1
  · rw [h1] at hown
    exact va_getsN C.1 C.2.1 hZ.2.2.1 hS hown (va_Nw.use rfl hN.2.2.1) (fun x h => h) hd k1
theorem Gx_ldc {idx : Nat} {v : Int32} (hd : decode (xmb m) pc = .ok (.ldc idx, 2)) (hl : (xmo m, idx, v) ∈ xct) (k : Gx l E m R (pc + 2) M L (.int v :: st)) : Gx l E m R pc M L st := by
  intro pr e s mi args below meth c H locs ls C hP hD hS hL
  exact lv_ldc C.1 C.2.1 C.2.2.2.2.2.1 (C.2.2.2.2.2.2.1 _ (xct_ok _ hl)) hd (k pr e s mi args below meth c H locs ls C hP hD hS hL)
theorem Gx_ldcw {idx : Nat} {v : Int32} (hd : decode (xmb m) pc = .ok (.ldc_w idx, 3)) (hl : (xmo m, idx, v) ∈ xct) (k : Gx l E m R (pc + 3) M L (.int v :: st)) : Gx l E m R pc M L st := by
  intro pr e s mi args below meth c H locs ls C hP hD hS hL
  exact lv_ldcw C.1 C.2.1 C.2.2.2.2.2.1 (C.2.2.2.2.2.2.1 _ (xct_ok _ hl)) hd (k pr e s mi args below meth c H locs ls C hP hD hS hL)
theorem Gx_ldcS {idx b : Nat} {tx : String} (hd : decode (xmb m) pc = .ok (.ldc idx, 2)) (hl : xstO[b]? = some (xmo m, idx, tx)) (k : Gx l E m R (pc + 2) M L (.ref (110 + b) :: st)) : Gx l E m R pc M L st := by
  intro pr e s mi args below meth c H locs ls C hP hD hS hL
  have k1 := k pr e s mi args below meth c H locs ls C hP hD hS hL
  rw [List.map_cons, xv_ref (show 110 + b ≠ 103 by omega)] at k1
  have hR : vk_R (xown (xmo m)) idx tx (xeA E (110 + b)) s := C.2.2.2.2.2.2.2.1.2.2.1 b (xmo m, idx, tx) hl
  exact va_ldcS (own := xown (xmo m)) (tx := tx) C.1 C.2.1 C.2.2.2.2.2.1 hR hd k1
theorem Gx_ldc2 {idx : Nat} (hd : decode (xmb m) pc = .ok (.ldc2_w idx, 3)) (hl : (xmo m, idx) = (3, 201) ∨ (xmo m, idx) = (4, 41)) (k : Gx l E m R (pc + 3) M L (.long 4000000000000000000 :: st)) : Gx l E m R pc M L st := by
  intro pr e s mi args below meth c H locs ls C hP hD hS hL
  have k1 := k pr e s mi args below meth c H locs ls C hP hD hS hL
  have hown := C.2.2.2.2.2.1
  rcases hl with hl | hl
  · obtain ⟨h1, rfl⟩ := Prod.mk.inj hl
    rw [h1] at hown
    exact lv_ldc2 C.1 C.2.1 hown (C.2.2.2.2.2.2.1 _ xlc_3) hd k1
  · obtain ⟨h1, rfl⟩ := Prod.mk.inj hl
    rw [h1] at hown
    exact lv_ldc2 C.1 C.2.1 hown (C.2.2.2.2.2.2.1 _ xlc_4) hd k1
end XM
end
section
/-! xs: a straight stretch of code, computed; Gx_run: the machine follows it -/
/-- an instruction, its length, two numbers of ours, a constant -/
abbrev xI : Type := Instr × Nat × Nat × Nat × Int32
abbrev xO : Type := Option (List Prop × xM × List (Option Value) × List Value)
def xldI (M : xM) (L : List (Option Value)) (st : List Value) (i : Nat) : xO := match L[i]? with | some (some (.int x)) => some ([], M, L, .int x :: st) | _ => none
def xldJ (M : xM) (L : List (Option Value)) (st : List Value) (i : Nat) : xO := match L[i]? with | some (some (.long x)) => some ([], M, L, .long x :: st) | _ => none
def xldA (M : xM) (L : List (Option Value)) (st : List Value) (i : Nat) : xO := match L[i]? with | some (some (.ref x)) => some ([], M, L, .ref x :: st) | _ => none
def xstI (M : xM) (L : List (Option Value)) (st : List Value) (i : Nat) : xO := match st with | .int x :: r => if xfree L i = true then some ([], M, L.set i (some (.int x)), r) else none | _ => none
def xstJ (M : xM) (L : List (Option Value)) (st : List Value) (i : Nat) : xO := match st with | .long x :: r => if xfree L i = true ∧ i + 1 < L.length then some ([], M, (L.set i (some (.long x))).set (i + 1) none, r) else none | _ => none
def xstA (M : xM) (L : List (Option Value)) (st : List Value) (i : Nat) : xO := match st with | .ref x :: r => if xfree L i = true then some ([x ≠ 103], M, L.set i (some (.ref x)), r) else none | _ => none
def xii (M : xM) (L : List (Option Value)) (st : List Value) (f : Int32 → Int32 → Int32) (c : Int32 → List Prop) : xO := match st with | .int y :: .int x :: r => some (c y, M, L, .int (f x y) :: r) | _ => none
def xjj (M : xM) (L : List (Option Value)) (st : List Value) (f : Int64 → Int64 → Int64) (c : Int64 → List Prop) : xO := match st with | .long y :: .long x :: r => some (c y, M, L, .long (f x y) :: r) | _ => none
def xi1 (M : xM) (L : List (Option Value)) (st : List Value) (f : Int32 → Int32) : xO := match st with | .int x :: r => some ([], M, L, .int (f x) :: r) | _ => none
def xgetf1 (M : xM) (L : List (Option Value)) (r : List Value) (a b p : Nat) : xO := if a = 9 then (if b = 0 then some ([110 ≤ p, p < 119], M, L, .ref (p + 20) :: r) else some ([110 ≤ p, p < 119], M, L, .int 0 :: r)) else match xfo a b with | some o => some ([xkd p = a], M, L, .ref (p + o) :: r) | none => some ([xkd p = a], M, L, .int (M p b) :: r)
def xgetf (M : xM) (L : List (Option Value)) (st : List Value) (a b : Nat) : xO := match st with
  | .ref p :: r => xgetf1 M L r a b p
  | _ => none
def xputf (M : xM) (L : List (Option Value)) (st : List Value) (a b : Nat) : xO := match st with
  | .int x :: .ref p :: r => match xfo a b with | some _ => none | none => if xbit a b = true then some ([xkd p = a, x = 0 ∨ x = 1], xup M p b x, L, r) else some ([xkd p = a], xup M p b x, L, r)
  | _ => none
def xaldf (M : xM) (L : List (Option Value)) (st : List Value) (a : Nat) : xO := match st with
  | .int i :: .ref p :: r => if a = 0 then some ([xkd p = 5, vp_in i (xln p)], M, L, .int (M p i.toNatClampNeg) :: r) else if a = 1 then some ([p = 100, vp_in i 6], M, L, .int (xhold i.toNatClampNeg) :: r) else some ([p = 101, vp_in i 6], M, L, .int (xlist i.toNatClampNeg) :: r)
  | _ => none
def xastf (M : xM) (L : List (Option Value)) (st : List Value) : xO := match st with
  | .int x :: .int i :: .ref p :: r => some ([xkd p = 5, vp_in i (xln p)], xup M p i.toNatClampNeg x, L, r)
  | _ => none
def xbldf1 (M : xM) (L : List (Option Value)) (r : List Value) (i : Int32) (p : Nat) : xO := some ([130 ≤ p, p < 139, vp_in i (xsl (p - 130))], M, L, .int (xsb (p - 130) i.toNatClampNeg) :: r)
def xbldf (M : xM) (L : List (Option Value)) (st : List Value) : xO := match st with
  | .int i :: .ref p :: r => xbldf1 M L r i p
  | _ => none
def xlenf1 (M : xM) (L : List (Option Value)) (r : List Value) (a p : Nat) : xO := if a = 0 then some ([xkd p = 5], M, L, .int (nI (xln p)) :: r) else some ([130 ≤ p, p < 139], M, L, .int (nI (xsl (p - 130))) :: r)
def xlenf (M : xM) (L : List (Option Value)) (st : List Value) (a : Nat) : xO := match st with
  | .ref p :: r => xlenf1 M L r a p
  | _ => none
def xdup (M : xM) (L : List (Option Value)) (st : List Value) : xO := match st with | .int x :: r => some ([], M, L, .int x :: .int x :: r) | .ref x :: r => some ([], M, L, .ref x :: .ref x :: r) | _ => none
def xdup2 (M : xM) (L : List (Option Value)) (st : List Value) : xO := match st with | .int x :: .ref y :: r => some ([], M, L, .int x :: .ref y :: .int x :: .ref y :: r) | _ => none
def xpop (M : xM) (L : List (Option Value)) (st : List Value) : xO := match st with | .int _ :: r => some ([], M, L, r) | _ => none
def xinc (M : xM) (L : List (Option Value)) (st : List Value) (i : Nat) (v : Int32) : xO := match L[i]? with | some (some (.int x)) => if xfree L i = true then some ([], M, L.set i (some (.int (x + v))), st) else none | _ => none
def x1 (M : xM) (L : List (Option Value)) (st : List Value) (a b : Nat) (v : Int32) : Instr → xO
  | .iload_n k => xldI M L st k | .iload k => xldI M L st k
  | .lload_n k => xldJ M L st k | .lload k => xldJ M L st k
  | .aload_n k => xldA M L st k
  | .istore_n k => xstI M L st k | .istore k => xstI M L st k
  | .lstore_n k => xstJ M L st k | .lstore k => xstJ M L st k
  | .astore_n k => xstA M L st k
  | .iconst _ => some ([], M, L, .int v :: st) | .bipush _ => some ([], M, L, .int v :: st) | .sipush _ => some ([], M, L, .int v :: st)
  | .lconst k => some ([], M, L, .long (if (k : Nat) = 0 then 0 else 1) :: st)
  | .iinc k _ => xinc M L st k v
  | .iadd => xii M L st (fun x y => x + y) (fun _ => []) | .isub => xii M L st (fun x y => x - y) (fun _ => []) | .imul => xii M L st (fun x y => x * y) (fun _ => [])
  | .iand => xii M L st (fun x y => x &&& y) (fun _ => []) | .ior => xii M L st (fun x y => x ||| y) (fun _ => []) | .ixor => xii M L st (fun x y => x ^^^ y) (fun _ => [])
  | .ishl => xii M L st (fun x y => x <<< (y &&& 31)) (fun _ => []) | .ishr => xii M L st (fun x y => x >>> (y &&& 31)) (fun _ => [])
  | .iushr => xii M L st (fun x y => (x.toUInt32 >>> (y.toUInt32 &&& Int32.toUInt32 31)).toInt32) (fun _ => [])
  | .idiv => xii M L st (fun x y => x / y) (fun y => [¬ y = 0]) | .irem => xii M L st (fun x y => x - x / y * y) (fun y => [¬ y = 0])
  | .ineg => xi1 M L st (fun x => -x) | .i2b => xi1 M L st (fun x => x.toInt8.toInt32) | .i2c => xi1 M L st (fun x => (x.toUInt32 % 65536).toInt32)
  | .ladd => xjj M L st (fun x y => x + y) (fun _ => []) | .lsub => xjj M L st (fun x y => x - y) (fun _ => []) | .lmul => xjj M L st (fun x y => x * y) (fun _ => [])
  | .ldiv => xjj M L st (fun x y => x / y) (fun y => [¬ y = 0]) | .lrem => xjj M L st (fun x y => x - x / y * y) (fun y => [¬ y = 0])
  | .lcmp => match st with | .long y :: .long x :: r => some ([], M, L, .int (lg_cmp x y) :: r) | _ => none
  | .i2l => match st with | .int x :: r => some ([], M, L, .long x.toInt64 :: r) | _ => none
  | .dup => xdup M L st | .dup2 => xdup2 M L st | .pop => xpop M L st
  | .getfield _ => xgetf M L st a b | .putfield _ => xputf M L st a b
  | .getstatic _ => some ([], M, L, xgv a :: st)
  | .iaload => xaldf M L st a | .iastore => xastf M L st | .baload => xbldf M L st | .arraylength => xlenf M L st a
  | .ldc _ => if a = 0 then some ([], M, L, .int v :: st) else some ([], M, L, .ref (110 + b) :: st)
  | .ldc_w _ => some ([], M, L, .int v :: st)
  | .ldc2_w _ => some ([], M, L, .long 4000000000000000000 :: st)
  | _ => none
/-- the length of an instruction; what must be so of its numbers -/
def xlk (own : Nat) (a b : Nat) (v : Int32) (n : Nat) : Instr → Bool
  | .iload _ | .lload _ | .istore _ | .lstore _ => n == 2
  | .iconst k => n == 1 && decide (Int32.ofInt k = v)
  | .bipush k => n == 2 && decide ((Int8.ofInt k).toInt32 = v)
  | .sipush k => n == 3 && decide ((Int16.ofInt k).toInt32 = v)
  | .lconst k => n == 1 && decide (Int64.ofNat (k : Nat) = if (k : Nat) = 0 then 0 else 1)
  | .iinc _ k => n == 3 && decide (Int32.ofInt k = v)
  | .getfield i => n == 3 && decide ((own, i, a, b) ∈ xft) && (a == 9 || (decide (a < 5) && decide (b < xnf a))) && (a != 9 || b == 0 || b == 1)
  | .putfield i => n == 3 && decide ((own, i, a, b) ∈ xft) && (decide (a < 5) && decide (b < xnf a))
  | .getstatic i => n == 3 && ((decide ((own, i, a) ∈ xgt) && decide (a < 4)) || decide ((own, i, a) ∈ xgn))
  | .ldc i => n == 2 && (if a = 0 then decide ((own, i, v) ∈ xct) else match xstO[b]? with | some q => q.1 == own && q.2.1 == i | none => false)
  | .ldc_w i => n == 3 && decide ((own, i, v) ∈ xct)
  | .ldc2_w i => n == 3 && (decide ((own, i) = (3, 201)) || decide ((own, i) = (4, 41)))
  | _ => n == 1
def xcode (cc : ByteArray) (own : Nat) : Nat → List xI → Bool
  | _, [] => true
  | pc, e :: es => decide (decode cc pc = .ok (e.1, e.2.1)) && xlk own e.2.2.1 e.2.2.2.1 e.2.2.2.2 e.2.1 e.1 && xcode cc own (pc + e.2.1) es
def xs : List xI → xM → List (Option Value) → List Value → xO
  | [], M, L, st => some ([], M, L, st)
  | e :: es, M, L, st => match x1 M L st e.2.2.1 e.2.2.2.1 e.2.2.2.2 e.1 with
    | some (P, M', L', st') => match xs es M' L' st' with
      | some (P2, r) => some (P ++ P2, r)
      | none => none
    | none => none
def xall : List Prop → Prop
  | [] => True
  | p :: ps => p ∧ xall ps
theorem xall_app {a b : List Prop} (h : xall (a ++ b)) : xall a ∧ xall b := by
  induction a with
  | nil => exact ⟨trivial, h⟩
  | cons p a ih => exact ⟨⟨h.1, (ih h.2).1⟩, (ih h.2).2⟩
def xlen (es : List xI) : Nat := (es.map (fun e => e.2.1)).sum
section XX
variable {l : Launch} {E : xE} {m : xMt} {R : Option Value → xM → Prop} {pc : Nat} {M : xM} {L : List (Option Value)} {st : List Value}
set_option maxHeartbeats 4000000 in
theorem Gx_1 {i : Instr} {n a b : Nat} {v : Int32} {P : List Prop} {M' : xM} {L' : List (Option Value)} {st' : List Value} (hd : decode (xmb m) pc = .ok (i, n)) (hk : xlk (xmo m) a b v n i = true) (h : x1 M L st a b v i = some (P, M', L', st')) (hP : xall P) (k : Gx l E m R (pc + n) M' L' st') : Gx l E m R pc M L st := by
  cases i
  case iload_n j =>
    have hn : n = 1 := by simpa [xlk] using hk
    subst hn
    simp only [x1, xldI] at h
    split at h
    · rename_i hx
      cases h
      exact Gx_iload_n hd hx k
    · cases h
  case iload j =>
    have hn : n = 2 := by simpa [xlk] using hk
    subst hn
    simp only [x1, xldI] at h
    split at h
    · rename_i hx
      cases h
      exact Gx_iload hd hx k
    · cases h
  case lload_n j =>
    have hn : n = 1 := by simpa [xlk] using hk
    subst hn
    simp only [x1, xldJ] at h
    split at h
    · rename_i hx
      cases h
      exact Gx_lload_n hd hx k
    · cases h
  case lload j =>
    have hn : n = 2 := by simpa [xlk] using hk
    subst hn
    simp only [x1, xldJ] at h
    split at h
    · rename_i hx
      cases h
      exact Gx_lload hd hx k
    · cases h
  case aload_n j =>
    have hn : n = 1 := by simpa [xlk] using hk
    subst hn
    simp only [x1, xldA] at h
    split at h
    · rename_i hx
      cases h
      exact Gx_aload_n hd hx k
    · cases h
  case istore_n j =>
    have hn : n = 1 := by simpa [xlk] using hk
    subst hn
    simp only [x1, xstI] at h
    split at h
    · split at h
      · rename_i hf
        cases h
        exact Gx_istore_n hd hf k
      · cases h
    · cases h
  case istore j =>
    have hn : n = 2 := by simpa [xlk] using hk
    subst hn
    simp only [x1, xstI] at h
    split at h
    · split at h
      · rename_i hf
        cases h
        exact Gx_istore hd hf k
      · cases h
    · cases h
  case lstore_n j =>
    have hn : n = 1 := by simpa [xlk] using hk
    subst hn
    simp only [x1, xstJ] at h
    split at h
    · split at h
      · rename_i hf
        cases h
        exact Gx_lstore_n hd hf.1 hf.2 k
      · cases h
    · cases h
  case lstore j =>
    have hn : n = 2 := by simpa [xlk] using hk
    subst hn
    simp only [x1, xstJ] at h
    split at h
    · split at h
      · rename_i hf
        cases h
        exact Gx_lstore hd hf.1 hf.2 k
      · cases h
    · cases h
  case astore_n j =>
    have hn : n = 1 := by simpa [xlk] using hk
    subst hn
    simp only [x1, xstA] at h
    split at h
    · split at h
      · rename_i hf
        cases h
        exact Gx_astore_n hP.1 hd hf k
      · cases h
    · cases h
  case iconst j =>
    obtain ⟨hn, hv⟩ : n = 1 ∧ _ = v := by simpa [xlk] using hk
    subst hn
    simp only [x1] at h
    cases h
    exact Gx_iconst hd hv k
  case bipush j =>
    obtain ⟨hn, hv⟩ : n = 2 ∧ _ = v := by simpa [xlk] using hk
    subst hn
    simp only [x1] at h
    cases h
    exact Gx_bipush hd hv k
  case sipush j =>
    obtain ⟨hn, hv⟩ : n = 3 ∧ _ = v := by simpa [xlk] using hk
    subst hn
    simp only [x1] at h
    cases h
    exact Gx_sipush hd hv k
  case lconst j =>
    simp only [xlk, Bool.and_eq_true, beq_iff_eq, decide_eq_true_eq] at hk
    obtain ⟨hn, hv⟩ := hk
    subst hn
    simp only [x1] at h
    cases h
    exact Gx_lconst hd hv k
  case iinc j q =>
    obtain ⟨hn, hv⟩ : n = 3 ∧ _ = v := by simpa [xlk] using hk
    subst hn
    simp only [x1, xinc] at h
    split at h
    · rename_i hx
      split at h
      · rename_i hf
        cases h
        exact Gx_iinc hd hv hx hf k
      · cases h
    · cases h
  case iadd =>
    have hn : n = 1 := by simpa [xlk] using hk
    subst hn
    simp only [x1, xii] at h
    split at h
    · cases h
      exact Gx_iadd hd k
    · cases h
  case isub =>
    have hn : n = 1 := by simpa [xlk] using hk
    subst hn
    simp only [x1, xii] at h
    split at h
    · cases h
      exact Gx_isub hd k
    · cases h
  case imul =>
    have hn : n = 1 := by simpa [xlk] using hk
    subst hn
    simp only [x1, xii] at h
    split at h
    · cases h
      exact Gx_imul hd k
    · cases h
  case iand =>
    have hn : n = 1 := by simpa [xlk] using hk
    subst hn
    simp only [x1, xii] at h
    split at h
    · cases h
      exact Gx_iand hd k
    · cases h
  case ior =>
    have hn : n = 1 := by simpa [xlk] using hk
    subst hn
    simp only [x1, xii] at h
    split at h
    · cases h
      exact Gx_ior hd k
    · cases h
  case ixor =>
    have hn : n = 1 := by simpa [xlk] using hk
    subst hn
    simp only [x1, xii] at h
    split at h
    · cases h
      exact Gx_ixor hd k
    · cases h
  case ishl =>
    have hn : n = 1 := by simpa [xlk] using hk
    subst hn
    simp only [x1, xii] at h
    split at h
    · cases h
      exact Gx_ishl hd k
    · cases h
  case ishr =>
    have hn : n = 1 := by simpa [xlk] using hk
    subst hn
    simp only [x1, xii] at h
    split at h
    · cases h
      exact Gx_ishr hd k
    · cases h
  case iushr =>
    have hn : n = 1 := by simpa [xlk] using hk
    subst hn
    simp only [x1, xii] at h
    split at h
    · cases h
      exact Gx_iushr hd k
    · cases h
  case idiv =>
    have hn : n = 1 := by simpa [xlk] using hk
    subst hn
    simp only [x1, xii] at h
    split at h
    · cases h
      exact Gx_idiv hd hP.1 k
    · cases h
  case irem =>
    have hn : n = 1 := by simpa [xlk] using hk
    subst hn
    simp only [x1, xii] at h
    split at h
    · cases h
      exact Gx_irem hd hP.1 k
    · cases h
  case ineg =>
    have hn : n = 1 := by simpa [xlk] using hk
    subst hn
    simp only [x1, xi1] at h
    split at h
    · cases h
      exact Gx_ineg hd k
    · cases h
  case i2b =>
    have hn : n = 1 := by simpa [xlk] using hk
    subst hn
    simp only [x1, xi1] at h
    split at h
    · cases h
      exact Gx_i2b hd k
    · cases h
  case i2c =>
    have hn : n = 1 := by simpa [xlk] using hk
    subst hn
    simp only [x1, xi1] at h
    split at h
    · cases h
      exact Gx_i2c hd k
    · cases h
  case ladd =>
    have hn : n = 1 := by simpa [xlk] using hk
    subst hn
    simp only [x1, xjj] at h
    split at h
    · cases h
      exact Gx_ladd hd k
    · cases h
  case lsub =>
    have hn : n = 1 := by simpa [xlk] using hk
    subst hn
    simp only [x1, xjj] at h
    split at h
    · cases h
      exact Gx_lsub hd k
    · cases h
  case lmul =>
    have hn : n = 1 := by simpa [xlk] using hk
    subst hn
    simp only [x1, xjj] at h
    split at h
    · cases h
      exact Gx_lmul hd k
    · cases h
  case ldiv =>
    have hn : n = 1 := by simpa [xlk] using hk
    subst hn
    simp only [x1, xjj] at h
    split at h
    · cases h
      exact Gx_ldiv hd hP.1 k
    · cases h
  case lrem =>
    have hn : n = 1 := by simpa [xlk] using hk
    subst hn
    simp only [x1, xjj] at h
    split at h
    · cases h
      exact Gx_lrem hd hP.1 k
    · cases h
  case lcmp =>
    have hn : n = 1 := by simpa [xlk] using hk
    subst hn
    simp only [x1] at h
    split at h
    · cases h
      exact Gx_lcmp hd k
    · cases h
  case i2l =>
    have hn : n = 1 := by simpa [xlk] using hk
    subst hn
    simp only [x1] at h
    split at h
    · cases h
      exact Gx_i2l hd k
    · cases h
  case dup =>
    have hn : n = 1 := by simpa [xlk] using hk
    subst hn
    simp only [x1, xdup] at h
    split at h
    · cases h
      exact Gx_dup rfl hd k
    · cases h
      exact Gx_dup rfl hd k
    · cases h
  case dup2 =>
    have hn : n = 1 := by simpa [xlk] using hk
    subst hn
    simp only [x1, xdup2] at h
    split at h
    · cases h
      exact Gx_dup2 rfl rfl hd k
    · cases h
  case pop =>
    have hn : n = 1 := by simpa [xlk] using hk
    subst hn
    simp only [x1, xpop] at h
    split at h
    · cases h
      exact Gx_pop rfl hd k
    · cases h
  case getfield j =>
    simp only [xlk, Bool.and_eq_true, Bool.or_eq_true, beq_iff_eq, bne_iff_ne, decide_eq_true_eq] at hk
    obtain ⟨⟨⟨hn, hl⟩, h1⟩, h2⟩ := hk
    subst hn
    simp only [x1, xgetf] at h
    split at h
    · rename_i p0 r
      obtain ⟨p, hp0⟩ : ∃ p : Nat, p = p0 := ⟨p0, rfl⟩
      subst hp0
      unfold xgetf1 at h
      split at h
      · rename_i ha
        subst ha
        split at h
        · rename_i hb
          subst hb
          cases h
          obtain ⟨j2, rfl⟩ : ∃ j2, p = 110 + j2 := ⟨p - 110, by have := hP.1; omega⟩
          have e1 : 110 + j2 + 20 = 130 + j2 := by omega
          rw [e1] at k
          exact Gx_value hd hl (by have := hP.2.1; omega) k
        · rename_i hb
          have hb1 : b = 1 := by omega
          subst hb1
          cases h
          obtain ⟨j2, rfl⟩ : ∃ j2, p = 110 + j2 := ⟨p - 110, by have := hP.1; omega⟩
          exact Gx_coder hd hl (by have := hP.2.1; omega) k
      · rename_i ha
        have hab : a < 5 ∧ b < xnf a := by
          rcases h1 with h1 | h1
          · exact absurd h1 ha
          · exact h1
        split at h
        · rename_i o ho
          cases h
          exact Gx_getR hd hl hab.1 hab.2 hP.1 ho k
        · rename_i ho
          cases h
          exact Gx_getI hd hl hab.1 hab.2 hP.1 ho k
    · cases h
  case putfield j =>
    simp only [xlk, Bool.and_eq_true, Bool.or_eq_true, beq_iff_eq, bne_iff_ne, decide_eq_true_eq] at hk
    obtain ⟨⟨hn, hl⟩, h1⟩ := hk
    subst hn
    simp only [x1, xputf] at h
    split at h
    · rename_i x p r
      split at h
      · cases h
      · rename_i ho
        split at h
        · rename_i hb
          cases h
          exact Gx_put hd hl h1.1 h1.2 hP.1 ho (fun _ => hP.2.1) k
        · rename_i hb
          cases h
          exact Gx_put hd hl h1.1 h1.2 hP.1 ho (fun z => absurd z hb) k
    · cases h
  case getstatic j =>
    simp only [xlk, Bool.and_eq_true, Bool.or_eq_true, beq_iff_eq, bne_iff_ne, decide_eq_true_eq] at hk
    obtain ⟨hn, h1⟩ := hk
    subst hn
    simp only [x1] at h
    cases h
    rcases h1 with h1 | h1
    · exact Gx_gets hd h1.1 h1.2 k
    · exact Gx_getsN hd h1 k
  case iaload =>
    have hn : n = 1 := by simpa [xlk] using hk
    subst hn
    simp only [x1, xaldf] at h
    split at h
    · rename_i i p r
      split at h
      · cases h
        exact Gx_iald hd hP.1 hP.2.1 k
      · split at h
        · cases h
          obtain ⟨rfl, h2, -⟩ := hP
          exact Gx_holds hd h2 k
        · cases h
          obtain ⟨rfl, h2, -⟩ := hP
          exact Gx_lists hd h2 k
    · cases h
  case iastore =>
    have hn : n = 1 := by simpa [xlk] using hk
    subst hn
    simp only [x1, xastf] at h
    split at h
    · cases h
      exact Gx_iast hd hP.1 hP.2.1 k
    · cases h
  case baload =>
    have hn : n = 1 := by simpa [xlk] using hk
    subst hn
    simp only [x1, xbldf] at h
    split at h
    · rename_i i p0 r
      obtain ⟨p, hp0⟩ : ∃ p : Nat, p = p0 := ⟨p0, rfl⟩
      subst hp0
      unfold xbldf1 at h
      cases h
      obtain ⟨h1, h2, h3, -⟩ := hP
      obtain ⟨j2, rfl⟩ : ∃ j2, p = 130 + j2 := ⟨p - 130, by omega⟩
      rw [show 130 + j2 - 130 = j2 by omega] at h3 k
      exact Gx_bald hd (by omega) h3 k
    · cases h
  case arraylength =>
    have hn : n = 1 := by simpa [xlk] using hk
    subst hn
    simp only [x1, xlenf] at h
    split at h
    · rename_i p0 r
      obtain ⟨p, hp0⟩ : ∃ p : Nat, p = p0 := ⟨p0, rfl⟩
      subst hp0
      unfold xlenf1 at h
      split at h
      · cases h
        exact Gx_alen hd hP.1 k
      · cases h
        obtain ⟨h1, h2, -⟩ := hP
        obtain ⟨j2, rfl⟩ : ∃ j2, p = 130 + j2 := ⟨p - 130, by omega⟩
        rw [show 130 + j2 - 130 = j2 by omega] at k
        exact Gx_blen hd (by omega) k
    · cases h
  case ldc j =>
    simp only [xlk, Bool.and_eq_true, beq_iff_eq] at hk
    obtain ⟨hn, h1⟩ := hk
    subst hn
    simp only [x1] at h
    split at h
    · rename_i ha
      rw [if_pos ha] at h1
      cases h
      exact Gx_ldc hd (of_decide_eq_true h1) k
    · rename_i ha
      rw [if_neg ha] at h1
      cases h
      split at h1
      · rename_i q hq
        simp only [Bool.and_eq_true, beq_iff_eq] at h1
        obtain ⟨q1, q2, q3⟩ := q
        obtain ⟨e1, e2⟩ := h1
        simp only at e1 e2
        subst e1; subst e2
        exact Gx_ldcS hd hq k
      · cases h1
  case ldc_w j =>
    simp only [xlk, Bool.and_eq_true, Bool.or_eq_true, beq_iff_eq, bne_iff_ne, decide_eq_true_eq] at hk
    obtain ⟨hn, h1⟩ := hk
    subst hn
    simp only [x1] at h
    cases h
    exact Gx_ldcw hd h1 k
  case ldc2_w j =>
    simp only [xlk, Bool.and_eq_true, Bool.or_eq_true, beq_iff_eq, decide_eq_true_eq] at hk
    obtain ⟨hn, h1⟩ := hk
    subst hn
    simp only [x1] at h
    cases h
    exact Gx_ldc2 hd h1 k
  all_goals (simp only [x1] at h; cases h)
theorem Gx_run {es : List xI} {P : List Prop} {M' : xM} {L' : List (Option Value)} {st' : List Value} {pc' : Nat} (hc : xcode (xmb m) (xmo m) pc es = true) (h : xs es M L st = some (P, M', L', st')) (hP : xall P) (hpc : pc + xlen es = pc') (k : Gx l E m R pc' M' L' st') : Gx l E m R pc M L st := by
  induction es generalizing pc M L st P with
  | nil =>
    cases h
    subst hpc
    exact k
  | cons e es ih =>
    obtain ⟨i, n, a, b, v⟩ := e
    simp only [xcode, Bool.and_eq_true, decide_eq_true_eq] at hc
    obtain ⟨⟨hd, hk⟩, hc2⟩ := hc
    unfold xs at h
    split at h
    · rename_i P1 M1 L1 st1 h1
      split at h
      · rename_i P2 r h2
        obtain ⟨M2, L2, st2⟩ := r
        cases h
        obtain ⟨hP1, hP2⟩ := xall_app hP
        refine Gx_1 hd hk h1 hP1 (ih hc2 h2 hP2 ?_)
        rw [← hpc]
        simp only [xlen, List.map_cons, List.sum_cons]
        omega
      · cases h
    · cases h
end XX
end
