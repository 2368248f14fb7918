section
-- ===== PART A: goes FIRST, ahead of the names: the tables' words, and 'selects' of the private methods out of them =====
/-- a private method of a class that the tables say can be made, by its rows of tables_1 -/
def lw_okq (q : MethodName × Nat) : Prop := (q.1.cls ≠ "java/lang/invoke/MethodHandle" ∧ q.1.cls ≠ "java/lang/invoke/VarHandle") ∧ Cond.instantiable q.1.cls q.2 ∈ tables_1 ∧ Cond.privateMethod q.1 ∈ tables_1 ∧ Cond.instanceMethod q.1 ∈ tables_1
theorem lw_p0 : lw_okq (⟨"AttributeKinds", "forgetAnswers", "()V"⟩, 5) := ⟨⟨by decide +kernel, by decide +kernel⟩, List.mem_of_getElem? (i := 16) (by decide +kernel), List.mem_of_getElem? (i := 226) (by decide +kernel), List.mem_of_getElem? (i := 227) (by decide +kernel)⟩
theorem lw_p1 : lw_okq (⟨"AttributeKinds$Relations", "forget", "()V"⟩, 7) := ⟨⟨by decide +kernel, by decide +kernel⟩, List.mem_of_getElem? (i := 132) (by decide +kernel), List.mem_of_getElem? (i := 238) (by decide +kernel), List.mem_of_getElem? (i := 239) (by decide +kernel)⟩
theorem lw_p2 : lw_okq (⟨"AttributeKinds$Relations", "growUpwards", "(LAttributeKinds$Grammar;)Z"⟩, 7) := ⟨⟨by decide +kernel, by decide +kernel⟩, List.mem_of_getElem? (i := 132) (by decide +kernel), List.mem_of_getElem? (i := 242) (by decide +kernel), List.mem_of_getElem? (i := 243) (by decide +kernel)⟩
theorem lw_p3 : lw_okq (⟨"AttributeKinds$Relations", "allPartsExist", "(LAttributeKinds$Grammar;I)Z"⟩, 7) := ⟨⟨by decide +kernel, by decide +kernel⟩, List.mem_of_getElem? (i := 132) (by decide +kernel), List.mem_of_getElem? (i := 246) (by decide +kernel), List.mem_of_getElem? (i := 247) (by decide +kernel)⟩
theorem lw_p4 : lw_okq (⟨"AttributeKinds$Relations", "joinParts", "(LAttributeKinds$Grammar;II)V"⟩, 7) := ⟨⟨by decide +kernel, by decide +kernel⟩, List.mem_of_getElem? (i := 132) (by decide +kernel), List.mem_of_getElem? (i := 257) (by decide +kernel), List.mem_of_getElem? (i := 258) (by decide +kernel)⟩
theorem lw_p5 : lw_okq (⟨"AttributeKinds$Board", "joinAt", "(I)V"⟩, 2) := ⟨⟨by decide +kernel, by decide +kernel⟩, List.mem_of_getElem? (i := 87) (by decide +kernel), List.mem_of_getElem? (i := 272) (by decide +kernel), List.mem_of_getElem? (i := 273) (by decide +kernel)⟩
theorem lw_p6 : lw_okq (⟨"AttributeKinds$Relations", "growFromAbove", "(LAttributeKinds$Grammar;)Z"⟩, 7) := ⟨⟨by decide +kernel, by decide +kernel⟩, List.mem_of_getElem? (i := 132) (by decide +kernel), List.mem_of_getElem? (i := 280) (by decide +kernel), List.mem_of_getElem? (i := 281) (by decide +kernel)⟩
theorem lw_p7 : lw_okq (⟨"AttributeKinds$Relations", "startWithHead", "(LAttributeKinds$Grammar;I)V"⟩, 7) := ⟨⟨by decide +kernel, by decide +kernel⟩, List.mem_of_getElem? (i := 132) (by decide +kernel), List.mem_of_getElem? (i := 284) (by decide +kernel), List.mem_of_getElem? (i := 285) (by decide +kernel)⟩
theorem lw_p8 : lw_okq (⟨"AttributeKinds$Relations", "lookForCircles", "(LAttributeKinds$Grammar;)V"⟩, 7) := ⟨⟨by decide +kernel, by decide +kernel⟩, List.mem_of_getElem? (i := 132) (by decide +kernel), List.mem_of_getElem? (i := 288) (by decide +kernel), List.mem_of_getElem? (i := 289) (by decide +kernel)⟩
theorem lw_p9 : lw_okq (⟨"AttributeKinds", "numbering", "(Z)LAttributeKinds$Numbering;"⟩, 5) := ⟨⟨by decide +kernel, by decide +kernel⟩, List.mem_of_getElem? (i := 16) (by decide +kernel), List.mem_of_getElem? (i := 300) (by decide +kernel), List.mem_of_getElem? (i := 301) (by decide +kernel)⟩
theorem lw_p10 : lw_okq (⟨"AttributeKinds$Numbering", "forget", "()V"⟩, 7) := ⟨⟨by decide +kernel, by decide +kernel⟩, List.mem_of_getElem? (i := 169) (by decide +kernel), List.mem_of_getElem? (i := 308) (by decide +kernel), List.mem_of_getElem? (i := 309) (by decide +kernel)⟩
theorem lw_p11 : lw_okq (⟨"AttributeKinds$Numbering", "choose", "(LAttributeKinds$Grammar;Z)V"⟩, 7) := ⟨⟨by decide +kernel, by decide +kernel⟩, List.mem_of_getElem? (i := 169) (by decide +kernel), List.mem_of_getElem? (i := 312) (by decide +kernel), List.mem_of_getElem? (i := 313) (by decide +kernel)⟩
theorem lw_p12 : lw_okq (⟨"AttributeKinds$Numbering", "drop", "(LAttributeKinds$Grammar;IZ)Z"⟩, 7) := ⟨⟨by decide +kernel, by decide +kernel⟩, List.mem_of_getElem? (i := 169) (by decide +kernel), List.mem_of_getElem? (i := 323) (by decide +kernel), List.mem_of_getElem? (i := 324) (by decide +kernel)⟩
theorem lw_p13 : lw_okq (⟨"AttributeKinds$Numbering", "give", "(LAttributeKinds$Grammar;I)Z"⟩, 7) := ⟨⟨by decide +kernel, by decide +kernel⟩, List.mem_of_getElem? (i := 169) (by decide +kernel), List.mem_of_getElem? (i := 338) (by decide +kernel), List.mem_of_getElem? (i := 339) (by decide +kernel)⟩
theorem lw_p14 : lw_okq (⟨"AttributeKinds$Numbering", "isWhole", "(LAttributeKinds$Grammar;)Z"⟩, 7) := ⟨⟨by decide +kernel, by decide +kernel⟩, List.mem_of_getElem? (i := 169) (by decide +kernel), List.mem_of_getElem? (i := 342) (by decide +kernel), List.mem_of_getElem? (i := 343) (by decide +kernel)⟩
theorem lw_p15 : lw_okq (⟨"java/lang/Throwable", "fillInStackTrace", "(I)Ljava/lang/Throwable;"⟩, 6) := ⟨⟨by decide +kernel, by decide +kernel⟩, List.mem_of_getElem? (i := 393) (by decide +kernel), List.mem_of_getElem? (i := 391) (by decide +kernel), List.mem_of_getElem? (i := 392) (by decide +kernel)⟩
def lw_privs_1 : List (MethodName × Nat) := [(⟨"AttributeKinds", "forgetAnswers", "()V"⟩, 5), (⟨"AttributeKinds$Relations", "forget", "()V"⟩, 7), (⟨"AttributeKinds$Relations", "growUpwards", "(LAttributeKinds$Grammar;)Z"⟩, 7), (⟨"AttributeKinds$Relations", "allPartsExist", "(LAttributeKinds$Grammar;I)Z"⟩, 7), (⟨"AttributeKinds$Relations", "joinParts", "(LAttributeKinds$Grammar;II)V"⟩, 7), (⟨"AttributeKinds$Board", "joinAt", "(I)V"⟩, 2), (⟨"AttributeKinds$Relations", "growFromAbove", "(LAttributeKinds$Grammar;)Z"⟩, 7), (⟨"AttributeKinds$Relations", "startWithHead", "(LAttributeKinds$Grammar;I)V"⟩, 7), (⟨"AttributeKinds$Relations", "lookForCircles", "(LAttributeKinds$Grammar;)V"⟩, 7), (⟨"AttributeKinds", "numbering", "(Z)LAttributeKinds$Numbering;"⟩, 5), (⟨"AttributeKinds$Numbering", "forget", "()V"⟩, 7), (⟨"AttributeKinds$Numbering", "choose", "(LAttributeKinds$Grammar;Z)V"⟩, 7), (⟨"AttributeKinds$Numbering", "drop", "(LAttributeKinds$Grammar;IZ)Z"⟩, 7), (⟨"AttributeKinds$Numbering", "give", "(LAttributeKinds$Grammar;I)Z"⟩, 7), (⟨"AttributeKinds$Numbering", "isWhole", "(LAttributeKinds$Grammar;)Z"⟩, 7), (⟨"java/lang/Throwable", "fillInStackTrace", "(I)Ljava/lang/Throwable;"⟩, 6)]
theorem lw_r1 : ∀ q ∈ lw_privs_1, lw_okq q := List.forall_mem_cons.mpr ⟨lw_p0, List.forall_mem_cons.mpr ⟨lw_p1, List.forall_mem_cons.mpr ⟨lw_p2, List.forall_mem_cons.mpr ⟨lw_p3, List.forall_mem_cons.mpr ⟨lw_p4, List.forall_mem_cons.mpr ⟨lw_p5, List.forall_mem_cons.mpr ⟨lw_p6, List.forall_mem_cons.mpr ⟨lw_p7, List.forall_mem_cons.mpr ⟨lw_p8, List.forall_mem_cons.mpr ⟨lw_p9, List.forall_mem_cons.mpr ⟨lw_p10, List.forall_mem_cons.mpr ⟨lw_p11, List.forall_mem_cons.mpr ⟨lw_p12, List.forall_mem_cons.mpr ⟨lw_p13, List.forall_mem_cons.mpr ⟨lw_p14, List.forall_mem_cons.mpr ⟨lw_p15, fun _ h => absurd h List.not_mem_nil⟩⟩⟩⟩⟩⟩⟩⟩⟩⟩⟩⟩⟩⟩⟩⟩
theorem lw_p16 : lw_okq (⟨"AttributeKinds$Grammar", "up", "(I)I"⟩, 9) := ⟨⟨by decide +kernel, by decide +kernel⟩, List.mem_of_getElem? (i := 24) (by decide +kernel), List.mem_of_getElem? (i := 470) (by decide +kernel), List.mem_of_getElem? (i := 471) (by decide +kernel)⟩
theorem lw_p17 : lw_okq (⟨"AttributeKinds$Grammar", "addPart", "(II)V"⟩, 9) := ⟨⟨by decide +kernel, by decide +kernel⟩, List.mem_of_getElem? (i := 24) (by decide +kernel), List.mem_of_getElem? (i := 475) (by decide +kernel), List.mem_of_getElem? (i := 476) (by decide +kernel)⟩
theorem lw_p18 : lw_okq (⟨"AttributeKinds", "checkSymbol", "(I)V"⟩, 5) := ⟨⟨by decide +kernel, by decide +kernel⟩, List.mem_of_getElem? (i := 16) (by decide +kernel), List.mem_of_getElem? (i := 529) (by decide +kernel), List.mem_of_getElem? (i := 530) (by decide +kernel)⟩
theorem lw_p19 : lw_okq (⟨"AttributeKinds", "findGraphs", "()V"⟩, 5) := ⟨⟨by decide +kernel, by decide +kernel⟩, List.mem_of_getElem? (i := 16) (by decide +kernel), List.mem_of_getElem? (i := 534) (by decide +kernel), List.mem_of_getElem? (i := 535) (by decide +kernel)⟩
theorem lw_p20 : lw_okq (⟨"AttributeKinds$TreeGraphs", "forget", "()V"⟩, 8) := ⟨⟨by decide +kernel, by decide +kernel⟩, List.mem_of_getElem? (i := 78) (by decide +kernel), List.mem_of_getElem? (i := 542) (by decide +kernel), List.mem_of_getElem? (i := 543) (by decide +kernel)⟩
theorem lw_p21 : lw_okq (⟨"AttributeKinds$TreeGraphs", "combine", "(LAttributeKinds$Grammar;IIZ)V"⟩, 8) := ⟨⟨by decide +kernel, by decide +kernel⟩, List.mem_of_getElem? (i := 78) (by decide +kernel), List.mem_of_getElem? (i := 547) (by decide +kernel), List.mem_of_getElem? (i := 548) (by decide +kernel)⟩
theorem lw_p22 : lw_okq (⟨"AttributeKinds$TreeGraphs", "keep", "(ILAttributeKinds$Board;)V"⟩, 8) := ⟨⟨by decide +kernel, by decide +kernel⟩, List.mem_of_getElem? (i := 78) (by decide +kernel), List.mem_of_getElem? (i := 551) (by decide +kernel), List.mem_of_getElem? (i := 552) (by decide +kernel)⟩
theorem lw_p23 : lw_okq (⟨"AttributeKinds$TreeGraphs", "beginRound", "()Z"⟩, 8) := ⟨⟨by decide +kernel, by decide +kernel⟩, List.mem_of_getElem? (i := 78) (by decide +kernel), List.mem_of_getElem? (i := 562) (by decide +kernel), List.mem_of_getElem? (i := 563) (by decide +kernel)⟩
theorem lw_p24 : lw_okq (⟨"AttributeKinds", "checkAttribute", "(II)V"⟩, 5) := ⟨⟨by decide +kernel, by decide +kernel⟩, List.mem_of_getElem? (i := 16) (by decide +kernel), List.mem_of_getElem? (i := 581) (by decide +kernel), List.mem_of_getElem? (i := 582) (by decide +kernel)⟩
theorem lw_p25 : lw_okq (⟨"AttributeKindsModel", "forget", "()V"⟩, 23) := ⟨⟨by decide +kernel, by decide +kernel⟩, List.mem_of_getElem? (i := 594) (by decide +kernel), List.mem_of_getElem? (i := 678) (by decide +kernel), List.mem_of_getElem? (i := 679) (by decide +kernel)⟩
theorem lw_p26 : lw_okq (⟨"AttributeKindsModel", "refuse", "(ZZ)Z"⟩, 23) := ⟨⟨by decide +kernel, by decide +kernel⟩, List.mem_of_getElem? (i := 594) (by decide +kernel), List.mem_of_getElem? (i := 689) (by decide +kernel), List.mem_of_getElem? (i := 690) (by decide +kernel)⟩
theorem lw_p27 : lw_okq (⟨"AttributeKindsModel", "isSymbol", "(I)Z"⟩, 23) := ⟨⟨by decide +kernel, by decide +kernel⟩, List.mem_of_getElem? (i := 594) (by decide +kernel), List.mem_of_getElem? (i := 697) (by decide +kernel), List.mem_of_getElem? (i := 698) (by decide +kernel)⟩
theorem lw_p28 : lw_okq (⟨"AttributeKindsModel", "isThere", "(II)Z"⟩, 23) := ⟨⟨by decide +kernel, by decide +kernel⟩, List.mem_of_getElem? (i := 594) (by decide +kernel), List.mem_of_getElem? (i := 705) (by decide +kernel), List.mem_of_getElem? (i := 706) (by decide +kernel)⟩
theorem lw_p29 : lw_okq (⟨"AttributeKindsModel", "symbolOf", "(II)I"⟩, 23) := ⟨⟨by decide +kernel, by decide +kernel⟩, List.mem_of_getElem? (i := 594) (by decide +kernel), List.mem_of_getElem? (i := 709) (by decide +kernel), List.mem_of_getElem? (i := 710) (by decide +kernel)⟩
theorem lw_p30 : lw_okq (⟨"AttributeKindsModel", "defines", "(II)Z"⟩, 23) := ⟨⟨by decide +kernel, by decide +kernel⟩, List.mem_of_getElem? (i := 594) (by decide +kernel), List.mem_of_getElem? (i := 713) (by decide +kernel), List.mem_of_getElem? (i := 714) (by decide +kernel)⟩
theorem lw_p31 : lw_okq (⟨"AttributeKindsModel", "isDown", "(II)Z"⟩, 23) := ⟨⟨by decide +kernel, by decide +kernel⟩, List.mem_of_getElem? (i := 594) (by decide +kernel), List.mem_of_getElem? (i := 717) (by decide +kernel), List.mem_of_getElem? (i := 718) (by decide +kernel)⟩
def lw_privs_2 : List (MethodName × Nat) := [(⟨"AttributeKinds$Grammar", "up", "(I)I"⟩, 9), (⟨"AttributeKinds$Grammar", "addPart", "(II)V"⟩, 9), (⟨"AttributeKinds", "checkSymbol", "(I)V"⟩, 5), (⟨"AttributeKinds", "findGraphs", "()V"⟩, 5), (⟨"AttributeKinds$TreeGraphs", "forget", "()V"⟩, 8), (⟨"AttributeKinds$TreeGraphs", "combine", "(LAttributeKinds$Grammar;IIZ)V"⟩, 8), (⟨"AttributeKinds$TreeGraphs", "keep", "(ILAttributeKinds$Board;)V"⟩, 8), (⟨"AttributeKinds$TreeGraphs", "beginRound", "()Z"⟩, 8), (⟨"AttributeKinds", "checkAttribute", "(II)V"⟩, 5), (⟨"AttributeKindsModel", "forget", "()V"⟩, 23), (⟨"AttributeKindsModel", "refuse", "(ZZ)Z"⟩, 23), (⟨"AttributeKindsModel", "isSymbol", "(I)Z"⟩, 23), (⟨"AttributeKindsModel", "isThere", "(II)Z"⟩, 23), (⟨"AttributeKindsModel", "symbolOf", "(II)I"⟩, 23), (⟨"AttributeKindsModel", "defines", "(II)Z"⟩, 23), (⟨"AttributeKindsModel", "isDown", "(II)Z"⟩, 23)]
theorem lw_r2 : ∀ q ∈ lw_privs_2, lw_okq q := List.forall_mem_cons.mpr ⟨lw_p16, List.forall_mem_cons.mpr ⟨lw_p17, List.forall_mem_cons.mpr ⟨lw_p18, List.forall_mem_cons.mpr ⟨lw_p19, List.forall_mem_cons.mpr ⟨lw_p20, List.forall_mem_cons.mpr ⟨lw_p21, List.forall_mem_cons.mpr ⟨lw_p22, List.forall_mem_cons.mpr ⟨lw_p23, List.forall_mem_cons.mpr ⟨lw_p24, List.forall_mem_cons.mpr ⟨lw_p25, List.forall_mem_cons.mpr ⟨lw_p26, List.forall_mem_cons.mpr ⟨lw_p27, List.forall_mem_cons.mpr ⟨lw_p28, List.forall_mem_cons.mpr ⟨lw_p29, List.forall_mem_cons.mpr ⟨lw_p30, List.forall_mem_cons.mpr ⟨lw_p31, fun _ h => absurd h List.not_mem_nil⟩⟩⟩⟩⟩⟩⟩⟩⟩⟩⟩⟩⟩⟩⟩⟩
theorem lw_p32 : lw_okq (⟨"AttributeKindsModel", "findGraphs", "()V"⟩, 23) := ⟨⟨by decide +kernel, by decide +kernel⟩, List.mem_of_getElem? (i := 594) (by decide +kernel), List.mem_of_getElem? (i := 725) (by decide +kernel), List.mem_of_getElem? (i := 726) (by decide +kernel)⟩
theorem lw_p33 : lw_okq (⟨"AttributeKindsModel", "work", "(I)Z"⟩, 23) := ⟨⟨by decide +kernel, by decide +kernel⟩, List.mem_of_getElem? (i := 594) (by decide +kernel), List.mem_of_getElem? (i := 729) (by decide +kernel), List.mem_of_getElem? (i := 730) (by decide +kernel)⟩
theorem lw_p34 : lw_okq (⟨"AttributeKindsModel", "countOf", "(II)I"⟩, 23) := ⟨⟨by decide +kernel, by decide +kernel⟩, List.mem_of_getElem? (i := 594) (by decide +kernel), List.mem_of_getElem? (i := 733) (by decide +kernel), List.mem_of_getElem? (i := 734) (by decide +kernel)⟩
theorem lw_p35 : lw_okq (⟨"AttributeKindsModel", "put", "(IIII)V"⟩, 23) := ⟨⟨by decide +kernel, by decide +kernel⟩, List.mem_of_getElem? (i := 594) (by decide +kernel), List.mem_of_getElem? (i := 737) (by decide +kernel), List.mem_of_getElem? (i := 738) (by decide +kernel)⟩
theorem lw_p36 : lw_okq (⟨"AttributeKindsModel", "takeDepends", "(I)V"⟩, 23) := ⟨⟨by decide +kernel, by decide +kernel⟩, List.mem_of_getElem? (i := 594) (by decide +kernel), List.mem_of_getElem? (i := 741) (by decide +kernel), List.mem_of_getElem? (i := 742) (by decide +kernel)⟩
theorem lw_p37 : lw_okq (⟨"AttributeKindsModel", "addGraph", "(IJ)V"⟩, 23) := ⟨⟨by decide +kernel, by decide +kernel⟩, List.mem_of_getElem? (i := 594) (by decide +kernel), List.mem_of_getElem? (i := 745) (by decide +kernel), List.mem_of_getElem? (i := 746) (by decide +kernel)⟩
theorem lw_p38 : lw_okq (⟨"AttributeKindsModel", "follow", "()V"⟩, 23) := ⟨⟨by decide +kernel, by decide +kernel⟩, List.mem_of_getElem? (i := 594) (by decide +kernel), List.mem_of_getElem? (i := 750) (by decide +kernel), List.mem_of_getElem? (i := 751) (by decide +kernel)⟩
theorem lw_p39 : lw_okq (⟨"AttributeKindsModel", "hasCircle", "()Z"⟩, 23) := ⟨⟨by decide +kernel, by decide +kernel⟩, List.mem_of_getElem? (i := 594) (by decide +kernel), List.mem_of_getElem? (i := 754) (by decide +kernel), List.mem_of_getElem? (i := 755) (by decide +kernel)⟩
theorem lw_p40 : lw_okq (⟨"AttributeKindsModel", "headGraph", "(I)J"⟩, 23) := ⟨⟨by decide +kernel, by decide +kernel⟩, List.mem_of_getElem? (i := 594) (by decide +kernel), List.mem_of_getElem? (i := 758) (by decide +kernel), List.mem_of_getElem? (i := 759) (by decide +kernel)⟩
theorem lw_p41 : lw_okq (⟨"AttributeKindsModel", "takeGraph", "(IJ)V"⟩, 23) := ⟨⟨by decide +kernel, by decide +kernel⟩, List.mem_of_getElem? (i := 594) (by decide +kernel), List.mem_of_getElem? (i := 762) (by decide +kernel), List.mem_of_getElem? (i := 763) (by decide +kernel)⟩
theorem lw_p42 : lw_okq (⟨"AttributeKindsModel", "relate", "()V"⟩, 23) := ⟨⟨by decide +kernel, by decide +kernel⟩, List.mem_of_getElem? (i := 594) (by decide +kernel), List.mem_of_getElem? (i := 774) (by decide +kernel), List.mem_of_getElem? (i := 775) (by decide +kernel)⟩
theorem lw_p43 : lw_okq (⟨"AttributeKindsModel", "allHave", "(I)Z"⟩, 23) := ⟨⟨by decide +kernel, by decide +kernel⟩, List.mem_of_getElem? (i := 594) (by decide +kernel), List.mem_of_getElem? (i := 778) (by decide +kernel), List.mem_of_getElem? (i := 779) (by decide +kernel)⟩
theorem lw_p44 : lw_okq (⟨"AttributeKindsModel", "growUnion", "(I)Z"⟩, 23) := ⟨⟨by decide +kernel, by decide +kernel⟩, List.mem_of_getElem? (i := 594) (by decide +kernel), List.mem_of_getElem? (i := 782) (by decide +kernel), List.mem_of_getElem? (i := 783) (by decide +kernel)⟩
theorem lw_p45 : lw_okq (⟨"AttributeKindsModel", "addUnions", "(II)V"⟩, 23) := ⟨⟨by decide +kernel, by decide +kernel⟩, List.mem_of_getElem? (i := 594) (by decide +kernel), List.mem_of_getElem? (i := 786) (by decide +kernel), List.mem_of_getElem? (i := 787) (by decide +kernel)⟩
theorem lw_p46 : lw_okq (⟨"AttributeKindsModel", "growAbove", "(II)Z"⟩, 23) := ⟨⟨by decide +kernel, by decide +kernel⟩, List.mem_of_getElem? (i := 594) (by decide +kernel), List.mem_of_getElem? (i := 790) (by decide +kernel), List.mem_of_getElem? (i := 791) (by decide +kernel)⟩
theorem lw_p47 : lw_okq (⟨"AttributeKindsModel", "addAboves", "(I)V"⟩, 23) := ⟨⟨by decide +kernel, by decide +kernel⟩, List.mem_of_getElem? (i := 594) (by decide +kernel), List.mem_of_getElem? (i := 794) (by decide +kernel), List.mem_of_getElem? (i := 795) (by decide +kernel)⟩
def lw_privs_3 : List (MethodName × Nat) := [(⟨"AttributeKindsModel", "findGraphs", "()V"⟩, 23), (⟨"AttributeKindsModel", "work", "(I)Z"⟩, 23), (⟨"AttributeKindsModel", "countOf", "(II)I"⟩, 23), (⟨"AttributeKindsModel", "put", "(IIII)V"⟩, 23), (⟨"AttributeKindsModel", "takeDepends", "(I)V"⟩, 23), (⟨"AttributeKindsModel", "addGraph", "(IJ)V"⟩, 23), (⟨"AttributeKindsModel", "follow", "()V"⟩, 23), (⟨"AttributeKindsModel", "hasCircle", "()Z"⟩, 23), (⟨"AttributeKindsModel", "headGraph", "(I)J"⟩, 23), (⟨"AttributeKindsModel", "takeGraph", "(IJ)V"⟩, 23), (⟨"AttributeKindsModel", "relate", "()V"⟩, 23), (⟨"AttributeKindsModel", "allHave", "(I)Z"⟩, 23), (⟨"AttributeKindsModel", "growUnion", "(I)Z"⟩, 23), (⟨"AttributeKindsModel", "addUnions", "(II)V"⟩, 23), (⟨"AttributeKindsModel", "growAbove", "(II)Z"⟩, 23), (⟨"AttributeKindsModel", "addAboves", "(I)V"⟩, 23)]
theorem lw_r3 : ∀ q ∈ lw_privs_3, lw_okq q := List.forall_mem_cons.mpr ⟨lw_p32, List.forall_mem_cons.mpr ⟨lw_p33, List.forall_mem_cons.mpr ⟨lw_p34, List.forall_mem_cons.mpr ⟨lw_p35, List.forall_mem_cons.mpr ⟨lw_p36, List.forall_mem_cons.mpr ⟨lw_p37, List.forall_mem_cons.mpr ⟨lw_p38, List.forall_mem_cons.mpr ⟨lw_p39, List.forall_mem_cons.mpr ⟨lw_p40, List.forall_mem_cons.mpr ⟨lw_p41, List.forall_mem_cons.mpr ⟨lw_p42, List.forall_mem_cons.mpr ⟨lw_p43, List.forall_mem_cons.mpr ⟨lw_p44, List.forall_mem_cons.mpr ⟨lw_p45, List.forall_mem_cons.mpr ⟨lw_p46, List.forall_mem_cons.mpr ⟨lw_p47, fun _ h => absurd h List.not_mem_nil⟩⟩⟩⟩⟩⟩⟩⟩⟩⟩⟩⟩⟩⟩⟩⟩
theorem lw_p48 : lw_okq (⟨"AttributeKindsModel", "isAttribute", "(II)Z"⟩, 23) := ⟨⟨by decide +kernel, by decide +kernel⟩, List.mem_of_getElem? (i := 594) (by decide +kernel), List.mem_of_getElem? (i := 806) (by decide +kernel), List.mem_of_getElem? (i := 807) (by decide +kernel)⟩
theorem lw_p49 : lw_okq (⟨"AttributeKindsModel", "findPasses", "(Z)V"⟩, 23) := ⟨⟨by decide +kernel, by decide +kernel⟩, List.mem_of_getElem? (i := 594) (by decide +kernel), List.mem_of_getElem? (i := 814) (by decide +kernel), List.mem_of_getElem? (i := 815) (by decide +kernel)⟩
theorem lw_p50 : lw_okq (⟨"AttributeKindsModel", "onePass", "(IZ)I"⟩, 23) := ⟨⟨by decide +kernel, by decide +kernel⟩, List.mem_of_getElem? (i := 594) (by decide +kernel), List.mem_of_getElem? (i := 818) (by decide +kernel), List.mem_of_getElem? (i := 819) (by decide +kernel)⟩
theorem lw_p51 : lw_okq (⟨"AttributeKindsModel", "leaveOut", "(Z)Z"⟩, 23) := ⟨⟨by decide +kernel, by decide +kernel⟩, List.mem_of_getElem? (i := 594) (by decide +kernel), List.mem_of_getElem? (i := 822) (by decide +kernel), List.mem_of_getElem? (i := 823) (by decide +kernel)⟩
theorem lw_p52 : lw_okq (⟨"AttributeKindsModel", "inSet", "(II)Z"⟩, 23) := ⟨⟨by decide +kernel, by decide +kernel⟩, List.mem_of_getElem? (i := 594) (by decide +kernel), List.mem_of_getElem? (i := 826) (by decide +kernel), List.mem_of_getElem? (i := 827) (by decide +kernel)⟩
theorem lw_p53 : lw_okq (⟨"AttributeKindsModel", "mayStay", "(IIZ)Z"⟩, 23) := ⟨⟨by decide +kernel, by decide +kernel⟩, List.mem_of_getElem? (i := 594) (by decide +kernel), List.mem_of_getElem? (i := 830) (by decide +kernel), List.mem_of_getElem? (i := 831) (by decide +kernel)⟩
def lw_privs_4 : List (MethodName × Nat) := [(⟨"AttributeKindsModel", "isAttribute", "(II)Z"⟩, 23), (⟨"AttributeKindsModel", "findPasses", "(Z)V"⟩, 23), (⟨"AttributeKindsModel", "onePass", "(IZ)I"⟩, 23), (⟨"AttributeKindsModel", "leaveOut", "(Z)Z"⟩, 23), (⟨"AttributeKindsModel", "inSet", "(II)Z"⟩, 23), (⟨"AttributeKindsModel", "mayStay", "(IIZ)Z"⟩, 23)]
theorem lw_r4 : ∀ q ∈ lw_privs_4, lw_okq q := List.forall_mem_cons.mpr ⟨lw_p48, List.forall_mem_cons.mpr ⟨lw_p49, List.forall_mem_cons.mpr ⟨lw_p50, List.forall_mem_cons.mpr ⟨lw_p51, List.forall_mem_cons.mpr ⟨lw_p52, List.forall_mem_cons.mpr ⟨lw_p53, fun _ h => absurd h List.not_mem_nil⟩⟩⟩⟩⟩⟩
def lw_privs : List (MethodName × Nat) := lw_privs_1 ++ (lw_privs_2 ++ (lw_privs_3 ++ (lw_privs_4)))
def lw_tbl : List Cond := k2_sels lw_privs ++ tables_1
theorem lw_privs_ok : ∀ q ∈ lw_privs, lw_okq q := by
  show ∀ q ∈ lw_privs_1 ++ (lw_privs_2 ++ (lw_privs_3 ++ (lw_privs_4))), lw_okq q
  exact List.forall_mem_append.mpr ⟨lw_r1, List.forall_mem_append.mpr ⟨lw_r2, List.forall_mem_append.mpr ⟨lw_r3, lw_r4⟩⟩⟩
end
section
/-! THE ABSTRACT MACHINE, pure: what a method's instructions do to numbers and to a layout of cells; 'za_wp' is a proposition that computes: whnf of it walks the code. -/
/-- a value: an int, a long, a cell of the layout (its block, its number there), a bare address -/
abbrev za_V : Type := Int32 ⊕ Int64 ⊕ (Nat × Nat) ⊕ Nat
abbrev za_i (x : Int32) : za_V := .inl x
abbrev za_l (x : Int64) : za_V := .inr (.inl x)
abbrev za_r (b j : Nat) : za_V := .inr (.inr (.inl (b, j)))
abbrev za_q (a : Nat) : za_V := .inr (.inr (.inr a))
/-- what the cells hold: block, number, place -/
abbrev za_M : Type := (Nat → Nat → Nat → Int32) × (Nat → Nat → Nat → Int64)
/-- a block's shape: (0, n, _) int[n]; (1, n, _) boolean[n]; (2, n, _) long[n]; (3, n, [(b, _, _)]) an array of n references, the i-th of the cell j to the cell (b, n * j + i); (4, c, fs) objects of class c, a field (0, 0, _) an int, (0, 1, _) a boolean, (1, b, j) always the cell (b, j), (2, b, _) the cell of b with the object's own number -/
abbrev za_S : Type := Nat × Nat × List (Nat × Nat × Nat)
/-- an instruction: pc, itself, the next pc, two numbers of ours, a constant of ours -/
abbrev za_E : Type := Nat × Instr × Nat × Nat × Nat × Int32
abbrev za_C : Type := List (Option za_V)
abbrev za_K : Type := za_C → List za_V → za_M → Nat × Nat → Prop
def za_n {α : Type} : List α → Nat → Option α
  | [], _ => none
  | a :: _, 0 => some a
  | _ :: t, i + 1 => za_n t i
def za_set {α : Type} : List α → Nat → α → (List α → Prop) → Prop
  | [], _, _, _ => False
  | _ :: t, 0, v, k => k (v :: t)
  | a :: t, i + 1, v, k => za_set t i v (fun t' => k (a :: t'))
def za_u {α : Type} (f : Nat → Nat → Nat → α) (b j i : Nat) (x : α) : Nat → Nat → Nat → α := fun b' j' i' => if b' = b ∧ j' = j ∧ i' = i then x else f b' j' i'
def za_ix (j n i : Nat) : Nat := match j with
  | 0 => i
  | j' + 1 => n * (j' + 1) + i
def za_kill (ls : za_C) (i : Nat) (k : za_C → Prop) : Prop := match za_n ls i with
  | some (some (.inr (.inl _))) => za_set ls i none k
  | _ => k ls
def za_pre (ls : za_C) (i : Nat) (k : za_C → Prop) : Prop := match i with
  | 0 => k ls
  | i' + 1 => za_kill ls i' k
def za_st1 (ls : za_C) (i : Nat) (v : za_V) (k : za_C → Prop) : Prop := za_pre ls i (fun l1 => za_set l1 i (some v) k)
def za_st2 (ls : za_C) (i : Nat) (v : za_V) (k : za_C → Prop) : Prop := za_pre ls i (fun l1 => za_set l1 i (some v) (fun l2 => za_set l2 (i + 1) none k))
def za_ldI (ls : za_C) (i : Nat) (k : Int32 → Prop) : Prop := match za_n ls i with
  | some (some (.inl x)) => k x
  | _ => False
def za_ldL (ls : za_C) (i : Nat) (k : Int64 → Prop) : Prop := match za_n ls i with
  | some (some (.inr (.inl x))) => k x
  | _ => False
def za_ldA (ls : za_C) (i : Nat) (k : za_V → Prop) : Prop := match za_n ls i with
  | some (some (.inr (.inr r))) => k (.inr (.inr r))
  | _ => False
def za_1 (st : List za_V) (k : Int32 → List za_V → Prop) : Prop := match st with
  | .inl x :: t => k x t
  | _ => False
def za_2 (st : List za_V) (k : Int32 → Int32 → List za_V → Prop) : Prop := match st with
  | .inl y :: .inl x :: t => k x y t
  | _ => False
def za_L1 (st : List za_V) (k : Int64 → List za_V → Prop) : Prop := match st with
  | .inr (.inl x) :: t => k x t
  | _ => False
def za_L2 (st : List za_V) (k : Int64 → Int64 → List za_V → Prop) : Prop := match st with
  | .inr (.inl y) :: .inr (.inl x) :: t => k x y t
  | _ => False
def za_LI (st : List za_V) (k : Int64 → Int32 → List za_V → Prop) : Prop := match st with
  | .inl y :: .inr (.inl x) :: t => k x y t
  | _ => False
def za_A1 (st : List za_V) (k : za_V → List za_V → Prop) : Prop := match st with
  | .inr (.inr r) :: t => k (.inr (.inr r)) t
  | _ => False
def za_br (c : Jvm.ClassFile.Cond) (x y : Int32) (A B : Prop) : Prop := match c with
  | .eq => (x = y → A) ∧ (¬ x = y → B)
  | .ne => (¬ x = y → A) ∧ (x = y → B)
  | .lt => (x < y → A) ∧ (¬ x < y → B)
  | .ge => (y ≤ x → A) ∧ (¬ y ≤ x → B)
  | .gt => (y < x → A) ∧ (¬ y < x → B)
  | .le => (x ≤ y → A) ∧ (¬ x ≤ y → B)
/-- a field read -/
def za_gf (Λ : List za_S) (μ : za_M) (b j c f : Nat) (k : za_V → Prop) : Prop := match za_n Λ b with
  | some (4, c', fs) => (match Nat.beq c' c, za_n fs f with
    | true, some (0, _, _) => k (za_i (μ.1 b j f))
    | true, some (1, b', j') => k (za_r b' j')
    | true, some (2, b', _) => k (za_r b' j)
    | _, _ => False)
  | _ => False
/-- a field written -/
def za_pf (Λ : List za_S) (μ : za_M) (b j c f : Nat) (x : Int32) (k : za_M → Prop) : Prop := match za_n Λ b with
  | some (4, c', fs) => (match Nat.beq c' c, za_n fs f with
    | true, some (0, 0, _) => k (za_u μ.1 b j f x, μ.2)
    | true, some (0, 1, _) => (x = 0 ∨ x = 1) ∧ k (za_u μ.1 b j f x, μ.2)
    | _, _ => False)
  | _ => False
def za_pop : Nat → List za_V → List za_V → (List za_V → List za_V → Prop) → Prop
  | 0, st, acc, k => k acc st
  | _ + 1, [], _, _ => False
  | n + 1, v :: st, acc, k => za_pop n st (v :: acc) k
def za_mem : Nat → List Nat → Bool
  | _, [] => false
  | a, b :: t => match Nat.beq a b with
    | true => true
    | false => za_mem a t
def za_at : Nat → List za_E → List za_E
  | _, [] => []
  | t, e :: r => match Nat.beq e.1 t with
    | true => e :: r
    | false => za_at t r
/-- an array read and written -/
def za_ia (Λ : List za_S) (μ : za_M) (kd b j : Nat) (i : Int32) (k : za_V → Prop) : Prop := match za_n Λ b with
  | some (0, n, _) => (match kd with
    | 0 => vp_in i n ∧ k (za_i (μ.1 b j i.toNatClampNeg))
    | _ => False)
  | some (1, n, _) => (match kd with
    | 1 => vp_in i n ∧ k (za_i (μ.1 b j i.toNatClampNeg))
    | _ => False)
  | some (2, n, _) => (match kd with
    | 2 => vp_in i n ∧ k (za_l (μ.2 b j i.toNatClampNeg))
    | _ => False)
  | some (3, n, (b', _, _) :: _) => (match kd with
    | 3 => vp_in i n ∧ k (za_r b' (za_ix j n i.toNatClampNeg))
    | _ => False)
  | _ => False
def za_is (Λ : List za_S) (μ : za_M) (kd b j : Nat) (i x : Int32) (k : za_M → Prop) : Prop := match za_n Λ b with
  | some (0, n, _) => (match kd with
    | 0 => vp_in i n ∧ k (za_u μ.1 b j i.toNatClampNeg x, μ.2)
    | _ => False)
  | some (1, n, _) => (match kd with
    | 1 => vp_in i n ∧ (x = 0 ∨ x = 1) ∧ k (za_u μ.1 b j i.toNatClampNeg x, μ.2)
    | _ => False)
  | _ => False
def za_ls (Λ : List za_S) (μ : za_M) (b j : Nat) (i : Int32) (x : Int64) (k : za_M → Prop) : Prop := match za_n Λ b with
  | some (2, n, _) => vp_in i n ∧ k (μ.1, za_u μ.2 b j i.toNatClampNeg x)
  | _ => False
def za_al (Λ : List za_S) (b : Nat) (k : Int32 → Prop) : Prop := match za_n Λ b with
  | some (0, n, _) => k (nI n)
  | some (1, n, _) => k (nI n)
  | some (2, n, _) => k (nI n)
  | some (3, n, _ :: _) => k (nI n)
  | _ => False
/-- the script: whether there is one, its address, its length, its ints -/
abbrev za_X : Type := Bool × Nat × Nat × (Nat → Int32)
def za_ald (Λ : List za_S) (X : za_X) (μ : za_M) (kd : Nat) (st : List za_V) (k : za_V → List za_V → Prop) : Prop := match st with
  | .inl i :: .inr (.inr (.inl (b, j))) :: t => za_ia Λ μ kd b j i (fun v => k v t)
  | .inl i :: .inr (.inr (.inr a)) :: t => X.1 = true ∧ kd = 0 ∧ a = X.2.1 ∧ vp_in i X.2.2.1 ∧ k (za_i (X.2.2.2 i.toNatClampNeg)) t
  | _ => False
def za_ast (Λ : List za_S) (μ : za_M) (kd : Nat) (st : List za_V) (k : za_M → List za_V → Prop) : Prop := match st with
  | .inl x :: .inl i :: .inr (.inr (.inl (b, j))) :: t => za_is Λ μ kd b j i x (fun m => k m t)
  | .inr (.inl x) :: .inl i :: .inr (.inr (.inl (b, j))) :: t => (match kd with
    | 2 => za_ls Λ μ b j i x (fun m => k m t)
    | _ => False)
  | _ => False
def za_len (Λ : List za_S) (X : za_X) (st : List za_V) (k : Int32 → List za_V → Prop) : Prop := match st with
  | .inr (.inr (.inl (b, _))) :: t => za_al Λ b (fun x => k x t)
  | .inr (.inr (.inr a)) :: t => X.1 = true ∧ a = X.2.1 ∧ k (nI X.2.2.1) t
  | _ => False
def za_get (Λ : List za_S) (μ : za_M) (c f : Nat) (st : List za_V) (k : za_V → List za_V → Prop) : Prop := match st with
  | .inr (.inr (.inl (b, j))) :: t => za_gf Λ μ b j c f (fun v => k v t)
  | _ => False
def za_put (Λ : List za_S) (μ : za_M) (c f : Nat) (st : List za_V) (k : za_M → List za_V → Prop) : Prop := match st with
  | .inl x :: .inr (.inr (.inl (b, j))) :: t => za_pf Λ μ b j c f x (fun m => k m t)
  | _ => False
def za_dup (st : List za_V) (k : List za_V → Prop) : Prop := match st with
  | .inl x :: t => k (.inl x :: .inl x :: t)
  | .inr (.inr r) :: t => k (.inr (.inr r) :: .inr (.inr r) :: t)
  | _ => False
def za_dup2 (st : List za_V) (k : List za_V → Prop) : Prop := match st with
  | .inr (.inl x) :: t => k (.inr (.inl x) :: .inr (.inl x) :: t)
  | .inl x :: .inl y :: t => k (.inl x :: .inl y :: .inl x :: .inl y :: t)
  | .inl x :: .inr (.inr r) :: t => k (.inl x :: .inr (.inr r) :: .inl x :: .inr (.inr r) :: t)
  | _ => False
def za_dupx1 (st : List za_V) (k : List za_V → Prop) : Prop := match st with
  | .inl x :: .inl y :: t => k (.inl x :: .inl y :: .inl x :: t)
  | .inl x :: .inr (.inr r) :: t => k (.inl x :: .inr (.inr r) :: .inl x :: t)
  | _ => False
def za_drop1 (st : List za_V) (k : List za_V → Prop) : Prop := match st with
  | .inl _ :: t => k t
  | .inr (.inr _) :: t => k t
  | _ => False
def za_back (r : Option za_V) (t : List za_V) (k : List za_V → Prop) : Prop := match r with
  | none => k t
  | some v => k (v :: t)
/-- words on the stack -/
def za_wt : List za_V → Nat
  | [] => 0
  | .inr (.inl _) :: t => 2 + za_wt t
  | _ :: t => 1 + za_wt t
/-- a row of ints copied over another -/
def za_ur {α : Type} (f : Nat → Nat → Nat → α) (b j : Nat) (r : Nat → α) : Nat → Nat → Nat → α := fun b' j' => if b' = b ∧ j' = j then r else f b' j'
def za_cp (Λ : List za_S) (μ : za_M) (st : List za_V) (k : za_M → List za_V → Prop) : Prop := match st with
  | .inl n :: .inl dp :: .inr (.inr (.inl (bd, jd))) :: .inl sp :: .inr (.inr (.inl (bs, js))) :: t => (match za_n Λ bs, za_n Λ bd with
    | some (0, ns, _), some (0, nd, _) => ¬ sp < 0 ∧ ¬ dp < 0 ∧ ¬ n < 0 ∧ sp.toNatClampNeg + n.toNatClampNeg ≤ ns ∧ dp.toNatClampNeg + n.toNatClampNeg ≤ nd ∧ za_wt t ≤ 8 ∧ k (za_ur μ.1 bd jd (va_cpy (μ.1 bs js) (μ.1 bd jd) sp.toNatClampNeg dp.toNatClampNeg n.toNatClampNeg), μ.2) t
    | _, _ => False)
  | _ => False
def za_cl (n : Nat) (st : List za_V) (k : List za_V → List za_V → Prop) : Prop := za_pop n st [] (fun as t => match Nat.ble (za_wt t) 8 with
  | true => k as t
  | false => False)
abbrev za_RR : Type := Option za_V → za_M → Nat × Nat → Prop
abbrev za_XX : Type := Nat → za_M → Nat × Nat → Prop
abbrev za_CC : Type := Nat → List za_V → za_M → Nat × Nat → za_RR → za_XX → Prop
def za_sw (x : Int32) : Int → List Nat → (Nat → Prop) → Prop → Prop
  | _, [], _, d => d
  | v, t :: r, j, d => (x = Int32.ofInt v → j t) ∧ (¬ x = Int32.ofInt v → za_sw x (v + 1) r j d)
set_option maxHeartbeats 4000000 in
/-- one instruction: K goes on behind it, J jumps, RR returns, XX throws, CC calls, HX: a callee threw -/
def za_stp (Λ : List za_S) (X : za_X) (ret : Nat) (RR : za_RR) (XX : za_XX) (CC : za_CC) (HX : Nat → za_C → za_M → Nat × Nat → Prop) (K : za_K) (J : Nat → za_K) (e : za_E) (ls : za_C) (st : List za_V) (μ : za_M) (κ : Nat × Nat) : Prop := match e with
  | (pc, ins, _, x1, x2, v) => match ins with
  | .iconst _ => K ls (za_i v :: st) μ κ
  | .bipush _ => K ls (za_i v :: st) μ κ
  | .sipush _ => K ls (za_i v :: st) μ κ
  | .ldc _ => K ls (za_i v :: st) μ κ
  | .ldc2_w _ => K ls (za_l v.toInt64 :: st) μ κ
  | .lconst n => K ls (za_l (Int64.ofNat n) :: st) μ κ
  | .iload i => za_ldI ls i (fun x => K ls (za_i x :: st) μ κ)
  | .iload_n i => za_ldI ls i (fun x => K ls (za_i x :: st) μ κ)
  | .lload i => za_ldL ls i (fun x => K ls (za_l x :: st) μ κ)
  | .lload_n i => za_ldL ls i (fun x => K ls (za_l x :: st) μ κ)
  | .aload i => za_ldA ls i (fun v => K ls (v :: st) μ κ)
  | .aload_n i => za_ldA ls i (fun v => K ls (v :: st) μ κ)
  | .istore i => za_1 st (fun x t => za_st1 ls i (za_i x) (fun l1 => K l1 t μ κ))
  | .istore_n i => za_1 st (fun x t => za_st1 ls i (za_i x) (fun l1 => K l1 t μ κ))
  | .lstore i => za_L1 st (fun x t => za_st2 ls i (za_l x) (fun l1 => K l1 t μ κ))
  | .lstore_n i => za_L1 st (fun x t => za_st2 ls i (za_l x) (fun l1 => K l1 t μ κ))
  | .astore i => za_A1 st (fun v t => za_st1 ls i v (fun l1 => K l1 t μ κ))
  | .astore_n i => za_A1 st (fun v t => za_st1 ls i v (fun l1 => K l1 t μ κ))
  | .iinc i _ => za_ldI ls i (fun x => za_st1 ls i (za_i (x + v)) (fun l1 => K l1 st μ κ))
  | .iadd => za_2 st (fun x y t => K ls (za_i (x + y) :: t) μ κ)
  | .isub => za_2 st (fun x y t => K ls (za_i (x - y) :: t) μ κ)
  | .imul => za_2 st (fun x y t => K ls (za_i (x * y) :: t) μ κ)
  | .idiv => za_2 st (fun x y t => ¬ y = 0 ∧ K ls (za_i (x / y) :: t) μ κ)
  | .irem => za_2 st (fun x y t => ¬ y = 0 ∧ K ls (za_i (x - x / y * y) :: t) μ κ)
  | .ineg => za_1 st (fun x t => K ls (za_i (-x) :: t) μ κ)
  | .iand => za_2 st (fun x y t => K ls (za_i (x &&& y) :: t) μ κ)
  | .ior => za_2 st (fun x y t => K ls (za_i (x ||| y) :: t) μ κ)
  | .ixor => za_2 st (fun x y t => K ls (za_i (x ^^^ y) :: t) μ κ)
  | .ishl => za_2 st (fun x y t => K ls (za_i (x <<< (y &&& 31)) :: t) μ κ)
  | .ishr => za_2 st (fun x y t => K ls (za_i (x >>> (y &&& 31)) :: t) μ κ)
  | .iushr => za_2 st (fun x y t => K ls (za_i (x.toUInt32 >>> (y.toUInt32 &&& Int32.toUInt32 31)).toInt32 :: t) μ κ)
  | .ladd => za_L2 st (fun x y t => K ls (za_l (x + y) :: t) μ κ)
  | .lsub => za_L2 st (fun x y t => K ls (za_l (x - y) :: t) μ κ)
  | .land => za_L2 st (fun x y t => K ls (za_l (x &&& y) :: t) μ κ)
  | .lor => za_L2 st (fun x y t => K ls (za_l (x ||| y) :: t) μ κ)
  | .lxor => za_L2 st (fun x y t => K ls (za_l (x ^^^ y) :: t) μ κ)
  | .lcmp => za_L2 st (fun x y t => K ls (za_i (lg_cmp x y) :: t) μ κ)
  | .lshl => za_LI st (fun x y t => K ls (za_l (x <<< (y.toInt64 &&& 63)) :: t) μ κ)
  | .lshr => za_LI st (fun x y t => K ls (za_l (x >>> (y.toInt64 &&& 63)) :: t) μ κ)
  | .lushr => za_LI st (fun x y t => K ls (za_l (x.toUInt64 >>> (y.toInt64.toUInt64 &&& Int64.toUInt64 63)).toInt64 :: t) μ κ)
  | .i2l => za_1 st (fun x t => K ls (za_l x.toInt64 :: t) μ κ)
  | .l2i => za_L1 st (fun x t => K ls (za_i x.toInt32 :: t) μ κ)
  | .dup => za_dup st (fun t => K ls t μ κ)
  | .dup2 => za_dup2 st (fun t => K ls t μ κ)
  | .dup_x1 => za_dupx1 st (fun t => K ls t μ κ)
  | .pop => za_drop1 st (fun t => K ls t μ κ)
  | .ifCond c _ => za_1 st (fun x t => za_br c x 0 (J x1 ls t μ κ) (K ls t μ κ))
  | .if_icmp c _ => za_2 st (fun x y t => za_br c x y (J x1 ls t μ κ) (K ls t μ κ))
  | .goto _ => J x1 ls st μ κ
  | .tableswitch _ lo _ offs => za_1 st (fun x t => za_sw x lo (offs.toList.map fun o => ((pc : Int) + o).toNat) (fun p => J p ls t μ κ) (J x1 ls t μ κ))
  | .getfield _ => za_get Λ μ x1 x2 st (fun v t => K ls (v :: t) μ κ)
  | .putfield _ => za_put Λ μ x1 x2 st (fun m t => K ls t m κ)
  | .iaload => za_ald Λ X μ 0 st (fun v t => K ls (v :: t) μ κ)
  | .baload => za_ald Λ X μ 1 st (fun v t => K ls (v :: t) μ κ)
  | .laload => za_ald Λ X μ 2 st (fun v t => K ls (v :: t) μ κ)
  | .aaload => za_ald Λ X μ 3 st (fun v t => K ls (v :: t) μ κ)
  | .iastore => za_ast Λ μ 0 st (fun m t => K ls t m κ)
  | .bastore => za_ast Λ μ 1 st (fun m t => K ls t m κ)
  | .lastore => za_ast Λ μ 2 st (fun m t => K ls t m κ)
  | .arraylength => za_len Λ X st (fun x t => K ls (za_i x :: t) μ κ)
  | .invokevirtual _ => za_cl x2 st (fun as t => CC x1 as μ κ (fun r m q => za_back r t (fun t1 => K ls t1 m q)) (fun x m q => HX x ls m q))
  | .invokespecial _ => za_cl x2 st (fun as t => CC x1 as μ κ (fun r m q => za_back r t (fun t1 => K ls t1 m q)) (fun x m q => HX x ls m q))
  | .invokestatic _ => (match Nat.beq x1 999 with
    | true => za_cp Λ μ st (fun m t => K ls t m κ)
    | false => za_cl x2 st (fun as t => CC x1 as μ κ (fun r m q => za_back r t (fun t1 => K ls t1 m q)) (fun x m q => HX x ls m q)))
  | .new _ => XX x1 μ (κ.1 + 1, κ.2 + 6)
  | .ireturn => za_1 st (fun x t => t = [] ∧ (ret = 1 ∨ ret = 2 ∧ (x = 0 ∨ x = 1)) ∧ RR (some (za_i x)) μ κ)
  | .lreturn => za_L1 st (fun x t => t = [] ∧ ret = 3 ∧ RR (some (za_l x)) μ κ)
  | .areturn => za_A1 st (fun v t => t = [] ∧ ret = 4 ∧ RR (some v) μ κ)
  | .return_ => st = [] ∧ ret = 0 ∧ RR none μ κ
  | _ => False
def za_wp (Λ : List za_S) (X : za_X) (ret : Nat) (RR : za_RR) (XX : za_XX) (CC : za_CC) (HX : Nat → Nat → za_C → za_M → Nat × Nat → Prop) (prog : List za_E) (cuts : List Nat) (ZZ : Nat → za_K) : Nat → List za_E → za_K
  | 0, _, _, _, _, _ => False
  | _ + 1, [], _, _, _, _ => False
  | n + 1, e :: r, ls, st, μ, κ => match za_mem e.1 cuts with
    | true => ZZ e.1 ls st μ κ
    | false => za_stp Λ X ret RR XX CC (HX e.1) (fun ls st μ κ => za_wp Λ X ret RR XX CC HX prog cuts ZZ n r ls st μ κ) (fun t ls st μ κ => za_wp Λ X ret RR XX CC HX prog cuts ZZ n (za_at t prog) ls st μ κ) e ls st μ κ
end
section
/-! PATHS: the least relation that holds E and is closed under going on at places of S (pure). -/
def pq_T (S : Nat → Prop) (E : Nat → Nat → Prop) (x y : Nat) : Prop := ∀ R : Nat → Nat → Prop, (∀ a b, E a b → R a b) → (∀ a v b, S v → R a v → R v b → R a b) → R x y
theorem pq_base {S : Nat → Prop} {E : Nat → Nat → Prop} {x y : Nat} (h : E x y) : pq_T S E x y := fun _ h1 _ => h1 x y h
theorem pq_comp {S : Nat → Prop} {E : Nat → Nat → Prop} {x v y : Nat} (hv : S v) (h1 : pq_T S E x v) (h2 : pq_T S E v y) : pq_T S E x y := fun R e c => c x v y hv (h1 R e c) (h2 R e c)
theorem pq_least {S : Nat → Prop} {E R : Nat → Nat → Prop} (h1 : ∀ a b, E a b → R a b) (h2 : ∀ a v b, S v → R a v → R v b → R a b) {x y : Nat} (h : pq_T S E x y) : R x y := h R h1 h2
theorem pq_mono {S S' : Nat → Prop} {E E' : Nat → Nat → Prop} (hS : ∀ v, S v → S' v) (hE : ∀ a b, E a b → E' a b) {x y : Nat} (h : pq_T S E x y) : pq_T S' E' x y :=
  pq_least (R := pq_T S' E') (fun _ _ h => pq_base (hE _ _ h)) (fun _ v _ hv h1 h2 => pq_comp (hS v hv) h1 h2) h
theorem pq_congr {S S' : Nat → Prop} {E E' : Nat → Nat → Prop} (hS : ∀ v, S v ↔ S' v) (hE : ∀ a b, E a b ↔ E' a b) (x y : Nat) : pq_T S E x y ↔ pq_T S' E' x y :=
  ⟨pq_mono (fun v => (hS v).mp) (fun a b => (hE a b).mp), pq_mono (fun v => (hS v).mpr) (fun a b => (hE a b).mpr)⟩
theorem pq_none {E : Nat → Nat → Prop} (x y : Nat) : pq_T (fun _ => False) E x y ↔ E x y :=
  ⟨fun h => pq_least (fun _ _ h => h) (fun _ _ _ hv _ _ => hv.elim) h, pq_base⟩
/-- one place more -/
theorem pq_elim {S : Nat → Prop} {E : Nat → Nat → Prop} (v x y : Nat) : pq_T (fun u => S u ∨ u = v) E x y ↔ (pq_T S E x y ∨ (pq_T S E x v ∧ pq_T S E v y)) := by
  constructor
  · intro h
    refine pq_least (R := fun x y => pq_T S E x y ∨ (pq_T S E x v ∧ pq_T S E v y)) (fun a b h => Or.inl (pq_base h)) ?_ h
    intro a u b hu h1 h2
    rcases hu with hu | rfl
    · rcases h1 with h1 | ⟨h1, h1'⟩
      · rcases h2 with h2 | ⟨h2, h2'⟩
        · exact Or.inl (pq_comp hu h1 h2)
        · exact Or.inr ⟨pq_comp hu h1 h2, h2'⟩
      · rcases h2 with h2 | ⟨h2, h2'⟩
        · exact Or.inr ⟨h1, pq_comp hu h1' h2⟩
        · exact Or.inr ⟨h1, h2'⟩
    · have a1 : pq_T S E a u := by rcases h1 with h1 | h1; exact h1; exact h1.1
      have a2 : pq_T S E u b := by rcases h2 with h2 | h2; exact h2; exact h2.2
      exact Or.inr ⟨a1, a2⟩
  · rintro (h | ⟨h1, h2⟩)
    · exact pq_mono (fun _ h => Or.inl h) (fun _ _ h => h) h
    · exact pq_comp (Or.inr rfl) (pq_mono (fun _ h => Or.inl h) (fun _ _ h => h) h1) (pq_mono (fun _ h => Or.inl h) (fun _ _ h => h) h2)
/-- what is laid neither begins nor ends in S -/
theorem pq_lay {S : Nat → Prop} {E F : Nat → Nat → Prop} (hF : ∀ a b, F a b → ¬ S a ∧ ¬ S b) (x y : Nat) : pq_T S (fun a b => E a b ∨ F a b) x y ↔ (pq_T S E x y ∨ F x y) := by
  constructor
  · intro h
    refine pq_least (R := fun x y => pq_T S E x y ∨ F x y) (fun a b h => ?_) ?_ h
    · rcases h with h | h
      · exact Or.inl (pq_base h)
      · exact Or.inr h
    · intro a u b hu h1 h2
      rcases h1 with h1 | h1
      · rcases h2 with h2 | h2
        · exact Or.inl (pq_comp hu h1 h2)
        · exact ((hF _ _ h2).1 hu).elim
      · exact ((hF _ _ h1).2 hu).elim
  · rintro (h | h)
    · exact pq_mono (fun _ h => h) (fun _ _ h => Or.inl h) h
    · exact pq_base (Or.inr h)
theorem pq_from {S : Nat → Prop} {E : Nat → Nat → Prop} {x y : Nat} (h : pq_T S E x y) : ∃ z, E x z :=
  pq_least (R := fun x _ => ∃ z, E x z) (fun _ b h => ⟨b, h⟩) (fun _ _ _ _ h1 _ => h1) h
theorem pq_to {S : Nat → Prop} {E : Nat → Nat → Prop} {x y : Nat} (h : pq_T S E x y) : ∃ z, E z y :=
  pq_least (R := fun _ y => ∃ z, E z y) (fun a _ h => ⟨a, h⟩) (fun _ _ _ _ _ h2 => h2) h
/-- places at which nothing goes on needn't be in S -/
theorem pq_all {S : Nat → Prop} {E : Nat → Nat → Prop} (h : ∀ v a b, E a v → E v b → S v) (x y : Nat) : pq_T (fun _ => True) E x y ↔ pq_T S E x y := by
  constructor
  · intro h1
    refine pq_least (R := pq_T S E) (fun _ _ h => pq_base h) ?_ h1
    intro a v b _ h2 h3
    obtain ⟨z, hz⟩ := pq_to h2
    obtain ⟨w, hw⟩ := pq_from h3
    exact pq_comp (h v z w hz hw) h2 h3
  · exact pq_mono (fun _ _ => trivial) (fun _ _ h => h)
/-- no circle before, none at the new place: none behind it -/
theorem pq_acyc {S : Nat → Prop} {E : Nat → Nat → Prop} {v : Nat} (h : ∀ u, S u → ¬ pq_T S E u u) (hv : ¬ pq_T S E v v) : ∀ u, (S u ∨ u = v) → ¬ pq_T (fun u => S u ∨ u = v) E u u := by
  intro u hu hc
  rcases (pq_elim v u u).mp hc with h1 | ⟨h1, h2⟩
  · rcases hu with hu | rfl
    · exact h u hu h1
    · exact hv h1
  · rcases hu with hu | rfl
    · exact hv (pq_comp hu h2 h1)
    · exact hv h1
/-- a circle goes through a place at which something goes on -/
theorem pq_circle {S : Nat → Prop} {E : Nat → Nat → Prop} (h : ∀ v a b, E a v → E v b → S v) : (∃ u, pq_T (fun _ => True) E u u) ↔ ∃ u, S u ∧ pq_T S E u u := by
  constructor
  · rintro ⟨u, hu⟩
    obtain ⟨z, hz⟩ := pq_to hu
    obtain ⟨w, hw⟩ := pq_from hu
    exact ⟨u, h u z w hz hw, (pq_all h u u).mp hu⟩
  · rintro ⟨u, -, hu⟩
    exact ⟨u, (pq_all h u u).mpr hu⟩
end
section
/-! THE ABSTRACT MACHINE IS SOUND: what it says of a place in the code, the walk of the kit does. -/
def za_cv (ad : Nat → Nat → Nat) (v : za_V) : Value := match v with
  | .inl x => .int x
  | .inr (.inl y) => .long y
  | .inr (.inr (.inl q)) => .ref (ad q.1 q.2)
  | .inr (.inr (.inr a)) => .ref a
/-- a reference to a cell that is there -/
def za_ok (cn : Nat → Nat) (v : za_V) : Prop := match v with
  | .inr (.inr (.inl q)) => q.2 < cn q.1
  | _ => True
def za_oks (cn : Nat → Nat) : List za_V → Prop
  | [] => True
  | v :: t => za_ok cn v ∧ za_oks cn t
def za_okc (cn : Nat → Nat) (ls : za_C) : Prop := ∀ (i : Nat) (v : za_V), za_n ls i = some (some v) → za_ok cn v
def za_lo (ad : Nat → Nat → Nat) (nL : Nat) (ls : za_C) (lc : Array Slot) : Prop := ls.length = nL ∧ lc.size = nL ∧ lv_wf lc ∧ ∀ (i : Nat) (v : za_V), za_n ls i = some (some v) → lc[i]? = some (.val (za_cv ad v))
/-- the cells -/
def za_fv (ad : Nat → Nat → Nat) (μ : za_M) (b j f : Nat) (q : Nat × Nat × Nat) : Value := match q with
  | (0, _, _) => .int (μ.1 b j f)
  | (1, b', j') => .ref (ad b' j')
  | (_, b', _) => .ref (ad b' j)
def za_fs (ad : Nat → Nat → Nat) (μ : za_M) (b j : Nat) : Nat → List (Nat × Nat × Nat) → List Value
  | _, [] => []
  | f, q :: t => za_fv ad μ b j f q :: za_fs ad μ b j (f + 1) t
def za_en (Λ : List za_S) (ad : Nat → Nat → Nat) (ca : Nat → ClassId) (μ : za_M) (b j : Nat) : va_E := match za_n Λ b with
  | some (0, n, _) => .inl (ca b, n, .inl (μ.1 b j))
  | some (1, n, _) => .inl (ca b, n, .inl (μ.1 b j))
  | some (2, n, _) => .inl (ca b, n, .inr (.inl (μ.2 b j)))
  | some (3, n, (b', _, _) :: _) => .inl (ca b, n, .inr (.inr (.inr (.inr (fun i => some (ad b' (za_ix j n i)))))))
  | some (4, ci, fs) => .inr (ci, za_fs ad μ b j 0 fs)
  | _ => .inr (0, [])
def za_ps (cn : Nat → Nat) : Nat → List (Nat × Nat)
  | 0 => []
  | b + 1 => za_ps cn b ++ (List.range (cn b)).map (fun j => (b, j))
def za_ws (Λ : List za_S) (cn : Nat → Nat) (ad : Nat → Nat → Nat) (ca : Nat → ClassId) (μ : za_M) : va_W := (za_ps cn Λ.length).map (fun q => (ad q.1 q.2, za_en Λ ad ca μ q.1 q.2))
theorem za_ps_mem {cn : Nat → Nat} {n : Nat} {q : Nat × Nat} : q ∈ za_ps cn n ↔ q.1 < n ∧ q.2 < cn q.1 := by
  induction n with
  | zero => simp [za_ps]
  | succ n ih =>
    simp only [za_ps, List.mem_append, List.mem_map, List.mem_range, ih]
    constructor
    · rintro (⟨h1, h2⟩ | ⟨j, hj, rfl⟩)
      · exact ⟨by omega, h2⟩
      · exact ⟨by simp, hj⟩
    · rintro ⟨h1, h2⟩
      by_cases h : q.1 = n
      · right
        exact ⟨q.2, by rw [← h]; exact h2, by rw [← h]⟩
      · left
        exact ⟨by omega, h2⟩
theorem za_ps_nodup {cn : Nat → Nat} {n : Nat} : (za_ps cn n).Nodup := by
  induction n with
  | zero => simp [za_ps]
  | succ n ih =>
    simp only [za_ps]
    rw [List.nodup_append]
    refine ⟨ih, ?_, ?_⟩
    · rw [List.nodup_iff_pairwise_ne, List.pairwise_map]
      refine List.Pairwise.imp ?_ (List.nodup_iff_pairwise_ne.mp (List.nodup_range (n := cn n)))
      intro a b hab h
      exact hab (by simpa using h)
    · intro a ha b hb hab
      subst hab
      obtain ⟨j, -, rfl⟩ := List.mem_map.mp hb
      have := (za_ps_mem.mp ha).1
      simp at this
theorem za_map_set {α β : Type} {l : List α} (hn : l.Nodup) {f g : α → β} {k : Nat} {a : α} {y : β} (hk : l[k]? = some a) (hy : g a = y) (ho : ∀ b, b ≠ a → g b = f b) : (l.map f).set k y = l.map g := by
  induction l generalizing k with
  | nil => simp at hk
  | cons c t ih =>
    rw [List.nodup_cons] at hn
    cases k with
    | zero =>
      simp only [List.getElem?_cons_zero, Option.some.injEq] at hk
      subst hk
      simp only [List.map_cons, List.set_cons_zero, hy, List.cons.injEq, true_and]
      refine List.map_congr_left fun b hb => (ho b ?_).symm
      intro h
      exact hn.1 (h ▸ hb)
    | succ k =>
      simp only [List.getElem?_cons_succ] at hk
      simp only [List.map_cons, List.set_cons_succ, List.cons.injEq]
      refine ⟨(ho c ?_).symm, ih hn.2 hk⟩
      intro h
      exact hn.1 (h ▸ List.mem_of_getElem? hk)
theorem za_n_eq {α : Type} (l : List α) (i : Nat) : za_n l i = l[i]? := by
  induction l generalizing i with
  | nil => simp [za_n]
  | cons a t ih =>
    cases i with
    | zero => simp [za_n]
    | succ i => simp [za_n, ih]
theorem za_set_spec {α : Type} {l : List α} {i : Nat} {v : α} {k : List α → Prop} (h : za_set l i v k) : i < l.length ∧ k (l.set i v) := by
  induction l generalizing i k with
  | nil => exact h.elim
  | cons a t ih =>
    cases i with
    | zero => exact ⟨by simp, h⟩
    | succ i =>
      obtain ⟨h1, h2⟩ := ih (k := fun t' => k (a :: t')) h
      exact ⟨by simpa using h1, h2⟩
/-! locals -/
def za_isL (v : za_V) : Prop := match v with
  | .inr (.inl _) => True
  | _ => False
theorem za_cat2 {ad : Nat → Nat → Nat} {v : za_V} (h : (za_cv ad v).category = 2) : za_isL v := by
  rcases v with x | x | x | x <;> simp [za_cv, Value.category, za_isL] at h ⊢
theorem za_kill_spec {ls : za_C} {i : Nat} {k : za_C → Prop} (h : za_kill ls i k) : ∃ l1, k l1 ∧ l1.length = ls.length ∧ ∀ (j : Nat) (w : za_V), l1[j]? = some (some w) → ls[j]? = some (some w) ∧ ¬ (j = i ∧ za_isL w) := by
  unfold za_kill at h
  split at h
  · obtain ⟨h1, h2⟩ := za_set_spec h
    refine ⟨_, h2, by simp, fun j w hj => ?_⟩
    rw [List.getElem?_set] at hj
    by_cases e : i = j
    · subst e
      simp [h1] at hj
    · rw [if_neg e] at hj
      exact ⟨hj, fun q => e q.1.symm⟩
  · rename_i hn
    refine ⟨ls, h, rfl, fun j w hj => ⟨hj, fun q => ?_⟩⟩
    obtain ⟨rfl, hw⟩ := q
    rcases w with x | x | x | x <;> simp [za_isL] at hw
    exact hn x (by rw [za_n_eq]; exact hj)
theorem za_pre_spec {ls : za_C} {i : Nat} {k : za_C → Prop} (h : za_pre ls i k) : ∃ l1, k l1 ∧ l1.length = ls.length ∧ ∀ (j : Nat) (w : za_V), l1[j]? = some (some w) → ls[j]? = some (some w) ∧ ¬ (j + 1 = i ∧ za_isL w) := by
  cases i with
  | zero => exact ⟨ls, h, rfl, fun j w hj => ⟨hj, fun q => by omega⟩⟩
  | succ i =>
    obtain ⟨l1, h1, h2, h3⟩ := za_kill_spec (show za_kill ls i k from h)
    exact ⟨l1, h1, h2, fun j w hj => ⟨(h3 j w hj).1, fun q => (h3 j w hj).2 ⟨by omega, q.2⟩⟩⟩
theorem za_st1_spec {ls : za_C} {i : Nat} {v : za_V} {k : za_C → Prop} (h : za_st1 ls i v k) : i < ls.length ∧ ∃ l1, k l1 ∧ l1.length = ls.length ∧ ∀ (j : Nat) (w : za_V), l1[j]? = some (some w) → (j = i ∧ w = v) ∨ (j ≠ i ∧ ls[j]? = some (some w) ∧ ¬ (j + 1 = i ∧ za_isL w)) := by
  obtain ⟨l1, h1, h2, h3⟩ := za_pre_spec (show za_pre ls i _ from h)
  obtain ⟨h4, h5⟩ := za_set_spec h1
  refine ⟨by omega, _, h5, by simp [h2], fun j w hj => ?_⟩
  rw [List.getElem?_set] at hj
  by_cases e : i = j
  · subst e
    simp [h4] at hj
    exact Or.inl ⟨rfl, hj.symm⟩
  · rw [if_neg e] at hj
    exact Or.inr ⟨fun q => e q.symm, h3 j w hj⟩
theorem za_st2_spec {ls : za_C} {i : Nat} {v : za_V} {k : za_C → Prop} (h : za_st2 ls i v k) : i + 1 < ls.length ∧ ∃ l1, k l1 ∧ l1.length = ls.length ∧ ∀ (j : Nat) (w : za_V), l1[j]? = some (some w) → (j = i ∧ w = v) ∨ (j ≠ i ∧ j ≠ i + 1 ∧ ls[j]? = some (some w) ∧ ¬ (j + 1 = i ∧ za_isL w)) := by
  obtain ⟨l1, h1, h2, h3⟩ := za_pre_spec (show za_pre ls i _ from h)
  obtain ⟨h4, h5⟩ := za_set_spec h1
  obtain ⟨h6, h7⟩ := za_set_spec h5
  refine ⟨by simp at h6; omega, _, h7, by simp [h2], fun j w hj => ?_⟩
  rw [List.getElem?_set] at hj
  by_cases e2 : i + 1 = j
  · subst e2
    simp at h6
    simp [h6] at hj
  · rw [if_neg e2, List.getElem?_set] at hj
    by_cases e : i = j
    · subst e
      simp [h4] at hj
      exact Or.inl ⟨rfl, hj.symm⟩
    · rw [if_neg e] at hj
      exact Or.inr ⟨fun q => e q.symm, fun q => e2 q.symm, h3 j w hj⟩
/-- the locals as the kit lists them -/
def za_lv (ad : Nat → Nat → Nat) (ls : za_C) : List (Nat × Value) := (List.range ls.length).filterMap (fun i => match ls[i]? with
  | some (some v) => some (i, za_cv ad v)
  | _ => none)
theorem za_lv_mem {ad : Nat → Nat → Nat} {ls : za_C} {i : Nat} {v : za_V} (h : ls[i]? = some (some v)) : (i, za_cv ad v) ∈ za_lv ad ls := by
  refine List.mem_filterMap.mpr ⟨i, List.mem_range.mpr (List.getElem?_eq_some_iff.mp h).1, ?_⟩
  simp [h]
theorem za_lo.at {ad : Nat → Nat → Nat} {nL : Nat} {ls : za_C} {lc : Array Slot} (h : za_lo ad nL ls lc) {i : Nat} {v : za_V} (hv : za_n ls i = some (some v)) : lc[i]? = some (.val (za_cv ad v)) := h.2.2.2 i v hv
theorem za_lo.has {ad : Nat → Nat → Nat} {nL : Nat} {ls : za_C} {lc : Array Slot} (h : za_lo ad nL ls lc) : lv_has lc nL (za_lv ad ls) := by
  refine ⟨h.2.1, h.2.2.1, fun q hq => ?_⟩
  obtain ⟨i, -, hi⟩ := List.mem_filterMap.mp hq
  split at hi
  · rename_i v hv
    cases hi
    exact h.2.2.2 i v (by rw [za_n_eq]; exact hv)
  · cases hi
theorem za_lo.st1 {ad : Nat → Nat → Nat} {nL : Nat} {ls l1 : za_C} {lc lc' : Array Slot} {i : Nat} {v : za_V} (h : za_lo ad nL ls lc) (hl : l1.length = ls.length) (hs : ∀ (j : Nat) (w : za_V), l1[j]? = some (some w) → (j = i ∧ w = v) ∨ (j ≠ i ∧ ls[j]? = some (some w) ∧ ¬ (j + 1 = i ∧ za_isL w)))
    (h' : lv_has lc' nL ((i, za_cv ad v) :: (za_lv ad ls).filter (fun q => !(q.1 == i) && !(q.1 + 1 == i && q.2.category == 2)))) : za_lo ad nL l1 lc' := by
  refine ⟨hl.trans h.1, h'.1, h'.2.1, fun j w hj => ?_⟩
  rw [za_n_eq] at hj
  rcases hs j w hj with ⟨rfl, rfl⟩ | ⟨h1, h2, h3⟩
  · exact h'.2.2 _ List.mem_cons_self
  · refine h'.2.2 (j, za_cv ad w) (List.mem_cons_of_mem _ (List.mem_filter.mpr ⟨za_lv_mem h2, ?_⟩))
    have h4 : ¬ (j + 1 = i ∧ (za_cv ad w).category = 2) := fun q => h3 ⟨q.1, za_cat2 q.2⟩
    simp only [Bool.and_eq_true, Bool.not_eq_true', beq_eq_false_iff_ne, Bool.and_eq_false_iff]
    refine ⟨h1, ?_⟩
    by_cases e : j + 1 = i
    · exact Or.inr (fun q => h4 ⟨e, q⟩)
    · exact Or.inl e
theorem za_lo.st2 {ad : Nat → Nat → Nat} {nL : Nat} {ls l1 : za_C} {lc lc' : Array Slot} {i : Nat} {v : za_V} (h : za_lo ad nL ls lc) (hl : l1.length = ls.length) (hs : ∀ (j : Nat) (w : za_V), l1[j]? = some (some w) → (j = i ∧ w = v) ∨ (j ≠ i ∧ j ≠ i + 1 ∧ ls[j]? = some (some w) ∧ ¬ (j + 1 = i ∧ za_isL w)))
    (h' : lv_has lc' nL ((i, za_cv ad v) :: (za_lv ad ls).filter (fun q => !(q.1 == i) && (!(q.1 == i + 1) && !(q.1 + 1 == i && q.2.category == 2))))) : za_lo ad nL l1 lc' := by
  refine ⟨hl.trans h.1, h'.1, h'.2.1, fun j w hj => ?_⟩
  rw [za_n_eq] at hj
  rcases hs j w hj with ⟨rfl, rfl⟩ | ⟨h1, h0, h2, h3⟩
  · exact h'.2.2 _ List.mem_cons_self
  · refine h'.2.2 (j, za_cv ad w) (List.mem_cons_of_mem _ (List.mem_filter.mpr ⟨za_lv_mem h2, ?_⟩))
    have h4 : ¬ (j + 1 = i ∧ (za_cv ad w).category = 2) := fun q => h3 ⟨q.1, za_cat2 q.2⟩
    simp only [Bool.and_eq_true, Bool.not_eq_true', beq_eq_false_iff_ne, Bool.and_eq_false_iff]
    refine ⟨h1, h0, ?_⟩
    by_cases e : j + 1 = i
    · exact Or.inr (fun q => h4 ⟨e, q⟩)
    · exact Or.inl e
theorem za_okc.st1 {cn : Nat → Nat} {ls l1 : za_C} {i : Nat} {v : za_V} (h : za_okc cn ls) (hv : za_ok cn v) (hs : ∀ (j : Nat) (w : za_V), l1[j]? = some (some w) → (j = i ∧ w = v) ∨ (j ≠ i ∧ ls[j]? = some (some w) ∧ ¬ (j + 1 = i ∧ za_isL w))) : za_okc cn l1 := by
  intro j w hj
  rw [za_n_eq] at hj
  rcases hs j w hj with ⟨rfl, rfl⟩ | ⟨-, h2, -⟩
  · exact hv
  · exact h j w (by rw [za_n_eq]; exact h2)
theorem za_okc.st2 {cn : Nat → Nat} {ls l1 : za_C} {i : Nat} {v : za_V} (h : za_okc cn ls) (hv : za_ok cn v) (hs : ∀ (j : Nat) (w : za_V), l1[j]? = some (some w) → (j = i ∧ w = v) ∨ (j ≠ i ∧ j ≠ i + 1 ∧ ls[j]? = some (some w) ∧ ¬ (j + 1 = i ∧ za_isL w))) : za_okc cn l1 := by
  intro j w hj
  rw [za_n_eq] at hj
  rcases hs j w hj with ⟨rfl, rfl⟩ | ⟨-, -, h2, -⟩
  · exact hv
  · exact h j w (by rw [za_n_eq]; exact h2)
end
section
/-! a place in the code, over the layout -/
def za_Z (p : Program) (l : Launch) (e : Env) (R : Room) (s : State) (m : MethodId) (args : Array Value) (below : List Frame) (meth : Method) (c : Code) (Λ : List za_S) (cn : Nat → Nat) (ad : Nat → Nat → Nat) (ca : Nat → ClassId) (D : va_G) (cl : List vw_C) (A : Nat → Prop) (nL : Nat) (Q : State → Prop) (pc : Nat) : za_K := fun ls st μ κ =>
  za_oks cn st → za_okc cn ls → ∀ (lc : Array Slot) (H : Heap) (locs : List Loc), za_lo ad nL ls lc → va_P D cl (za_ws Λ cn ad ca μ) H → va_S A s.heap H locs → W p l e R s m args below meth c H locs κ.1 κ.2 Q (F0 m pc lc (st.map (za_cv ad)))
theorem za_ldI_spec {ls : za_C} {i : Nat} {k : Int32 → Prop} (h : za_ldI ls i k) : ∃ x, za_n ls i = some (some (.inl x)) ∧ k x := by
  unfold za_ldI at h
  split at h
  · rename_i x hx; exact ⟨x, hx, h⟩
  · exact h.elim
theorem za_ldL_spec {ls : za_C} {i : Nat} {k : Int64 → Prop} (h : za_ldL ls i k) : ∃ x, za_n ls i = some (some (.inr (.inl x))) ∧ k x := by
  unfold za_ldL at h
  split at h
  · rename_i x hx; exact ⟨x, hx, h⟩
  · exact h.elim
theorem za_ldA_spec {ls : za_C} {i : Nat} {k : za_V → Prop} (h : za_ldA ls i k) : ∃ r, za_n ls i = some (some (.inr (.inr r))) ∧ k (.inr (.inr r)) := by
  unfold za_ldA at h
  split at h
  · rename_i x hx; exact ⟨x, hx, h⟩
  · exact h.elim
theorem za_1_spec {st : List za_V} {k : Int32 → List za_V → Prop} (h : za_1 st k) : ∃ x t, st = .inl x :: t ∧ k x t := by
  unfold za_1 at h
  split at h
  · rename_i x t; exact ⟨x, t, rfl, h⟩
  · exact h.elim
theorem za_2_spec {st : List za_V} {k : Int32 → Int32 → List za_V → Prop} (h : za_2 st k) : ∃ x y t, st = .inl y :: .inl x :: t ∧ k x y t := by
  unfold za_2 at h
  split at h
  · rename_i y x t; exact ⟨x, y, t, rfl, h⟩
  · exact h.elim
theorem za_L1_spec {st : List za_V} {k : Int64 → List za_V → Prop} (h : za_L1 st k) : ∃ x t, st = .inr (.inl x) :: t ∧ k x t := by
  unfold za_L1 at h
  split at h
  · rename_i x t; exact ⟨x, t, rfl, h⟩
  · exact h.elim
theorem za_L2_spec {st : List za_V} {k : Int64 → Int64 → List za_V → Prop} (h : za_L2 st k) : ∃ x y t, st = .inr (.inl y) :: .inr (.inl x) :: t ∧ k x y t := by
  unfold za_L2 at h
  split at h
  · rename_i y x t; exact ⟨x, y, t, rfl, h⟩
  · exact h.elim
theorem za_LI_spec {st : List za_V} {k : Int64 → Int32 → List za_V → Prop} (h : za_LI st k) : ∃ x y t, st = .inl y :: .inr (.inl x) :: t ∧ k x y t := by
  unfold za_LI at h
  split at h
  · rename_i y x t; exact ⟨x, y, t, rfl, h⟩
  · exact h.elim
theorem za_A1_spec {st : List za_V} {k : za_V → List za_V → Prop} (h : za_A1 st k) : ∃ r t, st = .inr (.inr r) :: t ∧ k (.inr (.inr r)) t := by
  unfold za_A1 at h
  split at h
  · rename_i x t; exact ⟨x, t, rfl, h⟩
  · exact h.elim
theorem za_cvA (ad : Nat → Nat → Nat) (r : (Nat × Nat) ⊕ Nat) : ∃ a : Nat, za_cv ad (.inr (.inr r)) = .ref a := by
  rcases r with q | a
  · exact ⟨_, rfl⟩
  · exact ⟨_, rfl⟩
section ZB
variable {p : Program} {l : Launch} {e : Env} {R : Room} {s : State} {m : MethodId} {args : Array Value} {below : List Frame} {meth : Method} {c : Code} {Q : State → Prop}
variable {Λ : List za_S} {cn : Nat → Nat} {ad : Nat → Nat → Nat} {ca : Nat → ClassId} {D : va_G} {cl : List vw_C} {A : Nat → Prop} {nL : Nat} {cc : ByteArray} {pc nx : Nat} {ls : za_C} {st st' : List za_V} {μ : za_M} {κ : Nat × Nat}
theorem zb_st (k : za_Z p l e R s m args below meth c Λ cn ad ca D cl A nL Q nx ls st' μ κ) (h : ∀ (lc : Array Slot) (H : Heap) (locs : List Loc), W p l e R s m args below meth c H locs κ.1 κ.2 Q (F0 m nx lc (st'.map (za_cv ad))) → W p l e R s m args below meth c H locs κ.1 κ.2 Q (F0 m pc lc (st.map (za_cv ad)))) (hok : za_oks cn st → za_oks cn st') : za_Z p l e R s m args below meth c Λ cn ad ca D cl A nL Q pc ls st μ κ := fun h1 h2 lc H locs h3 h4 h5 => h lc H locs (k (hok h1) h2 lc H locs h3 h4 h5)
theorem zb_ld {v : za_V} {i : Nat} (hv : za_n ls i = some (some v)) (h : ∀ (lc : Array Slot) (H : Heap) (locs : List Loc), lc[i]? = some (.val (za_cv ad v)) → W p l e R s m args below meth c H locs κ.1 κ.2 Q (F0 m nx lc (za_cv ad v :: st.map (za_cv ad))) → W p l e R s m args below meth c H locs κ.1 κ.2 Q (F0 m pc lc (st.map (za_cv ad))))
    (k : za_Z p l e R s m args below meth c Λ cn ad ca D cl A nL Q nx ls (v :: st) μ κ) : za_Z p l e R s m args below meth c Λ cn ad ca D cl A nL Q pc ls st μ κ := fun h1 h2 lc H locs h3 h4 h5 => h lc H locs (h3.at hv) (k ⟨h2 i v hv, h1⟩ h2 lc H locs h3 h4 h5)
theorem zb_br {cd : Jvm.ClassFile.Cond} {x y : Int32} {tgt : Nat} (h : ∀ (lc : Array Slot) (H : Heap) (locs : List Loc), za_br cd x y (W p l e R s m args below meth c H locs κ.1 κ.2 Q (F0 m tgt lc (st'.map (za_cv ad)))) (W p l e R s m args below meth c H locs κ.1 κ.2 Q (F0 m nx lc (st'.map (za_cv ad)))) → W p l e R s m args below meth c H locs κ.1 κ.2 Q (F0 m pc lc (st.map (za_cv ad)))) (hok : za_oks cn st → za_oks cn st')
    (k : za_br cd x y (za_Z p l e R s m args below meth c Λ cn ad ca D cl A nL Q tgt ls st' μ κ) (za_Z p l e R s m args below meth c Λ cn ad ca D cl A nL Q nx ls st' μ κ)) : za_Z p l e R s m args below meth c Λ cn ad ca D cl A nL Q pc ls st μ κ := by
  intro h1 h2 lc H locs h3 h4 h5
  refine h lc H locs ?_
  cases cd <;> exact ⟨fun q => k.1 q (hok h1) h2 lc H locs h3 h4 h5, fun q => k.2 q (hok h1) h2 lc H locs h3 h4 h5⟩
theorem za_br_mono {cd : Jvm.ClassFile.Cond} {x y : Int32} {A1 B1 A2 B2 : Prop} (ha : A1 → A2) (hb : B1 → B2) (h : za_br cd x y A1 B1) : za_br cd x y A2 B2 := by
  cases cd <;> exact ⟨fun q => ha (h.1 q), fun q => hb (h.2 q)⟩
theorem zb_if (hexec : p.tables.exec = Jvm.exec) (hb : c.code = cc) {cd : Jvm.ClassFile.Cond} {x : Int32} {off : Int} {tgt : Nat} (hdg : decode cc pc = .ok (.ifCond cd off, 3)) (ht : (pc : Int) + off = (tgt : Int)) {lc : Array Slot} {H : Heap} {locs : List Loc} {rest : List Value}
    (h : za_br cd x 0 (W p l e R s m args below meth c H locs κ.1 κ.2 Q (F0 m tgt lc rest)) (W p l e R s m args below meth c H locs κ.1 κ.2 Q (F0 m (pc + 3) lc rest))) : W p l e R s m args below meth c H locs κ.1 κ.2 Q (F0 m pc lc (.int x :: rest)) := by
  cases cd
  · exact lv_if_eq hexec hb hdg ht h.1 h.2
  · exact lv_if_ne hexec hb hdg ht h.1 h.2
  · exact lv_if_lt hexec hb hdg ht h.1 h.2
  · exact lv_if_ge hexec hb hdg ht h.1 h.2
  · exact lv_if_gt hexec hb hdg ht h.1 h.2
  · exact lv_if_le hexec hb hdg ht h.1 h.2
theorem zb_icmp (hexec : p.tables.exec = Jvm.exec) (hb : c.code = cc) {cd : Jvm.ClassFile.Cond} {x y : Int32} {off : Int} {tgt : Nat} (hdg : decode cc pc = .ok (.if_icmp cd off, 3)) (ht : (pc : Int) + off = (tgt : Int)) {lc : Array Slot} {H : Heap} {locs : List Loc} {rest : List Value}
    (h : za_br cd x y (W p l e R s m args below meth c H locs κ.1 κ.2 Q (F0 m tgt lc rest)) (W p l e R s m args below meth c H locs κ.1 κ.2 Q (F0 m (pc + 3) lc rest))) : W p l e R s m args below meth c H locs κ.1 κ.2 Q (F0 m pc lc (.int y :: .int x :: rest)) := by
  cases cd
  · exact lv_icmp_eq hexec hb hdg ht h.1 h.2
  · exact lv_icmp_ne hexec hb hdg ht h.1 h.2
  · exact lv_icmp_lt hexec hb hdg ht h.1 h.2
  · exact lv_icmp_ge hexec hb hdg ht h.1 h.2
  · exact lv_icmp_gt hexec hb hdg ht h.1 h.2
  · exact lv_icmp_le hexec hb hdg ht h.1 h.2
/-- stores into locals -/
theorem zb_s1 {i : Nat} {v : za_V} (hv : za_ok cn v) (hst : za_oks cn st → za_oks cn st') (h : ∀ (lc : Array Slot) (H : Heap) (locs : List Loc) (lv : List (Nat × Value)), lv_has lc nL lv → i < nL → (∀ lc' : Array Slot, lv_has lc' nL ((i, za_cv ad v) :: lv.filter (fun q => !(q.1 == i) && !(q.1 + 1 == i && q.2.category == 2))) → W p l e R s m args below meth c H locs κ.1 κ.2 Q (F0 m nx lc' (st'.map (za_cv ad)))) → W p l e R s m args below meth c H locs κ.1 κ.2 Q (F0 m pc lc (st.map (za_cv ad))))
    (k : za_st1 ls i v (fun l1 => za_Z p l e R s m args below meth c Λ cn ad ca D cl A nL Q nx l1 st' μ κ)) : za_Z p l e R s m args below meth c Λ cn ad ca D cl A nL Q pc ls st μ κ := by
  intro h1 h2 lc H locs h3 h4 h5
  obtain ⟨hi, l1, hk, hl, hs⟩ := za_st1_spec k
  exact h lc H locs _ h3.has (by rw [← h3.1]; exact hi) (fun lc' h' => hk (hst h1) (h2.st1 hv hs) lc' H locs (h3.st1 hl hs h') h4 h5)
theorem zb_s2 {i : Nat} {v : za_V} (hv : za_ok cn v) (hst : za_oks cn st → za_oks cn st') (h : ∀ (lc : Array Slot) (H : Heap) (locs : List Loc) (lv : List (Nat × Value)), lv_has lc nL lv → i + 1 < nL → (∀ lc' : Array Slot, lv_has lc' nL ((i, za_cv ad v) :: lv.filter (fun q => !(q.1 == i) && (!(q.1 == i + 1) && !(q.1 + 1 == i && q.2.category == 2)))) → W p l e R s m args below meth c H locs κ.1 κ.2 Q (F0 m nx lc' (st'.map (za_cv ad)))) → W p l e R s m args below meth c H locs κ.1 κ.2 Q (F0 m pc lc (st.map (za_cv ad))))
    (k : za_st2 ls i v (fun l1 => za_Z p l e R s m args below meth c Λ cn ad ca D cl A nL Q nx l1 st' μ κ)) : za_Z p l e R s m args below meth c Λ cn ad ca D cl A nL Q pc ls st μ κ := by
  intro h1 h2 lc H locs h3 h4 h5
  obtain ⟨hi, l1, hk, hl, hs⟩ := za_st2_spec k
  exact h lc H locs _ h3.has (by rw [← h3.1]; exact hi) (fun lc' h' => hk (hst h1) (h2.st2 hv hs) lc' H locs (h3.st2 hl hs h') h4 h5)
theorem zb_inc (hexec : p.tables.exec = Jvm.exec) (hb : c.code = cc) {i : Nat} {n : Int} {x v : Int32} (hdg : decode cc pc = .ok (.iinc i n, 3)) (hn : Int32.ofInt n = v) (hx : za_n ls i = some (some (.inl x)))
    (k : za_st1 ls i (za_i (x + v)) (fun l1 => za_Z p l e R s m args below meth c Λ cn ad ca D cl A nL Q (pc + 3) l1 st μ κ)) : za_Z p l e R s m args below meth c Λ cn ad ca D cl A nL Q pc ls st μ κ := by
  intro h1 h2 lc H locs h3 h4 h5
  obtain ⟨hi, l1, hk, hl, hs⟩ := za_st1_spec k
  obtain ⟨k0, hk0⟩ := List.getElem?_of_mem (za_lv_mem (ad := ad) (ls := ls) (i := i) (v := .inl x) (by rw [← za_n_eq]; exact hx))
  exact lv_iinc (v := x + v) hexec hb hdg h3.has hk0 (by rw [hn]) (by rw [← h3.1]; exact hi) rfl (fun lc' h' => hk h1 (h2.st1 (v := za_i (x + v)) trivial hs) lc' H locs (h3.st1 (v := za_i (x + v)) hl hs h') h4 h5)
end ZB
/-! cells -/
/-- the layout is closed: what a cell names is there -/
def za_wf (Λ : List za_S) (cn : Nat → Nat) : Prop := ∀ (b : Nat) (sh : za_S), za_n Λ b = some sh →
  (sh.1 = 4 → ∀ (f : Nat) (q : Nat × Nat × Nat), za_n sh.2.2 f = some q → (q.1 = 1 → q.2.2 < cn q.2.1) ∧ (q.1 = 2 → cn b ≤ cn q.2.1)) ∧ (sh.1 = 3 → ∀ (q : Nat × Nat × Nat) (r : List (Nat × Nat × Nat)), sh.2.2 = q :: r → sh.2.1 * cn b ≤ cn q.1)
theorem za_fs_at (ad : Nat → Nat → Nat) (μ : za_M) (b j : Nat) : ∀ (fs : List (Nat × Nat × Nat)) (f0 f : Nat), (za_fs ad μ b j f0 fs)[f]? = (za_n fs f).map (za_fv ad μ b j (f0 + f))
  | [], _, _ => by simp [za_fs, za_n]
  | q :: t, f0, 0 => by simp [za_fs, za_n]
  | q :: t, f0, f + 1 => by
    simp only [za_fs, List.getElem?_cons_succ, za_n]
    rw [za_fs_at ad μ b j t (f0 + 1) f, show f0 + 1 + f = f0 + (f + 1) by omega]
theorem za_fs_len (ad : Nat → Nat → Nat) (μ : za_M) (b j : Nat) : ∀ (fs : List (Nat × Nat × Nat)) (f0 : Nat), (za_fs ad μ b j f0 fs).length = fs.length
  | [], _ => rfl
  | _ :: t, f0 => by simp [za_fs, za_fs_len ad μ b j t (f0 + 1)]
theorem za_ws_at {Λ : List za_S} {cn : Nat → Nat} (ad : Nat → Nat → Nat) (ca : Nat → ClassId) (μ : za_M) {b j : Nat} {sh : za_S} (hb : za_n Λ b = some sh) (hj : j < cn b) : ∃ q0 : Nat, (za_ps cn Λ.length)[q0]? = some (b, j) ∧ (za_ws Λ cn ad ca μ)[q0]? = some (ad b j, za_en Λ ad ca μ b j) := by
  have hlt : b < Λ.length := by rw [za_n_eq] at hb; exact (List.getElem?_eq_some_iff.mp hb).1
  obtain ⟨q0, hq⟩ := List.getElem?_of_mem (za_ps_mem.mpr (show (b, j).1 < Λ.length ∧ (b, j).2 < cn (b, j).1 from ⟨hlt, hj⟩))
  exact ⟨q0, hq, by rw [za_ws, List.getElem?_map, hq]; rfl⟩
/-- only the cell (b, j) is another -/
theorem za_ws_set {Λ : List za_S} {cn : Nat → Nat} {ad : Nat → Nat → Nat} {ca : Nat → ClassId} {μ μ' : za_M} {b j q0 : Nat} {y : va_E} (hq : (za_ps cn Λ.length)[q0]? = some (b, j)) (hy : za_en Λ ad ca μ' b j = y) (ho : ∀ b' j', ¬ (b' = b ∧ j' = j) → za_en Λ ad ca μ' b' j' = za_en Λ ad ca μ b' j') : (za_ws Λ cn ad ca μ).set q0 (ad b j, y) = za_ws Λ cn ad ca μ' := by
  refine za_map_set za_ps_nodup hq (by rw [← hy]) (fun q hne => ?_)
  rw [ho q.1 q.2 (fun h => hne (Prod.ext h.1 h.2))]
theorem za_u_ne {α : Type} {f : Nat → Nat → Nat → α} {b j i b' j' : Nat} {x : α} (h : ¬ (b' = b ∧ j' = j)) : za_u f b j i x b' j' = f b' j' := by
  funext i'
  simp only [za_u]
  rw [if_neg (fun q => h ⟨q.1, q.2.1⟩)]
theorem za_fs_congr {ad : Nat → Nat → Nat} {μ μ' : za_M} {b j : Nat} (h : μ'.1 b j = μ.1 b j) : ∀ (fs : List (Nat × Nat × Nat)) (f0 : Nat), za_fs ad μ' b j f0 fs = za_fs ad μ b j f0 fs
  | [], _ => rfl
  | q :: t, f0 => by
    simp only [za_fs, za_fs_congr h t (f0 + 1), List.cons.injEq, and_true]
    unfold za_fv
    rw [h]
theorem za_en_ne {Λ : List za_S} {ad : Nat → Nat → Nat} {ca : Nat → ClassId} {μ μ' : za_M} {b j : Nat} (h1 : μ'.1 b j = μ.1 b j) (h2 : μ'.2 b j = μ.2 b j) : za_en Λ ad ca μ' b j = za_en Λ ad ca μ b j := by
  unfold za_en
  rw [h1, h2]
  split <;> first | rfl | (rw [za_fs_congr h1])
theorem za_u_at (f : Nat → Nat → Nat → Int32) (b j i : Nat) (x : Int32) : za_u f b j i x b j = upd (f b j) i x := by
  funext i'
  by_cases h : i' = i <;> simp [za_u, upd, h]
theorem za_u_atL (f : Nat → Nat → Nat → Int64) (b j i : Nat) (x : Int64) : za_u f b j i x b j = vp_updL (f b j) i x := by
  funext i'
  by_cases h : i' = i <;> simp [za_u, vp_updL, h]
theorem za_fs_set (ad : Nat → Nat → Nat) (μ : za_M) (b j f : Nat) (x : Int32) (fs : List (Nat × Nat × Nat)) {q : Nat × Nat × Nat} (hq : za_n fs f = some q) (h0 : q.1 = 0) : (za_fs ad μ b j 0 fs).set f (.int x) = za_fs ad (za_u μ.1 b j f x, μ.2) b j 0 fs := by
  refine List.ext_getElem? fun i => ?_
  rw [List.getElem?_set, za_fs_at, za_fs_at, za_fs_len]
  by_cases h : f = i
  · subst h
    have hlt : f < fs.length := by rw [za_n_eq] at hq; exact (List.getElem?_eq_some_iff.mp hq).1
    obtain ⟨q1, q2, q3⟩ := q
    simp only at h0
    subst h0
    rw [if_pos rfl, if_pos hlt, hq]
    simp [za_fv, za_u]
  · rw [if_neg h]
    congr 1
    funext q
    unfold za_fv
    simp only [Nat.zero_add, za_u]
    have h' : ¬ i = f := fun e => h e.symm
    simp [h']
def za_ty (Λ : List za_S) (ca : Nat → ClassId) (tys : List (ClassId × FieldType)) : Prop := ∀ (b : Nat) (sh : za_S), za_n Λ b = some sh → (sh.1 = 0 → ∃ t : Nat, tys[t]? = some (ca b, .int)) ∧ (sh.1 = 1 → ∃ t : Nat, tys[t]? = some (ca b, .boolean)) ∧ (sh.1 = 2 → ∃ t : Nat, tys[t]? = some (ca b, .long)) ∧ (sh.1 = 3 → ∃ (t : Nat) (ty : FieldType), tys[t]? = some (ca b, ty) ∧ ty.isReference = true)
theorem za_ix_lt {j n i N M : Nat} (hj : j < N) (hi : i < n) (h : n * N ≤ M) : za_ix j n i < M := by
  cases j with
  | zero =>
    have : n * 1 ≤ n * N := Nat.mul_le_mul_left n (by omega)
    show i < M
    omega
  | succ j =>
    show n * (j + 1) + i < M
    have : n * (j + 1 + 1) ≤ n * N := Nat.mul_le_mul_left n (by omega)
    rw [Nat.mul_add n (j + 1) 1] at this
    omega
theorem za_vp_lt {i : Int32} {n : Nat} (h : vp_in i n) : i.toNatClampNeg < n := Nat.not_le.mp fun q => h (Or.inr q)
section ZC
variable {p : Program} {l : Launch} {e : Env} {R : Room} {s : State} {m : MethodId} {args : Array Value} {below : List Frame} {meth : Method} {c : Code} {Q : State → Prop}
variable {Λ : List za_S} {cn : Nat → Nat} {ad : Nat → Nat → Nat} {ca : Nat → ClassId} {D : va_G} {cl : List vw_C} {A : Nat → Prop} {nL : Nat} {cc : ByteArray} {pc nx : Nat} {ls : za_C} {st st' : List za_V} {μ : za_M} {κ : Nat × Nat} {tys : List (ClassId × FieldType)} {X : za_X}
theorem zc_get (hexec : p.tables.exec = Jvm.exec) (hb : c.code = cc) (hK : va_K D cl tys s) (hwf : za_wf Λ cn) {own ref C : String} {T : u_T} {N ci index f : Nat} {Ts : List Cond} (hts : ∀ w ∈ Ts, w.before args s = true) (hin : ∀ w ∈ u_ws C T N, w ∈ Ts) (hown : s.vm.findClass own = some m.cls) (hc : cl[ci]? = some (C, T, N)) (hf : f < N) (hlink : (Cond.fieldLink own index ref (T f).2.1 (T f).2.2.1).before args s = true) (hsame : ∀ x, s.fieldFound? (T f).1 (T f).2.1 (T f).2.2.1 = some x → s.fieldFound? ref (T f).2.1 (T f).2.2.1 = some x) (hdg : decode cc pc = .ok (.getfield index, 3))
    (k : za_get Λ μ ci f st (fun v t => za_Z p l e R s m args below meth c Λ cn ad ca D cl A nL Q (pc + 3) ls (v :: t) μ κ)) : za_Z p l e R s m args below meth c Λ cn ad ca D cl A nL Q pc ls st μ κ := by
  unfold za_get at k
  split at k
  · rename_i b j t
    unfold za_gf at k
    split at k
    · rename_i c' fs hΛ
      intro h1 h2 lc H locs h3 h4 h5
      obtain ⟨q0, -, hq⟩ := za_ws_at ad ca μ hΛ (show j < cn b from h1.1)
      have hen : za_en Λ ad ca μ b j = .inr (c', za_fs ad μ b j 0 fs) := by simp only [za_en, hΛ]
      rw [hen] at hq
      split at k
      · rename_i a1 a2 hbq hfq
        have hcc : c' = ci := Nat.eq_of_beq_eq_true hbq
        subst hcc
        exact va_get hexec hb hts hin hown hK h4 q0 hq hc f hf hlink hsame (v := .int (μ.1 b j f)) (by rw [za_fs_at, hfq]; simp [za_fv]) hdg (k ⟨trivial, h1.2⟩ h2 lc H locs h3 h4 h5)
      · rename_i b' j' hbq hfq
        have hcc : c' = ci := Nat.eq_of_beq_eq_true hbq
        subst hcc
        exact va_get hexec hb hts hin hown hK h4 q0 hq hc f hf hlink hsame (v := .ref (ad b' j')) (by rw [za_fs_at, hfq]; simp [za_fv]) hdg (k ⟨((hwf b _ hΛ).1 rfl f _ hfq).1 rfl, h1.2⟩ h2 lc H locs h3 h4 h5)
      · rename_i b' a1 hbq hfq
        have hcc : c' = ci := Nat.eq_of_beq_eq_true hbq
        subst hcc
        exact va_get hexec hb hts hin hown hK h4 q0 hq hc f hf hlink hsame (v := .ref (ad b' j)) (by rw [za_fs_at, hfq]; simp [za_fv]) hdg (k ⟨Nat.lt_of_lt_of_le h1.1 (((hwf b _ hΛ).1 rfl f _ hfq).2 rfl), h1.2⟩ h2 lc H locs h3 h4 h5)
      · exact k.elim
    · exact k.elim
  · exact k.elim
theorem zc_ald (hexec : p.tables.exec = Jvm.exec) (hb : c.code = cc) (hK : va_K D cl tys s) (hwf : za_wf Λ cn) (hty : za_ty Λ ca tys) (hX : X.1 = true → va_X X.2.1 X.2.2.1 X.2.2.2 s s.heap ∧ X.2.1 < s.heap.size ∧ ¬ A X.2.1) {kd : Nat} {ins : Instr} (hdg : decode cc pc = .ok (ins, 1)) (hins : (kd = 0 ∧ ins = .iaload) ∨ (kd = 1 ∧ ins = .baload) ∨ (kd = 2 ∧ ins = .laload) ∨ (kd = 3 ∧ ins = .aaload))
    (k : za_ald Λ X μ kd st (fun v t => za_Z p l e R s m args below meth c Λ cn ad ca D cl A nL Q (pc + 1) ls (v :: t) μ κ)) : za_Z p l e R s m args below meth c Λ cn ad ca D cl A nL Q pc ls st μ κ := by
  unfold za_ald at k
  split at k
  · rename_i i b j t
    unfold za_ia at k
    split at k
    · rename_i n a1 hΛ
      split at k
      · rcases hins with ⟨-, rfl⟩ | ⟨h0, -⟩ | ⟨h0, -⟩ | ⟨h0, -⟩
        · intro h1 h2 lc H locs h3 h4 h5
          obtain ⟨q0, -, hq⟩ := za_ws_at ad ca μ hΛ (show j < cn b from h1.2.1)
          have hen : za_en Λ ad ca μ b j = .inl (ca b, n, .inl (μ.1 b j)) := by simp only [za_en, hΛ]
          rw [hen] at hq
          obtain ⟨t0, ht0⟩ := (hty b _ hΛ).1 rfl
          exact va_iald hexec hb hK h4 q0 t0 hq ht0 k.1 hdg (k.2 ⟨trivial, h1.2.2⟩ h2 lc H locs h3 h4 h5)
        · cases h0
        · cases h0
        · cases h0
      · exact k.elim
    · rename_i n a1 hΛ
      split at k
      · rcases hins with ⟨h0, -⟩ | ⟨-, rfl⟩ | ⟨h0, -⟩ | ⟨h0, -⟩
        · cases h0
        · intro h1 h2 lc H locs h3 h4 h5
          obtain ⟨q0, -, hq⟩ := za_ws_at ad ca μ hΛ (show j < cn b from h1.2.1)
          have hen : za_en Λ ad ca μ b j = .inl (ca b, n, .inl (μ.1 b j)) := by simp only [za_en, hΛ]
          rw [hen] at hq
          obtain ⟨t0, ht0⟩ := (hty b _ hΛ).2.1 rfl
          exact va_zald hexec hb hK h4 q0 t0 hq ht0 k.1 hdg (k.2 ⟨trivial, h1.2.2⟩ h2 lc H locs h3 h4 h5)
        · cases h0
        · cases h0
      · exact k.elim
    · rename_i n a1 hΛ
      split at k
      · rcases hins with ⟨h0, -⟩ | ⟨h0, -⟩ | ⟨-, rfl⟩ | ⟨h0, -⟩
        · cases h0
        · cases h0
        · intro h1 h2 lc H locs h3 h4 h5
          obtain ⟨q0, -, hq⟩ := za_ws_at ad ca μ hΛ (show j < cn b from h1.2.1)
          have hen : za_en Λ ad ca μ b j = .inl (ca b, n, .inr (.inl (μ.2 b j))) := by simp only [za_en, hΛ]
          rw [hen] at hq
          obtain ⟨t0, ht0⟩ := (hty b _ hΛ).2.2.1 rfl
          exact va_lald hexec hb hK h4 q0 t0 hq ht0 k.1 hdg (k.2 ⟨trivial, h1.2.2⟩ h2 lc H locs h3 h4 h5)
        · cases h0
      · exact k.elim
    · rename_i n b' a1 a2 a3 hΛ
      split at k
      · rcases hins with ⟨h0, -⟩ | ⟨h0, -⟩ | ⟨h0, -⟩ | ⟨-, rfl⟩
        · cases h0
        · cases h0
        · cases h0
        · intro h1 h2 lc H locs h3 h4 h5
          obtain ⟨q0, -, hq⟩ := za_ws_at ad ca μ hΛ (show j < cn b from h1.2.1)
          have hen : za_en Λ ad ca μ b j = .inl (ca b, n, .inr (.inr (.inr (.inr (fun i => some (ad b' (za_ix j n i))))))) := by simp only [za_en, hΛ]
          rw [hen] at hq
          obtain ⟨t0, ty, ht0, hrf⟩ := (hty b _ hΛ).2.2.2 rfl
          have hlt := za_vp_lt k.1
          have hcell := h4 q0 _ hq
          refine W.aald (v := .ref (ad b' (za_ix j n i.toNatClampNeg))) (ty := ty) hexec hb hcell ((hK.2 t0 _ ht0).1 n _) hrf (fun q => by cases q) (by show ¬ (i < 0 ∨ (arrV _ _ _).slots.size ≤ _); rw [arrV_size]; exact k.1) (by show (arrV _ _ _).slots[_]? = _; rw [arrV_read _ _ hlt]; rfl) rfl rfl hdg ?_
          exact k.2 ⟨za_ix_lt h1.2.1 hlt ((hwf b _ hΛ).2 rfl _ _ rfl), h1.2.2⟩ h2 lc H locs h3 h4 h5
      · exact k.elim
    · exact k.elim
  · rename_i i a t
    obtain ⟨hf, h0, ha, hi, k⟩ := k
    obtain ⟨hx1, hx2, hx3⟩ := hX hf
    rcases hins with ⟨-, rfl⟩ | ⟨h9, -⟩ | ⟨h9, -⟩ | ⟨h9, -⟩
    · subst ha
      intro h1 h2 lc H locs h3 h4 h5
      exact va_sld hexec hb hx1 hx2 hx3 h5 hi hdg (k ⟨trivial, h1.2.2⟩ h2 lc H locs h3 h4 h5)
    · omega
    · omega
    · omega
  · exact k.elim
end ZC
end
section
/-! writes -/
theorem za_nar {x : Int32} (h : x = 0 ∨ x = 1) : vp_nar .boolean x = x := by
  rcases h with rfl | rfl <;> rfl
theorem za_narF {x : Int32} (h : x = 0 ∨ x = 1) : narrow .boolean (.int x) = .int x ∧ fits .boolean (.int x) = true := by
  rcases h with rfl | rfl <;> exact ⟨rfl, rfl⟩
section ZD
variable {p : Program} {l : Launch} {e : Env} {R : Room} {s : State} {m : MethodId} {args : Array Value} {below : List Frame} {meth : Method} {c : Code} {Q : State → Prop}
variable {Λ : List za_S} {cn : Nat → Nat} {ad : Nat → Nat → Nat} {ca : Nat → ClassId} {D : va_G} {cl : List vw_C} {A : Nat → Prop} {nL : Nat} {cc : ByteArray} {pc nx : Nat} {ls : za_C} {st st' : List za_V} {μ : za_M} {κ : Nat × Nat} {tys : List (ClassId × FieldType)} {X : za_X}
theorem zd_ast (hexec : p.tables.exec = Jvm.exec) (hb : c.code = cc) (hK : va_K D cl tys s) (hD : ∀ μ : za_M, va_D A (za_ws Λ cn ad ca μ)) (hty : za_ty Λ ca tys) {kd : Nat} {ins : Instr} (hdg : decode cc pc = .ok (ins, 1)) (hins : (kd = 0 ∧ ins = .iastore) ∨ (kd = 1 ∧ ins = .bastore) ∨ (kd = 2 ∧ ins = .lastore))
    (k : za_ast Λ μ kd st (fun μ1 t => za_Z p l e R s m args below meth c Λ cn ad ca D cl A nL Q (pc + 1) ls t μ1 κ)) : za_Z p l e R s m args below meth c Λ cn ad ca D cl A nL Q pc ls st μ κ := by
  unfold za_ast at k
  split at k
  · rename_i x i b j t
    unfold za_is at k
    split at k
    · rename_i n a1 hΛ
      split at k
      · rcases hins with ⟨-, rfl⟩ | ⟨h0, -⟩ | ⟨h0, -⟩
        · intro h1 h2 lc H locs h3 h4 h5
          obtain ⟨q0, hp0, hq⟩ := za_ws_at ad ca μ hΛ (show j < cn b from h1.2.2.1)
          have hen : ∀ ν : za_M, za_en Λ ad ca ν b j = .inl (ca b, n, .inl (ν.1 b j)) := by intro ν; simp only [za_en, hΛ]
          rw [hen] at hq
          obtain ⟨t0, ht0⟩ := (hty b _ hΛ).1 rfl
          refine va_iast hexec hb hK h4 (hD μ) h5 q0 t0 hq ht0 k.1 hdg (fun H1 locs1 hP1 _ hS1 => ?_)
          rw [za_ws_set (μ := μ) (ad := ad) (ca := ca) (μ' := (za_u μ.1 b j i.toNatClampNeg x, μ.2)) hp0 (by rw [hen]; simp only [za_u_at]) (fun b' j' h => za_en_ne (za_u_ne h) rfl)] at hP1
          exact k.2 h1.2.2.2 h2 lc H1 locs1 h3 hP1 hS1
        · cases h0
        · cases h0
      · exact k.elim
    · rename_i n a1 hΛ
      split at k
      · rcases hins with ⟨h0, -⟩ | ⟨-, rfl⟩ | ⟨h0, -⟩
        · cases h0
        · intro h1 h2 lc H locs h3 h4 h5
          obtain ⟨q0, hp0, hq⟩ := za_ws_at ad ca μ hΛ (show j < cn b from h1.2.2.1)
          have hen : ∀ ν : za_M, za_en Λ ad ca ν b j = .inl (ca b, n, .inl (ν.1 b j)) := by intro ν; simp only [za_en, hΛ]
          rw [hen] at hq
          obtain ⟨t0, ht0⟩ := (hty b _ hΛ).2.1 rfl
          refine va_zast hexec hb hK h4 (hD μ) h5 q0 t0 hq ht0 k.1 hdg (fun H1 locs1 hP1 _ hS1 => ?_)
          rw [za_ws_set (μ := μ) (ad := ad) (ca := ca) (μ' := (za_u μ.1 b j i.toNatClampNeg x, μ.2)) hp0 (by rw [hen, za_nar k.2.1]; simp only [za_u_at]) (fun b' j' h => za_en_ne (za_u_ne h) rfl)] at hP1
          exact k.2.2 h1.2.2.2 h2 lc H1 locs1 h3 hP1 hS1
        · cases h0
      · exact k.elim
    · exact k.elim
  · rename_i x i b j t
    split at k
    · rcases hins with ⟨h0, -⟩ | ⟨h0, -⟩ | ⟨-, rfl⟩
      · cases h0
      · cases h0
      · unfold za_ls at k
        split at k
        · rename_i n a1 hΛ
          intro h1 h2 lc H locs h3 h4 h5
          obtain ⟨q0, hp0, hq⟩ := za_ws_at ad ca μ hΛ (show j < cn b from h1.2.2.1)
          have hen : ∀ ν : za_M, za_en Λ ad ca ν b j = .inl (ca b, n, .inr (.inl (ν.2 b j))) := by intro ν; simp only [za_en, hΛ]
          rw [hen] at hq
          obtain ⟨t0, ht0⟩ := (hty b _ hΛ).2.2.1 rfl
          refine va_last hexec hb hK h4 (hD μ) h5 q0 t0 hq ht0 k.1 hdg (fun H1 locs1 hP1 _ hS1 => ?_)
          rw [za_ws_set (μ := μ) (ad := ad) (ca := ca) (μ' := (μ.1, za_u μ.2 b j i.toNatClampNeg x)) hp0 (by rw [hen]; simp only [za_u_atL]) (fun b' j' h => za_en_ne rfl (za_u_ne h))] at hP1
          exact k.2 h1.2.2.2 h2 lc H1 locs1 h3 hP1 hS1
        · exact k.elim
    · exact k.elim
  · exact k.elim
theorem zd_len (hexec : p.tables.exec = Jvm.exec) (hb : c.code = cc) (hK : va_K D cl tys s) (hty : za_ty Λ ca tys) (hX : X.1 = true → va_X X.2.1 X.2.2.1 X.2.2.2 s s.heap ∧ X.2.1 < s.heap.size ∧ ¬ A X.2.1) (hdg : decode cc pc = .ok (.arraylength, 1))
    (k : za_len Λ X st (fun x t => za_Z p l e R s m args below meth c Λ cn ad ca D cl A nL Q (pc + 1) ls (za_i x :: t) μ κ)) : za_Z p l e R s m args below meth c Λ cn ad ca D cl A nL Q pc ls st μ κ := by
  unfold za_len at k
  split at k
  · rename_i b j t
    unfold za_al at k
    split at k
    · rename_i n a1 hΛ
      intro h1 h2 lc H locs h3 h4 h5
      obtain ⟨q0, -, hq⟩ := za_ws_at ad ca μ hΛ (show j < cn b from h1.1)
      have hen : za_en Λ ad ca μ b j = .inl (ca b, n, .inl (μ.1 b j)) := by simp only [za_en, hΛ]
      rw [hen] at hq
      obtain ⟨t0, ht0⟩ := (hty b _ hΛ).1 rfl
      exact va_alen hexec hb hK h4 q0 t0 hq ht0 (v := nI n) rfl hdg (k ⟨trivial, h1.2⟩ h2 lc H locs h3 h4 h5)
    · rename_i n a1 hΛ
      intro h1 h2 lc H locs h3 h4 h5
      obtain ⟨q0, -, hq⟩ := za_ws_at ad ca μ hΛ (show j < cn b from h1.1)
      have hen : za_en Λ ad ca μ b j = .inl (ca b, n, .inl (μ.1 b j)) := by simp only [za_en, hΛ]
      rw [hen] at hq
      obtain ⟨t0, ht0⟩ := (hty b _ hΛ).2.1 rfl
      exact va_alen hexec hb hK h4 q0 t0 hq ht0 (v := nI n) rfl hdg (k ⟨trivial, h1.2⟩ h2 lc H locs h3 h4 h5)
    · rename_i n a1 hΛ
      intro h1 h2 lc H locs h3 h4 h5
      obtain ⟨q0, -, hq⟩ := za_ws_at ad ca μ hΛ (show j < cn b from h1.1)
      have hen : za_en Λ ad ca μ b j = .inl (ca b, n, .inr (.inl (μ.2 b j))) := by simp only [za_en, hΛ]
      rw [hen] at hq
      obtain ⟨t0, ht0⟩ := (hty b _ hΛ).2.2.1 rfl
      exact va_alen hexec hb hK h4 q0 t0 hq ht0 (v := nI n) rfl hdg (k ⟨trivial, h1.2⟩ h2 lc H locs h3 h4 h5)
    · rename_i n a1 a2 hΛ
      intro h1 h2 lc H locs h3 h4 h5
      obtain ⟨q0, -, hq⟩ := za_ws_at ad ca μ hΛ (show j < cn b from h1.1)
      obtain ⟨b', z1, z2⟩ := a1
      have hen : za_en Λ ad ca μ b j = .inl (ca b, n, .inr (.inr (.inr (.inr (fun i => some (ad b' (za_ix j n i))))))) := by simp only [za_en, hΛ]
      rw [hen] at hq
      obtain ⟨t0, ty, ht0, -⟩ := (hty b _ hΛ).2.2.2 rfl
      exact va_alen hexec hb hK h4 q0 t0 hq ht0 (v := nI n) rfl hdg (k ⟨trivial, h1.2⟩ h2 lc H locs h3 h4 h5)
    · exact k.elim
  · rename_i a t
    obtain ⟨hf, ha, k⟩ := k
    obtain ⟨hx1, hx2, hx3⟩ := hX hf
    subst ha
    intro h1 h2 lc H locs h3 h4 h5
    exact va_slen hexec hb hx1 hx2 hx3 h5 hdg (k ⟨trivial, h1.2⟩ h2 lc H locs h3 h4 h5)
  · exact k.elim
theorem zd_put (hexec : p.tables.exec = Jvm.exec) (hb : c.code = cc) (hK : va_K D cl tys s) (hD : ∀ μ : za_M, va_D A (za_ws Λ cn ad ca μ)) {own ref C : String} {T : u_T} {N ci index f : Nat} {Ts : List Cond} (hts : ∀ w ∈ Ts, w.before args s = true) (hin : ∀ w ∈ u_ws C T N, w ∈ Ts) (ty0 : Nat → FieldType) (hty0 : ∀ k, k < N → parseFieldDescriptor (T k).2.2.1 = some (ty0 k)) (hnm : ∀ a, a < N → ∀ b, b < N → a ≠ b → (T a).2.1 ≠ (T b).2.1) (hown : s.vm.findClass own = some m.cls) (hc : cl[ci]? = some (C, T, N)) (hf : f < N) (hlink : (Cond.fieldLink own index ref (T f).2.1 (T f).2.2.1).before args s = true) (hsame : ∀ x, s.fieldFound? (T f).1 (T f).2.1 (T f).2.2.1 = some x → s.fieldFound? ref (T f).2.1 (T f).2.2.1 = some x) (hfin : (T f).2.2.2 = false)
    (hfty : ∀ (b : Nat) (fs : List (Nat × Nat × Nat)) (q : Nat), za_n Λ b = some (4, ci, fs) → (∀ z, za_n fs f = some (0, 0, z) → ty0 f = .int) ∧ (∀ z, za_n fs f = some (0, 1, z) → ty0 f = .boolean)) (hdg : decode cc pc = .ok (.putfield index, 3))
    (k : za_put Λ μ ci f st (fun μ1 t => za_Z p l e R s m args below meth c Λ cn ad ca D cl A nL Q (pc + 3) ls t μ1 κ)) : za_Z p l e R s m args below meth c Λ cn ad ca D cl A nL Q pc ls st μ κ := by
  unfold za_put at k
  split at k
  · rename_i x b j t
    unfold za_pf at k
    split at k
    · rename_i c' fs hΛ
      intro h1 h2 lc H locs h3 h4 h5
      obtain ⟨q0, hp0, hq⟩ := za_ws_at ad ca μ hΛ (show j < cn b from h1.2.1)
      have hen : ∀ ν : za_M, za_en Λ ad ca ν b j = .inr (c', za_fs ad ν b j 0 fs) := by intro ν; simp only [za_en, hΛ]
      rw [hen] at hq
      split at k
      · rename_i a2 hbq hfq
        have hcc : c' = ci := Nat.eq_of_beq_eq_true hbq
        subst hcc
        have hl : f < (za_fs ad μ b j 0 fs).length := by rw [za_fs_len]; rw [za_n_eq] at hfq; exact (List.getElem?_eq_some_iff.mp hfq).1
        refine va_put hexec hb hts hin ty0 hty0 hnm hown hK h4 (hD μ) h5 q0 hq hc f hf hlink hsame hfin (ty := .int) (v := .int x) (by rw [hty0 f hf, (hfty b fs 0 hΛ).1 _ hfq]) rfl rfl hl hdg (fun H1 locs1 hP1 _ hS1 => ?_)
        rw [za_ws_set (μ := μ) (ad := ad) (ca := ca) (μ' := (za_u μ.1 b j f x, μ.2)) hp0 (by rw [hen, za_fs_set ad μ b j f x fs hfq rfl]) (fun b' j' h => za_en_ne (za_u_ne h) rfl)] at hP1
        exact k h1.2.2 h2 lc H1 locs1 h3 hP1 hS1
      · rename_i a2 hbq hfq
        have hcc : c' = ci := Nat.eq_of_beq_eq_true hbq
        subst hcc
        have hl : f < (za_fs ad μ b j 0 fs).length := by rw [za_fs_len]; rw [za_n_eq] at hfq; exact (List.getElem?_eq_some_iff.mp hfq).1
        refine va_put hexec hb hts hin ty0 hty0 hnm hown hK h4 (hD μ) h5 q0 hq hc f hf hlink hsame hfin (ty := .boolean) (v := .int x) (by rw [hty0 f hf, (hfty b fs 0 hΛ).2 _ hfq]) (za_narF k.1).1 (za_narF k.1).2 hl hdg (fun H1 locs1 hP1 _ hS1 => ?_)
        rw [za_ws_set (μ := μ) (ad := ad) (ca := ca) (μ' := (za_u μ.1 b j f x, μ.2)) hp0 (by rw [hen, za_fs_set ad μ b j f x fs hfq rfl]) (fun b' j' h => za_en_ne (za_u_ne h) rfl)] at hP1
        exact k.2 h1.2.2 h2 lc H1 locs1 h3 hP1 hS1
      · exact k.elim
    · exact k.elim
  · exact k.elim
end ZD
end
section
/-! going on is monotone -/
theorem za_set_mono {α : Type} {l : List α} {i : Nat} {v : α} {k k' : List α → Prop} (hk : ∀ l, k l → k' l) (h : za_set l i v k) : za_set l i v k' := by
  induction l generalizing i k k' with
  | nil => exact h.elim
  | cons a t ih =>
    cases i with
    | zero => exact hk _ h
    | succ i => exact ih (k := fun t' => k (a :: t')) (k' := fun t' => k' (a :: t')) (fun l h => hk _ h) h
theorem za_kill_mono {ls : za_C} {i : Nat} {k k' : za_C → Prop} (hk : ∀ l, k l → k' l) (h : za_kill ls i k) : za_kill ls i k' := by
  revert h
  unfold za_kill
  split
  · exact za_set_mono hk
  · exact hk _
theorem za_pre_mono {ls : za_C} {i : Nat} {k k' : za_C → Prop} (hk : ∀ l, k l → k' l) (h : za_pre ls i k) : za_pre ls i k' := by
  cases i with
  | zero => exact hk _ h
  | succ i => exact za_kill_mono hk h
theorem za_st1_mono {ls : za_C} {i : Nat} {v : za_V} {k k' : za_C → Prop} (hk : ∀ l, k l → k' l) (h : za_st1 ls i v k) : za_st1 ls i v k' := za_pre_mono (fun _ h => za_set_mono hk h) h
theorem za_st2_mono {ls : za_C} {i : Nat} {v : za_V} {k k' : za_C → Prop} (hk : ∀ l, k l → k' l) (h : za_st2 ls i v k) : za_st2 ls i v k' := za_pre_mono (fun _ h => za_set_mono (fun _ h => za_set_mono hk h) h) h
theorem za_gf_mono {Λ : List za_S} {μ : za_M} {b j c f : Nat} {k k' : za_V → Prop} (hk : ∀ v, k v → k' v) (h : za_gf Λ μ b j c f k) : za_gf Λ μ b j c f k' := by
  revert h
  unfold za_gf
  split
  · split
    · exact hk _
    · exact hk _
    · exact hk _
    · exact id
  · exact id
theorem za_pf_mono {Λ : List za_S} {μ : za_M} {b j c f : Nat} {x : Int32} {k k' : za_M → Prop} (hk : ∀ v, k v → k' v) (h : za_pf Λ μ b j c f x k) : za_pf Λ μ b j c f x k' := by
  revert h
  unfold za_pf
  split
  · split
    · exact hk _
    · exact fun h => ⟨h.1, hk _ h.2⟩
    · exact id
  · exact id
theorem za_ia_mono {Λ : List za_S} {μ : za_M} {kd b j : Nat} {i : Int32} {k k' : za_V → Prop} (hk : ∀ v, k v → k' v) (h : za_ia Λ μ kd b j i k) : za_ia Λ μ kd b j i k' := by
  revert h
  unfold za_ia
  split
  · split
    · exact fun h => ⟨h.1, hk _ h.2⟩
    · exact id
  · split
    · exact fun h => ⟨h.1, hk _ h.2⟩
    · exact id
  · split
    · exact fun h => ⟨h.1, hk _ h.2⟩
    · exact id
  · split
    · exact fun h => ⟨h.1, hk _ h.2⟩
    · exact id
  · exact id
theorem za_is_mono {Λ : List za_S} {μ : za_M} {kd b j : Nat} {i x : Int32} {k k' : za_M → Prop} (hk : ∀ v, k v → k' v) (h : za_is Λ μ kd b j i x k) : za_is Λ μ kd b j i x k' := by
  revert h
  unfold za_is
  split
  · split
    · exact fun h => ⟨h.1, hk _ h.2⟩
    · exact id
  · split
    · exact fun h => ⟨h.1, h.2.1, hk _ h.2.2⟩
    · exact id
  · exact id
theorem za_ls_mono {Λ : List za_S} {μ : za_M} {b j : Nat} {i : Int32} {x : Int64} {k k' : za_M → Prop} (hk : ∀ v, k v → k' v) (h : za_ls Λ μ b j i x k) : za_ls Λ μ b j i x k' := by
  revert h
  unfold za_ls
  split
  · exact fun h => ⟨h.1, hk _ h.2⟩
  · exact id
theorem za_al_mono {Λ : List za_S} {b : Nat} {k k' : Int32 → Prop} (hk : ∀ v, k v → k' v) (h : za_al Λ b k) : za_al Λ b k' := by
  revert h
  unfold za_al
  split
  · exact hk _
  · exact hk _
  · exact hk _
  · exact hk _
  · exact id
theorem za_get_mono {Λ : List za_S} {μ : za_M} {c f : Nat} {st : List za_V} {k k' : za_V → List za_V → Prop} (hk : ∀ v t, k v t → k' v t) (h : za_get Λ μ c f st k) : za_get Λ μ c f st k' := by
  revert h
  unfold za_get
  split
  · exact za_gf_mono (fun _ h => hk _ _ h)
  · exact id
theorem za_put_mono {Λ : List za_S} {μ : za_M} {c f : Nat} {st : List za_V} {k k' : za_M → List za_V → Prop} (hk : ∀ v t, k v t → k' v t) (h : za_put Λ μ c f st k) : za_put Λ μ c f st k' := by
  revert h
  unfold za_put
  split
  · exact za_pf_mono (fun _ h => hk _ _ h)
  · exact id
theorem za_ald_mono {Λ : List za_S} {X : za_X} {μ : za_M} {kd : Nat} {st : List za_V} {k k' : za_V → List za_V → Prop} (hk : ∀ v t, k v t → k' v t) (h : za_ald Λ X μ kd st k) : za_ald Λ X μ kd st k' := by
  revert h
  unfold za_ald
  split
  · exact za_ia_mono (fun _ h => hk _ _ h)
  · exact fun h => ⟨h.1, h.2.1, h.2.2.1, h.2.2.2.1, hk _ _ h.2.2.2.2⟩
  · exact id
theorem za_ast_mono {Λ : List za_S} {μ : za_M} {kd : Nat} {st : List za_V} {k k' : za_M → List za_V → Prop} (hk : ∀ v t, k v t → k' v t) (h : za_ast Λ μ kd st k) : za_ast Λ μ kd st k' := by
  revert h
  unfold za_ast
  split
  · exact za_is_mono (fun _ h => hk _ _ h)
  · split
    · exact za_ls_mono (fun _ h => hk _ _ h)
    · exact id
  · exact id
theorem za_len_mono {Λ : List za_S} {X : za_X} {st : List za_V} {k k' : Int32 → List za_V → Prop} (hk : ∀ v t, k v t → k' v t) (h : za_len Λ X st k) : za_len Λ X st k' := by
  revert h
  unfold za_len
  split
  · exact za_al_mono (fun _ h => hk _ _ h)
  · exact fun h => ⟨h.1, h.2.1, hk _ _ h.2.2⟩
  · exact id
theorem za_pop_spec' {n : Nat} {st acc : List za_V} {k : List za_V → List za_V → Prop} (h : za_pop n st acc k) : ∃ as t, st = as.reverse ++ t ∧ as.length = n ∧ k (as ++ acc) t := by
  induction n generalizing st acc with
  | zero => exact ⟨[], st, rfl, rfl, h⟩
  | succ n ih =>
    cases st with
    | nil => exact h.elim
    | cons v st =>
      obtain ⟨as, t, h1, h2, h3⟩ := ih (st := st) (acc := v :: acc) h
      exact ⟨as ++ [v], t, by simp [h1], by simp [h2], by simpa using h3⟩
theorem za_pop_spec {n : Nat} {st : List za_V} {k : List za_V → List za_V → Prop} (h : za_pop n st [] k) : ∃ as t, st = as.reverse ++ t ∧ as.length = n ∧ k as t := by
  obtain ⟨as, t, h1, h2, h3⟩ := za_pop_spec' h
  exact ⟨as, t, h1, h2, by simpa using h3⟩
theorem za_cl_spec {n : Nat} {st : List za_V} {k : List za_V → List za_V → Prop} (h : za_cl n st k) : ∃ as t, st = as.reverse ++ t ∧ as.length = n ∧ za_wt t ≤ 8 ∧ k as t := by
  obtain ⟨as, t, h1, h2, h3⟩ := za_pop_spec (show za_pop n st [] _ from h)
  split at h3
  · rename_i hq
    exact ⟨as, t, h1, h2, Nat.le_of_ble_eq_true hq, h3⟩
  · exact h3.elim
theorem za_cp_mono {Λ : List za_S} {μ : za_M} {st : List za_V} {k k' : za_M → List za_V → Prop} (hk : ∀ v t, k v t → k' v t) (h : za_cp Λ μ st k) : za_cp Λ μ st k' := by
  revert h
  unfold za_cp
  split
  · split
    · exact fun h => ⟨h.1, h.2.1, h.2.2.1, h.2.2.2.1, h.2.2.2.2.1, h.2.2.2.2.2.1, hk _ _ h.2.2.2.2.2.2⟩
    · exact id
  · exact id
end
section
/-! the row copied: System.arraycopy between two rows of ints -/
theorem za_wt_cat (ad : Nat → Nat → Nat) : ∀ t : List za_V, ((t.map (za_cv ad)).map fun v => v.category).sum = za_wt t
  | [] => rfl
  | .inl x :: t => by
    simp only [List.map_cons, List.sum_cons, za_wt_cat ad t]
    rfl
  | .inr (.inl x) :: t => by
    simp only [List.map_cons, List.sum_cons, za_wt_cat ad t]
    rfl
  | .inr (.inr (.inl q)) :: t => by
    simp only [List.map_cons, List.sum_cons, za_wt_cat ad t]
    rfl
  | .inr (.inr (.inr a)) :: t => by
    simp only [List.map_cons, List.sum_cons, za_wt_cat ad t]
    rfl
theorem za_ur_at {α : Type} (f : Nat → Nat → Nat → α) (b j : Nat) (r : Nat → α) : za_ur f b j r b j = r := by
  simp [za_ur]
theorem za_ur_ne {α : Type} {f : Nat → Nat → Nat → α} {b j b' j' : Nat} {r : Nat → α} (h : ¬ (b' = b ∧ j' = j)) : za_ur f b j r b' j' = f b' j' := by
  simp only [za_ur]
  rw [if_neg h]
section ZF
variable {p : Program} {l : Launch} {e : Env} {R : Room} {s : State} {m : MethodId} {args : Array Value} {below : List Frame} {meth : Method} {c : Code} {Q : State → Prop}
variable {Λ : List za_S} {cn : Nat → Nat} {ad : Nat → Nat → Nat} {ca : Nat → ClassId} {D : va_G} {cl : List vw_C} {A : Nat → Prop} {nL : Nat} {cc : ByteArray} {pc nx : Nat} {ls : za_C} {st st' : List za_V} {μ : za_M} {κ : Nat × Nat} {tys : List (ClassId × FieldType)}
theorem zf_cp (hexec : p.tables.exec = Jvm.exec) (hb : c.code = cc) (hml : c.maxLocals = nL) (hK : va_K D cl tys s) (hD : ∀ μ : za_M, va_D A (za_ws Λ cn ad ca μ)) (hty : za_ty Λ ca tys) {own : String} {index : Nat} (hown : s.vm.findClass own = some m.cls) (hlink : (Cond.methodLink own index arraycopyName).before args s = true) (hnat : (Cond.native arraycopyName).before args s = true) (hstat : (Cond.static arraycopyName).before args s = true) (hini : (Cond.initialized "java/lang/System").before args s = true)
    (hframes : 1 ≤ R.frames) (hlocals : 8 + (nativeFrameWords "java/lang/System" "arraycopy" 5 + 11) ≤ R.locals) (hdg : decode cc pc = .ok (.invokestatic index, 3))
    (k : za_cp Λ μ st (fun μ1 t => za_Z p l e R s m args below meth c Λ cn ad ca D cl A nL Q (pc + 3) ls t μ1 κ)) : za_Z p l e R s m args below meth c Λ cn ad ca D cl A nL Q pc ls st μ κ := by
  unfold za_cp at k
  split at k
  · rename_i n dp bd jd sp bs js t
    split at k
    · rename_i ns a1 nd a2 hΛs hΛd
      obtain ⟨k1, k2, k3, k4, k5, k6, k⟩ := k
      intro h1 h2 lc H locs h3 h4 h5
      obtain ⟨q0, hp0, hq0⟩ := za_ws_at ad ca μ hΛs (show js < cn bs from h1.2.2.2.2.1)
      obtain ⟨q1, hp1, hq1⟩ := za_ws_at ad ca μ hΛd (show jd < cn bd from h1.2.2.1)
      have hen0 : za_en Λ ad ca μ bs js = .inl (ca bs, ns, .inl (μ.1 bs js)) := by simp only [za_en, hΛs]
      have hen1 : ∀ ν : za_M, za_en Λ ad ca ν bd jd = .inl (ca bd, nd, .inl (ν.1 bd jd)) := by intro ν; simp only [za_en, hΛd]
      rw [hen0] at hq0
      rw [hen1] at hq1
      obtain ⟨t0, ht0⟩ := (hty bs _ hΛs).1 rfl
      obtain ⟨t1, ht1⟩ := (hty bd _ hΛd).1 rfl
      refine va_copyi hexec hb (hml.trans h3.2.1.symm) hown hlink hnat hstat hini hK h4 (hD μ) h5 q0 q1 t0 t1 hq0 hq1 ht0 ht1 rfl k1 k2 k3 k4 k5 (fun _ _ => rfl) hframes (by rw [za_wt_cat]; omega) hdg (fun H1 locs1 hP1 _ hS1 => ?_)
      rw [za_ws_set (μ := μ) (ad := ad) (ca := ca) (μ' := (za_ur μ.1 bd jd (va_cpy (μ.1 bs js) (μ.1 bd jd) sp.toNatClampNeg dp.toNatClampNeg n.toNatClampNeg), μ.2)) hp1 (by rw [hen1]; simp only [za_ur_at]) (fun b' j' h => za_en_ne (za_ur_ne h) rfl)] at hP1
      exact k h1.2.2.2.2.2 h2 lc H1 locs1 h3 hP1 hS1
    · exact k.elim
  · exact k.elim
end ZF
end
section
/-! one instruction is sound -/
def za_ln (ins : Instr) (x2 : Nat) : Nat := match ins with
  | .bipush _ => 2
  | .ldc _ => 2
  | .iload _ => 2
  | .lload _ => 2
  | .aload _ => 2
  | .istore _ => 2
  | .lstore _ => 2
  | .astore _ => 2
  | .sipush _ => 3
  | .ldc2_w _ => 3
  | .iinc _ _ => 3
  | .ifCond _ _ => 3
  | .if_icmp _ _ => 3
  | .goto _ => 3
  | .getfield _ => 3
  | .putfield _ => 3
  | .invokevirtual _ => 3
  | .invokespecial _ => 3
  | .invokestatic _ => 3
  | .new _ => 3
  | .tableswitch _ _ _ _ => x2
  | _ => 1
/-- what is asked of a row of the program, beside its decoding -/
def za_gx (own : String) (Ts : List Cond) (cl : List vw_C) (e : za_E) : Prop := match e.2.1 with
  | .iconst n => Int32.ofInt n = e.2.2.2.2.2
  | .bipush n => (Int8.ofInt n).toInt32 = e.2.2.2.2.2
  | .sipush n => (Int16.ofInt n).toInt32 = e.2.2.2.2.2
  | .ldc k => Jvm.Cond.constant own k e.2.2.2.2.2 ∈ Ts
  | .ldc2_w k => Jvm.Cond.constantLong own k e.2.2.2.2.2.toInt64 ∈ Ts
  | .iinc _ n => Int32.ofInt n = e.2.2.2.2.2
  | .ifCond _ off => (e.1 : Int) + off = (e.2.2.2.1 : Int)
  | .if_icmp _ off => (e.1 : Int) + off = (e.2.2.2.1 : Int)
  | .goto off => (e.1 : Int) + off = (e.2.2.2.1 : Int)
  | .getfield k => ∃ q : vw_C, cl[e.2.2.2.1]? = some q ∧ e.2.2.2.2.1 < q.2.2 ∧ Jvm.Cond.fieldLink own k (q.2.1 e.2.2.2.2.1).1 (q.2.1 e.2.2.2.2.1).2.1 (q.2.1 e.2.2.2.2.1).2.2.1 ∈ Ts
  | .putfield k => ∃ q : vw_C, cl[e.2.2.2.1]? = some q ∧ e.2.2.2.2.1 < q.2.2 ∧ Jvm.Cond.fieldLink own k (q.2.1 e.2.2.2.2.1).1 (q.2.1 e.2.2.2.2.1).2.1 (q.2.1 e.2.2.2.2.1).2.2.1 ∈ Ts ∧ (q.2.1 e.2.2.2.2.1).2.2.2 = false
  | .tableswitch d lo hi offs => (e.1 : Int) + d = (e.2.2.2.1 : Int) ∧ hi = lo + offs.size - 1 ∧ -2147483648 ≤ lo ∧ hi ≤ 2147483647 ∧ (offs.toList.all fun o => decide (0 ≤ (e.1 : Int) + o)) = true
  | _ => True
def za_gd (cc : ByteArray) (own : String) (Ts : List Cond) (cl : List vw_C) (e : za_E) : Prop := decode cc e.1 = .ok (e.2.1, za_ln e.2.1 e.2.2.2.2.1) ∧ e.2.2.1 = e.1 + za_ln e.2.1 e.2.2.2.2.1 ∧ za_gx own Ts cl e
/-- what is asked of the classes -/
def za_cg (Ts : List Cond) (cl : List vw_C) (ft : Nat → Nat → FieldType) (Λ : List za_S) : Prop := (∀ (ci : Nat) (q : vw_C), cl[ci]? = some q → (∀ w ∈ u_ws q.1 q.2.1 q.2.2, w ∈ Ts) ∧ (∀ k, k < q.2.2 → parseFieldDescriptor (q.2.1 k).2.2.1 = some (ft ci k)) ∧ (∀ a, a < q.2.2 → ∀ b, b < q.2.2 → a ≠ b → (q.2.1 a).2.1 ≠ (q.2.1 b).2.1)) ∧
  ∀ (b ci f : Nat) (fs : List (Nat × Nat × Nat)), za_n Λ b = some (4, ci, fs) → (∀ z, za_n fs f = some (0, 0, z) → ft ci f = .int) ∧ (∀ z, za_n fs f = some (0, 1, z) → ft ci f = .boolean)
/-- where a method stands -/
def za_Cx (p : Program) (s : State) (m : MethodId) (args : Array Value) (c : Code) (Λ : List za_S) (cn : Nat → Nat) (ad : Nat → Nat → Nat) (ca : Nat → ClassId) (D : va_G) (cl : List vw_C) (A : Nat → Prop) (cc : ByteArray) (tys : List (ClassId × FieldType)) (X : za_X) (own : String) (Ts : List Cond) (ft : Nat → Nat → FieldType) : Prop :=
  p.tables.exec = Jvm.exec ∧ c.code = cc ∧ (∀ w ∈ Ts, w.before args s = true) ∧ s.vm.findClass own = some m.cls ∧ va_K D cl tys s ∧ (∀ μ : za_M, va_D A (za_ws Λ cn ad ca μ)) ∧ za_wf Λ cn ∧ za_ty Λ ca tys ∧ za_cg Ts cl ft Λ ∧ (X.1 = true → va_X X.2.1 X.2.2.1 X.2.2.2 s s.heap ∧ X.2.1 < s.heap.size ∧ ¬ A X.2.1)
section ZE
variable {p : Program} {l : Launch} {e : Env} {R : Room} {s : State} {m : MethodId} {args : Array Value} {below : List Frame} {meth : Method} {c : Code} {Q : State → Prop}
variable {Λ : List za_S} {cn : Nat → Nat} {ad : Nat → Nat → Nat} {ca : Nat → ClassId} {D : va_G} {cl : List vw_C} {A : Nat → Prop} {nL : Nat} {cc : ByteArray} {tys : List (ClassId × FieldType)} {X : za_X} {own : String} {Ts : List Cond} {ft : Nat → Nat → FieldType}
theorem ze_sw {x : Int32} {lo : Int} {offs : List Nat} {J : Nat → Prop} {d : Prop} (h : za_sw x lo offs J d) : ((∀ k : Nat, k < offs.length → ¬ x = Int32.ofInt (lo + k)) ∧ d) ∨ ∃ (k t : Nat), offs[k]? = some t ∧ x = Int32.ofInt (lo + k) ∧ J t := by
  induction offs generalizing lo with
  | nil => exact Or.inl ⟨fun k hk => by simp at hk, h⟩
  | cons t r ih =>
    by_cases hx : x = Int32.ofInt lo
    · exact Or.inr ⟨0, t, rfl, by simpa using hx, h.1 hx⟩
    · rcases ih (h.2 hx) with ⟨h1, h2⟩ | ⟨k, t', h1, h2, h3⟩
      · left
        refine ⟨fun k hk => ?_, h2⟩
        cases k with
        | zero => simpa using hx
        | succ k =>
          have := h1 k (by simpa using hk)
          rw [show lo + ((k + 1 : Nat) : Int) = lo + 1 + (k : Int) by omega]
          exact this
      · right
        refine ⟨k + 1, t', by simpa using h1, ?_, h3⟩
        rw [show lo + ((k + 1 : Nat) : Int) = lo + 1 + (k : Int) by omega]
        exact h2
set_option maxHeartbeats 8000000 in
set_option maxRecDepth 100000 in
theorem ze_step {ret : Nat} {RR : za_RR} {XX : za_XX} {CC : za_CC} {HX : Nat → za_C → za_M → Nat × Nat → Prop} {K : za_K} {J : Nat → za_K} {E : za_E} {ls : za_C} {st : List za_V} {μ : za_M} {κ : Nat × Nat}
    (C0 : za_Cx p s m args c Λ cn ad ca D cl A cc tys X own Ts ft) (hG : za_gd cc own Ts cl E)
    (hK : ∀ ls st μ κ, K ls st μ κ → za_Z p l e R s m args below meth c Λ cn ad ca D cl A nL Q E.2.2.1 ls st μ κ) (hJ : ∀ t ls st μ κ, J t ls st μ κ → za_Z p l e R s m args below meth c Λ cn ad ca D cl A nL Q t ls st μ κ)
    (hI : ∀ x μ κ, (ret = 1 ∨ ret = 2 ∧ (x = 0 ∨ x = 1)) → RR (some (za_i x)) μ κ → decode cc E.1 = .ok (.ireturn, 1) → za_Z p l e R s m args below meth c Λ cn ad ca D cl A nL Q E.1 ls [za_i x] μ κ)
    (hL : ∀ x μ κ, ret = 3 → RR (some (za_l x)) μ κ → decode cc E.1 = .ok (.lreturn, 1) → za_Z p l e R s m args below meth c Λ cn ad ca D cl A nL Q E.1 ls [za_l x] μ κ)
    (hA : ∀ r μ κ, ret = 4 → RR (some (.inr (.inr r))) μ κ → decode cc E.1 = .ok (.areturn, 1) → za_Z p l e R s m args below meth c Λ cn ad ca D cl A nL Q E.1 ls [.inr (.inr r)] μ κ)
    (hV : ∀ μ κ, ret = 0 → RR none μ κ → decode cc E.1 = .ok (.return_, 1) → za_Z p l e R s m args below meth c Λ cn ad ca D cl A nL Q E.1 ls [] μ κ)
    (hC : ∀ (k : Nat) (as t : List za_V), st = as.reverse ++ t → as.length = E.2.2.2.2.1 → za_wt t ≤ 8 → (E.2.1 = .invokevirtual k ∨ E.2.1 = .invokespecial k ∨ E.2.1 = .invokestatic k) → (E.2.1 = .invokestatic k → ¬ E.2.2.2.1 = 999) → CC E.2.2.2.1 as μ κ (fun r μ1 κ1 => za_back r t (fun t1 => K ls t1 μ1 κ1)) (fun x μ1 κ1 => HX x ls μ1 κ1) → za_Z p l e R s m args below meth c Λ cn ad ca D cl A nL Q E.1 ls st μ κ)
    (hAc : ∀ (k : Nat), E.2.1 = .invokestatic k → E.2.2.2.1 = 999 → za_cp Λ μ st (fun μ1 t => K ls t μ1 κ) → za_Z p l e R s m args below meth c Λ cn ad ca D cl A nL Q E.1 ls st μ κ)
    (hN : ∀ (k : Nat), E.2.1 = .new k → XX E.2.2.2.1 μ (κ.1 + 1, κ.2 + 6) → za_Z p l e R s m args below meth c Λ cn ad ca D cl A nL Q E.1 ls st μ κ)
    (h : za_stp Λ X ret RR XX CC HX K J E ls st μ κ) : za_Z p l e R s m args below meth c Λ cn ad ca D cl A nL Q E.1 ls st μ κ := by
  obtain ⟨hx, hb, hts, hown, hKw, hD, hwf, hty, ⟨hcg, hlf⟩, hX⟩ := C0
  obtain ⟨pc, ins, nx, x1, x2, v⟩ := E
  obtain ⟨hdg, hnx, hgx⟩ := hG
  dsimp only at hdg hnx hgx hK hI hL hA hV hC hAc hN ⊢
  cases ins
  case iconst n =>
    subst hnx
    exact zb_st (hK _ _ _ _ h) (fun lc H locs k => lv_iconst hx hb hdg hgx k) (fun h => ⟨trivial, h⟩)
  case bipush n =>
    subst hnx
    exact zb_st (hK _ _ _ _ h) (fun lc H locs k => lv_bipush hx hb hdg hgx k) (fun h => ⟨trivial, h⟩)
  case sipush n =>
    subst hnx
    exact zb_st (hK _ _ _ _ h) (fun lc H locs k => lv_sipush hx hb hdg hgx k) (fun h => ⟨trivial, h⟩)
  case ldc n =>
    subst hnx
    exact zb_st (hK _ _ _ _ h) (fun lc H locs k => lv_ldc hx hb hown (hts _ hgx) hdg k) (fun h => ⟨trivial, h⟩)
  case ldc2_w n =>
    subst hnx
    exact zb_st (hK _ _ _ _ h) (fun lc H locs k => lv_ldc2 hx hb hown (hts _ hgx) hdg k) (fun h => ⟨trivial, h⟩)
  case lconst n =>
    subst hnx
    exact zb_st (hK _ _ _ _ h) (fun lc H locs k => lv_lconst hx hb hdg rfl k) (fun h => ⟨trivial, h⟩)
  case iload i =>
    subst hnx
    obtain ⟨x, h1, h⟩ := za_ldI_spec h
    exact zb_ld h1 (fun lc H locs hl k => lv_iload hx hb hdg hl k) (hK _ _ _ _ h)
  case iload_n i =>
    subst hnx
    obtain ⟨x, h1, h⟩ := za_ldI_spec h
    exact zb_ld h1 (fun lc H locs hl k => lv_iload_n hx hb hdg rfl hl k) (hK _ _ _ _ h)
  case lload i =>
    subst hnx
    obtain ⟨x, h1, h⟩ := za_ldL_spec h
    exact zb_ld h1 (fun lc H locs hl k => lv_lload hx hb hdg hl k) (hK _ _ _ _ h)
  case lload_n i =>
    subst hnx
    obtain ⟨x, h1, h⟩ := za_ldL_spec h
    exact zb_ld h1 (fun lc H locs hl k => lv_lload_n hx hb hdg rfl hl k) (hK _ _ _ _ h)
  case aload i =>
    subst hnx
    change za_ldA ls i (fun v => K ls (v :: st) μ κ) at h
    obtain ⟨x, h1, h⟩ := za_ldA_spec h
    obtain ⟨a, ha⟩ := za_cvA ad x
    exact zb_ld h1 (fun lc H locs hl k => by rw [ha] at hl k; exact lv_aload hx hb hdg hl k) (hK _ _ _ _ h)
  case aload_n i =>
    subst hnx
    change za_ldA ls i (fun v => K ls (v :: st) μ κ) at h
    obtain ⟨x, h1, h⟩ := za_ldA_spec h
    obtain ⟨a, ha⟩ := za_cvA ad x
    exact zb_ld h1 (fun lc H locs hl k => by rw [ha] at hl k; exact lv_aload_n hx hb hdg rfl hl k) (hK _ _ _ _ h)
  case istore i =>
    subst hnx
    obtain ⟨x, t, rfl, h⟩ := za_1_spec h
    exact zb_s1 (v := za_i x) (st' := t) trivial (fun h => h.2) (fun lc H locs lv h1 h2 k => lv_istore hx hb hdg h1 h2 rfl k) (za_st1_mono (fun l1 h => hK _ _ _ _ h) h)
  case istore_n i =>
    subst hnx
    obtain ⟨x, t, rfl, h⟩ := za_1_spec h
    exact zb_s1 (v := za_i x) (st' := t) trivial (fun h => h.2) (fun lc H locs lv h1 h2 k => lv_istore_n hx hb hdg rfl h1 h2 rfl k) (za_st1_mono (fun l1 h => hK _ _ _ _ h) h)
  case lstore i =>
    subst hnx
    obtain ⟨x, t, rfl, h⟩ := za_L1_spec h
    exact zb_s2 (v := za_l x) (st' := t) trivial (fun h => h.2) (fun lc H locs lv h1 h2 k => lv_lstore hx hb hdg h1 h2 rfl k) (za_st2_mono (fun l1 h => hK _ _ _ _ h) h)
  case lstore_n i =>
    subst hnx
    obtain ⟨x, t, rfl, h⟩ := za_L1_spec h
    exact zb_s2 (v := za_l x) (st' := t) trivial (fun h => h.2) (fun lc H locs lv h1 h2 k => lv_lstore_n hx hb hdg rfl h1 h2 rfl k) (za_st2_mono (fun l1 h => hK _ _ _ _ h) h)
  case astore i =>
    subst hnx
    change za_A1 st (fun v t => za_st1 ls i v (fun l1 => K l1 t μ κ)) at h
    obtain ⟨r, t, rfl, h⟩ := za_A1_spec h
    obtain ⟨a, ha⟩ := za_cvA ad r
    intro h1 h2
    exact zb_s1 (v := .inr (.inr r)) (st' := t) h1.1 (fun h => h.2) (fun lc H locs lv h1 h2 k => by rw [ha] at k; rw [List.map_cons, ha]; exact lv_astore hx hb hdg h1 h2 rfl k) (za_st1_mono (fun l1 h => hK _ _ _ _ h) h) h1 h2
  case astore_n i =>
    subst hnx
    change za_A1 st (fun v t => za_st1 ls i v (fun l1 => K l1 t μ κ)) at h
    obtain ⟨r, t, rfl, h⟩ := za_A1_spec h
    obtain ⟨a, ha⟩ := za_cvA ad r
    intro h1 h2
    exact zb_s1 (v := .inr (.inr r)) (st' := t) h1.1 (fun h => h.2) (fun lc H locs lv h1 h2 k => by rw [ha] at k; rw [List.map_cons, ha]; exact lv_astore_n hx hb hdg rfl h1 h2 rfl k) (za_st1_mono (fun l1 h => hK _ _ _ _ h) h) h1 h2
  case iinc i n =>
    subst hnx
    obtain ⟨x, h1, h⟩ := za_ldI_spec h
    exact zb_inc hx hb hdg hgx h1 (za_st1_mono (fun l1 h => hK _ _ _ _ h) h)
  case iadd =>
    subst hnx
    obtain ⟨x, y, t, rfl, h⟩ := za_2_spec h
    exact zb_st (hK _ _ _ _ h) (fun lc H locs k => lv_iadd hx hb hdg k) (fun h => ⟨trivial, h.2.2⟩)
  case isub =>
    subst hnx
    obtain ⟨x, y, t, rfl, h⟩ := za_2_spec h
    exact zb_st (hK _ _ _ _ h) (fun lc H locs k => lv_isub hx hb hdg k) (fun h => ⟨trivial, h.2.2⟩)
  case imul =>
    subst hnx
    obtain ⟨x, y, t, rfl, h⟩ := za_2_spec h
    exact zb_st (hK _ _ _ _ h) (fun lc H locs k => lv_imul hx hb hdg k) (fun h => ⟨trivial, h.2.2⟩)
  case iand =>
    subst hnx
    obtain ⟨x, y, t, rfl, h⟩ := za_2_spec h
    exact zb_st (hK _ _ _ _ h) (fun lc H locs k => lv_iand hx hb hdg k) (fun h => ⟨trivial, h.2.2⟩)
  case ior =>
    subst hnx
    obtain ⟨x, y, t, rfl, h⟩ := za_2_spec h
    exact zb_st (hK _ _ _ _ h) (fun lc H locs k => lv_ior hx hb hdg k) (fun h => ⟨trivial, h.2.2⟩)
  case ixor =>
    subst hnx
    obtain ⟨x, y, t, rfl, h⟩ := za_2_spec h
    exact zb_st (hK _ _ _ _ h) (fun lc H locs k => lv_ixor hx hb hdg k) (fun h => ⟨trivial, h.2.2⟩)
  case ishl =>
    subst hnx
    obtain ⟨x, y, t, rfl, h⟩ := za_2_spec h
    exact zb_st (hK _ _ _ _ h) (fun lc H locs k => lv_ishl hx hb hdg k) (fun h => ⟨trivial, h.2.2⟩)
  case ishr =>
    subst hnx
    obtain ⟨x, y, t, rfl, h⟩ := za_2_spec h
    exact zb_st (hK _ _ _ _ h) (fun lc H locs k => lv_ishr hx hb hdg k) (fun h => ⟨trivial, h.2.2⟩)
  case iushr =>
    subst hnx
    obtain ⟨x, y, t, rfl, h⟩ := za_2_spec h
    exact zb_st (hK _ _ _ _ h) (fun lc H locs k => lv_iushr hx hb hdg rfl k) (fun h => ⟨trivial, h.2.2⟩)
  case idiv =>
    subst hnx
    obtain ⟨x, y, t, rfl, h0, h⟩ := za_2_spec h
    exact zb_st (hK _ _ _ _ h) (fun lc H locs k => lv_idiv hx hb hdg h0 k) (fun h => ⟨trivial, h.2.2⟩)
  case irem =>
    subst hnx
    obtain ⟨x, y, t, rfl, h0, h⟩ := za_2_spec h
    exact zb_st (hK _ _ _ _ h) (fun lc H locs k => lv_irem hx hb hdg h0 k) (fun h => ⟨trivial, h.2.2⟩)
  case ineg =>
    subst hnx
    obtain ⟨x, t, rfl, h⟩ := za_1_spec h
    exact zb_st (hK _ _ _ _ h) (fun lc H locs k => lv_ineg hx hb hdg k) (fun h => ⟨trivial, h.2⟩)
  case ladd =>
    subst hnx
    obtain ⟨x, y, t, rfl, h⟩ := za_L2_spec h
    exact zb_st (hK _ _ _ _ h) (fun lc H locs k => lv_ladd hx hb hdg k) (fun h => ⟨trivial, h.2.2⟩)
  case lsub =>
    subst hnx
    obtain ⟨x, y, t, rfl, h⟩ := za_L2_spec h
    exact zb_st (hK _ _ _ _ h) (fun lc H locs k => lv_lsub hx hb hdg k) (fun h => ⟨trivial, h.2.2⟩)
  case land =>
    subst hnx
    obtain ⟨x, y, t, rfl, h⟩ := za_L2_spec h
    exact zb_st (hK _ _ _ _ h) (fun lc H locs k => lv_land hx hb hdg k) (fun h => ⟨trivial, h.2.2⟩)
  case lor =>
    subst hnx
    obtain ⟨x, y, t, rfl, h⟩ := za_L2_spec h
    exact zb_st (hK _ _ _ _ h) (fun lc H locs k => lv_lor hx hb hdg k) (fun h => ⟨trivial, h.2.2⟩)
  case lxor =>
    subst hnx
    obtain ⟨x, y, t, rfl, h⟩ := za_L2_spec h
    exact zb_st (hK _ _ _ _ h) (fun lc H locs k => lv_lxor hx hb hdg k) (fun h => ⟨trivial, h.2.2⟩)
  case lcmp =>
    subst hnx
    obtain ⟨x, y, t, rfl, h⟩ := za_L2_spec h
    exact zb_st (hK _ _ _ _ h) (fun lc H locs k => W.lcmp hx hb hdg k) (fun h => ⟨trivial, h.2.2⟩)
  case lshl =>
    subst hnx
    obtain ⟨x, y, t, rfl, h⟩ := za_LI_spec h
    exact zb_st (hK _ _ _ _ h) (fun lc H locs k => lv_lshl hx hb hdg rfl k) (fun h => ⟨trivial, h.2.2⟩)
  case lshr =>
    subst hnx
    obtain ⟨x, y, t, rfl, h⟩ := za_LI_spec h
    exact zb_st (hK _ _ _ _ h) (fun lc H locs k => lv_lshr hx hb hdg rfl k) (fun h => ⟨trivial, h.2.2⟩)
  case lushr =>
    subst hnx
    obtain ⟨x, y, t, rfl, h⟩ := za_LI_spec h
    exact zb_st (hK _ _ _ _ h) (fun lc H locs k => lv_lushr hx hb hdg rfl k) (fun h => ⟨trivial, h.2.2⟩)
  case i2l =>
    subst hnx
    obtain ⟨x, t, rfl, h⟩ := za_1_spec h
    exact zb_st (hK _ _ _ _ h) (fun lc H locs k => lv_i2l hx hb hdg rfl k) (fun h => ⟨trivial, h.2⟩)
  case l2i =>
    subst hnx
    obtain ⟨x, t, rfl, h⟩ := za_L1_spec h
    exact zb_st (hK _ _ _ _ h) (fun lc H locs k => lv_l2i hx hb hdg rfl k) (fun h => ⟨trivial, h.2⟩)
  case dup =>
    subst hnx
    change za_dup st (fun t => K ls t μ κ) at h
    unfold za_dup at h
    split at h
    · exact zb_st (hK _ _ _ _ h) (fun lc H locs k => lv_dup hx hb hdg rfl k) (fun h => ⟨h.1, h⟩)
    · rename_i r t
      obtain ⟨a, ha⟩ := za_cvA ad r
      exact zb_st (hK _ _ _ _ h) (fun lc H locs k => by simp only [List.map_cons, ha] at k ⊢; exact lv_dup hx hb hdg rfl k) (fun h => ⟨h.1, h⟩)
    · exact h.elim
  case dup2 =>
    subst hnx
    change za_dup2 st (fun t => K ls t μ κ) at h
    unfold za_dup2 at h
    split at h
    · exact zb_st (hK _ _ _ _ h) (fun lc H locs k => lv_dup2_2 hx hb hdg rfl k) (fun h => ⟨h.1, h⟩)
    · exact zb_st (hK _ _ _ _ h) (fun lc H locs k => lv_dup2_11 hx hb hdg rfl rfl k) (fun h => ⟨h.1, h.2.1, h⟩)
    · rename_i x r t
      obtain ⟨a, ha⟩ := za_cvA ad r
      exact zb_st (hK _ _ _ _ h) (fun lc H locs k => by simp only [List.map_cons, ha] at k ⊢; exact lv_dup2_11 hx hb hdg rfl rfl k) (fun h => ⟨h.1, h.2.1, h⟩)
    · exact h.elim
  case dup_x1 =>
    subst hnx
    change za_dupx1 st (fun t => K ls t μ κ) at h
    unfold za_dupx1 at h
    split at h
    · exact zb_st (hK _ _ _ _ h) (fun lc H locs k => lv_dup_x1 hx hb hdg rfl rfl k) (fun h => ⟨h.1, h.2.1, h.1, h.2.2⟩)
    · rename_i x r t
      obtain ⟨a, ha⟩ := za_cvA ad r
      exact zb_st (hK _ _ _ _ h) (fun lc H locs k => by simp only [List.map_cons, ha] at k ⊢; exact lv_dup_x1 hx hb hdg rfl rfl k) (fun h => ⟨h.1, h.2.1, h.1, h.2.2⟩)
    · exact h.elim
  case pop =>
    subst hnx
    change za_drop1 st (fun t => K ls t μ κ) at h
    unfold za_drop1 at h
    split at h
    · exact zb_st (hK _ _ _ _ h) (fun lc H locs k => lv_pop hx hb hdg rfl k) (fun h => h.2)
    · rename_i r t
      obtain ⟨a, ha⟩ := za_cvA ad r
      exact zb_st (hK _ _ _ _ h) (fun lc H locs k => by simp only [List.map_cons, ha] at k ⊢; exact lv_pop hx hb hdg rfl k) (fun h => h.2)
    · exact h.elim
  case ifCond cd off =>
    subst hnx
    obtain ⟨x, t, rfl, h⟩ := za_1_spec h
    exact zb_br (fun lc H locs k => zb_if hx hb hdg hgx k) (fun h => h.2) (za_br_mono (fun h => hJ _ _ _ _ _ h) (fun h => hK _ _ _ _ h) h)
  case if_icmp cd off =>
    subst hnx
    obtain ⟨x, y, t, rfl, h⟩ := za_2_spec h
    exact zb_br (fun lc H locs k => zb_icmp hx hb hdg hgx k) (fun h => h.2.2) (za_br_mono (fun h => hJ _ _ _ _ _ h) (fun h => hK _ _ _ _ h) h)
  case goto off =>
    exact zb_st (hJ _ _ _ _ _ h) (fun lc H locs k => lv_goto hx hb hdg hgx k) (fun h => h)
  case getfield k =>
    subst hnx
    obtain ⟨⟨C, T, N⟩, h1, h2, h3⟩ := hgx
    exact zc_get hx hb hKw hwf hts (hcg _ _ h1).1 hown h1 h2 (hts _ h3) (fun _ h9 => h9) hdg (za_get_mono (fun v t h => hK _ _ _ _ h) h)
  case putfield k =>
    subst hnx
    obtain ⟨⟨C, T, N⟩, h1, h2, h3, h4⟩ := hgx
    exact zd_put hx hb hKw hD hts (hcg _ _ h1).1 (ft x1) (hcg _ _ h1).2.1 (hcg _ _ h1).2.2 hown h1 h2 (hts _ h3) (fun _ h9 => h9) h4 (fun b fs _ h => hlf b x1 x2 fs h) hdg (za_put_mono (fun v t h => hK _ _ _ _ h) h)
  case iaload =>
    subst hnx
    exact zc_ald hx hb hKw hwf hty hX hdg (Or.inl ⟨rfl, rfl⟩) (za_ald_mono (fun v t h => hK _ _ _ _ h) h)
  case baload =>
    subst hnx
    exact zc_ald hx hb hKw hwf hty hX hdg (Or.inr (Or.inl ⟨rfl, rfl⟩)) (za_ald_mono (fun v t h => hK _ _ _ _ h) h)
  case laload =>
    subst hnx
    exact zc_ald hx hb hKw hwf hty hX hdg (Or.inr (Or.inr (Or.inl ⟨rfl, rfl⟩))) (za_ald_mono (fun v t h => hK _ _ _ _ h) h)
  case aaload =>
    subst hnx
    exact zc_ald hx hb hKw hwf hty hX hdg (Or.inr (Or.inr (Or.inr ⟨rfl, rfl⟩))) (za_ald_mono (fun v t h => hK _ _ _ _ h) h)
  case iastore =>
    subst hnx
    exact zd_ast hx hb hKw hD hty hdg (Or.inl ⟨rfl, rfl⟩) (za_ast_mono (fun v t h => hK _ _ _ _ h) h)
  case bastore =>
    subst hnx
    exact zd_ast hx hb hKw hD hty hdg (Or.inr (Or.inl ⟨rfl, rfl⟩)) (za_ast_mono (fun v t h => hK _ _ _ _ h) h)
  case lastore =>
    subst hnx
    exact zd_ast hx hb hKw hD hty hdg (Or.inr (Or.inr ⟨rfl, rfl⟩)) (za_ast_mono (fun v t h => hK _ _ _ _ h) h)
  case arraylength =>
    subst hnx
    exact zd_len hx hb hKw hty hX hdg (za_len_mono (fun v t h => hK _ _ _ _ h) h)
  case invokevirtual k =>
    obtain ⟨as, t, h1, h2, h4, h3⟩ := za_cl_spec h
    exact hC k as t h1 h2 h4 (Or.inl rfl) (fun q => by cases q) h3
  case invokespecial k =>
    obtain ⟨as, t, h1, h2, h4, h3⟩ := za_cl_spec h
    exact hC k as t h1 h2 h4 (Or.inr (Or.inl rfl)) (fun q => by cases q) h3
  case invokestatic k =>
    change (match Nat.beq x1 999 with
      | true => za_cp Λ μ st (fun m t => K ls t m κ)
      | false => za_cl x2 st (fun as t => CC x1 as μ κ (fun r m q => za_back r t (fun t1 => K ls t1 m q)) (fun x m q => HX x ls m q))) at h
    split at h
    · rename_i hq
      exact hAc k rfl (Nat.eq_of_beq_eq_true hq) h
    · rename_i hq
      obtain ⟨as, t, h1, h2, h4, h3⟩ := za_cl_spec h
      exact hC k as t h1 h2 h4 (Or.inr (Or.inr rfl)) (fun _ q => by rw [q] at hq; cases hq) h3
  case new k => exact hN k rfl h
  case ireturn =>
    obtain ⟨x, t, rfl, rfl, h1, h⟩ := za_1_spec h
    exact hI x _ _ h1 h hdg
  case lreturn =>
    obtain ⟨x, t, rfl, rfl, h1, h⟩ := za_L1_spec h
    exact hL x _ _ h1 h hdg
  case areturn =>
    change za_A1 st (fun v t => t = [] ∧ ret = 4 ∧ RR (some v) μ κ) at h
    obtain ⟨r, t, rfl, rfl, h1, h⟩ := za_A1_spec h
    exact hA r _ _ h1 h hdg
  case return_ =>
    obtain ⟨rfl, h1, h⟩ := h
    exact hV _ _ h1 h hdg
  case tableswitch d lo hi offs =>
    obtain ⟨x, t, rfl, h⟩ := za_1_spec h
    obtain ⟨g1, g2, g3, g4, g5⟩ := hgx
    rcases ze_sw h with ⟨h1, h2⟩ | ⟨k, tg, h1, h2, h3⟩
    · have hout : x.toInt < lo ∨ hi < x.toInt := by
        rcases (show x.toInt < lo ∨ lo ≤ x.toInt by omega) with q | q
        · exact Or.inl q
        · rcases (show hi < x.toInt ∨ x.toInt ≤ hi by omega) with q2 | q2
          · exact Or.inr q2
          · refine absurd ?_ (h1 (x.toInt - lo).toNat (by simp only [List.length_map, Array.length_toList]; omega))
            rw [show lo + (((x.toInt - lo).toNat : Nat) : Int) = x.toInt by omega, Int32.ofInt_toInt]
      exact zb_st (hJ _ _ _ _ _ h2) (fun lc H locs k => lv_tableOut hx hb hdg hout g1 k) (fun h => h.2)
    · rw [List.getElem?_map, Option.map_eq_some_iff] at h1
      obtain ⟨o, ho, he⟩ := h1
      rw [Array.getElem?_toList] at ho
      have hk : k < offs.size := (Array.getElem?_eq_some_iff.mp ho).1
      have hxi : x.toInt = lo + (k : Int) := by rw [h2]; exact Int32.toInt_ofInt_of_le (by omega) (by omega)
      have hnn : 0 ≤ (pc : Int) + o := by
        have := List.all_eq_true.mp g5 o (Array.mem_toList_iff.mpr (Array.mem_of_getElem? ho))
        simpa using this
      exact zb_st (hJ _ _ _ _ _ h3) (fun lc H locs kk => lv_tableIn (off := o) (tgt := tg) hx hb hdg (by omega) (by omega) (by rw [hxi, show lo + (k : Int) - lo = (k : Int) by omega, Int.toNat_natCast]; exact ho) (by omega) kk) (fun h => h.2)
  all_goals exact h.elim
end ZE
end
section
/-! METHODS THAT MAY THROW: a contract over both ends, and a call that comes back or throws. -/
def zx_Q (Qc : Array Value → State → Outcome → State → Prop) (mc ms : Nat) (free : Addr → Prop) : Array Value → State → Outcome → State → Prop := fun a st o t =>
  Qc a st o t ∧ st.WarmedH t.vm ∧ ∃ L : List Loc, st.sameButNew ({ t with vm := st.vm } : State) L mc ms ∧ ∀ q ∈ L, free q.base
def zx_Met (l : Launch) (y : MethodName) (ws : List Cond) (rm : Room) (Pc : Array Value → State → Prop) (Qc : Array Value → State → Outcome → State → Prop) (mc ms : Nat) (free : Addr → Prop) : Prop :=
  MetFree l y (headSpec ws rm) Pc (fun _ _ _ _ _ => True) (zx_Q Qc mc ms free)
def zx_MQ (below : List Frame) (Qc : Array Value → State → Outcome → State → Prop) (a : Array Value) (s : State) (mc ms : Nat) (free : Addr → Prop) : State → Prop := fun t =>
  ∃ o, t.status = .running ∧ Ended t below o ∧ zx_Q Qc mc ms free a s o t
section ZXA
variable {p : Program} {l : Launch} {e : Env} {R : Room} {s : State} {m : MethodId} {args : Array Value} {below : List Frame} {meth : Method} {c : Code} {H : Heap} {locs : List Loc} {cells slots mc ms : Nat} {Qc : Array Value → State → Outcome → State → Prop} {free : Addr → Prop}
theorem zx_ret {g : JFrame} (k : W p l e R s m args below meth c H locs cells slots (MQ below Qc args s mc ms free) g) : W p l e R s m args below meth c H locs cells slots (zx_MQ below Qc args s mc ms free) g := by
  intro T hT X
  obtain ⟨t, a1, o, b1, b2, b3, L, ⟨-, h1, h2⟩, h3⟩ := k T hT X
  exact ⟨t, a1, o, b1, b2, b3, h1, L, h2, h3⟩
theorem zx_ofW {y : MethodName} {ws ws' : List Cond} {rm : Room} {Pc : Array Value → State → Prop} {cc : ByteArray} {maxL : Nat} {ret : Option FieldType}
    (hy : plainName y.cls = true) (hw : ws = Cond.code y cc maxL ret :: ws')
    (body : ∀ p e s m args below meth c s₁, BodyLoose p l y (headSpec ws rm) cc maxL ret e s m args below meth c s₁ → c.maxLocals = maxL → (∀ x ∈ c.exceptionTable.toList, False) → Pc args s →
      W p l e (headSpec ws rm).room s m args below meth c s.heap [] 0 0 (zx_MQ below Qc args s mc ms free) (entryFrame m args maxL)) : zx_Met l y ws rm Pc Qc mc ms free := by
  refine MetFree.of_bodyS (code := cc) (maxLocals := maxL) (ret := ret) hy ?_ ?_
  · intro args s m h hn
    obtain ⟨meth, c, h1, h2, h3, h4, h5, h6, -, -⟩ := Cond.code_spec hn (atoms_spec (ws := ws) h _ (by rw [hw]; exact List.mem_cons_self))
    exact ⟨meth, c, h1, h2, h3, h4, h5, h6⟩
  · intro p e s m args below meth c s₁ B hml hP _
    have hh0 : s₁.heap = s.heap := by rw [B.state]; rfl
    have hc0 := (atoms_spec (ws := ws) B.pre) _ (by rw [hw]; exact List.mem_cons_self)
    obtain ⟨meth', c', g1, g2, g3, g4, g5, g6, g7, g8⟩ := Cond.code_spec B.named hc0
    cases B.method.symm.trans g1
    have hcc : meth.code = some c := by
      have h := B.here.code
      rw [State.code?_eq, B.method₁] at h
      exact h
    cases hcc.symm.trans g2
    have h0 : c.exceptionTable = #[] := by simpa using g7
    have hnoex : ∀ x ∈ c.exceptionTable.toList, False := by
      intro x hx
      rw [h0] at hx
      simp at hx
    obtain ⟨t, a1, o, b1, b2, b3⟩ := body p e s m args below meth c s₁ B hml hnoex hP s₁ hh0 (Stand.of_body B)
    exact ⟨t, o, a1, b1, b2, b3⟩
end ZXA
section ZXB
variable {p : Program} {l : Launch} {e : Env} {R : Room} {s : State} {m : MethodId} {sargs : Array Value} {below : List Frame} {meth : Method} {c : Code} {locs : List Loc} {cells slots mc ms len W9 : Nat} {y : MethodName}
theorem zx_back {ws : List Cond} {rm : Room} {Pc : Array Value → State → Prop} {Qc : Array Value → State → Outcome → State → Prop} {free : Addr → Prop} {bytes : ByteArray} {maxL : Nat} {ret : Option FieldType} {U : State} {g : JFrame} {ig : Instr} {mk : MethodId} {a : Array Value}
    (hM : zx_Met l y ws rm Pc Qc mc ms free) (hblind : FrameBlind Pc) (hrc : rm.cells = mc) (hrs : rm.slots = ms) (hframes : rm.frames + 1 ≤ R.frames) (hlocals : W9 + (maxL + 11) + rm.locals ≤ R.locals)
    (hws : ∀ w ∈ ws, ∀ (a' : Array Value) (U : State), s.WarmedH U.vm → w.before a' U = true) (hcode : Cond.code y bytes maxL ret ∈ ws) (hinit : ∀ (a' : Array Value) (U : State), s.WarmedH U.vm → (Cond.initialized y.cls).before a' U = true)
    (X : Stand p l e R s m sargs below meth c U locs cells slots) (hg : g.method = m) (hsize : g.locals.size = c.maxLocals) (hdg : decode c.code g.pc = .ok (ig, len)) (hW : 2 * g.monitorRoom + (g.stack.map fun v => v.category).sum ≤ W9) (hn : U.methodNamed? y = some mk)
    (hcells : cells + mc ≤ R.cells) (hslots : slots + ms ≤ R.slots) (hPc : Pc a U) :
    ∃ (o : Outcome) (t T' : State) (L : List Loc), Qc a (U.calling g mk a) o t ∧ T'.heap = t.heap ∧ T'.vm = t.vm ∧ (∀ q ∈ L, free q.base) ∧ Stand p l e R s m sargs below meth c T' (locs ++ L) (cells + mc) (slots + ms) ∧
      ((∃ v, o = .returned v ∧ Steps p.tables e below (doInvoke e (U.setTop g) [] mk a).1 (T'.setTop { g with pc := g.pc + len, stack := v.toList ++ g.stack })) ∨ (∃ q, o = .threw q ∧ Steps p.tables e below (doInvoke e (U.setTop g) [] mk a).1 ((T'.setTop g).pushFrame (.throwing q)))) := by
  have h1 : (headSpec ws rm).pre.before a U = true := atoms_intro fun w hw => hws w hw _ _ X.warmed
  have h2 : (Cond.code y bytes maxL ret).before a U = true := hws _ hcode _ _ X.warmed
  have h3 : (Cond.initialized y.cls).before a U = true := hinit _ _ X.warmed
  obtain ⟨methY, cY, hmY, hcY, -, hlY, -⟩ := Cond.code_spec hn h2
  obtain ⟨kY, hkY, -⟩ := className_of_methodNamed hn
  have hinitY : kY.init = .initialized := Cond.initialized_spec (findClass_of_methodNamed hn) hkY h3
  have h : At U g.method c below := by rw [hg]; exact X.here
  have happ : (headSpec ws rm).appliesLoose y e.platform (U.calling g mk a) = true :=
    Spec.appliesLoose_calling (g := g) h hdg hn hkY hinitY
      (X.room_calling (g := g) (R' := (headSpec ws rm).room) hsize hmY hcY hframes (by rw [hlY]; show _ ≤ R.locals; have : (headSpec ws rm).room.locals = rm.locals := rfl; omega) (by rw [show (headSpec ws rm).room.cells = mc from hrc]; exact hcells) (by rw [show (headSpec ws rm).room.slots = ms from hrs]; exact hslots)) h1
  obtain ⟨mid, hmid⟩ := h.above
  have hfr : (U.setTop g).frames = (.java g :: mid) ++ below := by rw [State.frames_setTop' g h.top, hmid]; rfl
  obtain ⟨o, s₂, hsteps, -, hend, hq⟩ := Steps.callFree hM p X.admits X.cas X.clock (acts := []) hfr happ (hblind _ _ _ _ hPc) trivial
  rw [State.frames_setTop' g h.top] at hend
  have hq' : zx_Q Qc mc ms free a (U.calling g mk a) o s₂ := hq
  obtain ⟨hQ, hW₂, L, hsn, hL⟩ := hq'
  obtain ⟨e2, q2, q3, q4, q5, q6⟩ := hsn
  have e3 : s₂ = ({ (U.calling g mk a).setFrames s₂.frames with heap := s₂.heap, slotsUsed := s₂.slotsUsed } : State).setVm s₂.vm := by
    have : s₂ = ({ s₂ with vm := (U.calling g mk a).vm } : State).setVm s₂.vm := rfl
    rw [e2] at this
    exact this
  have hW' : U.WarmedH s₂.vm := hW₂
  obtain ⟨g₀, hg0⟩ := Option.isSome_iff_exists.mp h.top
  obtain ⟨r, hr⟩ := State.topJava?_eq_some.mp hg0
  have hr' : (({ U with heap := s₂.heap, slotsUsed := s₂.slotsUsed } : State).setVm s₂.vm).frames = .java g₀ :: r := hr
  have hsame : U.sameButNew ({ U with heap := s₂.heap, slotsUsed := s₂.slotsUsed } : State) L mc ms := by
    refine ⟨?_, q2, q3, q4, q5, q6⟩
    obtain ⟨t, ht, -⟩ := State.frames_cons hr
    show ({ U with heap := s₂.heap, slotsUsed := s₂.slotsUsed } : State) = { U.setFrames U.frames with heap := s₂.heap, slotsUsed := s₂.slotsUsed }
    rw [State.setFrames_self ht]
  subst hg
  refine ⟨o, s₂, (({ U with heap := s₂.heap, slotsUsed := s₂.slotsUsed } : State).setVm s₂.vm), L, hQ, rfl, rfl, hL,
    ⟨X.admits, X.cas, X.clock, X.frames, X.room, X.hears, X.method, X.code, (X.here.setHeapUsed s₂.heap s₂.slotsUsed).setVm hW'.alike, X.tail, State.WarmedH.trans X.warmed hW', X.limits, X.bytes, X.same.trans (hsame.setVm s.vm)⟩, ?_⟩
  cases o with
  | returned v =>
    left
    refine ⟨v, rfl, ?_⟩
    obtain ⟨c₂, i₂, len₂, hc₂, hd₂, hf₂⟩ := hend
    have hcc : c₂ = c := by
      have h1 : s₂.code? g.method = U.code? g.method := by
        rw [State.code?_eq, State.code?_eq, hW'.alike.method?]
      exact Option.some.inj (hc₂.symm.trans (h1.trans h.code))
    subst hcc
    have hlen : len₂ = len := by rw [hdg] at hd₂; cases hd₂; rfl
    subst hlen
    have hs₂ : s₂ = (({ U with heap := s₂.heap, slotsUsed := s₂.slotsUsed } : State).setVm s₂.vm).setTop { g with pc := g.pc + len₂, stack := v.toList ++ g.stack } := by
      refine e3.trans ?_
      rw [hf₂, State.calling_eq h.top, State.setFrames_setFrames, State.setTop_of_frames _ hr', hr]
      rfl
    rw [← hs₂]
    exact hsteps
  | threw q =>
    right
    refine ⟨q, rfl, ?_⟩
    have hf₂ : s₂.frames = .throwing q :: .java g :: r := by
      have h9 : s₂.frames = .throwing q :: (.java g :: U.frames.tail) := hend
      rw [h9, hr]
      rfl
    have hs₂ : s₂ = ((({ U with heap := s₂.heap, slotsUsed := s₂.slotsUsed } : State).setVm s₂.vm).setTop g).pushFrame (.throwing q) := by
      refine e3.trans ?_
      rw [State.pushFrame, State.frames_setTop _ hr', State.setTop_of_frames _ hr', State.setFrames_setFrames, hf₂, State.calling_eq h.top, State.setFrames_setFrames]
      rfl
    rw [← hs₂]
    exact hsteps
end ZXB
def zx_WX (p : Program) (l : Launch) (e : Env) (R : Room) (s : State) (m : MethodId) (args : Array Value) (below : List Frame) (meth : Method) (c : Code) (H : Heap) (locs : List Loc) (cells slots : Nat) (Q : State → Prop) (g : JFrame) (q : Addr) : Prop :=
  ∀ T : State, T.heap = H → Stand p l e R s m args below meth c T locs cells slots → ∃ t, Steps p.tables e below ((T.setTop g).pushFrame (.throwing q)) t ∧ Q t
section ZXC
variable {p : Program} {l : Launch} {e : Env} {R : Room} {s : State} {m : MethodId} {args : Array Value} {below : List Frame} {meth : Method} {c : Code} {H : Heap} {locs : List Loc} {cells slots mc ms : Nat} {Q : State → Prop}
variable {y : MethodName} {bytes cc : ByteArray} {maxL nL n index : Nat} {ret : Option FieldType} {ws : List Cond} {rm : Room} {Pc : Array Value → State → Prop} {Qc : Array Value → State → Outcome → State → Prop} {free : Addr → Prop} {own C : String} {b : Addr} {As rest : List Value} {g : JFrame}
theorem zx_runV (hx : p.tables.exec = Jvm.exec) (hb : c.code = cc) (hml : c.maxLocals = nL) (ho : s.vm.findClass own = some m.cls) (hM : zx_Met l y ws rm Pc Qc mc ms free) (cw : CallW R s args own C index y bytes maxL ret ws rm mc ms n) (hp : PreV s H C b Pc As)
    (hg : g.method = m) (hn : As.length = n) (hsize : g.locals.size = nL) (hstack : g.stack = As.reverse ++ .ref b :: rest) (hW : 2 * g.monitorRoom + (rest.map fun v => v.category).sum ≤ 8) (hdg : decode cc g.pc = .ok (.invokevirtual index, 3)) (hf : cells + mc ≤ R.cells ∧ slots + ms ≤ R.slots)
    (k : ∀ (o : Outcome) (st₀ t : State) (L : List Loc), st₀.heap = H → s.vm.Alike st₀.vm → Qc (Value.ref b :: As).toArray st₀ o t → s.vm.Alike t.vm → (∀ q ∈ L, free q.base) →
      (∀ v, o = .returned v → W p l e R s m args below meth c t.heap (locs ++ L) (cells + mc) (slots + ms) Q { g with pc := g.pc + 3, stack := v.toList ++ rest }) ∧ (∀ q, o = .threw q → zx_WX p l e R s m args below meth c t.heap (locs ++ L) (cells + mc) (slots + ms) Q { g with stack := rest } q)) : W p l e R s m args below meth c H locs cells slots Q g := by
  obtain ⟨⟨hrc, hrs, hfr, hlo, hws, hcw, hcode, hini, hy, hlen, hl⟩, hin, hse⟩ := cw
  obtain ⟨hblind, ⟨cellB, hcB, hoB, hclB⟩, hPc⟩ := hp
  intro T hT X
  obtain ⟨mk, methM, hnamed, hmethM, hstM, habM⟩ := Cond.instanceMethod_spec hin
  obtain ⟨methM', cM, hmethM', -, -, -, -, -, -, hsigM⟩ := Cond.code_spec hnamed hcode
  cases hmethM.symm.trans hmethM'
  obtain ⟨c2, r2, m2, q1, q2, q3, q4, kP, hkP, hkPi⟩ := Cond.selects_spec hse
  cases hclB.symm.trans q1
  cases (State.methodFound?_of_named hnamed hy).symm.trans q2
  cases hnamed.symm.trans q3
  have hselP : selectMethod e.platform s.vm cellB.cls mk = .method mk := by rw [Launch.admits_selectMethod X.admits]; exact q4
  obtain ⟨vm₁, X₁, hstep₁⟩ := X.invokevirtual hx ho hl hnamed hmethM hstM hkP hkPi hy (a := b) (cell := cellB) (by rw [hT]; exact hcB)
    (fun z h => by rw [h] at hoB; cases hoB) hselP hmethM habM hkP hkPi (g := g) hg (argsL := As) (rest := rest) (hn.trans (hlen _ hsigM)) hstack (by rw [hb]; exact hdg)
  obtain ⟨o, t, T', L, hQ, e1, e2, hL, X', hend⟩ := zx_back (g := { g with stack := rest }) (len := 3) (W9 := 8) (a := (Value.ref b :: As).toArray) hM hblind hrc hrs hfr hlo hws hcw (fun a' U hW => word_at hW (Or.inl (by first | rfl | simp [Cond.onTables, Cond.keeps, Cond.steady])) hini) X₁ hg (hsize.trans hml.symm) (by rw [hb]; exact hdg) hW (X₁.named hnamed) hf.1 hf.2 (hPc (T.setVm vm₁) hT X₁.warmed)
  have k1 := k o ((T.setVm vm₁).calling { g with stack := rest } mk (Value.ref b :: As).toArray) t L hT X₁.warmed.alike hQ (by rw [← e2]; exact X'.warmed.alike) hL
  rcases hend with ⟨v, hv, st⟩ | ⟨q, hq, st⟩
  · obtain ⟨t2, a1, b1⟩ := k1.1 v hv T' e1 X'
    exact ⟨t2, hstep₁ _ fun acts => by rw [doInvoke_state]; exact st.trans a1, b1⟩
  · obtain ⟨t2, a1, b1⟩ := k1.2 q hq T' e1 X'
    exact ⟨t2, hstep₁ _ fun acts => by rw [doInvoke_state]; exact st.trans a1, b1⟩
theorem zx_runS (hx : p.tables.exec = Jvm.exec) (hb : c.code = cc) (hml : c.maxLocals = nL) (ho : s.vm.findClass own = some m.cls) (hM : zx_Met l y ws rm Pc Qc mc ms free) (cw : CallB R s args own index y bytes maxL ret ws rm mc ms n ∧ (Cond.static y).before args s = true) (hp : PreS s H Pc As)
    (hg : g.method = m) (hn : As.length = n) (hsize : g.locals.size = nL) (hstack : g.stack = As.reverse ++ rest) (hW : 2 * g.monitorRoom + (rest.map fun v => v.category).sum ≤ 8) (hdg : decode cc g.pc = .ok (.invokestatic index, 3)) (hf : cells + mc ≤ R.cells ∧ slots + ms ≤ R.slots)
    (k : ∀ (o : Outcome) (st₀ t : State) (L : List Loc), st₀.heap = H → s.vm.Alike st₀.vm → Qc As.toArray st₀ o t → s.vm.Alike t.vm → (∀ q ∈ L, free q.base) →
      (∀ v, o = .returned v → W p l e R s m args below meth c t.heap (locs ++ L) (cells + mc) (slots + ms) Q { g with pc := g.pc + 3, stack := v.toList ++ rest }) ∧ (∀ q, o = .threw q → zx_WX p l e R s m args below meth c t.heap (locs ++ L) (cells + mc) (slots + ms) Q { g with stack := rest } q)) : W p l e R s m args below meth c H locs cells slots Q g := by
  obtain ⟨⟨hrc, hrs, hfr, hlo, hws, hcw, hcode, hini, hy, hlen, hl⟩, hstat⟩ := cw
  obtain ⟨hblind, hPc⟩ := hp
  intro T hT X
  obtain ⟨mk, hnamed⟩ := Cond.code_named hcode
  obtain ⟨methM, cM, hmethM, -, -, -, -, -, -, hsigM⟩ := Cond.code_spec hnamed hcode
  have hstatic : methM.isStatic = true := Cond.static_spec hnamed hmethM hstat
  obtain ⟨kP, hkP, -⟩ := className_of_methodNamed hnamed
  have hinitP : kP.init = .initialized := Cond.initialized_spec (findClass_of_methodNamed hnamed) hkP hini
  obtain ⟨vm₁, X₁, hstep₁⟩ := X.invokestatic hx ho hl hnamed hmethM hstatic hkP hinitP hy (g := g) hg (argsL := As) (rest := rest) (hn.trans (hlen _ hsigM)) hstack (by rw [hb]; exact hdg)
  obtain ⟨o, t, T', L, hQ, e1, e2, hL, X', hend⟩ := zx_back (g := { g with stack := rest }) (len := 3) (W9 := 8) (a := As.toArray) hM hblind hrc hrs hfr hlo hws hcw (fun a' U hW => word_at hW (Or.inl (by first | rfl | simp [Cond.onTables, Cond.keeps, Cond.steady])) hini) X₁ hg (hsize.trans hml.symm) (by rw [hb]; exact hdg) hW (X₁.named hnamed) hf.1 hf.2 (hPc (T.setVm vm₁) hT X₁.warmed)
  have k1 := k o ((T.setVm vm₁).calling { g with stack := rest } mk As.toArray) t L hT X₁.warmed.alike hQ (by rw [← e2]; exact X'.warmed.alike) hL
  rcases hend with ⟨v, hv, st⟩ | ⟨q, hq, st⟩
  · obtain ⟨t2, a1, b1⟩ := k1.1 v hv T' e1 X'
    exact ⟨t2, hstep₁ _ fun acts => by rw [doInvoke_state]; exact st.trans a1, b1⟩
  · obtain ⟨t2, a1, b1⟩ := k1.2 q hq T' e1 X'
    exact ⟨t2, hstep₁ _ fun acts => by rw [doInvoke_state]; exact st.trans a1, b1⟩
theorem zx_runSN {host : String} (hx : p.tables.exec = Jvm.exec) (hb : c.code = cc) (hml : c.maxLocals = nL) (ho : s.vm.findClass own = some m.cls) (hM : zx_Met l y ws rm Pc Qc mc ms free) (cw : va_CN R s args own index y host bytes maxL ret ws rm mc ms n ∧ (Cond.static y).before args s = true) (hp : PreS s H Pc As)
    (hg : g.method = m) (hn : As.length = n) (hsize : g.locals.size = nL) (hstack : g.stack = As.reverse ++ rest) (hW : 2 * g.monitorRoom + (rest.map fun v => v.category).sum ≤ 8) (hdg : decode cc g.pc = .ok (.invokestatic index, 3)) (hf : cells + mc ≤ R.cells ∧ slots + ms ≤ R.slots)
    (k : ∀ (o : Outcome) (st₀ t : State) (L : List Loc), st₀.heap = H → s.vm.Alike st₀.vm → Qc As.toArray st₀ o t → s.vm.Alike t.vm → (∀ q ∈ L, free q.base) →
      (∀ v, o = .returned v → W p l e R s m args below meth c t.heap (locs ++ L) (cells + mc) (slots + ms) Q { g with pc := g.pc + 3, stack := v.toList ++ rest }) ∧ (∀ q, o = .threw q → zx_WX p l e R s m args below meth c t.heap (locs ++ L) (cells + mc) (slots + ms) Q { g with stack := rest } q)) : W p l e R s m args below meth c H locs cells slots Q g := by
  obtain ⟨⟨⟨hrc, hrs, hfr, hlo, hws, hcw⟩, hcode, hini, hy, hlen, hl⟩, hstat⟩ := cw
  obtain ⟨hblind, hPc⟩ := hp
  intro T hT X
  obtain ⟨mk, hnamed⟩ := Cond.code_named hcode
  obtain ⟨methM, cM, hmethM, -, -, -, -, -, -, hsigM⟩ := Cond.code_spec hnamed hcode
  have hstatic : methM.isStatic = true := Cond.static_spec hnamed hmethM hstat
  obtain ⟨kP, hkP, -⟩ := className_of_methodNamed hnamed
  have hinitP : kP.init = .initialized := Cond.initialized_spec (findClass_of_methodNamed hnamed) hkP hini
  obtain ⟨vm₁, X₁, hstep₁⟩ := X.invokestaticNest hx ho hl hnamed hmethM hstatic hkP hinitP hy (g := g) hg (argsL := As) (rest := rest) (hn.trans (hlen _ hsigM)) hstack (by rw [hb]; exact hdg)
  obtain ⟨o, t, T', L, hQ, e1, e2, hL, X', hend⟩ := zx_back (g := { g with stack := rest }) (len := 3) (W9 := 8) (a := As.toArray) hM hblind hrc hrs hfr hlo hws hcw (fun a' U hW => word_at hW (Or.inl (by first | rfl | simp [Cond.onTables, Cond.keeps, Cond.steady])) hini) X₁ hg (hsize.trans hml.symm) (by rw [hb]; exact hdg) hW (X₁.named hnamed) hf.1 hf.2 (hPc (T.setVm vm₁) hT X₁.warmed)
  have k1 := k o ((T.setVm vm₁).calling { g with stack := rest } mk As.toArray) t L hT X₁.warmed.alike hQ (by rw [← e2]; exact X'.warmed.alike) hL
  rcases hend with ⟨v, hv, st⟩ | ⟨q, hq, st⟩
  · obtain ⟨t2, a1, b1⟩ := k1.1 v hv T' e1 X'
    exact ⟨t2, hstep₁ _ fun acts => by rw [doInvoke_state]; exact st.trans a1, b1⟩
  · obtain ⟨t2, a1, b1⟩ := k1.2 q hq T' e1 X'
    exact ⟨t2, hstep₁ _ fun acts => by rw [doInvoke_state]; exact st.trans a1, b1⟩
/-- not caught here -/
theorem zx_out {lc : Array Slot} {pc : Nat} {q : Addr} (hout : ∀ x ∈ c.exceptionTable.toList, covers x pc = false) (hlocks : meth.locks = false) {args : Array Value}
    (hx : ∀ t : State, t.heap = H → s.vm.Alike t.vm → Qc args s (.threw q) t) (hfr : ∀ z ∈ locs, free z.base) : zx_WX p l e R s m args below meth c H locs cells slots (zx_MQ below Qc args s cells slots free) (F0 m pc lc rest) q := by
  intro T hT X
  obtain ⟨st1, hrun, hend, hW, hsm⟩ := X.leaveThrown q (g := F0 m pc lc rest) rfl rfl rfl hout hlocks
  exact ⟨_, st1, .threw q, hrun, hend, hx _ hT hW.alike, hW, locs, hsm, hfr⟩
end ZXC
end
section
/-! METHODS: a contract over the layout; a method's body proved by runs of the abstract machine alone. -/
/-- a method: 0 static or 1 of an object, its class's number, its name, code, locals, what it returns -/
abbrev zk_Me : Type := Nat × Nat × MethodName × ByteArray × Nat × Option FieldType
/-- the law's run: launch, addresses, array classes, classes and slots, array types -/
abbrev zk_G : Type := Launch × (Nat → Nat → Nat) × (Nat → ClassId) × va_G × List (ClassId × FieldType)
/-- the layout, the counts, the classes, their fields' types, the words, the methods, the exceptions' names -/
abbrev zk_T : Type := List za_S × (Nat → Nat) × List vw_C × (Nat → Nat → FieldType) × List Cond × List zk_Me × (Nat → String)
def zk_X0 : za_X := (false, 0, 0, fun _ => 0)
def zk_A (Θ : zk_T) (Γ : zk_G) (sz : Nat) : Nat → Prop := fun q => (∃ b j : Nat, b < Θ.1.length ∧ j < Θ.2.1 b ∧ q = Γ.2.1 b j) ∨ sz ≤ q
def zk_W (Θ : zk_T) (U : State) : Prop := ∀ w ∈ Θ.2.2.2.2.1, ∀ a : Array Value, w.before a U = true
def zk_H (Θ : zk_T) (Γ : zk_G) (μ : za_M) (H : Heap) : Prop := va_P Γ.2.2.2.1 Θ.2.2.1 (za_ws Θ.1 Θ.2.1 Γ.2.1 Γ.2.2.1 μ) H
def zk_okr (Θ : zk_T) (r : Option za_V) : Prop := match r with
  | none => True
  | some v => za_ok Θ.2.1 v
/-- what holds wherever a method begins, beside its arguments and the memory; E: what else the run keeps -/
def zk_I (Θ : zk_T) (Γ : zk_G) (U : State) : Prop := zk_W Θ U ∧ va_K Γ.2.2.2.1 Θ.2.2.1 Γ.2.2.2.2 U ∧ (∀ ν : za_M, va_D (fun _ => True) (za_ws Θ.1 Θ.2.1 Γ.2.1 Γ.2.2.1 ν)) ∧ za_ty Θ.1 Γ.2.2.1 Γ.2.2.2.2
def zk_Pc (Θ : zk_T) (Γ : zk_G) (sz : Nat) (as : List za_V) (μ : za_M) : Array Value → State → Prop := fun v U =>
  v = (as.map (za_cv Γ.2.1)).toArray ∧ U.heap.size = sz ∧ zk_H Θ Γ μ U.heap ∧ za_oks Θ.2.1 as ∧ zk_I Θ Γ U
def zk_Qc (Θ : zk_T) (Γ : zk_G) (sz : Nat) (post : Option za_V → za_M → Prop) (px : Nat → za_M → Prop) : Array Value → State → Outcome → State → Prop := fun _ st o t =>
  ((∃ (r : Option za_V) (μ : za_M), o = .returned (r.map (za_cv Γ.2.1)) ∧ zk_okr Θ r ∧ post r μ ∧ zk_H Θ Γ μ t.heap) ∨
    (∃ (q E : Nat) (ce : Cell) (μ : za_M), o = .threw q ∧ px E μ ∧ zk_H Θ Γ μ t.heap ∧ t.heap[q]? = some ce ∧ ce.vm = .none ∧ st.vm.findClass (Θ.2.2.2.2.2.2 E) = some ce.cls)) ∧ va_F (zk_A Θ Γ sz) st t
def zk_rm (d mc ms : Nat) : Room := { frames := d, cells := mc, slots := ms, locals := 64 * d }
def zk_Ct (Θ : zk_T) (Γ : zk_G) (M : zk_Me) (d mc ms : Nat) (as : List za_V) (μ : za_M) (post : Option za_V → za_M → Prop) (px : Nat → za_M → Prop) : Prop :=
  ∀ sz : Nat, zx_Met Γ.1 M.2.2.1 [Cond.code M.2.2.1 M.2.2.2.1 M.2.2.2.2.1 M.2.2.2.2.2] (zk_rm d mc ms) (zk_Pc Θ Γ sz as μ) (zk_Qc Θ Γ sz post px) mc ms (zk_A Θ Γ sz)
/-- the receiver is an object of the method's class -/
def zk_rc (Λ : List za_S) (M : zk_Me) (as : List za_V) : Bool := match M.1 with
  | 0 => true
  | _ => (match as with
    | .inr (.inr (.inl (b, _))) :: _ => (match za_n Λ b with
      | some (4, ci, _) => Nat.beq ci M.2.1
      | _ => false)
    | _ => false)
def zk_CC (Θ : zk_T) (Γ : zk_G) (d mc ms : Nat) : za_CC := fun y as μ κ k x => match za_n Θ.2.2.2.2.2.1 y with
  | some M => (match zk_rc Θ.1 M as with
    | true => ∃ (d' mc' ms' : Nat) (post : Option za_V → za_M → Prop) (px : Nat → za_M → Prop), d' < d ∧ κ.1 + mc' ≤ mc ∧ κ.2 + ms' ≤ ms ∧ zk_Ct Θ Γ M d' mc' ms' as μ post px ∧ (∀ r μ1, post r μ1 → k r μ1 (κ.1 + mc', κ.2 + ms')) ∧ (∀ E μ1, px E μ1 → x E μ1 (κ.1 + mc', κ.2 + ms'))
    | false => False)
  | none => False
def zk_RR (mc ms : Nat) (post : Option za_V → za_M → Prop) : za_RR := fun r μ κ => κ.1 ≤ mc ∧ κ.2 ≤ ms ∧ post r μ
/-- what is asked of a row that calls -/
def zk_gc (Θ : zk_T) (own : String) (e : za_E) : Prop := match e.2.1 with
  | .invokevirtual k => ∃ (M : zk_Me) (q : vw_C), za_n Θ.2.2.2.2.2.1 e.2.2.2.1 = some M ∧ M.1 = 1 ∧ Θ.2.2.1[M.2.1]? = some q ∧ q.1 = M.2.2.1.cls ∧ Cond.methodLink own k M.2.2.1 ∈ Θ.2.2.2.2.1 ∧ Cond.instanceMethod M.2.2.1 ∈ Θ.2.2.2.2.1 ∧ Cond.selects M.2.2.1.cls M.2.2.1 M.2.2.1 ∈ Θ.2.2.2.2.1 ∧ (parseMethodDescriptor M.2.2.1.desc).map (fun z => z.parameters.length + 1) = some e.2.2.2.2.1
  | .invokestatic k => (e.2.2.2.1 = 999 ∧ Cond.methodLink own k arraycopyName ∈ Θ.2.2.2.2.1 ∧ Cond.native arraycopyName ∈ Θ.2.2.2.2.1 ∧ Cond.static arraycopyName ∈ Θ.2.2.2.2.1 ∧ Cond.initialized "java/lang/System" ∈ Θ.2.2.2.2.1) ∨
    ∃ M : zk_Me, ¬ e.2.2.2.1 = 999 ∧ za_n Θ.2.2.2.2.2.1 e.2.2.2.1 = some M ∧ M.1 = 0 ∧ (Cond.methodLink own k M.2.2.1 ∈ Θ.2.2.2.2.1 ∨ ∃ host : String, Cond.methodLinkNest own k M.2.2.1 host ∈ Θ.2.2.2.2.1) ∧ Cond.static M.2.2.1 ∈ Θ.2.2.2.2.1 ∧ (parseMethodDescriptor M.2.2.1.desc).map (fun z => z.parameters.length) = some e.2.2.2.2.1
  | .invokespecial _ => False
  | _ => True
def zk_gm (Θ : zk_T) (M : zk_Me) : Prop := Cond.code M.2.2.1 M.2.2.2.1 M.2.2.2.2.1 M.2.2.2.2.2 ∈ Θ.2.2.2.2.1 ∧ Cond.initialized M.2.2.1.cls ∈ Θ.2.2.2.2.1 ∧ (M.2.2.1.cls ≠ "java/lang/invoke/MethodHandle" ∧ M.2.2.1.cls ≠ "java/lang/invoke/VarHandle") ∧ plainName M.2.2.1.cls = true ∧ M.2.2.2.2.1 ≤ 40
/-- what is asked of the tables -/
def zk_gt (Θ : zk_T) : Prop := za_wf Θ.1 Θ.2.1 ∧ za_cg Θ.2.2.2.2.1 Θ.2.2.1 Θ.2.2.2.1 Θ.1 ∧ (∀ M ∈ Θ.2.2.2.2.2.1, zk_gm Θ M) ∧ ∀ w ∈ Θ.2.2.2.2.1, goodWord w = true ∨ ∃ a i x h, w = Cond.methodLinkNest a i x h
/-- an instruction behind which nothing goes on -/
def zk_nf (i : Instr) : Bool := match i with
  | .goto _ => true
  | .ireturn => true
  | .lreturn => true
  | .areturn => true
  | .return_ => true
  | .new _ => true
  | .tableswitch _ _ _ _ => true
  | _ => false
/-- rows one behind the other -/
def zk_ch : List za_E → Prop
  | [] => True
  | [_] => True
  | e :: e' :: r => (zk_nf e.2.1 = true ∨ e.2.2.1 = e'.1) ∧ zk_ch (e' :: r)
theorem zk_nf_stp {Λ : List za_S} {X : za_X} {ret : Nat} {RR : za_RR} {XX : za_XX} {CC : za_CC} {HX : Nat → za_C → za_M → Nat × Nat → Prop} {K : za_K} {J : Nat → za_K} {e : za_E} {ls : za_C} {st : List za_V} {μ : za_M} {κ : Nat × Nat} (hn : zk_nf e.2.1 = true) (h : za_stp Λ X ret RR XX CC HX K J e ls st μ κ) : za_stp Λ X ret RR XX CC HX (fun _ _ _ _ => False) J e ls st μ κ := by
  obtain ⟨pc, ins, nx, x1, x2, v⟩ := e
  cases ins <;> first | exact h | cases hn
def zk_go (Λ : List za_S) (X : za_X) (ret : Nat) (RR : za_RR) (XX : za_XX) (CC : za_CC) (HX : Nat → Nat → za_C → za_M → Nat × Nat → Prop) (prog : List za_E) (cuts : List Nat) (ZZ : Nat → za_K) (n pc : Nat) : za_K := fun ls st μ κ => match za_at pc prog with
  | [] => False
  | e :: r => za_stp Λ X ret RR XX CC (HX e.1) (fun ls st μ κ => za_wp Λ X ret RR XX CC HX prog cuts ZZ n r ls st μ κ) (fun t ls st μ κ => za_wp Λ X ret RR XX CC HX prog cuts ZZ n (za_at t prog) ls st μ κ) e ls st μ κ
theorem zk_W.warm {Θ : zk_T} (hT : zk_gt Θ) {s U : State} (hW : s.WarmedH U.vm) (h : zk_W Θ s) : zk_W Θ U := by
  intro w hw a
  rcases hT.2.2.2 w hw with hg | ⟨a1, i, x, h1, rfl⟩
  · exact word_at hW (good_of_word hg) (h w hw a)
  · exact va_Nw.use rfl (va_Nw.warmM hW (h _ hw #[]))
theorem zk_I.warm {Θ : zk_T} {Γ : zk_G} (hT : zk_gt Θ) {s U : State} (hW : s.WarmedH U.vm) (h : zk_I Θ Γ s) : zk_I Θ Γ U := ⟨h.1.warm hT hW, va_K.moved hW.alike h.2.1, h.2.2.1, h.2.2.2⟩
theorem zk_blind {Θ : zk_T} {Γ : zk_G} (hT : zk_gt Θ) {sz : Nat} {as : List za_V} {μ : za_M} : FrameBlind (zk_Pc Θ Γ sz as μ) := by
  intro a U g mk h
  exact ⟨h.1, h.2.1, h.2.2.1, h.2.2.2.1, zk_I.warm (U := U.calling g mk a) hT (State.WarmedH.refl U) h.2.2.2.2⟩
theorem zk_at_spec {t : Nat} {prog : List za_E} {e : za_E} {r : List za_E} (h : za_at t prog = e :: r) : e.1 = t ∧ (∀ x ∈ e :: r, x ∈ prog) ∧ (zk_ch prog → zk_ch (e :: r)) := by
  induction prog with
  | nil => cases h
  | cons a b ih =>
    unfold za_at at h
    split at h
    · rename_i hb
      cases h
      exact ⟨Nat.eq_of_beq_eq_true hb, fun x hx => hx, fun hc => hc⟩
    · obtain ⟨h1, h2, h3⟩ := ih h
      refine ⟨h1, fun x hx => List.mem_cons_of_mem _ (h2 x hx), fun hc => h3 ?_⟩
      cases b with
      | nil => trivial
      | cons b1 b2 => exact hc.2
theorem za_oks_app {cn : Nat → Nat} {a b : List za_V} : za_oks cn (a ++ b) ↔ za_oks cn a ∧ za_oks cn b := by
  induction a with
  | nil => exact ⟨fun h => ⟨trivial, h⟩, fun h => h.2⟩
  | cons v a ih =>
    show (za_ok cn v ∧ za_oks cn (a ++ b)) ↔ ((za_ok cn v ∧ za_oks cn a) ∧ za_oks cn b)
    rw [ih]
    exact ⟨fun h => ⟨⟨h.1, h.2.1⟩, h.2.2⟩, fun h => ⟨h.1.1, h.1.2, h.2⟩⟩
theorem za_oks_rev {cn : Nat → Nat} {a : List za_V} : za_oks cn a.reverse ↔ za_oks cn a := by
  induction a with
  | nil => exact Iff.rfl
  | cons v a ih =>
    rw [List.reverse_cons, za_oks_app, ih]
    exact ⟨fun h => ⟨h.2.1, h.1⟩, fun h => ⟨h.2, h.1, trivial⟩⟩
theorem za_oks_split {cn : Nat → Nat} {a t : List za_V} (h : za_oks cn (a.reverse ++ t)) : za_oks cn a ∧ za_oks cn t := by
  rw [za_oks_app, za_oks_rev] at h
  exact h
end
section
/-! a method's body by runs -/
def zk_rt (r : Option FieldType) : Nat := match r with
  | none => 0
  | some .int => 1
  | some .boolean => 2
  | some .long => 3
  | some (.object _) => 4
  | some (.array _) => 4
  | _ => 9
theorem zk_A.up {Θ : zk_T} {Γ : zk_G} {a b : Nat} (h : a ≤ b) {q : Nat} (hq : zk_A Θ Γ b q) : zk_A Θ Γ a q := by
  rcases hq with hq | hq
  · exact Or.inl hq
  · exact Or.inr (Nat.le_trans h hq)
section ZKA
variable {p : Program} {l : Launch} {e : Env} {R : Room} {s : State} {m : MethodId} {args : Array Value} {below : List Frame} {meth : Method} {c : Code} {Q : State → Prop} {Θ : zk_T} {Γ : zk_G} {nL : Nat}
/-- where the method stands, in the words of the tables -/
abbrev zk_Z (p : Program) (e : Env) (R : Room) (s : State) (m : MethodId) (args : Array Value) (below : List Frame) (meth : Method) (c : Code) (Q : State → Prop) (Θ : zk_T) (Γ : zk_G) (nL : Nat) : Nat → za_K := za_Z p Γ.1 e R s m args below meth c Θ.1 Θ.2.1 Γ.2.1 Γ.2.2.1 Γ.2.2.2.1 Θ.2.2.1 (zk_A Θ Γ s.heap.size) nL Q
/-- behind a call -/
theorem zk_after {sz' : Nat} {post : Option za_V → za_M → Prop} {px : Nat → za_M → Prop} {a : Array Value} {o : Outcome} {st₀ t : State} {L locs : List Loc} {H : Heap} {κ : Nat × Nat} {pc nx : Nat} {ls : za_C} {rest : List za_V} {lc : Array Slot}
    (hsz : sz' = H.size) (h0 : st₀.heap = H) (hvm : st₀.vm = s.vm ∨ s.vm.Alike st₀.vm) (hQ : zk_Qc Θ Γ sz' post px a st₀ o t) (hL : ∀ q ∈ L, zk_A Θ Γ sz' q.base) (hS : va_S (zk_A Θ Γ s.heap.size) s.heap H locs) (hlo : za_lo Γ.2.1 nL ls lc) (hokc : za_okc Θ.2.1 ls) (hok : za_oks Θ.2.1 rest)
    (hk : ∀ r μ1, post r μ1 → za_back r rest (fun t1 => zk_Z p e R s m args below meth c Q Θ Γ nL nx ls t1 μ1 κ))
    (hx : ∀ E μ1 q ce H1 locs1, px E μ1 → zk_H Θ Γ μ1 H1 → va_S (zk_A Θ Γ s.heap.size) s.heap H1 locs1 → H1[q]? = some ce → ce.vm = .none → s.vm.findClass (Θ.2.2.2.2.2.2 E) = some ce.cls → zx_WX p Γ.1 e R s m args below meth c H1 locs1 κ.1 κ.2 Q (F0 m pc lc (rest.map (za_cv Γ.2.1))) q) :
    (∀ v, o = .returned v → W p Γ.1 e R s m args below meth c t.heap (locs ++ L) κ.1 κ.2 Q (F0 m nx lc (v.toList ++ rest.map (za_cv Γ.2.1)))) ∧ (∀ q, o = .threw q → zx_WX p Γ.1 e R s m args below meth c t.heap (locs ++ L) κ.1 κ.2 Q (F0 m pc lc (rest.map (za_cv Γ.2.1))) q) := by
  subst hsz
  obtain ⟨hend, hF1, hF2⟩ := hQ
  rw [h0] at hF1 hF2
  have hS1 : va_S (zk_A Θ Γ s.heap.size) s.heap t.heap (locs ++ L) := by
    refine ⟨Nat.le_trans hS.1 hF1, fun q h1 h2 => ?_, fun q hq => ?_⟩
    · rw [hF2 q (Nat.lt_of_lt_of_le h1 hS.1) (fun z => h2 (zk_A.up hS.1 z))]
      exact hS.2.1 q h1 h2
    · rcases List.mem_append.mp hq with h | h
      · exact hS.2.2 q h
      · exact zk_A.up hS.1 (hL q h)
  refine ⟨fun v hv => ?_, fun q hq => ?_⟩
  · rcases hend with ⟨r, μ1, ho, hokr, hpost, hP⟩ | ⟨q, E, ce, μ1, ho, -⟩
    · rw [hv] at ho
      cases ho
      have h9 := hk r μ1 hpost
      cases r with
      | none => exact h9 hok hokc lc t.heap (locs ++ L) hlo hP hS1
      | some v => exact h9 ⟨hokr, hok⟩ hokc lc t.heap (locs ++ L) hlo hP hS1
    · rw [hv] at ho; cases ho
  · rcases hend with ⟨r, μ1, ho, -⟩ | ⟨q', E, ce, μ1, ho, hpx, hP, hce, hcv, hcl⟩
    · rw [hq] at ho; cases ho
    · rw [hq] at ho
      cases ho
      refine hx E μ1 q ce t.heap (locs ++ L) hpx hP hS1 hce hcv ?_
      rcases hvm with h | h
      · rw [← h]; exact hcl
      · rw [← h.findClass]; exact hcl
end ZKA
section ZKB
variable {p : Program} {e : Env} {s : State} {m : MethodId} {args : Array Value} {below : List Frame} {meth : Method} {c : Code} {Q : State → Prop} {Θ : zk_T} {Γ : zk_G} {nL d mc ms : Nat} {cc : ByteArray} {own : String}
/-- a call, over contracts -/
theorem zk_call (hT : zk_gt Θ) (C0 : za_Cx p s m args c Θ.1 Θ.2.1 Γ.2.1 Γ.2.2.1 Γ.2.2.2.1 Θ.2.2.1 (zk_A Θ Γ s.heap.size) cc Γ.2.2.2.2 zk_X0 own Θ.2.2.2.2.1 Θ.2.2.2.1) (hI : zk_I Θ Γ s) (hml : c.maxLocals = nL)
    {E : za_E} {ls : za_C} {st as t : List za_V} {μ : za_M} {κ : Nat × Nat} {k : Nat} {KK : za_RR} {XX : za_XX} (hG : zk_gc Θ own E) (hdg : decode cc E.1 = .ok (E.2.1, 3)) (hnx : E.2.2.1 = E.1 + 3) (hst : st = as.reverse ++ t) (hlen : as.length = E.2.2.2.2.1) (hwt : za_wt t ≤ 8) (hin : E.2.1 = .invokevirtual k ∨ (E.2.1 = .invokestatic k ∧ ¬ E.2.2.2.1 = 999))
    (hKK : ∀ r μ1 κ1, KK r μ1 κ1 → za_back r t (fun t1 => zk_Z p e (zk_rm d mc ms) s m args below meth c Q Θ Γ nL E.2.2.1 ls t1 μ1 κ1))
    (hXX : ∀ x μ1 κ1 q ce lc H1 locs1, XX x μ1 κ1 → za_lo Γ.2.1 nL ls lc → zk_H Θ Γ μ1 H1 → va_S (zk_A Θ Γ s.heap.size) s.heap H1 locs1 → H1[q]? = some ce → ce.vm = .none → s.vm.findClass (Θ.2.2.2.2.2.2 x) = some ce.cls → zx_WX p Γ.1 e (zk_rm d mc ms) s m args below meth c H1 locs1 κ1.1 κ1.2 Q (F0 m E.1 lc (t.map (za_cv Γ.2.1))) q)
    (h : zk_CC Θ Γ d mc ms E.2.2.2.1 as μ κ KK XX) : zk_Z p e (zk_rm d mc ms) s m args below meth c Q Θ Γ nL E.1 ls st μ κ := by
  obtain ⟨hx, hb, hts, hown, hK, hD, -⟩ := C0
  intro h1 h2 lc H locs h3 h4 h5
  unfold zk_CC at h
  split at h
  · rename_i M hM
    split at h
    · rename_i hrc
      obtain ⟨d', mc', ms', post, px, hd, hc1, hc2, hCt, hp, hpx⟩ := h
      have hgm := hT.2.2.1 M (by rw [za_n_eq] at hM; exact List.mem_of_getElem? hM)
      have hoks : za_oks Θ.2.1 as ∧ za_oks Θ.2.1 t := by
        rw [hst] at h1
        exact za_oks_split h1
      have hPc : ∀ U : State, U.heap = H → s.WarmedH U.vm → zk_Pc Θ Γ H.size as μ (as.map (za_cv Γ.2.1)).toArray U := fun U hU hW => ⟨rfl, by rw [hU], by rw [hU]; exact h4, hoks.1, hI.warm hT hW⟩
      have hws : ∀ w ∈ [Cond.code M.2.2.1 M.2.2.2.1 M.2.2.2.2.1 M.2.2.2.2.2], ∀ (a' : Array Value) (U : State), s.WarmedH U.vm → w.before a' U = true := fun w hw a' U hW => (hI.1.warm hT hW) w (by rw [List.mem_singleton.mp hw]; exact hgm.1) a'
      have hroom : (zk_rm d' mc' ms').frames + 1 ≤ (zk_rm d mc ms).frames ∧ 8 + (M.2.2.2.2.1 + 11) + (zk_rm d' mc' ms').locals ≤ (zk_rm d mc ms).locals := by
        refine ⟨hd, ?_⟩
        show 8 + (M.2.2.2.2.1 + 11) + 64 * d' ≤ 64 * d
        have := hgm.2.2.2.2
        omega
      have hstk : (st.map (za_cv Γ.2.1)) = (as.map (za_cv Γ.2.1)).reverse ++ t.map (za_cv Γ.2.1) := by rw [hst, List.map_append, List.map_reverse]
      have hweight : 2 * (F0 m E.1 lc (st.map (za_cv Γ.2.1))).monitorRoom + ((t.map (za_cv Γ.2.1)).map fun v => v.category).sum ≤ 8 := by
        rw [za_wt_cat]
        exact Nat.le_trans (Nat.le_of_eq (by show 2 * 0 + _ = _; omega)) hwt
      have hfin := fun (o : Outcome) (st₀ t' : State) (L : List Loc) (g0 : st₀.heap = H) (g1 : s.vm.Alike st₀.vm) (g2 : zk_Qc Θ Γ H.size post px (as.map (za_cv Γ.2.1)).toArray st₀ o t') (g4 : ∀ q ∈ L, zk_A Θ Γ H.size q.base) =>
        zk_after (p := p) (e := e) (R := zk_rm d mc ms) (s := s) (m := m) (args := args) (below := below) (meth := meth) (c := c) (Q := Q) (nL := nL) (κ := (κ.1 + mc', κ.2 + ms')) (pc := E.1) (nx := E.2.2.1) (rest := t) rfl g0 (Or.inr g1) g2 g4 h5 h3 h2 hoks.2 (fun r μ1 hr => hKK r μ1 _ (hp r μ1 hr))
          (fun x μ1 q ce H1 locs1 g5 g6 g7 g8 g9 g10 => hXX x μ1 _ q ce lc H1 locs1 (hpx x μ1 g5) h3 g6 g7 g8 g9 g10)
      have hini := hts _ hgm.2.1
      have hcode := hts _ hgm.1
      unfold zk_gc at hG
      rcases hin with hi | ⟨hi, h999⟩
      · rw [hi] at hG hdg
        obtain ⟨M', q, g1, g2, g3, g4, g5, g6, g7, g8⟩ := hG
        cases hM.symm.trans g1
        cases as with
        | nil =>
          unfold zk_rc at hrc
          rw [g2] at hrc
          cases hrc
        | cons v as' =>
          obtain ⟨b, j, hv, fs, hΛ⟩ : ∃ b j, v = .inr (.inr (.inl (b, j))) ∧ ∃ fs, za_n Θ.1 b = some (4, M.2.1, fs) := by
            unfold zk_rc at hrc
            rw [g2] at hrc
            simp only at hrc
            split at hrc
            · rename_i b j tl heq
              cases heq
              split at hrc
              · rename_i ci fs hΛ
                exact ⟨b, j, rfl, fs, by rw [hΛ, Nat.eq_of_beq_eq_true hrc]⟩
              · cases hrc
            · cases hrc
          subst hv
          have hlive : j < Θ.2.1 b := hoks.1.1
          obtain ⟨q0, -, hq0⟩ := za_ws_at Γ.2.1 Γ.2.2.1 μ hΛ hlive
          have hen : za_en Θ.1 Γ.2.1 Γ.2.2.1 μ b j = .inr (M.2.1, za_fs Γ.2.1 μ b j 0 fs) := by simp only [za_en, hΛ]
          rw [hen] at hq0
          have hrecv := va_recv hK h4 g3 hq0
          rw [g4] at hrecv
          refine zx_runV (As := as'.map (za_cv Γ.2.1)) (rest := t.map (za_cv Γ.2.1)) (b := Γ.2.1 b j) (n := as'.length) (C := M.2.2.1.cls) (own := own) (bytes := M.2.2.2.1) (maxL := M.2.2.2.2.1) (ret := M.2.2.2.2.2) hx hb hml hown (hCt H.size)
            ⟨⟨rfl, rfl, hroom.1, hroom.2, hws, List.mem_singleton.mpr rfl, hcode, hini, hgm.2.2.1, fun sig hsig => ?_, hts _ g5⟩, hts _ g6, hts _ g7⟩ ⟨zk_blind hT, hrecv, hPc⟩ rfl (by simp) h3.2.1 (by rw [hstk]; simp; rfl) hweight hdg ⟨hc1, hc2⟩ (fun o st₀ t' L g0 g1 g2 _ g4 => by rw [← hnx]; exact hfin o st₀ t' L g0 g1 g2 g4)
          rw [hsig] at g8
          simp only [Option.map_some, Option.some.injEq] at g8
          simp only [List.length_cons] at hlen
          omega
      · rw [hi] at hG hdg
        rcases hG with ⟨hbad, -⟩ | ⟨M', -, g1, g2, g3, g4, g5⟩
        · exact absurd hbad h999
        · cases hM.symm.trans g1
          have hn : ∀ sig, parseMethodDescriptor M.2.2.1.desc = some sig → as.length = sig.parameters.length := by
            intro sig hsig
            rw [hsig] at g5
            simp only [Option.map_some, Option.some.injEq] at g5
            omega
          rcases g3 with g3 | ⟨host, g3⟩
          · exact zx_runS (As := as.map (za_cv Γ.2.1)) (rest := t.map (za_cv Γ.2.1)) (n := as.length) (own := own) (bytes := M.2.2.2.1) (maxL := M.2.2.2.2.1) (ret := M.2.2.2.2.2) hx hb hml hown (hCt H.size)
              ⟨⟨rfl, rfl, hroom.1, hroom.2, hws, List.mem_singleton.mpr rfl, hcode, hini, hgm.2.2.1, hn, hts _ g3⟩, hts _ g4⟩ ⟨zk_blind hT, hPc⟩ rfl (by simp) h3.2.1 hstk hweight hdg ⟨hc1, hc2⟩ (fun o st₀ t' L g0 g1 g2 _ g4 => by rw [← hnx]; exact hfin o st₀ t' L g0 g1 g2 g4)
          · exact zx_runSN (host := host) (As := as.map (za_cv Γ.2.1)) (rest := t.map (za_cv Γ.2.1)) (n := as.length) (own := own) (bytes := M.2.2.2.1) (maxL := M.2.2.2.2.1) (ret := M.2.2.2.2.2) hx hb hml hown (hCt H.size)
              ⟨⟨⟨rfl, rfl, hroom.1, hroom.2, hws, List.mem_singleton.mpr rfl⟩, hcode, hini, hgm.2.2.1, hn, hts _ g3⟩, hts _ g4⟩ ⟨zk_blind hT, hPc⟩ rfl (by simp) h3.2.1 hstk hweight hdg ⟨hc1, hc2⟩ (fun o st₀ t' L g0 g1 g2 _ g4 => by rw [← hnx]; exact hfin o st₀ t' L g0 g1 g2 g4)
    · exact h.elim
  · exact h.elim
end ZKB
end
section
/-! a contract out of runs: methods that throw nothing and whose callees throw nothing -/
section ZKC
variable {p : Program} {e : Env} {s : State} {m : MethodId} {args : Array Value} {below : List Frame} {meth : Method} {c : Code} {Θ : zk_T} {Γ : zk_G} {d mc ms : Nat}
/-- the walk until the cuts is sound, if its steps are -/
theorem zk_wp_sound {Λ : List za_S} {X : za_X} {ret : Nat} {RR : za_RR} {XX : za_XX} {CC : za_CC} {HX : Nat → Nat → za_C → za_M → Nat × Nat → Prop} {prog : List za_E} {cuts : List Nat} {ZZ : Nat → za_K} (hch : zk_ch prog)
    (step : ∀ E ∈ prog, ∀ (K : za_K) (J : Nat → za_K) ls st μ κ, (∀ ls st μ κ, K ls st μ κ → ZZ E.2.2.1 ls st μ κ) → (∀ t ls st μ κ, J t ls st μ κ → ZZ t ls st μ κ) → za_stp Λ X ret RR XX CC (HX E.1) K J E ls st μ κ → ZZ E.1 ls st μ κ) :
    ∀ (n : Nat) (E : za_E) (r : List za_E), (∀ x ∈ E :: r, x ∈ prog) → zk_ch (E :: r) → ∀ ls st μ κ, za_wp Λ X ret RR XX CC HX prog cuts ZZ n (E :: r) ls st μ κ → ZZ E.1 ls st μ κ := by
  intro n
  induction n with
  | zero => intro E r _ _ ls st μ κ h; exact h.elim
  | succ n ih =>
    intro E r hr hc ls st μ κ h
    unfold za_wp at h
    split at h
    · exact h
    · have hJ : ∀ t ls st μ κ, za_wp Λ X ret RR XX CC HX prog cuts ZZ n (za_at t prog) ls st μ κ → ZZ t ls st μ κ := by
        intro t ls st μ κ h
        cases ha : za_at t prog with
        | nil => rw [ha] at h; cases n <;> exact h.elim
        | cons E' r' =>
          rw [ha] at h
          obtain ⟨h1, h2, h3⟩ := zk_at_spec ha
          have := ih E' r' h2 (h3 hch) ls st μ κ h
          rw [h1] at this
          exact this
      cases hnf : zk_nf E.2.1 with
      | true => exact step E (hr E List.mem_cons_self) _ _ ls st μ κ (fun _ _ _ _ h => h.elim) hJ (zk_nf_stp hnf h)
      | false =>
        refine step E (hr E List.mem_cons_self) _ _ ls st μ κ ?_ hJ h
        intro ls st μ κ h
        cases r with
        | nil => cases n <;> exact h.elim
        | cons E' r' =>
          rcases hc.1 with h9 | h9
          · rw [h9] at hnf; cases hnf
          · rw [h9]
            exact ih E' r' (fun x hx => hr x (List.mem_cons_of_mem _ hx)) hc.2 ls st μ κ h
theorem zk_go_sound {Λ : List za_S} {X : za_X} {ret : Nat} {RR : za_RR} {XX : za_XX} {CC : za_CC} {HX : Nat → Nat → za_C → za_M → Nat × Nat → Prop} {prog : List za_E} {ZZ : Nat → za_K} (hch : zk_ch prog)
    (step : ∀ E ∈ prog, ∀ (K : za_K) (J : Nat → za_K) ls st μ κ, (∀ ls st μ κ, K ls st μ κ → ZZ E.2.2.1 ls st μ κ) → (∀ t ls st μ κ, J t ls st μ κ → ZZ t ls st μ κ) → za_stp Λ X ret RR XX CC (HX E.1) K J E ls st μ κ → ZZ E.1 ls st μ κ)
    (cuts : List Nat) (n pc : Nat) (ls : za_C) (st : List za_V) (μ : za_M) (κ : Nat × Nat) (h : zk_go Λ X ret RR XX CC HX prog cuts ZZ n pc ls st μ κ) : ZZ pc ls st μ κ := by
  unfold zk_go at h
  cases ha : za_at pc prog with
  | nil => rw [ha] at h; exact h.elim
  | cons E r =>
    rw [ha] at h
    obtain ⟨h1, h2, h3⟩ := zk_at_spec ha
    rw [← h1]
    have hJ : ∀ t ls st μ κ, za_wp Λ X ret RR XX CC HX prog cuts ZZ n (za_at t prog) ls st μ κ → ZZ t ls st μ κ := by
      intro t ls st μ κ h
      cases hb : za_at t prog with
      | nil => rw [hb] at h; cases n <;> exact h.elim
      | cons E' r' =>
        rw [hb] at h
        obtain ⟨g1, g2, g3⟩ := zk_at_spec hb
        have := zk_wp_sound hch step n E' r' g2 (g3 hch) ls st μ κ h
        rw [g1] at this
        exact this
    cases hnf : zk_nf E.2.1 with
    | true => exact step E (h2 E List.mem_cons_self) _ _ ls st μ κ (fun _ _ _ _ h => h.elim) hJ (zk_nf_stp hnf h)
    | false =>
      refine step E (h2 E List.mem_cons_self) _ _ ls st μ κ ?_ hJ h
      intro ls st μ κ h
      cases r with
      | nil => cases n <;> exact h.elim
      | cons E' r' =>
        rcases (h3 hch).1 with h9 | h9
        · rw [h9] at hnf; cases hnf
        · rw [h9]
          exact zk_wp_sound hch step n E' r' (fun x hx => h2 x (List.mem_cons_of_mem _ hx)) (h3 hch).2 ls st μ κ h
/-- a start's locals: the arguments in their places, then nothing -/
def zk_l0 : List za_V → List (Option za_V)
  | [] => []
  | .inr (.inl x) :: t => some (.inr (.inl x)) :: none :: zk_l0 t
  | v :: t => some v :: zk_l0 t
def zk_ls (as : List za_V) (nL : Nat) : za_C := zk_l0 as ++ List.replicate (nL - (zk_l0 as).length) none
theorem zk_l0_len (ad : Nat → Nat → Nat) : ∀ as : List za_V, (zk_l0 as).length = (lg_sl (as.map (za_cv ad))).length
  | [] => rfl
  | .inl x :: t => by
    have := zk_l0_len ad t
    simp only [zk_l0, List.map_cons, za_cv, lg_sl, List.length_cons, this]
    rfl
  | .inr (.inl x) :: t => by
    have := zk_l0_len ad t
    simp only [zk_l0, List.map_cons, za_cv, lg_sl, List.length_cons, this]
    rfl
  | .inr (.inr (.inl q)) :: t => by
    have := zk_l0_len ad t
    simp only [zk_l0, List.map_cons, za_cv, lg_sl, List.length_cons, this]
    rfl
  | .inr (.inr (.inr a)) :: t => by
    have := zk_l0_len ad t
    simp only [zk_l0, List.map_cons, za_cv, lg_sl, List.length_cons, this]
    rfl
end ZKC
end
section
/-! the start's locals; the contract of a method out of runs -/
theorem zk_l0_mem (ad : Nat → Nat → Nat) : ∀ (as : List za_V) (i0 i : Nat) (v : za_V), (zk_l0 as)[i]? = some (some v) → (i0 + i, za_cv ad v) ∈ lv_args i0 (as.map (za_cv ad)) ∧ v ∈ as
  | [], i0, i, v, h => by simp [zk_l0] at h
  | .inl x :: t, i0, i, v, h => by
    cases i with
    | zero =>
      simp only [zk_l0, List.getElem?_cons_zero, Option.some.injEq] at h
      subst h
      exact ⟨List.mem_cons_self, List.mem_cons_self⟩
    | succ i =>
      simp only [zk_l0, List.getElem?_cons_succ] at h
      obtain ⟨h1, h2⟩ := zk_l0_mem ad t (i0 + 1) i v h
      refine ⟨List.mem_cons_of_mem _ ?_, List.mem_cons_of_mem _ h2⟩
      rw [show i0 + (i + 1) = i0 + 1 + i by omega]
      exact h1
  | .inr (.inl x) :: t, i0, i, v, h => by
    cases i with
    | zero =>
      simp only [zk_l0, List.getElem?_cons_zero, Option.some.injEq] at h
      subst h
      exact ⟨List.mem_cons_self, List.mem_cons_self⟩
    | succ i =>
      cases i with
      | zero => simp [zk_l0] at h
      | succ i =>
        simp only [zk_l0, List.getElem?_cons_succ] at h
        obtain ⟨h1, h2⟩ := zk_l0_mem ad t (i0 + 2) i v h
        refine ⟨List.mem_cons_of_mem _ ?_, List.mem_cons_of_mem _ h2⟩
        rw [show i0 + (i + 1 + 1) = i0 + 2 + i by omega]
        exact h1
  | .inr (.inr (.inl q)) :: t, i0, i, v, h => by
    cases i with
    | zero =>
      simp only [zk_l0, List.getElem?_cons_zero, Option.some.injEq] at h
      subst h
      exact ⟨List.mem_cons_self, List.mem_cons_self⟩
    | succ i =>
      simp only [zk_l0, List.getElem?_cons_succ] at h
      obtain ⟨h1, h2⟩ := zk_l0_mem ad t (i0 + 1) i v h
      refine ⟨List.mem_cons_of_mem _ ?_, List.mem_cons_of_mem _ h2⟩
      rw [show i0 + (i + 1) = i0 + 1 + i by omega]
      exact h1
  | .inr (.inr (.inr a)) :: t, i0, i, v, h => by
    cases i with
    | zero =>
      simp only [zk_l0, List.getElem?_cons_zero, Option.some.injEq] at h
      subst h
      exact ⟨List.mem_cons_self, List.mem_cons_self⟩
    | succ i =>
      simp only [zk_l0, List.getElem?_cons_succ] at h
      obtain ⟨h1, h2⟩ := zk_l0_mem ad t (i0 + 1) i v h
      refine ⟨List.mem_cons_of_mem _ ?_, List.mem_cons_of_mem _ h2⟩
      rw [show i0 + (i + 1) = i0 + 1 + i by omega]
      exact h1
theorem zk_ls_at {as : List za_V} {nL i : Nat} {v : za_V} (h : za_n (zk_ls as nL) i = some (some v)) : (zk_l0 as)[i]? = some (some v) := by
  rw [za_n_eq, zk_ls] at h
  by_cases hi : i < (zk_l0 as).length
  · rw [List.getElem?_append_left hi] at h
    exact h
  · rw [List.getElem?_append_right (by omega), List.getElem?_replicate] at h
    split at h <;> cases h
theorem zk_oks_mem {cn : Nat → Nat} {as : List za_V} (h : za_oks cn as) {v : za_V} (hv : v ∈ as) : za_ok cn v := by
  induction as with
  | nil => cases hv
  | cons a t ih =>
    rcases List.mem_cons.mp hv with rfl | hv
    · exact h.1
    · exact ih h.2 hv
theorem zk_entry {ad : Nat → Nat → Nat} {as : List za_V} {nL : Nat} (hn : (zk_l0 as).length ≤ nL) : za_lo ad nL (zk_ls as nL) ((lg_sl (as.map (za_cv ad)) ++ List.replicate (nL - (lg_sl (as.map (za_cv ad))).length) Slot.unset).toArray) := by
  have h := lv_entry (as.map (za_cv ad)) (n := nL) (by rw [← zk_l0_len]; exact hn)
  refine ⟨?_, h.1, h.2.1, fun i v hv => ?_⟩
  · simp only [zk_ls, List.length_append, List.length_replicate]
    omega
  · have h1 := (zk_l0_mem ad as 0 i v (zk_ls_at hv)).1
    rw [Nat.zero_add] at h1
    exact h.2.2 _ h1
theorem zk_D {Θ : zk_T} {Γ : zk_G} {sz : Nat} (h : ∀ ν : za_M, va_D (fun _ => True) (za_ws Θ.1 Θ.2.1 Γ.2.1 Γ.2.2.1 ν)) (ν : za_M) : va_D (zk_A Θ Γ sz) (za_ws Θ.1 Θ.2.1 Γ.2.1 Γ.2.2.1 ν) := by
  refine ⟨(h ν).1, fun k q hk => ?_⟩
  obtain ⟨x, hx, rfl⟩ := List.mem_map.mp (List.mem_of_getElem? hk)
  have := za_ps_mem.mp hx
  exact Or.inl ⟨x.1, x.2, this.1, this.2, rfl⟩
set_option maxHeartbeats 4000000 in
theorem zk_meth0 {Θ : zk_T} {Γ : zk_G} {M : zk_Me} {d mc ms : Nat} {as : List za_V} {μ : za_M} {post : Option za_V → za_M → Prop} (hT : zk_gt Θ) (hMm : M ∈ Θ.2.2.2.2.2.1) (prog : List za_E) (hprog : ∀ E ∈ prog, za_gd M.2.2.2.1 M.2.2.1.cls Θ.2.2.2.2.1 Θ.2.2.1 E ∧ zk_gc Θ M.2.2.1.cls E) (hch : zk_ch prog) (hargs : (zk_l0 as).length ≤ M.2.2.2.2.1) (hd : 1 ≤ d)
    (body : ∀ ZZ : Nat → za_K, (∀ (cuts : List Nat) (n pc : Nat) ls st μ κ, zk_go Θ.1 zk_X0 (zk_rt M.2.2.2.2.2) (zk_RR mc ms post) (fun _ _ _ => False) (zk_CC Θ Γ d mc ms) (fun _ _ _ _ _ => False) prog cuts ZZ n pc ls st μ κ → ZZ pc ls st μ κ) → ZZ 0 (zk_ls as M.2.2.2.2.1) [] μ (0, 0)) :
    zk_Ct Θ Γ M d mc ms as μ post (fun _ _ => False) := by
  have hgm := hT.2.2.1 M hMm
  intro sz
  refine zx_ofW (cc := M.2.2.2.1) (maxL := M.2.2.2.2.1) (ret := M.2.2.2.2.2) (ws' := []) hgm.2.2.2.1 rfl ?_
  intro p e s m args below meth c s₁ B hml hnoex hP
  obtain ⟨rfl, hsz, hH, hoks, hI⟩ := hP
  subst hsz
  have hx := B.exec
  have hb := B.bytes
  have hr := B.returns
  have hlocks := B.notSynchronized
  have hown : s.vm.findClass M.2.2.1.cls = some m.cls := findClass_of_methodNamed B.named
  have C0 : za_Cx p s m (as.map (za_cv Γ.2.1)).toArray c Θ.1 Θ.2.1 Γ.2.1 Γ.2.2.1 Γ.2.2.2.1 Θ.2.2.1 (zk_A Θ Γ s.heap.size) M.2.2.2.1 Γ.2.2.2.2 zk_X0 M.2.2.1.cls Θ.2.2.2.2.1 Θ.2.2.2.1 :=
    ⟨hx, hb, fun w hw => hI.1 w hw _, hown, hI.2.1, zk_D hI.2.2.1, hT.1, hI.2.2.2, hT.2.1, fun h => by cases h⟩
  rw [lg_entry_eq]
  have key := body (zk_Z p e (zk_rm d mc ms) s m (as.map (za_cv Γ.2.1)).toArray below meth c (zx_MQ below (zk_Qc Θ Γ s.heap.size post (fun _ _ => False)) (as.map (za_cv Γ.2.1)).toArray s mc ms (zk_A Θ Γ s.heap.size)) Θ Γ M.2.2.2.2.1) ?_
  · exact key trivial (fun i v hv => zk_oks_mem hoks (zk_l0_mem Γ.2.1 as 0 i v (zk_ls_at hv)).2) _ _ [] (zk_entry hargs) hH va_S.rf
  · refine zk_go_sound hch ?_
    intro E hE K J ls st ν κ hK hJ h
    obtain ⟨hgd, hgc⟩ := hprog E hE
    refine ze_step C0 hgd hK hJ ?_ ?_ ?_ ?_ ?_ ?_ ?_ h
    · rintro x ν κ hret ⟨h1, h2, hp⟩ hdg g1 g2 lc H locs g3 g4 g5
      refine zx_ret (W.widen h1 h2 ?_)
      rcases hret with h0 | ⟨h0, h01⟩
      · have h9 : M.2.2.2.2.2 = some .int := by
          revert h0
          unfold zk_rt
          split <;> simp_all
        exact W.iret (v := x) hx hb (hr.trans h9) (fun t ht hW => ⟨Or.inl ⟨some (za_i x), ν, rfl, trivial, hp, by rw [ht]; exact g4⟩, g5.F ht⟩) g5.2.2 hdg
      · have h9 : M.2.2.2.2.2 = some .boolean := by
          revert h0
          unfold zk_rt
          split <;> simp_all
        exact W.zret (v := x) (ty := .boolean) hx hb (hr.trans h9) (za_narF h01).1 (fun t ht hW => ⟨Or.inl ⟨some (za_i x), ν, rfl, trivial, hp, by rw [ht]; exact g4⟩, g5.F ht⟩) g5.2.2 hdg
    · rintro x ν κ h0 ⟨h1, h2, hp⟩ hdg g1 g2 lc H locs g3 g4 g5
      refine zx_ret (W.widen h1 h2 ?_)
      have h9 : M.2.2.2.2.2 = some .long := by
        revert h0
        unfold zk_rt
        split <;> simp_all
      exact W.lret (v := x) hx hb (hr.trans h9) (fun t ht hW => ⟨Or.inl ⟨some (za_l x), ν, rfl, trivial, hp, by rw [ht]; exact g4⟩, g5.F ht⟩) g5.2.2 hdg
    · rintro r ν κ h0 ⟨h1, h2, hp⟩ hdg g1 g2 lc H locs g3 g4 g5
      refine zx_ret (W.widen h1 h2 ?_)
      obtain ⟨a, ha⟩ := za_cvA Γ.2.1 r
      have h9 : ∃ rt, M.2.2.2.2.2 = some rt ∧ ((∃ n, rt = .object n) ∨ ∃ t, rt = .array t) := by
        revert h0
        unfold zk_rt
        split <;> simp_all
      obtain ⟨rt, h9, h10⟩ := h9
      exact W.aret (v := za_cv Γ.2.1 (.inr (.inr r))) (rt := rt) hx hb (hr.trans h9) h10 (Or.inr ⟨a, ha⟩) (fun t ht hW => ⟨Or.inl ⟨some (.inr (.inr r)), ν, rfl, g1.1, hp, by rw [ht]; exact g4⟩, g5.F ht⟩) g5.2.2 hdg
    · rintro ν κ h0 ⟨h1, h2, hp⟩ hdg g1 g2 lc H locs g3 g4 g5
      refine zx_ret (W.widen h1 h2 ?_)
      have h9 : M.2.2.2.2.2 = none := by
        revert h0
        unfold zk_rt
        split <;> simp_all
      exact W.vret hx hb (hr.trans h9) (fun t ht hW => ⟨Or.inl ⟨none, ν, rfl, trivial, hp, by rw [ht]; exact g4⟩, g5.F ht⟩) g5.2.2 hdg
    · intro k as' t hst hlen hwt hin h999 hCC
      have hdg := hgd.1
      have hnx := hgd.2.1
      have h3 : za_ln E.2.1 E.2.2.2.2.1 = 3 := by rcases hin with h | h | h <;> rw [h] <;> rfl
      rw [h3] at hdg hnx
      have hsp : ¬ E.2.1 = .invokespecial k := by
        intro hq
        unfold zk_gc at hgc
        rw [hq] at hgc
        exact hgc
      refine zk_call (k := k) hT C0 hI hml hgc hdg hnx hst hlen hwt ?_ (fun r μ1 κ1 hr => ?_) (fun x μ1 κ1 q ce lc H1 locs1 hf => hf.elim) hCC
      · rcases hin with h | h | h
        · exact Or.inl h
        · exact absurd h hsp
        · exact Or.inr ⟨h, h999 h⟩
      · cases r with
        | none => exact hK _ _ _ _ hr
        | some v => exact hK _ _ _ _ hr
    · intro k hi h999 hcp
      unfold zk_gc at hgc
      rw [hi] at hgc
      have hdg := hgd.1
      have hnx := hgd.2.1
      rw [hi] at hdg hnx
      rcases hgc with ⟨-, g1, g2, g3, g4⟩ | ⟨M', g0, -⟩
      · rw [hnx] at hK
        refine zf_cp hx hb hml hI.2.1 (zk_D hI.2.2.1) hI.2.2.2 hown (hI.1 _ g1 _) (hI.1 _ g2 _) (hI.1 _ g3 _) (hI.1 _ g4 _) hd ?_ hdg (za_cp_mono (fun v t h => hK _ _ _ _ h) hcp)
        show 8 + (nativeFrameWords "java/lang/System" "arraycopy" 5 + 11) ≤ 64 * d
        have : nativeFrameWords "java/lang/System" "arraycopy" 5 ≤ 45 := by decide
        omega
      · exact absurd h999 g0
    · intro k hi hf
      exact hf.elim
end
section
/-! the tables, by program: what a computation decides gives what the rows ask; links by lists of a class's own (pool number, our numbers) -/
def zh_f3 (l : List (Nat × Nat × Nat)) (a b c : Nat) : Bool := l.any fun z => Nat.beq z.1 a && (Nat.beq z.2.1 b && Nat.beq z.2.2 c)
theorem zh_f3_ok {l : List (Nat × Nat × Nat)} {a b c : Nat} (h : zh_f3 l a b c = true) : (a, b, c) ∈ l := by
  obtain ⟨z, hz, h1⟩ := List.any_eq_true.mp h
  simp only [Bool.and_eq_true] at h1
  obtain ⟨z1, z2, z3⟩ := z
  have e1 : z1 = a := Nat.eq_of_beq_eq_true h1.1
  have e2 : z2 = b := Nat.eq_of_beq_eq_true h1.2.1
  have e3 : z3 = c := Nat.eq_of_beq_eq_true h1.2.2
  subst e1; subst e2; subst e3
  exact hz
/-- a class's links: fields read, fields written, methods of objects, static methods, long constants -/
abbrev zh_K : Type := List (Nat × Nat × Nat) × List (Nat × Nat × Nat) × List (Nat × Nat × Nat) × List (Nat × Nat × Nat) × List (Nat × Int32)
def zh_fF (Θ : zk_T) (own : String) (z : Nat × Nat × Nat) : Prop := ∃ q : vw_C, Θ.2.2.1[z.2.1]? = some q ∧ z.2.2 < q.2.2 ∧ Cond.fieldLink own z.1 (q.2.1 z.2.2).1 (q.2.1 z.2.2).2.1 (q.2.1 z.2.2).2.2.1 ∈ Θ.2.2.2.2.1
def zh_fP (Θ : zk_T) (own : String) (z : Nat × Nat × Nat) : Prop := ∃ q : vw_C, Θ.2.2.1[z.2.1]? = some q ∧ z.2.2 < q.2.2 ∧ Cond.fieldLink own z.1 (q.2.1 z.2.2).1 (q.2.1 z.2.2).2.1 (q.2.1 z.2.2).2.2.1 ∈ Θ.2.2.2.2.1 ∧ (q.2.1 z.2.2).2.2.2 = false
def zh_fV (Θ : zk_T) (own : String) (z : Nat × Nat × Nat) : Prop := ∃ (M : zk_Me) (q : vw_C), za_n Θ.2.2.2.2.2.1 z.2.1 = some M ∧ M.1 = 1 ∧ Θ.2.2.1[M.2.1]? = some q ∧ q.1 = M.2.2.1.cls ∧ Cond.methodLink own z.1 M.2.2.1 ∈ Θ.2.2.2.2.1 ∧ Cond.instanceMethod M.2.2.1 ∈ Θ.2.2.2.2.1 ∧ Cond.selects M.2.2.1.cls M.2.2.1 M.2.2.1 ∈ Θ.2.2.2.2.1 ∧ (parseMethodDescriptor M.2.2.1.desc).map (fun z => z.parameters.length + 1) = some z.2.2
def zh_fS (Θ : zk_T) (own : String) (z : Nat × Nat × Nat) : Prop := (z.2.1 = 999 ∧ Cond.methodLink own z.1 arraycopyName ∈ Θ.2.2.2.2.1 ∧ Cond.native arraycopyName ∈ Θ.2.2.2.2.1 ∧ Cond.static arraycopyName ∈ Θ.2.2.2.2.1 ∧ Cond.initialized "java/lang/System" ∈ Θ.2.2.2.2.1) ∨
  ∃ M : zk_Me, ¬ z.2.1 = 999 ∧ za_n Θ.2.2.2.2.2.1 z.2.1 = some M ∧ M.1 = 0 ∧ (Cond.methodLink own z.1 M.2.2.1 ∈ Θ.2.2.2.2.1 ∨ ∃ host : String, Cond.methodLinkNest own z.1 M.2.2.1 host ∈ Θ.2.2.2.2.1) ∧ Cond.static M.2.2.1 ∈ Θ.2.2.2.2.1 ∧ (parseMethodDescriptor M.2.2.1.desc).map (fun z => z.parameters.length) = some z.2.2
def zh_fK (Θ : zk_T) (own : String) (k : zh_K) : Prop := (∀ z ∈ k.1, zh_fF Θ own z) ∧ (∀ z ∈ k.2.1, zh_fP Θ own z) ∧ (∀ z ∈ k.2.2.1, zh_fV Θ own z) ∧ (∀ z ∈ k.2.2.2.1, zh_fS Θ own z) ∧ ∀ z ∈ k.2.2.2.2, Cond.constantLong own z.1 z.2.toInt64 ∈ Θ.2.2.2.2.1
def zh_gx (k : zh_K) (e : za_E) : Bool := match e.2.1 with
  | .iconst n => decide (Int32.ofInt n = e.2.2.2.2.2)
  | .bipush n => decide ((Int8.ofInt n).toInt32 = e.2.2.2.2.2)
  | .sipush n => decide ((Int16.ofInt n).toInt32 = e.2.2.2.2.2)
  | .ldc _ => false
  | .ldc2_w i => k.2.2.2.2.any fun z => Nat.beq z.1 i && decide (z.2 = e.2.2.2.2.2)
  | .iinc _ n => decide (Int32.ofInt n = e.2.2.2.2.2)
  | .ifCond _ off => decide ((e.1 : Int) + off = (e.2.2.2.1 : Int))
  | .if_icmp _ off => decide ((e.1 : Int) + off = (e.2.2.2.1 : Int))
  | .goto off => decide ((e.1 : Int) + off = (e.2.2.2.1 : Int))
  | .getfield i => zh_f3 k.1 i e.2.2.2.1 e.2.2.2.2.1
  | .putfield i => zh_f3 k.2.1 i e.2.2.2.1 e.2.2.2.2.1
  | .invokevirtual i => zh_f3 k.2.2.1 i e.2.2.2.1 e.2.2.2.2.1
  | .invokestatic i => zh_f3 k.2.2.2.1 i e.2.2.2.1 e.2.2.2.2.1
  | .invokespecial _ => false
  | .tableswitch _ _ _ _ => false
  | _ => true
theorem zh_gx_ok {Θ : zk_T} {own : String} {k : zh_K} (hk : zh_fK Θ own k) {e : za_E} (h : zh_gx k e = true) : za_gx own Θ.2.2.2.2.1 Θ.2.2.1 e ∧ zk_gc Θ own e := by
  obtain ⟨pc, ins, nx, x1, x2, v⟩ := e
  cases ins
  case getfield i =>
    obtain ⟨q, h1, h2, h3⟩ := hk.1 _ (zh_f3_ok (show zh_f3 k.1 i x1 x2 = true from h))
    exact ⟨⟨q, h1, h2, h3⟩, trivial⟩
  case putfield i =>
    obtain ⟨q, h1, h2, h3, h4⟩ := hk.2.1 _ (zh_f3_ok (show zh_f3 k.2.1 i x1 x2 = true from h))
    exact ⟨⟨q, h1, h2, h3, h4⟩, trivial⟩
  case invokevirtual i =>
    exact ⟨trivial, hk.2.2.1 _ (zh_f3_ok (show zh_f3 k.2.2.1 i x1 x2 = true from h))⟩
  case invokestatic i =>
    exact ⟨trivial, hk.2.2.2.1 _ (zh_f3_ok (show zh_f3 k.2.2.2.1 i x1 x2 = true from h))⟩
  case ldc2_w i =>
    obtain ⟨z, hz, h1⟩ := List.any_eq_true.mp (show (k.2.2.2.2.any fun z => Nat.beq z.1 i && decide (z.2 = v)) = true from h)
    simp only [Bool.and_eq_true, decide_eq_true_eq] at h1
    have := hk.2.2.2.2 z hz
    rw [Nat.eq_of_beq_eq_true h1.1, h1.2] at this
    exact ⟨this, trivial⟩
  case invokespecial i => cases h
  case ldc i => cases h
  case tableswitch a b c d => cases h
  all_goals first | (unfold zh_gx at h; simp only [decide_eq_true_eq] at h; exact ⟨h, trivial⟩) | exact ⟨trivial, trivial⟩
def zh_gd (k : zh_K) (cc : ByteArray) (e : za_E) : Bool := decide (decode cc e.1 = .ok (e.2.1, za_ln e.2.1 e.2.2.2.2.1)) && Nat.beq e.2.2.1 (e.1 + za_ln e.2.1 e.2.2.2.2.1) && zh_gx k e
theorem zh_gd_ok {Θ : zk_T} {cc : ByteArray} {own : String} {k : zh_K} (hk : zh_fK Θ own k) {prog : List za_E} (h : prog.all (zh_gd k cc) = true) : ∀ E ∈ prog, za_gd cc own Θ.2.2.2.2.1 Θ.2.2.1 E ∧ zk_gc Θ own E := by
  intro E hE
  have h1 := List.all_eq_true.mp h E hE
  unfold zh_gd at h1
  simp only [Bool.and_eq_true, decide_eq_true_eq] at h1
  obtain ⟨h2, h3⟩ := zh_gx_ok hk h1.2
  exact ⟨⟨h1.1.1, Nat.eq_of_beq_eq_true h1.1.2, h2⟩, h3⟩
def zh_ch : List za_E → Bool
  | [] => true
  | [_] => true
  | e :: e' :: r => (zk_nf e.2.1 || Nat.beq e.2.2.1 e'.1) && zh_ch (e' :: r)
theorem zh_ch_ok : ∀ {prog : List za_E}, zh_ch prog = true → zk_ch prog
  | [], _ => trivial
  | [_], _ => trivial
  | e :: e' :: r, h => by
    unfold zh_ch at h
    simp only [Bool.and_eq_true, Bool.or_eq_true] at h
    refine ⟨?_, zh_ch_ok h.2⟩
    rcases h.1 with h1 | h1
    · exact Or.inl h1
    · exact Or.inr (Nat.eq_of_beq_eq_true h1)
/-- the layout is closed -/
def zh_wf (Λ : List za_S) (cn : Nat → Nat) : Bool := (List.range Λ.length).all (fun b => match za_n Λ b with
  | some sh => (if sh.1 = 4 then sh.2.2.all (fun q => (if q.1 = 1 then decide (q.2.2 < cn q.2.1) else true) && (if q.1 = 2 then decide (cn b ≤ cn q.2.1) else true)) else true) && (if sh.1 = 3 then (match sh.2.2 with
    | q :: _ => decide (sh.2.1 * cn b ≤ cn q.1)
    | [] => true) else true)
  | none => true)
theorem zh_wf_ok {Λ : List za_S} {cn : Nat → Nat} (h : zh_wf Λ cn = true) : za_wf Λ cn := by
  intro b sh hb
  have hlt : b < Λ.length := by rw [za_n_eq] at hb; exact (List.getElem?_eq_some_iff.mp hb).1
  have h1 := List.all_eq_true.mp h b (List.mem_range.mpr hlt)
  rw [hb] at h1
  simp only [Bool.and_eq_true] at h1
  refine ⟨fun h4 f q hq => ?_, fun h3 q r hr => ?_⟩
  · have h2 := h1.1
    rw [if_pos h4] at h2
    have h5 := List.all_eq_true.mp h2 q (by rw [za_n_eq] at hq; exact List.mem_of_getElem? hq)
    simp only [Bool.and_eq_true] at h5
    refine ⟨fun h6 => ?_, fun h6 => ?_⟩
    · have := h5.1
      rw [if_pos h6] at this
      exact of_decide_eq_true this
    · have := h5.2
      rw [if_pos h6] at this
      exact of_decide_eq_true this
  · have h2 := h1.2
    rw [if_pos h3, hr] at h2
    exact of_decide_eq_true h2
/-- what an array of a list holds -/
def zh_lf (Λ : List za_S) (ft : Nat → Nat → FieldType) : Bool := Λ.all (fun sh => if sh.1 = 4 then (List.range sh.2.2.length).all (fun f => match za_n sh.2.2 f with
  | some q => if q.1 = 0 then (if q.2.1 = 0 then decide (ft sh.2.1 f = .int) else true) && (if q.2.1 = 1 then decide (ft sh.2.1 f = .boolean) else true) else true
  | none => true) else true)
theorem zh_lf_ok {Λ : List za_S} {ft : Nat → Nat → FieldType} (h : zh_lf Λ ft = true) : ∀ (b ci f : Nat) (fs : List (Nat × Nat × Nat)), za_n Λ b = some (4, ci, fs) → (∀ z, za_n fs f = some (0, 0, z) → ft ci f = .int) ∧ (∀ z, za_n fs f = some (0, 1, z) → ft ci f = .boolean) := by
  intro b ci f fs hb
  have h1 := List.all_eq_true.mp h _ (by rw [za_n_eq] at hb; exact List.mem_of_getElem? hb)
  rw [if_pos rfl] at h1
  have key : ∀ q, za_n fs f = some q → (if q.1 = 0 then (if q.2.1 = 0 then decide (ft ci f = .int) else true) && (if q.2.1 = 1 then decide (ft ci f = .boolean) else true) else true) = true := by
    intro q hq
    have hlt : f < fs.length := by rw [za_n_eq] at hq; exact (List.getElem?_eq_some_iff.mp hq).1
    have h2 := List.all_eq_true.mp h1 f (List.mem_range.mpr hlt)
    simp only at h2
    rw [hq] at h2
    exact h2
  refine ⟨fun z hz => ?_, fun z hz => ?_⟩
  · have := key _ hz
    simp only [if_true, Bool.and_eq_true] at this
    exact of_decide_eq_true this.1
  · have := key _ hz
    simp only [if_true, Bool.and_eq_true] at this
    exact of_decide_eq_true this.2
end
section
/-! TABLES, by program: classes, layout, words, methods -/
def zt_T0 : u_T := fun k => match k with
  | 0 => ("AttributeKinds$Board", "rows", "[I", true)
  | _ => ("AttributeKinds$Board", "circle", "Z", false)
def zt_T1 : u_T := fun k => match k with
  | 0 => ("AttributeKinds$Grammar", "symbols", "I", false)
  | 1 => ("AttributeKinds$Grammar", "attributes", "[I", true)
  | 2 => ("AttributeKinds$Grammar", "down", "[I", true)
  | 3 => ("AttributeKinds$Grammar", "productions", "I", false)
  | 4 => ("AttributeKinds$Grammar", "parts", "[I", true)
  | 5 => ("AttributeKinds$Grammar", "symbolAt", "[[I", true)
  | 6 => ("AttributeKinds$Grammar", "needs", "[[I", true)
  | 7 => ("AttributeKinds$Grammar", "defined", "[I", true)
  | _ => ("AttributeKinds$Grammar", "given", "[I", true)
def zt_T2 : u_T := fun k => match k with
  | 0 => ("AttributeKinds$Numbering", "known", "Z", false)
  | 1 => ("AttributeKinds$Numbering", "whole", "Z", false)
  | 2 => ("AttributeKinds$Numbering", "last", "I", false)
  | 3 => ("AttributeKinds$Numbering", "number", "[[I", true)
  | 4 => ("AttributeKinds$Numbering", "turning", "Z", true)
  | 5 => ("AttributeKinds$Numbering", "numbered", "[I", true)
  | _ => ("AttributeKinds$Numbering", "chosen", "[I", true)
def zt_T3 : u_T := fun k => match k with
  | 0 => ("AttributeKinds$Relations", "known", "Z", false)
  | 1 => ("AttributeKinds$Relations", "circleUpwards", "Z", false)
  | 2 => ("AttributeKinds$Relations", "circleFromAbove", "Z", false)
  | 3 => ("AttributeKinds$Relations", "exists", "[Z", true)
  | 4 => ("AttributeKinds$Relations", "upwards", "[J", true)
  | 5 => ("AttributeKinds$Relations", "fromAbove", "[J", true)
  | _ => ("AttributeKinds$Relations", "board", "LAttributeKinds$Board;", true)
def zt_T4 : u_T := fun k => match k with
  | 0 => ("AttributeKinds$TreeGraphs", "known", "Z", false)
  | 1 => ("AttributeKinds$TreeGraphs", "tooMany", "Z", false)
  | 2 => ("AttributeKinds$TreeGraphs", "circle", "Z", false)
  | 3 => ("AttributeKinds$TreeGraphs", "count", "[I", true)
  | 4 => ("AttributeKinds$TreeGraphs", "found", "[[J", true)
  | 5 => ("AttributeKinds$TreeGraphs", "countNow", "[I", true)
  | 6 => ("AttributeKinds$TreeGraphs", "countBefore", "[I", true)
  | _ => ("AttributeKinds$TreeGraphs", "boards", "[LAttributeKinds$Board;", true)
def zt_T5 : u_T := fun k => match k with
  | 0 => ("AttributeKinds", "grammar", "LAttributeKinds$Grammar;", true)
  | 1 => ("AttributeKinds", "treeGraphs", "LAttributeKinds$TreeGraphs;", true)
  | 2 => ("AttributeKinds", "relations", "LAttributeKinds$Relations;", true)
  | 3 => ("AttributeKinds", "fromLeft", "LAttributeKinds$Numbering;", true)
  | _ => ("AttributeKinds", "inTurns", "LAttributeKinds$Numbering;", true)
def zt_T6 : u_T := fun k => match k with
  | 0 => ("AttributeKindsModel", "thrown", "I", false)
  | 1 => ("AttributeKindsModel", "symbols", "I", false)
  | 2 => ("AttributeKindsModel", "attributes", "[I", true)
  | 3 => ("AttributeKindsModel", "downs", "[I", true)
  | 4 => ("AttributeKindsModel", "productions", "I", false)
  | 5 => ("AttributeKindsModel", "occurrences", "[I", true)
  | 6 => ("AttributeKindsModel", "depends", "[I", true)
  | 7 => ("AttributeKindsModel", "known", "Z", false)
  | 8 => ("AttributeKindsModel", "great", "Z", false)
  | 9 => ("AttributeKindsModel", "circle", "Z", false)
  | 10 => ("AttributeKindsModel", "counts", "[I", true)
  | 11 => ("AttributeKindsModel", "graph", "[J", true)
  | 12 => ("AttributeKindsModel", "done", "[I", true)
  | 13 => ("AttributeKindsModel", "rows", "[I", true)
  | 14 => ("AttributeKindsModel", "related", "Z", false)
  | 15 => ("AttributeKindsModel", "has", "[Z", true)
  | 16 => ("AttributeKindsModel", "unions", "[I", true)
  | 17 => ("AttributeKindsModel", "aboves", "[I", true)
  | 18 => ("AttributeKindsModel", "strong", "Z", false)
  | 19 => ("AttributeKindsModel", "doubled", "Z", false)
  | 20 => ("AttributeKindsModel", "numbers", "[I", true)
  | 21 => ("AttributeKindsModel", "set", "[Z", true)
  | _ => ("AttributeKindsModel", "mostPasses", "I", false)
def zt_cl : List vw_C := [("AttributeKinds$Board", zt_T0, 2), ("AttributeKinds$Grammar", zt_T1, 9), ("AttributeKinds$Numbering", zt_T2, 7), ("AttributeKinds$Relations", zt_T3, 7), ("AttributeKinds$TreeGraphs", zt_T4, 8), ("AttributeKinds", zt_T5, 5), ("AttributeKindsModel", zt_T6, 23)]
def zt_f0 : Nat → FieldType := fun k => match k with
  | 0 => .array .int
  | _ => .boolean
def zt_f1 : Nat → FieldType := fun k => match k with
  | 0 => .int
  | 1 => .array .int
  | 2 => .array .int
  | 3 => .int
  | 4 => .array .int
  | 5 => .array (.array .int)
  | 6 => .array (.array .int)
  | 7 => .array .int
  | _ => .array .int
def zt_f2 : Nat → FieldType := fun k => match k with
  | 0 => .boolean
  | 1 => .boolean
  | 2 => .int
  | 3 => .array (.array .int)
  | 4 => .boolean
  | 5 => .array .int
  | _ => .array .int
def zt_f3 : Nat → FieldType := fun k => match k with
  | 0 => .boolean
  | 1 => .boolean
  | 2 => .boolean
  | 3 => .array .boolean
  | 4 => .array .long
  | 5 => .array .long
  | _ => .object "AttributeKinds$Board"
def zt_f4 : Nat → FieldType := fun k => match k with
  | 0 => .boolean
  | 1 => .boolean
  | 2 => .boolean
  | 3 => .array .int
  | 4 => .array (.array .long)
  | 5 => .array .int
  | 6 => .array .int
  | _ => .array (.object "AttributeKinds$Board")
def zt_f5 : Nat → FieldType := fun k => match k with
  | 0 => .object "AttributeKinds$Grammar"
  | 1 => .object "AttributeKinds$TreeGraphs"
  | 2 => .object "AttributeKinds$Relations"
  | 3 => .object "AttributeKinds$Numbering"
  | _ => .object "AttributeKinds$Numbering"
def zt_f6 : Nat → FieldType := fun k => match k with
  | 0 => .int
  | 1 => .int
  | 2 => .array .int
  | 3 => .array .int
  | 4 => .int
  | 5 => .array .int
  | 6 => .array .int
  | 7 => .boolean
  | 8 => .boolean
  | 9 => .boolean
  | 10 => .array .int
  | 11 => .array .long
  | 12 => .array .int
  | 13 => .array .int
  | 14 => .boolean
  | 15 => .array .boolean
  | 16 => .array .int
  | 17 => .array .int
  | 18 => .boolean
  | 19 => .boolean
  | 20 => .array .int
  | 21 => .array .boolean
  | _ => .int
def zt_ft : Nat → Nat → FieldType := fun c => match c with
  | 0 => zt_f0
  | 1 => zt_f1
  | 2 => zt_f2
  | 3 => zt_f3
  | 4 => zt_f4
  | 5 => zt_f5
  | _ => zt_f6
def zt_Λ : List za_S := [(4, 5, [(1, 1, 0), (1, 11, 0), (1, 20, 0), (1, 24, 0), (1, 24, 1)]), (4, 1, [(0, 0, 0), (1, 2, 0), (1, 3, 0), (0, 0, 0), (1, 4, 0), (1, 5, 0), (1, 7, 0), (1, 9, 0), (1, 10, 0)]), (0, 8, []), (0, 8, []), (0, 16, []), (3, 16, [(6, 0, 0)]), (0, 4, []), (3, 16, [(8, 0, 0)]), (0, 32, []), (0, 16, []), (0, 16, []), (4, 4, [(0, 1, 0), (0, 1, 0), (0, 1, 0), (1, 12, 0), (1, 13, 0), (1, 15, 0), (1, 16, 0), (1, 17, 0)]), (0, 8, []), (3, 8, [(14, 0, 0)]), (2, 10, []), (0, 8, []), (0, 8, []), (3, 4, [(18, 0, 0)]), (4, 0, [(2, 19, 0), (0, 1, 0)]), (0, 32, []), (4, 3, [(0, 1, 0), (0, 1, 0), (0, 1, 0), (1, 21, 0), (1, 22, 0), (1, 23, 0), (1, 18, 4)]), (1, 8, []), (2, 8, []), (2, 8, []), (4, 2, [(0, 1, 0), (0, 1, 0), (0, 0, 0), (2, 25, 0), (0, 1, 0), (2, 27, 0), (2, 28, 0)]), (3, 8, [(26, 0, 0)]), (0, 6, []), (0, 8, []), (0, 8, []), (2, 1, []), (4, 6, [(0, 0, 0), (0, 0, 0), (1, 31, 0), (1, 32, 0), (0, 0, 0), (1, 33, 0), (1, 34, 0), (0, 1, 0), (0, 1, 0), (0, 1, 0), (1, 35, 0), (1, 36, 0), (1, 37, 0), (1, 38, 0), (0, 1, 0), (1, 39, 0), (1, 40, 0), (1, 41, 0), (0, 1, 0), (0, 1, 0), (1, 42, 0), (1, 43, 0), (0, 0, 0)]), (0, 8, []), (0, 8, []), (0, 64, []), (0, 512, []), (0, 8, []), (2, 88, []), (0, 48, []), (0, 32, []), (1, 8, []), (0, 64, []), (0, 64, []), (0, 64, []), (1, 64, [])]
def zt_cn : Nat → Nat := fun b => match b with
  | 0 => 1
  | 1 => 1
  | 2 => 1
  | 3 => 1
  | 4 => 1
  | 5 => 1
  | 6 => 16
  | 7 => 1
  | 8 => 16
  | 9 => 1
  | 10 => 1
  | 11 => 1
  | 12 => 1
  | 13 => 1
  | 14 => 8
  | 15 => 1
  | 16 => 1
  | 17 => 1
  | 18 => 5
  | 19 => 5
  | 20 => 1
  | 21 => 1
  | 22 => 1
  | 23 => 1
  | 24 => 2
  | 25 => 2
  | 26 => 16
  | 27 => 2
  | 28 => 2
  | 29 => 1
  | 30 => 1
  | 31 => 1
  | 32 => 1
  | 33 => 1
  | 34 => 1
  | 35 => 1
  | 36 => 1
  | 37 => 1
  | 38 => 1
  | 39 => 1
  | 40 => 1
  | 41 => 1
  | 42 => 1
  | 43 => 1
  | _ => 0
def zt_ok (w : Cond) : Bool := goodWord w || (match w with
  | .methodLinkNest _ _ _ _ => true
  | _ => false)
def zt_WS : List Cond := lw_tbl.filter zt_ok
def zt_EN : Nat → String := fun k => match k with
  | 0 => "java/lang/IllegalArgumentException"
  | 1 => "java/lang/UnsupportedOperationException"
  | _ => "java/lang/IndexOutOfBoundsException"
def zm_A_clear : zk_Me := (1, 5, ⟨"AttributeKinds", "clear", "()V"⟩, prog_1_method_2_code, 1, none)
def zm_A_symbol : zk_Me := (1, 5, ⟨"AttributeKinds", "symbol", "(II)I"⟩, prog_1_method_3_code, 3, (some .int))
def zm_A_production : zk_Me := (1, 5, ⟨"AttributeKinds", "production", "(IIII)I"⟩, prog_1_method_4_code, 5, (some .int))
def zm_A_depend : zk_Me := (1, 5, ⟨"AttributeKinds", "depend", "(III)Z"⟩, prog_1_method_5_code, 4, (some .boolean))
def zm_A_graphs : zk_Me := (1, 5, ⟨"AttributeKinds", "graphs", "(I)I"⟩, prog_1_method_6_code, 2, (some .int))
def zm_A_circular : zk_Me := (1, 5, ⟨"AttributeKinds", "circular", "()Z"⟩, prog_1_method_7_code, 1, (some .boolean))
def zm_A_strong : zk_Me := (1, 5, ⟨"AttributeKinds", "strong", "()Z"⟩, prog_1_method_8_code, 1, (some .boolean))
def zm_A_doubly : zk_Me := (1, 5, ⟨"AttributeKinds", "doubly", "()Z"⟩, prog_1_method_9_code, 1, (some .boolean))
def zm_A_relation : zk_Me := (1, 5, ⟨"AttributeKinds", "relation", "(IIZ)I"⟩, prog_1_method_10_code, 4, (some .int))
def zm_A_pass : zk_Me := (1, 5, ⟨"AttributeKinds", "pass", "(IIZ)I"⟩, prog_1_method_11_code, 4, (some .int))
def zm_A_passes : zk_Me := (1, 5, ⟨"AttributeKinds", "passes", "(Z)I"⟩, prog_1_method_12_code, 3, (some .int))
def zm_A_checkSymbol : zk_Me := (1, 5, ⟨"AttributeKinds", "checkSymbol", "(I)V"⟩, prog_1_method_13_code, 2, none)
def zm_A_checkAttribute : zk_Me := (1, 5, ⟨"AttributeKinds", "checkAttribute", "(II)V"⟩, prog_1_method_14_code, 3, none)
def zm_A_findGraphs : zk_Me := (1, 5, ⟨"AttributeKinds", "findGraphs", "()V"⟩, prog_1_method_15_code, 1, none)
def zm_A_numbering : zk_Me := (1, 5, ⟨"AttributeKinds", "numbering", "(Z)LAttributeKinds$Numbering;"⟩, prog_1_method_16_code, 3, (some (.object "AttributeKinds$Numbering")))
def zm_A_forgetAnswers : zk_Me := (1, 5, ⟨"AttributeKinds", "forgetAnswers", "()V"⟩, prog_1_method_17_code, 1, none)
def zm_A_firstBits : zk_Me := (0, 5, ⟨"AttributeKinds", "firstBits", "(I)I"⟩, prog_1_method_18_code, 1, (some .int))
def zm_A_hasBit : zk_Me := (0, 5, ⟨"AttributeKinds", "hasBit", "(II)Z"⟩, prog_1_method_19_code, 2, (some .boolean))
def zm_A_rowOf : zk_Me := (0, 5, ⟨"AttributeKinds", "rowOf", "(JI)I"⟩, prog_1_method_20_code, 3, (some .int))
def zm_M_thrown : zk_Me := (1, 6, ⟨"AttributeKindsModel", "thrown", "()I"⟩, prog_8_method_2_code, 1, (some .int))
def zm_M_refuse : zk_Me := (1, 6, ⟨"AttributeKindsModel", "refuse", "(ZZ)Z"⟩, prog_8_method_3_code, 3, (some .boolean))
def zm_M_in : zk_Me := (0, 6, ⟨"AttributeKindsModel", "in", "(III)Z"⟩, prog_8_method_4_code, 3, (some .boolean))
def zm_M_clear : zk_Me := (1, 6, ⟨"AttributeKindsModel", "clear", "()V"⟩, prog_8_method_5_code, 2, none)
def zm_M_forget : zk_Me := (1, 6, ⟨"AttributeKindsModel", "forget", "()V"⟩, prog_8_method_6_code, 1, none)
def zm_M_symbol : zk_Me := (1, 6, ⟨"AttributeKindsModel", "symbol", "(II)I"⟩, prog_8_method_7_code, 4, (some .int))
def zm_M_isSymbol : zk_Me := (1, 6, ⟨"AttributeKindsModel", "isSymbol", "(I)Z"⟩, prog_8_method_8_code, 2, (some .boolean))
def zm_M_production : zk_Me := (1, 6, ⟨"AttributeKindsModel", "production", "(IIII)I"⟩, prog_8_method_9_code, 6, (some .int))
def zm_M_isDown : zk_Me := (1, 6, ⟨"AttributeKindsModel", "isDown", "(II)Z"⟩, prog_8_method_10_code, 3, (some .boolean))
def zm_M_symbolOf : zk_Me := (1, 6, ⟨"AttributeKindsModel", "symbolOf", "(II)I"⟩, prog_8_method_11_code, 3, (some .int))
def zm_M_isThere : zk_Me := (1, 6, ⟨"AttributeKindsModel", "isThere", "(II)Z"⟩, prog_8_method_12_code, 4, (some .boolean))
def zm_M_defines : zk_Me := (1, 6, ⟨"AttributeKindsModel", "defines", "(II)Z"⟩, prog_8_method_13_code, 3, (some .boolean))
def zm_M_depend : zk_Me := (1, 6, ⟨"AttributeKindsModel", "depend", "(III)Z"⟩, prog_8_method_14_code, 7, (some .boolean))
def zm_M_takeDepends : zk_Me := (1, 6, ⟨"AttributeKindsModel", "takeDepends", "(I)V"⟩, prog_8_method_15_code, 3, none)
def zm_M_follow : zk_Me := (1, 6, ⟨"AttributeKindsModel", "follow", "()V"⟩, prog_8_method_16_code, 3, none)
def zm_M_hasCircle : zk_Me := (1, 6, ⟨"AttributeKindsModel", "hasCircle", "()Z"⟩, prog_8_method_17_code, 3, (some .boolean))
def zm_M_addGraph : zk_Me := (1, 6, ⟨"AttributeKindsModel", "addGraph", "(IJ)V"⟩, prog_8_method_18_code, 5, none)
def zm_M_headGraph : zk_Me := (1, 6, ⟨"AttributeKindsModel", "headGraph", "(I)J"⟩, prog_8_method_19_code, 6, (some .long))
def zm_M_takeGraph : zk_Me := (1, 6, ⟨"AttributeKindsModel", "takeGraph", "(IJ)V"⟩, prog_8_method_20_code, 6, none)
def zm_M_countOf : zk_Me := (1, 6, ⟨"AttributeKindsModel", "countOf", "(II)I"⟩, prog_8_method_21_code, 4, (some .int))
def zm_M_put : zk_Me := (1, 6, ⟨"AttributeKindsModel", "put", "(IIII)V"⟩, prog_8_method_22_code, 6, none)
def zm_M_work : zk_Me := (1, 6, ⟨"AttributeKindsModel", "work", "(I)Z"⟩, prog_8_method_23_code, 9, (some .boolean))
def zm_M_findGraphs : zk_Me := (1, 6, ⟨"AttributeKindsModel", "findGraphs", "()V"⟩, prog_8_method_24_code, 4, none)
def zm_M_graphs : zk_Me := (1, 6, ⟨"AttributeKindsModel", "graphs", "(I)I"⟩, prog_8_method_25_code, 2, (some .int))
def zm_M_circular : zk_Me := (1, 6, ⟨"AttributeKindsModel", "circular", "()Z"⟩, prog_8_method_26_code, 1, (some .boolean))
def zm_M_allHave : zk_Me := (1, 6, ⟨"AttributeKindsModel", "allHave", "(I)Z"⟩, prog_8_method_27_code, 4, (some .boolean))
def zm_M_addUnions : zk_Me := (1, 6, ⟨"AttributeKindsModel", "addUnions", "(II)V"⟩, prog_8_method_28_code, 6, none)
def zm_M_addAboves : zk_Me := (1, 6, ⟨"AttributeKindsModel", "addAboves", "(I)V"⟩, prog_8_method_29_code, 3, none)
def zm_M_growUnion : zk_Me := (1, 6, ⟨"AttributeKindsModel", "growUnion", "(I)Z"⟩, prog_8_method_30_code, 6, (some .boolean))
def zm_M_growAbove : zk_Me := (1, 6, ⟨"AttributeKindsModel", "growAbove", "(II)Z"⟩, prog_8_method_31_code, 8, (some .boolean))
def zm_M_relate : zk_Me := (1, 6, ⟨"AttributeKindsModel", "relate", "()V"⟩, prog_8_method_32_code, 5, none)
def zm_M_strong : zk_Me := (1, 6, ⟨"AttributeKindsModel", "strong", "()Z"⟩, prog_8_method_33_code, 1, (some .boolean))
def zm_M_doubly : zk_Me := (1, 6, ⟨"AttributeKindsModel", "doubly", "()Z"⟩, prog_8_method_34_code, 1, (some .boolean))
def zm_M_isAttribute : zk_Me := (1, 6, ⟨"AttributeKindsModel", "isAttribute", "(II)Z"⟩, prog_8_method_35_code, 3, (some .boolean))
def zm_M_relation : zk_Me := (1, 6, ⟨"AttributeKindsModel", "relation", "(IIZ)I"⟩, prog_8_method_36_code, 4, (some .int))
def zm_M_inSet : zk_Me := (1, 6, ⟨"AttributeKindsModel", "inSet", "(II)Z"⟩, prog_8_method_37_code, 3, (some .boolean))
def zm_M_mayStay : zk_Me := (1, 6, ⟨"AttributeKindsModel", "mayStay", "(IIZ)Z"⟩, prog_8_method_38_code, 9, (some .boolean))
def zm_M_leaveOut : zk_Me := (1, 6, ⟨"AttributeKindsModel", "leaveOut", "(Z)Z"⟩, prog_8_method_39_code, 5, (some .boolean))
def zm_M_onePass : zk_Me := (1, 6, ⟨"AttributeKindsModel", "onePass", "(IZ)I"⟩, prog_8_method_40_code, 6, (some .int))
def zm_M_findPasses : zk_Me := (1, 6, ⟨"AttributeKindsModel", "findPasses", "(Z)V"⟩, prog_8_method_41_code, 5, none)
def zm_M_pass : zk_Me := (1, 6, ⟨"AttributeKindsModel", "pass", "(IIZ)I"⟩, prog_8_method_42_code, 4, (some .int))
def zm_M_passes : zk_Me := (1, 6, ⟨"AttributeKindsModel", "passes", "(Z)I"⟩, prog_8_method_43_code, 4, (some .int))
def zm_B_start : zk_Me := (1, 0, ⟨"AttributeKinds$Board", "start", "([I)V"⟩, prog_2_method_2_code, 2, none)
def zm_B_startFrom : zk_Me := (1, 0, ⟨"AttributeKinds$Board", "startFrom", "(LAttributeKinds$Board;)V"⟩, prog_2_method_3_code, 2, none)
def zm_B_lay : zk_Me := (1, 0, ⟨"AttributeKinds$Board", "lay", "(IJ)V"⟩, prog_2_method_4_code, 6, none)
def zm_B_join : zk_Me := (1, 0, ⟨"AttributeKinds$Board", "join", "(I)V"⟩, prog_2_method_5_code, 4, none)
def zm_B_joinAt : zk_Me := (1, 0, ⟨"AttributeKinds$Board", "joinAt", "(I)V"⟩, prog_2_method_6_code, 5, none)
def zm_B_relationAt : zk_Me := (1, 0, ⟨"AttributeKinds$Board", "relationAt", "(I)J"⟩, prog_2_method_7_code, 8, (some .long))
def zm_G_wipe : zk_Me := (1, 1, ⟨"AttributeKinds$Grammar", "wipe", "()V"⟩, prog_3_method_2_code, 1, none)
def zm_G_hasSymbol : zk_Me := (1, 1, ⟨"AttributeKinds$Grammar", "hasSymbol", "(I)Z"⟩, prog_3_method_3_code, 2, (some .boolean))
def zm_G_canBePart : zk_Me := (1, 1, ⟨"AttributeKinds$Grammar", "canBePart", "(I)Z"⟩, prog_3_method_4_code, 2, (some .boolean))
def zm_G_hasProduction : zk_Me := (1, 1, ⟨"AttributeKinds$Grammar", "hasProduction", "(I)Z"⟩, prog_3_method_5_code, 2, (some .boolean))
def zm_G_defines : zk_Me := (1, 1, ⟨"AttributeKinds$Grammar", "defines", "(II)Z"⟩, prog_3_method_6_code, 3, (some .boolean))
def zm_G_isGiven : zk_Me := (1, 1, ⟨"AttributeKinds$Grammar", "isGiven", "(II)Z"⟩, prog_3_method_7_code, 3, (some .boolean))
def zm_G_addSymbol : zk_Me := (1, 1, ⟨"AttributeKinds$Grammar", "addSymbol", "(II)I"⟩, prog_3_method_8_code, 3, (some .int))
def zm_G_addProduction : zk_Me := (1, 1, ⟨"AttributeKinds$Grammar", "addProduction", "(IIII)I"⟩, prog_3_method_9_code, 7, (some .int))
def zm_G_addPart : zk_Me := (1, 1, ⟨"AttributeKinds$Grammar", "addPart", "(II)V"⟩, prog_3_method_10_code, 4, none)
def zm_G_addDependence : zk_Me := (1, 1, ⟨"AttributeKinds$Grammar", "addDependence", "(III)Z"⟩, prog_3_method_11_code, 4, (some .boolean))
def zm_G_all : zk_Me := (1, 1, ⟨"AttributeKinds$Grammar", "all", "(I)I"⟩, prog_3_method_12_code, 2, (some .int))
def zm_G_up : zk_Me := (1, 1, ⟨"AttributeKinds$Grammar", "up", "(I)I"⟩, prog_3_method_13_code, 2, (some .int))
def zm_G_placesOf : zk_Me := (1, 1, ⟨"AttributeKinds$Grammar", "placesOf", "(I[I)I"⟩, prog_3_method_14_code, 5, (some .int))
def zm_N_find : zk_Me := (1, 2, ⟨"AttributeKinds$Numbering", "find", "(LAttributeKinds$Grammar;)V"⟩, prog_4_method_2_code, 5, none)
def zm_N_forget : zk_Me := (1, 2, ⟨"AttributeKinds$Numbering", "forget", "()V"⟩, prog_4_method_3_code, 3, none)
def zm_N_choose : zk_Me := (1, 2, ⟨"AttributeKinds$Numbering", "choose", "(LAttributeKinds$Grammar;Z)V"⟩, prog_4_method_4_code, 6, none)
def zm_N_drop : zk_Me := (1, 2, ⟨"AttributeKinds$Numbering", "drop", "(LAttributeKinds$Grammar;IZ)Z"⟩, prog_4_method_5_code, 12, (some .boolean))
def zm_N_placesBefore : zk_Me := (0, 2, ⟨"AttributeKinds$Numbering", "placesBefore", "(IZ)I"⟩, prog_4_method_6_code, 2, (some .int))
def zm_N_give : zk_Me := (1, 2, ⟨"AttributeKinds$Numbering", "give", "(LAttributeKinds$Grammar;I)Z"⟩, prog_4_method_7_code, 6, (some .boolean))
def zm_N_isWhole : zk_Me := (1, 2, ⟨"AttributeKinds$Numbering", "isWhole", "(LAttributeKinds$Grammar;)Z"⟩, prog_4_method_8_code, 3, (some .boolean))
def zm_R_find : zk_Me := (1, 3, ⟨"AttributeKinds$Relations", "find", "(LAttributeKinds$Grammar;)V"⟩, prog_5_method_2_code, 4, none)
def zm_R_forget : zk_Me := (1, 3, ⟨"AttributeKinds$Relations", "forget", "()V"⟩, prog_5_method_3_code, 2, none)
def zm_R_growUpwards : zk_Me := (1, 3, ⟨"AttributeKinds$Relations", "growUpwards", "(LAttributeKinds$Grammar;)Z"⟩, prog_5_method_4_code, 7, (some .boolean))
def zm_R_growFromAbove : zk_Me := (1, 3, ⟨"AttributeKinds$Relations", "growFromAbove", "(LAttributeKinds$Grammar;)Z"⟩, prog_5_method_5_code, 8, (some .boolean))
def zm_R_lookForCircles : zk_Me := (1, 3, ⟨"AttributeKinds$Relations", "lookForCircles", "(LAttributeKinds$Grammar;)V"⟩, prog_5_method_6_code, 3, none)
def zm_R_allPartsExist : zk_Me := (1, 3, ⟨"AttributeKinds$Relations", "allPartsExist", "(LAttributeKinds$Grammar;I)Z"⟩, prog_5_method_7_code, 4, (some .boolean))
def zm_R_startWithHead : zk_Me := (1, 3, ⟨"AttributeKinds$Relations", "startWithHead", "(LAttributeKinds$Grammar;I)V"⟩, prog_5_method_8_code, 3, none)
def zm_R_joinParts : zk_Me := (1, 3, ⟨"AttributeKinds$Relations", "joinParts", "(LAttributeKinds$Grammar;II)V"⟩, prog_5_method_9_code, 5, none)
def zm_T_find : zk_Me := (1, 4, ⟨"AttributeKinds$TreeGraphs", "find", "(LAttributeKinds$Grammar;)V"⟩, prog_6_method_2_code, 5, none)
def zm_T_forget : zk_Me := (1, 4, ⟨"AttributeKinds$TreeGraphs", "forget", "()V"⟩, prog_6_method_3_code, 2, none)
def zm_T_beginRound : zk_Me := (1, 4, ⟨"AttributeKinds$TreeGraphs", "beginRound", "()Z"⟩, prog_6_method_4_code, 3, (some .boolean))
def zm_T_combine : zk_Me := (1, 4, ⟨"AttributeKinds$TreeGraphs", "combine", "(LAttributeKinds$Grammar;IIZ)V"⟩, prog_6_method_5_code, 9, none)
def zm_T_keep : zk_Me := (1, 4, ⟨"AttributeKinds$TreeGraphs", "keep", "(ILAttributeKinds$Board;)V"⟩, prog_6_method_6_code, 6, none)
def zt_MT : List zk_Me := [zm_A_clear, zm_A_symbol, zm_A_production, zm_A_depend, zm_A_graphs, zm_A_circular, zm_A_strong, zm_A_doubly, zm_A_relation, zm_A_pass, zm_A_passes, zm_A_checkSymbol, zm_A_checkAttribute, zm_A_findGraphs, zm_A_numbering, zm_A_forgetAnswers, zm_A_firstBits, zm_A_hasBit, zm_A_rowOf, zm_M_thrown, zm_M_refuse, zm_M_in, zm_M_clear, zm_M_forget, zm_M_symbol, zm_M_isSymbol, zm_M_production, zm_M_isDown, zm_M_symbolOf, zm_M_isThere, zm_M_defines, zm_M_depend, zm_M_takeDepends, zm_M_follow, zm_M_hasCircle, zm_M_addGraph, zm_M_headGraph, zm_M_takeGraph, zm_M_countOf, zm_M_put, zm_M_work, zm_M_findGraphs, zm_M_graphs, zm_M_circular, zm_M_allHave, zm_M_addUnions, zm_M_addAboves, zm_M_growUnion, zm_M_growAbove, zm_M_relate, zm_M_strong, zm_M_doubly, zm_M_isAttribute, zm_M_relation, zm_M_inSet, zm_M_mayStay, zm_M_leaveOut, zm_M_onePass, zm_M_findPasses, zm_M_pass, zm_M_passes, zm_B_start, zm_B_startFrom, zm_B_lay, zm_B_join, zm_B_joinAt, zm_B_relationAt, zm_G_wipe, zm_G_hasSymbol, zm_G_canBePart, zm_G_hasProduction, zm_G_defines, zm_G_isGiven, zm_G_addSymbol, zm_G_addProduction, zm_G_addPart, zm_G_addDependence, zm_G_all, zm_G_up, zm_G_placesOf, zm_N_find, zm_N_forget, zm_N_choose, zm_N_drop, zm_N_placesBefore, zm_N_give, zm_N_isWhole, zm_R_find, zm_R_forget, zm_R_growUpwards, zm_R_growFromAbove, zm_R_lookForCircles, zm_R_allPartsExist, zm_R_startWithHead, zm_R_joinParts, zm_T_find, zm_T_forget, zm_T_beginRound, zm_T_combine, zm_T_keep]
def zt : zk_T := (zt_Λ, zt_cn, zt_cl, zt_ft, zt_WS, zt_MT, zt_EN)
end
section
/-! PROGRAMS, by program -/
def zp_A_clear : List za_E := [(0, .aload_n 0, 1, 0, 0, 0), (1, .getfield 12, 4, 5, 0, 0), (4, .invokevirtual 42, 7, 67, 1, 0), (7, .aload_n 0, 8, 0, 0, 0), (8, .invokevirtual 45, 11, 15, 1, 0), (11, .return_, 12, 0, 0, 0)]
def zp_A_symbol : List za_E := [(0, .iload_n 1, 1, 0, 0, 0), (1, .ifCond .lt 9, 4, 10, 0, 0), (4, .iload_n 1, 5, 0, 0, 0), (5, .bipush 6, 7, 0, 0, 6), (7, .if_icmp .le 13, 10, 20, 0, 0), (10, .new 48, 13, 0, 52, 0), (20, .iload_n 2, 21, 0, 0, 0), (21, .iload_n 1, 22, 0, 0, 0), (22, .invokestatic 55, 25, 16, 1, 0), (25, .iconst (-1), 26, 0, 0, (-1)), (26, .ixor, 27, 0, 0, 0), (27, .iand, 28, 0, 0, 0), (28, .ifCond .eq 13, 31, 41, 0, 0), (31, .new 48, 34, 0, 52, 0), (41, .aload_n 0, 42, 0, 0, 0), (42, .getfield 12, 45, 5, 0, 0), (45, .getfield 61, 48, 1, 0, 0), (48, .ifCond .ne 17, 51, 65, 0, 0), (51, .iload_n 2, 52, 0, 0, 0), (52, .ifCond .eq 13, 55, 65, 0, 0), (55, .new 48, 58, 0, 52, 0), (65, .aload_n 0, 66, 0, 0, 0), (66, .getfield 12, 69, 5, 0, 0), (69, .getfield 61, 72, 1, 0, 0), (72, .bipush 8, 74, 0, 0, 8), (74, .if_icmp .lt 13, 77, 87, 0, 0), (77, .new 67, 80, 1, 71, 0), (87, .aload_n 0, 88, 0, 0, 0), (88, .invokevirtual 45, 91, 15, 1, 0), (91, .aload_n 0, 92, 0, 0, 0), (92, .getfield 12, 95, 5, 0, 0), (95, .iload_n 1, 96, 0, 0, 0), (96, .iload_n 2, 97, 0, 0, 0), (97, .invokevirtual 72, 100, 73, 3, 0), (100, .ireturn, 101, 0, 0, 0)]
def zp_A_production : List za_E := [(0, .aload_n 0, 1, 0, 0, 0), (1, .getfield 12, 4, 5, 0, 0), (4, .iload_n 1, 5, 0, 0, 0), (5, .invokevirtual 76, 8, 68, 2, 0), (8, .ifCond .ne 13, 11, 21, 0, 0), (11, .new 48, 14, 0, 52, 0), (21, .aload_n 0, 22, 0, 0, 0), (22, .getfield 12, 25, 5, 0, 0), (25, .iload_n 2, 26, 0, 0, 0), (26, .invokevirtual 82, 29, 69, 2, 0), (29, .ifCond .eq 26, 32, 55, 0, 0), (32, .aload_n 0, 33, 0, 0, 0), (33, .getfield 12, 36, 5, 0, 0), (36, .iload_n 3, 37, 0, 0, 0), (37, .invokevirtual 82, 40, 69, 2, 0), (40, .ifCond .eq 15, 43, 55, 0, 0), (43, .aload_n 0, 44, 0, 0, 0), (44, .getfield 12, 47, 5, 0, 0), (47, .iload 4, 49, 0, 0, 0), (49, .invokevirtual 82, 52, 69, 2, 0), (52, .ifCond .ne 13, 55, 65, 0, 0), (55, .new 48, 58, 0, 52, 0), (65, .iload_n 2, 66, 0, 0, 0), (66, .iconst (-1), 67, 0, 0, (-1)), (67, .if_icmp .ne 8, 70, 75, 0, 0), (70, .iload_n 3, 71, 0, 0, 0), (71, .iconst (-1), 72, 0, 0, (-1)), (72, .if_icmp .ne 14, 75, 86, 0, 0), (75, .iload_n 3, 76, 0, 0, 0), (76, .iconst (-1), 77, 0, 0, (-1)), (77, .if_icmp .ne 19, 80, 96, 0, 0), (80, .iload 4, 82, 0, 0, 0), (82, .iconst (-1), 83, 0, 0, (-1)), (83, .if_icmp .eq 13, 86, 96, 0, 0), (86, .new 48, 89, 0, 52, 0), (96, .aload_n 0, 97, 0, 0, 0), (97, .getfield 12, 100, 5, 0, 0), (100, .getfield 89, 103, 1, 3, 0), (103, .bipush 16, 105, 0, 0, 16), (105, .if_icmp .lt 13, 108, 118, 0, 0), (108, .new 67, 111, 1, 71, 0), (118, .aload_n 0, 119, 0, 0, 0), (119, .invokevirtual 45, 122, 15, 1, 0), (122, .aload_n 0, 123, 0, 0, 0), (123, .getfield 12, 126, 5, 0, 0), (126, .iload_n 1, 127, 0, 0, 0), (127, .iload_n 2, 128, 0, 0, 0), (128, .iload_n 3, 129, 0, 0, 0), (129, .iload 4, 131, 0, 0, 0), (131, .invokevirtual 94, 134, 74, 5, 0), (134, .ireturn, 135, 0, 0, 0)]
def zp_A_depend : List za_E := [(0, .aload_n 0, 1, 0, 0, 0), (1, .getfield 12, 4, 5, 0, 0), (4, .iload_n 1, 5, 0, 0, 0), (5, .invokevirtual 98, 8, 70, 2, 0), (8, .ifCond .ne 13, 11, 21, 0, 0), (11, .new 101, 14, 2, 105, 0), (21, .aload_n 0, 22, 0, 0, 0), (22, .getfield 12, 25, 5, 0, 0), (25, .iload_n 1, 26, 0, 0, 0), (26, .iload_n 2, 27, 0, 0, 0), (27, .invokevirtual 106, 30, 71, 3, 0), (30, .ifCond .ne 13, 33, 43, 0, 0), (33, .new 48, 36, 0, 52, 0), (43, .aload_n 0, 44, 0, 0, 0), (44, .getfield 12, 47, 5, 0, 0), (47, .iload_n 1, 48, 0, 0, 0), (48, .iload_n 3, 49, 0, 0, 0), (49, .invokevirtual 112, 52, 72, 3, 0), (52, .ifCond .ne 13, 55, 65, 0, 0), (55, .new 48, 58, 0, 52, 0), (65, .aload_n 0, 66, 0, 0, 0), (66, .getfield 12, 69, 5, 0, 0), (69, .iload_n 1, 70, 0, 0, 0), (70, .iload_n 2, 71, 0, 0, 0), (71, .iload_n 3, 72, 0, 0, 0), (72, .invokevirtual 117, 75, 76, 4, 0), (75, .ifCond .ne 5, 78, 80, 0, 0), (78, .iconst 0, 79, 0, 0, 0), (79, .ireturn, 80, 0, 0, 0), (80, .aload_n 0, 81, 0, 0, 0), (81, .invokevirtual 45, 84, 15, 1, 0), (84, .iconst 1, 85, 0, 0, 1), (85, .ireturn, 86, 0, 0, 0)]
def zp_A_graphs : List za_E := [(0, .aload_n 0, 1, 0, 0, 0), (1, .iload_n 1, 2, 0, 0, 0), (2, .invokevirtual 121, 5, 11, 2, 0), (5, .aload_n 0, 6, 0, 0, 0), (6, .invokevirtual 125, 9, 13, 1, 0), (9, .aload_n 0, 10, 0, 0, 0), (10, .getfield 19, 13, 5, 1, 0), (13, .getfield 128, 16, 4, 3, 0), (16, .iload_n 1, 17, 0, 0, 0), (17, .iaload, 18, 0, 0, 0), (18, .ireturn, 19, 0, 0, 0)]
def zp_A_circular : List za_E := [(0, .aload_n 0, 1, 0, 0, 0), (1, .invokevirtual 125, 4, 13, 1, 0), (4, .aload_n 0, 5, 0, 0, 0), (5, .getfield 19, 8, 5, 1, 0), (8, .getfield 132, 11, 4, 2, 0), (11, .ireturn, 12, 0, 0, 0)]
def zp_A_strong : List za_E := [(0, .aload_n 0, 1, 0, 0, 0), (1, .getfield 26, 4, 5, 2, 0), (4, .aload_n 0, 5, 0, 0, 0), (5, .getfield 12, 8, 5, 0, 0), (8, .invokevirtual 136, 11, 87, 2, 0), (11, .aload_n 0, 12, 0, 0, 0), (12, .getfield 26, 15, 5, 2, 0), (15, .getfield 140, 18, 3, 1, 0), (18, .ifCond .ne 7, 21, 25, 0, 0), (21, .iconst 1, 22, 0, 0, 1), (22, .goto 4, 25, 26, 0, 0), (25, .iconst 0, 26, 0, 0, 0), (26, .ireturn, 27, 0, 0, 0)]
def zp_A_doubly : List za_E := [(0, .aload_n 0, 1, 0, 0, 0), (1, .getfield 26, 4, 5, 2, 0), (4, .aload_n 0, 5, 0, 0, 0), (5, .getfield 12, 8, 5, 0, 0), (8, .invokevirtual 136, 11, 87, 2, 0), (11, .aload_n 0, 12, 0, 0, 0), (12, .getfield 26, 15, 5, 2, 0), (15, .getfield 143, 18, 3, 2, 0), (18, .ifCond .ne 7, 21, 25, 0, 0), (21, .iconst 1, 22, 0, 0, 1), (22, .goto 4, 25, 26, 0, 0), (25, .iconst 0, 26, 0, 0, 0), (26, .ireturn, 27, 0, 0, 0)]
def zp_A_relation : List za_E := [(0, .aload_n 0, 1, 0, 0, 0), (1, .iload_n 1, 2, 0, 0, 0), (2, .invokevirtual 121, 5, 11, 2, 0), (5, .aload_n 0, 6, 0, 0, 0), (6, .iload_n 1, 7, 0, 0, 0), (7, .iload_n 2, 8, 0, 0, 0), (8, .invokevirtual 146, 11, 12, 3, 0), (11, .aload_n 0, 12, 0, 0, 0), (12, .getfield 26, 15, 5, 2, 0), (15, .aload_n 0, 16, 0, 0, 0), (16, .getfield 12, 19, 5, 0, 0), (19, .invokevirtual 136, 22, 87, 2, 0), (22, .aload_n 0, 23, 0, 0, 0), (23, .getfield 26, 26, 5, 2, 0), (26, .getfield 150, 29, 3, 3, 0), (29, .iload_n 1, 30, 0, 0, 0), (30, .baload, 31, 0, 0, 0), (31, .ifCond .ne 5, 34, 36, 0, 0), (34, .iconst (-1), 35, 0, 0, (-1)), (35, .ireturn, 36, 0, 0, 0), (36, .iload_n 3, 37, 0, 0, 0), (37, .ifCond .eq 15, 40, 52, 0, 0), (40, .aload_n 0, 41, 0, 0, 0), (41, .getfield 26, 44, 5, 2, 0), (44, .getfield 154, 47, 3, 5, 0), (47, .iload_n 1, 48, 0, 0, 0), (48, .laload, 49, 0, 0, 0), (49, .goto 12, 52, 61, 0, 0), (52, .aload_n 0, 53, 0, 0, 0), (53, .getfield 26, 56, 5, 2, 0), (56, .getfield 158, 59, 3, 4, 0), (59, .iload_n 1, 60, 0, 0, 0), (60, .laload, 61, 0, 0, 0), (61, .iload_n 2, 62, 0, 0, 0), (62, .invokestatic 161, 65, 18, 2, 0), (65, .ireturn, 66, 0, 0, 0)]
def zp_A_pass : List za_E := [(0, .aload_n 0, 1, 0, 0, 0), (1, .iload_n 1, 2, 0, 0, 0), (2, .invokevirtual 121, 5, 11, 2, 0), (5, .aload_n 0, 6, 0, 0, 0), (6, .iload_n 1, 7, 0, 0, 0), (7, .iload_n 2, 8, 0, 0, 0), (8, .invokevirtual 146, 11, 12, 3, 0), (11, .aload_n 0, 12, 0, 0, 0), (12, .iload_n 3, 13, 0, 0, 0), (13, .invokevirtual 165, 16, 14, 2, 0), (16, .getfield 169, 19, 2, 3, 0), (19, .iload_n 1, 20, 0, 0, 0), (20, .aaload, 21, 0, 0, 0), (21, .iload_n 2, 22, 0, 0, 0), (22, .iaload, 23, 0, 0, 0), (23, .ireturn, 24, 0, 0, 0)]
def zp_A_passes : List za_E := [(0, .aload_n 0, 1, 0, 0, 0), (1, .iload_n 1, 2, 0, 0, 0), (2, .invokevirtual 165, 5, 14, 2, 0), (5, .astore_n 2, 6, 0, 0, 0), (6, .aload_n 2, 7, 0, 0, 0), (7, .getfield 173, 10, 2, 1, 0), (10, .ifCond .eq 10, 13, 20, 0, 0), (13, .aload_n 2, 14, 0, 0, 0), (14, .getfield 176, 17, 2, 2, 0), (17, .goto 4, 20, 21, 0, 0), (20, .iconst (-1), 21, 0, 0, (-1)), (21, .ireturn, 22, 0, 0, 0)]
def zp_A_checkSymbol : List za_E := [(0, .aload_n 0, 1, 0, 0, 0), (1, .getfield 12, 4, 5, 0, 0), (4, .iload_n 1, 5, 0, 0, 0), (5, .invokevirtual 76, 8, 68, 2, 0), (8, .ifCond .ne 13, 11, 21, 0, 0), (11, .new 101, 14, 2, 105, 0), (21, .return_, 22, 0, 0, 0)]
def zp_A_checkAttribute : List za_E := [(0, .iload_n 2, 1, 0, 0, 0), (1, .ifCond .lt 16, 4, 17, 0, 0), (4, .iload_n 2, 5, 0, 0, 0), (5, .aload_n 0, 6, 0, 0, 0), (6, .getfield 12, 9, 5, 0, 0), (9, .getfield 181, 12, 1, 1, 0), (12, .iload_n 1, 13, 0, 0, 0), (13, .iaload, 14, 0, 0, 0), (14, .if_icmp .lt 13, 17, 27, 0, 0), (17, .new 101, 20, 2, 105, 0), (27, .return_, 28, 0, 0, 0)]
def zp_A_findGraphs : List za_E := [(0, .aload_n 0, 1, 0, 0, 0), (1, .getfield 19, 4, 5, 1, 0), (4, .aload_n 0, 5, 0, 0, 0), (5, .getfield 12, 8, 5, 0, 0), (8, .invokevirtual 186, 11, 95, 2, 0), (11, .aload_n 0, 12, 0, 0, 0), (12, .getfield 19, 15, 5, 1, 0), (15, .getfield 187, 18, 4, 1, 0), (18, .ifCond .eq 13, 21, 31, 0, 0), (21, .new 67, 24, 1, 71, 0), (31, .return_, 32, 0, 0, 0)]
def zp_A_numbering : List za_E := [(0, .iload_n 1, 1, 0, 0, 0), (1, .ifCond .eq 10, 4, 11, 0, 0), (4, .aload_n 0, 5, 0, 0, 0), (5, .getfield 39, 8, 5, 4, 0), (8, .goto 7, 11, 15, 0, 0), (11, .aload_n 0, 12, 0, 0, 0), (12, .getfield 35, 15, 5, 3, 0), (15, .astore_n 2, 16, 0, 0, 0), (16, .aload_n 2, 17, 0, 0, 0), (17, .aload_n 0, 18, 0, 0, 0), (18, .getfield 12, 21, 5, 0, 0), (21, .invokevirtual 192, 24, 80, 2, 0), (24, .aload_n 2, 25, 0, 0, 0), (25, .areturn, 26, 0, 0, 0)]
def zp_A_forgetAnswers : List za_E := [(0, .aload_n 0, 1, 0, 0, 0), (1, .getfield 19, 4, 5, 1, 0), (4, .iconst 0, 5, 0, 0, 0), (5, .putfield 193, 8, 4, 0, 0), (8, .aload_n 0, 9, 0, 0, 0), (9, .getfield 26, 12, 5, 2, 0), (12, .iconst 0, 13, 0, 0, 0), (13, .putfield 196, 16, 3, 0, 0), (16, .aload_n 0, 17, 0, 0, 0), (17, .getfield 35, 20, 5, 3, 0), (20, .iconst 0, 21, 0, 0, 0), (21, .putfield 197, 24, 2, 0, 0), (24, .aload_n 0, 25, 0, 0, 0), (25, .getfield 39, 28, 5, 4, 0), (28, .iconst 0, 29, 0, 0, 0), (29, .putfield 197, 32, 2, 0, 0), (32, .return_, 33, 0, 0, 0)]
def zp_A_firstBits : List za_E := [(0, .iconst 1, 1, 0, 0, 1), (1, .iload_n 0, 2, 0, 0, 0), (2, .ishl, 3, 0, 0, 0), (3, .iconst 1, 4, 0, 0, 1), (4, .isub, 5, 0, 0, 0), (5, .ireturn, 6, 0, 0, 0)]
def zp_A_hasBit : List za_E := [(0, .iload_n 0, 1, 0, 0, 0), (1, .iload_n 1, 2, 0, 0, 0), (2, .iushr, 3, 0, 0, 0), (3, .iconst 1, 4, 0, 0, 1), (4, .iand, 5, 0, 0, 0), (5, .ifCond .eq 7, 8, 12, 0, 0), (8, .iconst 1, 9, 0, 0, 1), (9, .goto 4, 12, 13, 0, 0), (12, .iconst 0, 13, 0, 0, 0), (13, .ireturn, 14, 0, 0, 0)]
def zp_A_rowOf : List za_E := [(0, .lload_n 0, 1, 0, 0, 0), (1, .bipush 8, 3, 0, 0, 8), (3, .iload_n 2, 4, 0, 0, 0), (4, .imul, 5, 0, 0, 0), (5, .lushr, 6, 0, 0, 0), (6, .l2i, 7, 0, 0, 0), (7, .sipush 255, 10, 0, 0, 255), (10, .iand, 11, 0, 0, 0), (11, .ireturn, 12, 0, 0, 0)]
def zp_M_thrown : List za_E := [(0, .aload_n 0, 1, 0, 0, 0), (1, .getfield 51, 4, 6, 0, 0), (4, .ireturn, 5, 0, 0, 0)]
def zp_M_refuse : List za_E := [(0, .aload_n 0, 1, 0, 0, 0), (1, .iload_n 1, 2, 0, 0, 0), (2, .ifCond .eq 7, 5, 9, 0, 0), (5, .iconst 1, 6, 0, 0, 1), (6, .goto 12, 9, 18, 0, 0), (9, .iload_n 2, 10, 0, 0, 0), (10, .ifCond .eq 7, 13, 17, 0, 0), (13, .iconst 2, 14, 0, 0, 2), (14, .goto 4, 17, 18, 0, 0), (17, .iconst 0, 18, 0, 0, 0), (18, .putfield 51, 21, 6, 0, 0), (21, .aload_n 0, 22, 0, 0, 0), (22, .getfield 51, 25, 6, 0, 0), (25, .ifCond .le 7, 28, 32, 0, 0), (28, .iconst 1, 29, 0, 0, 1), (29, .goto 4, 32, 33, 0, 0), (32, .iconst 0, 33, 0, 0, 0), (33, .ireturn, 34, 0, 0, 0)]
def zp_M_in : List za_E := [(0, .iload_n 0, 1, 0, 0, 0), (1, .iload_n 1, 2, 0, 0, 0), (2, .if_icmp .lt 12, 5, 14, 0, 0), (5, .iload_n 0, 6, 0, 0, 0), (6, .iload_n 2, 7, 0, 0, 0), (7, .if_icmp .gt 7, 10, 14, 0, 0), (10, .iconst 1, 11, 0, 0, 1), (11, .goto 4, 14, 15, 0, 0), (14, .iconst 0, 15, 0, 0, 0), (15, .ireturn, 16, 0, 0, 0)]
def zp_M_clear : List za_E := [(0, .aload_n 0, 1, 0, 0, 0), (1, .iconst 0, 2, 0, 0, 0), (2, .putfield 51, 5, 6, 0, 0), (5, .aload_n 0, 6, 0, 0, 0), (6, .iconst 0, 7, 0, 0, 0), (7, .putfield 55, 10, 6, 1, 0), (10, .aload_n 0, 11, 0, 0, 0), (11, .iconst 0, 12, 0, 0, 0), (12, .putfield 58, 15, 6, 4, 0), (15, .iconst 0, 16, 0, 0, 0), (16, .istore_n 1, 17, 0, 0, 0), (17, .iload_n 1, 18, 0, 0, 0), (18, .bipush 64, 20, 0, 0, 64), (20, .if_icmp .ge 16, 23, 36, 0, 0), (23, .aload_n 0, 24, 0, 0, 0), (24, .getfield 16, 27, 6, 5, 0), (27, .iload_n 1, 28, 0, 0, 0), (28, .iconst (-1), 29, 0, 0, (-1)), (29, .iastore, 30, 0, 0, 0), (30, .iinc 1 1, 33, 0, 0, 1), (33, .goto (-16), 36, 17, 0, 0), (36, .iconst 0, 37, 0, 0, 0), (37, .istore_n 1, 38, 0, 0, 0), (38, .iload_n 1, 39, 0, 0, 0), (39, .sipush 512, 42, 0, 0, 512), (42, .if_icmp .ge 16, 45, 58, 0, 0), (45, .aload_n 0, 46, 0, 0, 0), (46, .getfield 19, 49, 6, 6, 0), (49, .iload_n 1, 50, 0, 0, 0), (50, .iconst 0, 51, 0, 0, 0), (51, .iastore, 52, 0, 0, 0), (52, .iinc 1 1, 55, 0, 0, 1), (55, .goto (-17), 58, 38, 0, 0), (58, .aload_n 0, 59, 0, 0, 0), (59, .invokevirtual 61, 62, 23, 1, 0), (62, .return_, 63, 0, 0, 0)]
def zp_M_forget : List za_E := [(0, .aload_n 0, 1, 0, 0, 0), (1, .iconst 0, 2, 0, 0, 0), (2, .putfield 64, 5, 6, 7, 0), (5, .aload_n 0, 6, 0, 0, 0), (6, .iconst 0, 7, 0, 0, 0), (7, .putfield 68, 10, 6, 14, 0), (10, .return_, 11, 0, 0, 0)]
def zp_M_symbol : List za_E := [(0, .iload_n 1, 1, 0, 0, 0), (1, .iconst 0, 2, 0, 0, 0), (2, .bipush 6, 4, 0, 0, 6), (4, .invokestatic 71, 7, 21, 3, 0), (7, .ifCond .eq 45, 10, 52, 0, 0), (10, .iload_n 2, 11, 0, 0, 0), (11, .iconst 0, 12, 0, 0, 0), (12, .iconst 1, 13, 0, 0, 1), (13, .iload_n 1, 14, 0, 0, 0), (14, .iconst 0, 15, 0, 0, 0), (15, .bipush 6, 17, 0, 0, 6), (17, .invokestatic 71, 20, 21, 3, 0), (20, .ifCond .eq 7, 23, 27, 0, 0), (23, .iload_n 1, 24, 0, 0, 0), (24, .goto 4, 27, 28, 0, 0), (27, .iconst 0, 28, 0, 0, 0), (28, .ishl, 29, 0, 0, 0), (29, .iconst 1, 30, 0, 0, 1), (30, .isub, 31, 0, 0, 0), (31, .invokestatic 71, 34, 21, 3, 0), (34, .ifCond .eq 18, 37, 52, 0, 0), (37, .aload_n 0, 38, 0, 0, 0), (38, .getfield 55, 41, 6, 1, 0), (41, .ifCond .gt 7, 44, 48, 0, 0), (44, .iload_n 2, 45, 0, 0, 0), (45, .ifCond .ne 7, 48, 52, 0, 0), (48, .iconst 1, 49, 0, 0, 1), (49, .goto 4, 52, 53, 0, 0), (52, .iconst 0, 53, 0, 0, 0), (53, .istore_n 3, 54, 0, 0, 0), (54, .aload_n 0, 55, 0, 0, 0), (55, .iload_n 3, 56, 0, 0, 0), (56, .ifCond .ne 7, 59, 63, 0, 0), (59, .iconst 1, 60, 0, 0, 1), (60, .goto 4, 63, 64, 0, 0), (63, .iconst 0, 64, 0, 0, 0), (64, .aload_n 0, 65, 0, 0, 0), (65, .getfield 55, 68, 6, 1, 0), (68, .bipush 8, 70, 0, 0, 8), (70, .if_icmp .ne 7, 73, 77, 0, 0), (73, .iconst 1, 74, 0, 0, 1), (74, .goto 4, 77, 78, 0, 0), (77, .iconst 0, 78, 0, 0, 0), (78, .invokevirtual 75, 81, 20, 3, 0), (81, .ifCond .eq 5, 84, 86, 0, 0), (84, .iconst 0, 85, 0, 0, 0), (85, .ireturn, 86, 0, 0, 0), (86, .aload_n 0, 87, 0, 0, 0), (87, .getfield 7, 90, 6, 2, 0), (90, .aload_n 0, 91, 0, 0, 0), (91, .getfield 55, 94, 6, 1, 0), (94, .iload_n 1, 95, 0, 0, 0), (95, .iastore, 96, 0, 0, 0), (96, .aload_n 0, 97, 0, 0, 0), (97, .getfield 13, 100, 6, 3, 0), (100, .aload_n 0, 101, 0, 0, 0), (101, .getfield 55, 104, 6, 1, 0), (104, .iload_n 2, 105, 0, 0, 0), (105, .iastore, 106, 0, 0, 0), (106, .aload_n 0, 107, 0, 0, 0), (107, .dup, 108, 0, 0, 0), (108, .getfield 55, 111, 6, 1, 0), (111, .iconst 1, 112, 0, 0, 1), (112, .iadd, 113, 0, 0, 0), (113, .putfield 55, 116, 6, 1, 0), (116, .aload_n 0, 117, 0, 0, 0), (117, .invokevirtual 61, 120, 23, 1, 0), (120, .aload_n 0, 121, 0, 0, 0), (121, .getfield 55, 124, 6, 1, 0), (124, .iconst 1, 125, 0, 0, 1), (125, .isub, 126, 0, 0, 0), (126, .ireturn, 127, 0, 0, 0)]
def zp_M_isSymbol : List za_E := [(0, .iload_n 1, 1, 0, 0, 0), (1, .iconst 0, 2, 0, 0, 0), (2, .aload_n 0, 3, 0, 0, 0), (3, .getfield 55, 6, 6, 1, 0), (6, .iconst 1, 7, 0, 0, 1), (7, .isub, 8, 0, 0, 0), (8, .invokestatic 71, 11, 21, 3, 0), (11, .ireturn, 12, 0, 0, 0)]
def zp_M_production : List za_E := [(0, .aload_n 0, 1, 0, 0, 0), (1, .iload_n 1, 2, 0, 0, 0), (2, .invokevirtual 79, 5, 25, 2, 0), (5, .ifCond .eq 58, 8, 63, 0, 0), (8, .iload_n 2, 9, 0, 0, 0), (9, .iconst (-1), 10, 0, 0, (-1)), (10, .if_icmp .eq 11, 13, 21, 0, 0), (13, .aload_n 0, 14, 0, 0, 0), (14, .iload_n 2, 15, 0, 0, 0), (15, .invokevirtual 79, 18, 25, 2, 0), (18, .ifCond .eq 45, 21, 63, 0, 0), (21, .iload_n 3, 22, 0, 0, 0), (22, .iconst (-1), 23, 0, 0, (-1)), (23, .if_icmp .eq 16, 26, 39, 0, 0), (26, .iload_n 2, 27, 0, 0, 0), (27, .iconst (-1), 28, 0, 0, (-1)), (28, .if_icmp .eq 35, 31, 63, 0, 0), (31, .aload_n 0, 32, 0, 0, 0), (32, .iload_n 3, 33, 0, 0, 0), (33, .invokevirtual 79, 36, 25, 2, 0), (36, .ifCond .eq 27, 39, 63, 0, 0), (39, .iload 4, 41, 0, 0, 0), (41, .iconst (-1), 42, 0, 0, (-1)), (42, .if_icmp .eq 17, 45, 59, 0, 0), (45, .iload_n 3, 46, 0, 0, 0), (46, .iconst (-1), 47, 0, 0, (-1)), (47, .if_icmp .eq 16, 50, 63, 0, 0), (50, .aload_n 0, 51, 0, 0, 0), (51, .iload 4, 53, 0, 0, 0), (53, .invokevirtual 79, 56, 25, 2, 0), (56, .ifCond .eq 7, 59, 63, 0, 0), (59, .iconst 1, 60, 0, 0, 1), (60, .goto 4, 63, 64, 0, 0), (63, .iconst 0, 64, 0, 0, 0), (64, .istore 5, 66, 0, 0, 0), (66, .aload_n 0, 67, 0, 0, 0), (67, .iload 5, 69, 0, 0, 0), (69, .ifCond .ne 7, 72, 76, 0, 0), (72, .iconst 1, 73, 0, 0, 1), (73, .goto 4, 76, 77, 0, 0), (76, .iconst 0, 77, 0, 0, 0), (77, .aload_n 0, 78, 0, 0, 0), (78, .getfield 58, 81, 6, 4, 0), (81, .bipush 16, 83, 0, 0, 16), (83, .if_icmp .ne 7, 86, 90, 0, 0), (86, .iconst 1, 87, 0, 0, 1), (87, .goto 4, 90, 91, 0, 0), (90, .iconst 0, 91, 0, 0, 0), (91, .invokevirtual 75, 94, 20, 3, 0), (94, .ifCond .eq 5, 97, 99, 0, 0), (97, .iconst 0, 98, 0, 0, 0), (98, .ireturn, 99, 0, 0, 0), (99, .aload_n 0, 100, 0, 0, 0), (100, .getfield 16, 103, 6, 5, 0), (103, .iconst 4, 104, 0, 0, 4), (104, .aload_n 0, 105, 0, 0, 0), (105, .getfield 58, 108, 6, 4, 0), (108, .imul, 109, 0, 0, 0), (109, .iload_n 1, 110, 0, 0, 0), (110, .iastore, 111, 0, 0, 0), (111, .aload_n 0, 112, 0, 0, 0), (112, .getfield 16, 115, 6, 5, 0), (115, .iconst 4, 116, 0, 0, 4), (116, .aload_n 0, 117, 0, 0, 0), (117, .getfield 58, 120, 6, 4, 0), (120, .imul, 121, 0, 0, 0), (121, .iconst 1, 122, 0, 0, 1), (122, .iadd, 123, 0, 0, 0), (123, .iload_n 2, 124, 0, 0, 0), (124, .iastore, 125, 0, 0, 0), (125, .aload_n 0, 126, 0, 0, 0), (126, .getfield 16, 129, 6, 5, 0), (129, .iconst 4, 130, 0, 0, 4), (130, .aload_n 0, 131, 0, 0, 0), (131, .getfield 58, 134, 6, 4, 0), (134, .imul, 135, 0, 0, 0), (135, .iconst 2, 136, 0, 0, 2), (136, .iadd, 137, 0, 0, 0), (137, .iload_n 3, 138, 0, 0, 0), (138, .iastore, 139, 0, 0, 0), (139, .aload_n 0, 140, 0, 0, 0), (140, .getfield 16, 143, 6, 5, 0), (143, .iconst 4, 144, 0, 0, 4), (144, .aload_n 0, 145, 0, 0, 0), (145, .getfield 58, 148, 6, 4, 0), (148, .imul, 149, 0, 0, 0), (149, .iconst 3, 150, 0, 0, 3), (150, .iadd, 151, 0, 0, 0), (151, .iload 4, 153, 0, 0, 0), (153, .iastore, 154, 0, 0, 0), (154, .aload_n 0, 155, 0, 0, 0), (155, .dup, 156, 0, 0, 0), (156, .getfield 58, 159, 6, 4, 0), (159, .iconst 1, 160, 0, 0, 1), (160, .iadd, 161, 0, 0, 0), (161, .putfield 58, 164, 6, 4, 0), (164, .aload_n 0, 165, 0, 0, 0), (165, .invokevirtual 61, 168, 23, 1, 0), (168, .aload_n 0, 169, 0, 0, 0), (169, .getfield 58, 172, 6, 4, 0), (172, .iconst 1, 173, 0, 0, 1), (173, .isub, 174, 0, 0, 0), (174, .ireturn, 175, 0, 0, 0)]
def zp_M_isDown : List za_E := [(0, .aload_n 0, 1, 0, 0, 0), (1, .getfield 13, 4, 6, 3, 0), (4, .iload_n 1, 5, 0, 0, 0), (5, .iaload, 6, 0, 0, 0), (6, .iload_n 2, 7, 0, 0, 0), (7, .ishr, 8, 0, 0, 0), (8, .iconst 1, 9, 0, 0, 1), (9, .iand, 10, 0, 0, 0), (10, .iconst 1, 11, 0, 0, 1), (11, .if_icmp .ne 7, 14, 18, 0, 0), (14, .iconst 1, 15, 0, 0, 1), (15, .goto 4, 18, 19, 0, 0), (18, .iconst 0, 19, 0, 0, 0), (19, .ireturn, 20, 0, 0, 0)]
def zp_M_symbolOf : List za_E := [(0, .iload_n 2, 1, 0, 0, 0), (1, .iconst 0, 2, 0, 0, 0), (2, .iconst 3, 3, 0, 0, 3), (3, .invokestatic 71, 6, 21, 3, 0), (6, .ifCond .eq 16, 9, 22, 0, 0), (9, .aload_n 0, 10, 0, 0, 0), (10, .getfield 16, 13, 6, 5, 0), (13, .iconst 4, 14, 0, 0, 4), (14, .iload_n 1, 15, 0, 0, 0), (15, .imul, 16, 0, 0, 0), (16, .iload_n 2, 17, 0, 0, 0), (17, .iadd, 18, 0, 0, 0), (18, .iaload, 19, 0, 0, 0), (19, .goto 4, 22, 23, 0, 0), (22, .iconst (-1), 23, 0, 0, (-1)), (23, .ireturn, 24, 0, 0, 0)]
def zp_M_isThere : List za_E := [(0, .iload_n 2, 1, 0, 0, 0), (1, .ifCond .ge 7, 4, 8, 0, 0), (4, .iconst (-1), 5, 0, 0, (-1)), (5, .goto 12, 8, 17, 0, 0), (8, .aload_n 0, 9, 0, 0, 0), (9, .iload_n 1, 10, 0, 0, 0), (10, .iload_n 2, 11, 0, 0, 0), (11, .bipush 8, 13, 0, 0, 8), (13, .idiv, 14, 0, 0, 0), (14, .invokevirtual 83, 17, 28, 3, 0), (17, .istore_n 3, 18, 0, 0, 0), (18, .iload_n 3, 19, 0, 0, 0), (19, .ifCond .lt 20, 22, 39, 0, 0), (22, .iload_n 2, 23, 0, 0, 0), (23, .bipush 8, 25, 0, 0, 8), (25, .irem, 26, 0, 0, 0), (26, .aload_n 0, 27, 0, 0, 0), (27, .getfield 7, 30, 6, 2, 0), (30, .iload_n 3, 31, 0, 0, 0), (31, .iaload, 32, 0, 0, 0), (32, .if_icmp .ge 7, 35, 39, 0, 0), (35, .iconst 1, 36, 0, 0, 1), (36, .goto 4, 39, 40, 0, 0), (39, .iconst 0, 40, 0, 0, 0), (40, .ireturn, 41, 0, 0, 0)]
def zp_M_defines : List za_E := [(0, .aload_n 0, 1, 0, 0, 0), (1, .iload_n 1, 2, 0, 0, 0), (2, .iload_n 2, 3, 0, 0, 0), (3, .invokevirtual 87, 6, 29, 3, 0), (6, .ifCond .eq 38, 9, 44, 0, 0), (9, .aload_n 0, 10, 0, 0, 0), (10, .aload_n 0, 11, 0, 0, 0), (11, .iload_n 1, 12, 0, 0, 0), (12, .iload_n 2, 13, 0, 0, 0), (13, .bipush 8, 15, 0, 0, 8), (15, .idiv, 16, 0, 0, 0), (16, .invokevirtual 83, 19, 28, 3, 0), (19, .iload_n 2, 20, 0, 0, 0), (20, .bipush 8, 22, 0, 0, 8), (22, .irem, 23, 0, 0, 0), (23, .invokevirtual 91, 26, 27, 3, 0), (26, .iload_n 2, 27, 0, 0, 0), (27, .bipush 7, 29, 0, 0, 7), (29, .if_icmp .le 7, 32, 36, 0, 0), (32, .iconst 1, 33, 0, 0, 1), (33, .goto 4, 36, 37, 0, 0), (36, .iconst 0, 37, 0, 0, 0), (37, .if_icmp .ne 7, 40, 44, 0, 0), (40, .iconst 1, 41, 0, 0, 1), (41, .goto 4, 44, 45, 0, 0), (44, .iconst 0, 45, 0, 0, 0), (45, .ireturn, 46, 0, 0, 0)]
def zp_M_depend : List za_E := [(0, .iload_n 1, 1, 0, 0, 0), (1, .iconst 0, 2, 0, 0, 0), (2, .aload_n 0, 3, 0, 0, 0), (3, .getfield 58, 6, 6, 4, 0), (6, .iconst 1, 7, 0, 0, 1), (7, .isub, 8, 0, 0, 0), (8, .invokestatic 71, 11, 21, 3, 0), (11, .istore 4, 13, 0, 0, 0), (13, .iload 4, 15, 0, 0, 0), (15, .ifCond .eq 43, 18, 58, 0, 0), (18, .aload_n 0, 19, 0, 0, 0), (19, .iload_n 1, 20, 0, 0, 0), (20, .iload_n 2, 21, 0, 0, 0), (21, .invokevirtual 87, 24, 29, 3, 0), (24, .ifCond .eq 34, 27, 58, 0, 0), (27, .aload_n 0, 28, 0, 0, 0), (28, .iload_n 1, 29, 0, 0, 0), (29, .iload_n 3, 30, 0, 0, 0), (30, .invokevirtual 87, 33, 29, 3, 0), (33, .ifCond .eq 25, 36, 58, 0, 0), (36, .aload_n 0, 37, 0, 0, 0), (37, .iload_n 1, 38, 0, 0, 0), (38, .iload_n 2, 39, 0, 0, 0), (39, .invokevirtual 94, 42, 30, 3, 0), (42, .ifCond .eq 16, 45, 58, 0, 0), (45, .aload_n 0, 46, 0, 0, 0), (46, .iload_n 1, 47, 0, 0, 0), (47, .iload_n 3, 48, 0, 0, 0), (48, .invokevirtual 94, 51, 30, 3, 0), (51, .ifCond .ne 7, 54, 58, 0, 0), (54, .iconst 1, 55, 0, 0, 1), (55, .goto 4, 58, 59, 0, 0), (58, .iconst 0, 59, 0, 0, 0), (59, .istore 5, 61, 0, 0, 0), (61, .aload_n 0, 62, 0, 0, 0), (62, .iload 4, 64, 0, 0, 0), (64, .ifCond .ne 7, 67, 71, 0, 0), (67, .iconst 1, 68, 0, 0, 1), (68, .goto 4, 71, 72, 0, 0), (71, .iconst 0, 72, 0, 0, 0), (72, .iload 4, 74, 0, 0, 0), (74, .ifCond .eq 12, 77, 86, 0, 0), (77, .iload 5, 79, 0, 0, 0), (79, .ifCond .ne 7, 82, 86, 0, 0), (82, .iconst 1, 83, 0, 0, 1), (83, .goto 4, 86, 87, 0, 0), (86, .iconst 0, 87, 0, 0, 0), (87, .invokevirtual 75, 90, 20, 3, 0), (90, .ifCond .eq 5, 93, 95, 0, 0), (93, .iconst 0, 94, 0, 0, 0), (94, .ireturn, 95, 0, 0, 0), (95, .aload_n 0, 96, 0, 0, 0), (96, .getfield 19, 99, 6, 6, 0), (99, .bipush 32, 101, 0, 0, 32), (101, .iload_n 1, 102, 0, 0, 0), (102, .imul, 103, 0, 0, 0), (103, .iload_n 2, 104, 0, 0, 0), (104, .iadd, 105, 0, 0, 0), (105, .iaload, 106, 0, 0, 0), (106, .iload_n 3, 107, 0, 0, 0), (107, .ishr, 108, 0, 0, 0), (108, .iconst 1, 109, 0, 0, 1), (109, .iand, 110, 0, 0, 0), (110, .ifCond .ne 7, 113, 117, 0, 0), (113, .iconst 1, 114, 0, 0, 1), (114, .goto 4, 117, 118, 0, 0), (117, .iconst 0, 118, 0, 0, 0), (118, .istore 6, 120, 0, 0, 0), (120, .aload_n 0, 121, 0, 0, 0), (121, .getfield 19, 124, 6, 6, 0), (124, .bipush 32, 126, 0, 0, 32), (126, .iload_n 1, 127, 0, 0, 0), (127, .imul, 128, 0, 0, 0), (128, .iload_n 2, 129, 0, 0, 0), (129, .iadd, 130, 0, 0, 0), (130, .aload_n 0, 131, 0, 0, 0), (131, .getfield 19, 134, 6, 6, 0), (134, .bipush 32, 136, 0, 0, 32), (136, .iload_n 1, 137, 0, 0, 0), (137, .imul, 138, 0, 0, 0), (138, .iload_n 2, 139, 0, 0, 0), (139, .iadd, 140, 0, 0, 0), (140, .iaload, 141, 0, 0, 0), (141, .iconst 1, 142, 0, 0, 1), (142, .iload_n 3, 143, 0, 0, 0), (143, .ishl, 144, 0, 0, 0), (144, .ior, 145, 0, 0, 0), (145, .iastore, 146, 0, 0, 0), (146, .aload_n 0, 147, 0, 0, 0), (147, .invokevirtual 61, 150, 23, 1, 0), (150, .iload 6, 152, 0, 0, 0), (152, .ireturn, 153, 0, 0, 0)]
def zp_M_takeDepends : List za_E := [(0, .iconst 0, 1, 0, 0, 0), (1, .istore_n 2, 2, 0, 0, 0), (2, .iload_n 2, 3, 0, 0, 0), (3, .bipush 32, 5, 0, 0, 32), (5, .if_icmp .ge 26, 8, 31, 0, 0), (8, .aload_n 0, 9, 0, 0, 0), (9, .getfield 32, 12, 6, 13, 0), (12, .iload_n 2, 13, 0, 0, 0), (13, .aload_n 0, 14, 0, 0, 0), (14, .getfield 19, 17, 6, 6, 0), (17, .bipush 32, 19, 0, 0, 32), (19, .iload_n 1, 20, 0, 0, 0), (20, .imul, 21, 0, 0, 0), (21, .iload_n 2, 22, 0, 0, 0), (22, .iadd, 23, 0, 0, 0), (23, .iaload, 24, 0, 0, 0), (24, .iastore, 25, 0, 0, 0), (25, .iinc 2 1, 28, 0, 0, 1), (28, .goto (-26), 31, 2, 0, 0), (31, .return_, 32, 0, 0, 0)]
def zp_M_follow : List za_E := [(0, .iconst 0, 1, 0, 0, 0), (1, .istore_n 1, 2, 0, 0, 0), (2, .iload_n 1, 3, 0, 0, 0), (3, .bipush 32, 5, 0, 0, 32), (5, .if_icmp .ge 65, 8, 70, 0, 0), (8, .iconst 0, 9, 0, 0, 0), (9, .istore_n 2, 10, 0, 0, 0), (10, .iload_n 2, 11, 0, 0, 0), (11, .bipush 32, 13, 0, 0, 32), (13, .if_icmp .ge 51, 16, 64, 0, 0), (16, .aload_n 0, 17, 0, 0, 0), (17, .getfield 32, 20, 6, 13, 0), (20, .iload_n 2, 21, 0, 0, 0), (21, .aload_n 0, 22, 0, 0, 0), (22, .getfield 32, 25, 6, 13, 0), (25, .iload_n 2, 26, 0, 0, 0), (26, .iaload, 27, 0, 0, 0), (27, .iload_n 1, 28, 0, 0, 0), (28, .ishr, 29, 0, 0, 0), (29, .iconst 1, 30, 0, 0, 1), (30, .iand, 31, 0, 0, 0), (31, .iconst 1, 32, 0, 0, 1), (32, .if_icmp .ne 19, 35, 51, 0, 0), (35, .aload_n 0, 36, 0, 0, 0), (36, .getfield 32, 39, 6, 13, 0), (39, .iload_n 2, 40, 0, 0, 0), (40, .iaload, 41, 0, 0, 0), (41, .aload_n 0, 42, 0, 0, 0), (42, .getfield 32, 45, 6, 13, 0), (45, .iload_n 1, 46, 0, 0, 0), (46, .iaload, 47, 0, 0, 0), (47, .ior, 48, 0, 0, 0), (48, .goto 9, 51, 57, 0, 0), (51, .aload_n 0, 52, 0, 0, 0), (52, .getfield 32, 55, 6, 13, 0), (55, .iload_n 2, 56, 0, 0, 0), (56, .iaload, 57, 0, 0, 0), (57, .iastore, 58, 0, 0, 0), (58, .iinc 2 1, 61, 0, 0, 1), (61, .goto (-51), 64, 10, 0, 0), (64, .iinc 1 1, 67, 0, 0, 1), (67, .goto (-65), 70, 2, 0, 0), (70, .return_, 71, 0, 0, 0)]
def zp_M_hasCircle : List za_E := [(0, .iconst 0, 1, 0, 0, 0), (1, .istore_n 1, 2, 0, 0, 0), (2, .iconst 0, 3, 0, 0, 0), (3, .istore_n 2, 4, 0, 0, 0), (4, .iload_n 2, 5, 0, 0, 0), (5, .bipush 32, 7, 0, 0, 32), (7, .if_icmp .ge 33, 10, 40, 0, 0), (10, .iload_n 1, 11, 0, 0, 0), (11, .ifCond .ne 17, 14, 28, 0, 0), (14, .aload_n 0, 15, 0, 0, 0), (15, .getfield 32, 18, 6, 13, 0), (18, .iload_n 2, 19, 0, 0, 0), (19, .iaload, 20, 0, 0, 0), (20, .iload_n 2, 21, 0, 0, 0), (21, .ishr, 22, 0, 0, 0), (22, .iconst 1, 23, 0, 0, 1), (23, .iand, 24, 0, 0, 0), (24, .iconst 1, 25, 0, 0, 1), (25, .if_icmp .ne 7, 28, 32, 0, 0), (28, .iconst 1, 29, 0, 0, 1), (29, .goto 4, 32, 33, 0, 0), (32, .iconst 0, 33, 0, 0, 0), (33, .istore_n 1, 34, 0, 0, 0), (34, .iinc 2 1, 37, 0, 0, 1), (37, .goto (-33), 40, 4, 0, 0), (40, .iload_n 1, 41, 0, 0, 0), (41, .ireturn, 42, 0, 0, 0)]
def zp_M_addGraph : List za_E := [(0, .iconst 0, 1, 0, 0, 0), (1, .istore 4, 3, 0, 0, 0), (3, .iload 4, 5, 0, 0, 0), (5, .bipush 6, 7, 0, 0, 6), (7, .if_icmp .ge 51, 10, 58, 0, 0), (10, .aload_n 0, 11, 0, 0, 0), (11, .getfield 32, 14, 6, 13, 0), (14, .bipush 8, 16, 0, 0, 8), (16, .iload_n 1, 17, 0, 0, 0), (17, .imul, 18, 0, 0, 0), (18, .iload 4, 20, 0, 0, 0), (20, .iadd, 21, 0, 0, 0), (21, .aload_n 0, 22, 0, 0, 0), (22, .getfield 32, 25, 6, 13, 0), (25, .bipush 8, 27, 0, 0, 8), (27, .iload_n 1, 28, 0, 0, 0), (28, .imul, 29, 0, 0, 0), (29, .iload 4, 31, 0, 0, 0), (31, .iadd, 32, 0, 0, 0), (32, .iaload, 33, 0, 0, 0), (33, .lload_n 2, 34, 0, 0, 0), (34, .bipush 6, 36, 0, 0, 6), (36, .iload 4, 38, 0, 0, 0), (38, .imul, 39, 0, 0, 0), (39, .lshr, 40, 0, 0, 0), (40, .ldc2_w 97, 43, 0, 0, 63), (43, .land, 44, 0, 0, 0), (44, .l2i, 45, 0, 0, 0), (45, .bipush 8, 47, 0, 0, 8), (47, .iload_n 1, 48, 0, 0, 0), (48, .imul, 49, 0, 0, 0), (49, .ishl, 50, 0, 0, 0), (50, .ior, 51, 0, 0, 0), (51, .iastore, 52, 0, 0, 0), (52, .iinc 4 1, 55, 0, 0, 1), (55, .goto (-52), 58, 3, 0, 0), (58, .return_, 59, 0, 0, 0)]
def zp_M_headGraph : List za_E := [(0, .aload_n 0, 1, 0, 0, 0), (1, .getfield 16, 4, 6, 5, 0), (4, .iconst 4, 5, 0, 0, 4), (5, .iload_n 1, 6, 0, 0, 0), (6, .imul, 7, 0, 0, 0), (7, .iaload, 8, 0, 0, 0), (8, .istore_n 2, 9, 0, 0, 0), (9, .lconst 0, 10, 0, 0, 0), (10, .lstore_n 3, 11, 0, 0, 0), (11, .iconst 0, 12, 0, 0, 0), (12, .istore 5, 14, 0, 0, 0), (14, .iload 5, 16, 0, 0, 0), (16, .aload_n 0, 17, 0, 0, 0), (17, .getfield 7, 20, 6, 2, 0), (20, .iload_n 2, 21, 0, 0, 0), (21, .iaload, 22, 0, 0, 0), (22, .if_icmp .ge 47, 25, 69, 0, 0), (25, .aload_n 0, 26, 0, 0, 0), (26, .iload_n 2, 27, 0, 0, 0), (27, .iload 5, 29, 0, 0, 0), (29, .invokevirtual 91, 32, 27, 3, 0), (32, .ifCond .eq 7, 35, 39, 0, 0), (35, .lload_n 3, 36, 0, 0, 0), (36, .goto 26, 39, 62, 0, 0), (39, .lload_n 3, 40, 0, 0, 0), (40, .aload_n 0, 41, 0, 0, 0), (41, .getfield 32, 44, 6, 13, 0), (44, .iload 5, 46, 0, 0, 0), (46, .iaload, 47, 0, 0, 0), (47, .aload_n 0, 48, 0, 0, 0), (48, .getfield 13, 51, 6, 3, 0), (51, .iload_n 2, 52, 0, 0, 0), (52, .iaload, 53, 0, 0, 0), (53, .iand, 54, 0, 0, 0), (54, .i2l, 55, 0, 0, 0), (55, .bipush 6, 57, 0, 0, 6), (57, .iload 5, 59, 0, 0, 0), (59, .imul, 60, 0, 0, 0), (60, .lshl, 61, 0, 0, 0), (61, .lor, 62, 0, 0, 0), (62, .lstore_n 3, 63, 0, 0, 0), (63, .iinc 5 1, 66, 0, 0, 1), (66, .goto (-52), 69, 14, 0, 0), (69, .lload_n 3, 70, 0, 0, 0), (70, .lreturn, 71, 0, 0, 0)]
def zp_M_takeGraph : List za_E := [(0, .iconst 0, 1, 0, 0, 0), (1, .istore 4, 3, 0, 0, 0), (3, .iconst 0, 4, 0, 0, 0), (4, .istore 5, 6, 0, 0, 0), (6, .iload 5, 8, 0, 0, 0), (8, .aload_n 0, 9, 0, 0, 0), (9, .getfield 22, 12, 6, 10, 0), (12, .iload_n 1, 13, 0, 0, 0), (13, .iaload, 14, 0, 0, 0), (14, .if_icmp .ge 38, 17, 52, 0, 0), (17, .iload 4, 19, 0, 0, 0), (19, .ifCond .ne 20, 22, 39, 0, 0), (22, .aload_n 0, 23, 0, 0, 0), (23, .getfield 25, 26, 6, 11, 0), (26, .bipush 11, 28, 0, 0, 11), (28, .iload_n 1, 29, 0, 0, 0), (29, .imul, 30, 0, 0, 0), (30, .iload 5, 32, 0, 0, 0), (32, .iadd, 33, 0, 0, 0), (33, .laload, 34, 0, 0, 0), (34, .lload_n 2, 35, 0, 0, 0), (35, .lcmp, 36, 0, 0, 0), (36, .ifCond .ne 7, 39, 43, 0, 0), (39, .iconst 1, 40, 0, 0, 1), (40, .goto 4, 43, 44, 0, 0), (43, .iconst 0, 44, 0, 0, 0), (44, .istore 4, 46, 0, 0, 0), (46, .iinc 5 1, 49, 0, 0, 1), (49, .goto (-43), 52, 6, 0, 0), (52, .iload 4, 54, 0, 0, 0), (54, .ifCond .ne 50, 57, 104, 0, 0), (57, .aload_n 0, 58, 0, 0, 0), (58, .getfield 25, 61, 6, 11, 0), (61, .bipush 11, 63, 0, 0, 11), (63, .iload_n 1, 64, 0, 0, 0), (64, .imul, 65, 0, 0, 0), (65, .aload_n 0, 66, 0, 0, 0), (66, .getfield 22, 69, 6, 10, 0), (69, .iload_n 1, 70, 0, 0, 0), (70, .iaload, 71, 0, 0, 0), (71, .iadd, 72, 0, 0, 0), (72, .lload_n 2, 73, 0, 0, 0), (73, .lastore, 74, 0, 0, 0), (74, .aload_n 0, 75, 0, 0, 0), (75, .getfield 22, 78, 6, 10, 0), (78, .iload_n 1, 79, 0, 0, 0), (79, .dup2, 80, 0, 0, 0), (80, .iaload, 81, 0, 0, 0), (81, .iconst 1, 82, 0, 0, 1), (82, .iadd, 83, 0, 0, 0), (83, .iastore, 84, 0, 0, 0), (84, .aload_n 0, 85, 0, 0, 0), (85, .aload_n 0, 86, 0, 0, 0), (86, .getfield 22, 89, 6, 10, 0), (89, .iload_n 1, 90, 0, 0, 0), (90, .iaload, 91, 0, 0, 0), (91, .bipush 10, 93, 0, 0, 10), (93, .if_icmp .le 7, 96, 100, 0, 0), (96, .iconst 1, 97, 0, 0, 1), (97, .goto 4, 100, 101, 0, 0), (100, .iconst 0, 101, 0, 0, 0), (101, .putfield 99, 104, 6, 8, 0), (104, .return_, 105, 0, 0, 0)]
def zp_M_countOf : List za_E := [(0, .aload_n 0, 1, 0, 0, 0), (1, .getfield 16, 4, 6, 5, 0), (4, .iconst 4, 5, 0, 0, 4), (5, .iload_n 1, 6, 0, 0, 0), (6, .imul, 7, 0, 0, 0), (7, .iload_n 2, 8, 0, 0, 0), (8, .iadd, 9, 0, 0, 0), (9, .iaload, 10, 0, 0, 0), (10, .istore_n 3, 11, 0, 0, 0), (11, .iload_n 3, 12, 0, 0, 0), (12, .ifCond .ge 7, 15, 19, 0, 0), (15, .iconst 1, 16, 0, 0, 1), (16, .goto 9, 19, 25, 0, 0), (19, .aload_n 0, 20, 0, 0, 0), (20, .getfield 22, 23, 6, 10, 0), (23, .iload_n 3, 24, 0, 0, 0), (24, .iaload, 25, 0, 0, 0), (25, .ireturn, 26, 0, 0, 0)]
def zp_M_put : List za_E := [(0, .aload_n 0, 1, 0, 0, 0), (1, .iload_n 1, 2, 0, 0, 0), (2, .invokevirtual 102, 5, 32, 2, 0), (5, .iconst 4, 6, 0, 0, 4), (6, .iload_n 1, 7, 0, 0, 0), (7, .imul, 8, 0, 0, 0), (8, .istore 5, 10, 0, 0, 0), (10, .aload_n 0, 11, 0, 0, 0), (11, .getfield 16, 14, 6, 5, 0), (14, .iload 5, 16, 0, 0, 0), (16, .iconst 1, 17, 0, 0, 1), (17, .iadd, 18, 0, 0, 0), (18, .iaload, 19, 0, 0, 0), (19, .ifCond .lt 27, 22, 46, 0, 0), (22, .aload_n 0, 23, 0, 0, 0), (23, .iconst 1, 24, 0, 0, 1), (24, .aload_n 0, 25, 0, 0, 0), (25, .getfield 25, 28, 6, 11, 0), (28, .bipush 11, 30, 0, 0, 11), (30, .aload_n 0, 31, 0, 0, 0), (31, .getfield 16, 34, 6, 5, 0), (34, .iload 5, 36, 0, 0, 0), (36, .iconst 1, 37, 0, 0, 1), (37, .iadd, 38, 0, 0, 0), (38, .iaload, 39, 0, 0, 0), (39, .imul, 40, 0, 0, 0), (40, .iload_n 2, 41, 0, 0, 0), (41, .iadd, 42, 0, 0, 0), (42, .laload, 43, 0, 0, 0), (43, .invokevirtual 106, 46, 35, 3, 0), (46, .aload_n 0, 47, 0, 0, 0), (47, .getfield 16, 50, 6, 5, 0), (50, .iload 5, 52, 0, 0, 0), (52, .iconst 2, 53, 0, 0, 2), (53, .iadd, 54, 0, 0, 0), (54, .iaload, 55, 0, 0, 0), (55, .ifCond .lt 27, 58, 82, 0, 0), (58, .aload_n 0, 59, 0, 0, 0), (59, .iconst 2, 60, 0, 0, 2), (60, .aload_n 0, 61, 0, 0, 0), (61, .getfield 25, 64, 6, 11, 0), (64, .bipush 11, 66, 0, 0, 11), (66, .aload_n 0, 67, 0, 0, 0), (67, .getfield 16, 70, 6, 5, 0), (70, .iload 5, 72, 0, 0, 0), (72, .iconst 2, 73, 0, 0, 2), (73, .iadd, 74, 0, 0, 0), (74, .iaload, 75, 0, 0, 0), (75, .imul, 76, 0, 0, 0), (76, .iload_n 3, 77, 0, 0, 0), (77, .iadd, 78, 0, 0, 0), (78, .laload, 79, 0, 0, 0), (79, .invokevirtual 106, 82, 35, 3, 0), (82, .aload_n 0, 83, 0, 0, 0), (83, .getfield 16, 86, 6, 5, 0), (86, .iload 5, 88, 0, 0, 0), (88, .iconst 3, 89, 0, 0, 3), (89, .iadd, 90, 0, 0, 0), (90, .iaload, 91, 0, 0, 0), (91, .ifCond .lt 28, 94, 119, 0, 0), (94, .aload_n 0, 95, 0, 0, 0), (95, .iconst 3, 96, 0, 0, 3), (96, .aload_n 0, 97, 0, 0, 0), (97, .getfield 25, 100, 6, 11, 0), (100, .bipush 11, 102, 0, 0, 11), (102, .aload_n 0, 103, 0, 0, 0), (103, .getfield 16, 106, 6, 5, 0), (106, .iload 5, 108, 0, 0, 0), (108, .iconst 3, 109, 0, 0, 3), (109, .iadd, 110, 0, 0, 0), (110, .iaload, 111, 0, 0, 0), (111, .imul, 112, 0, 0, 0), (112, .iload 4, 114, 0, 0, 0), (114, .iadd, 115, 0, 0, 0), (115, .laload, 116, 0, 0, 0), (116, .invokevirtual 106, 119, 35, 3, 0), (119, .aload_n 0, 120, 0, 0, 0), (120, .invokevirtual 110, 123, 33, 1, 0), (123, .aload_n 0, 124, 0, 0, 0), (124, .aload_n 0, 125, 0, 0, 0), (125, .getfield 113, 128, 6, 9, 0), (128, .ifCond .ne 10, 131, 138, 0, 0), (131, .aload_n 0, 132, 0, 0, 0), (132, .invokevirtual 116, 135, 34, 1, 0), (135, .ifCond .eq 7, 138, 142, 0, 0), (138, .iconst 1, 139, 0, 0, 1), (139, .goto 4, 142, 143, 0, 0), (142, .iconst 0, 143, 0, 0, 0), (143, .putfield 113, 146, 6, 9, 0), (146, .aload_n 0, 147, 0, 0, 0), (147, .aload_n 0, 148, 0, 0, 0), (148, .getfield 16, 151, 6, 5, 0), (151, .iload 5, 153, 0, 0, 0), (153, .iaload, 154, 0, 0, 0), (154, .aload_n 0, 155, 0, 0, 0), (155, .iload_n 1, 156, 0, 0, 0), (156, .invokevirtual 120, 159, 36, 2, 0), (159, .invokevirtual 124, 162, 37, 3, 0), (162, .return_, 163, 0, 0, 0)]
def zp_M_work : List za_E := [(0, .aload_n 0, 1, 0, 0, 0), (1, .iload_n 1, 2, 0, 0, 0), (2, .iconst 1, 3, 0, 0, 1), (3, .invokevirtual 127, 6, 38, 3, 0), (6, .istore_n 2, 7, 0, 0, 0), (7, .aload_n 0, 8, 0, 0, 0), (8, .iload_n 1, 9, 0, 0, 0), (9, .iconst 2, 10, 0, 0, 2), (10, .invokevirtual 127, 13, 38, 3, 0), (13, .istore_n 3, 14, 0, 0, 0), (14, .aload_n 0, 15, 0, 0, 0), (15, .iload_n 1, 16, 0, 0, 0), (16, .iconst 3, 17, 0, 0, 3), (17, .invokevirtual 127, 20, 38, 3, 0), (20, .istore 4, 22, 0, 0, 0), (22, .iconst 0, 23, 0, 0, 0), (23, .istore 5, 25, 0, 0, 0), (25, .iconst 0, 26, 0, 0, 0), (26, .istore 6, 28, 0, 0, 0), (28, .iload 6, 30, 0, 0, 0), (30, .iload_n 2, 31, 0, 0, 0), (31, .if_icmp .ge 104, 34, 135, 0, 0), (34, .iconst 0, 35, 0, 0, 0), (35, .istore 7, 37, 0, 0, 0), (37, .iload 7, 39, 0, 0, 0), (39, .iload_n 3, 40, 0, 0, 0), (40, .if_icmp .ge 89, 43, 129, 0, 0), (43, .iconst 0, 44, 0, 0, 0), (44, .istore 8, 46, 0, 0, 0), (46, .iload 8, 48, 0, 0, 0), (48, .iload 4, 50, 0, 0, 0), (50, .if_icmp .ge 73, 53, 123, 0, 0), (53, .aload_n 0, 54, 0, 0, 0), (54, .getfield 99, 57, 6, 8, 0), (57, .ifCond .ne 66, 60, 123, 0, 0), (60, .iload 6, 62, 0, 0, 0), (62, .aload_n 0, 63, 0, 0, 0), (63, .getfield 29, 66, 6, 12, 0), (66, .iconst 3, 67, 0, 0, 3), (67, .iload_n 1, 68, 0, 0, 0), (68, .imul, 69, 0, 0, 0), (69, .iaload, 70, 0, 0, 0), (70, .if_icmp .ge 33, 73, 103, 0, 0), (73, .iload 7, 75, 0, 0, 0), (75, .aload_n 0, 76, 0, 0, 0), (76, .getfield 29, 79, 6, 12, 0), (79, .iconst 3, 80, 0, 0, 3), (80, .iload_n 1, 81, 0, 0, 0), (81, .imul, 82, 0, 0, 0), (82, .iconst 1, 83, 0, 0, 1), (83, .iadd, 84, 0, 0, 0), (84, .iaload, 85, 0, 0, 0), (85, .if_icmp .ge 18, 88, 103, 0, 0), (88, .iload 8, 90, 0, 0, 0), (90, .aload_n 0, 91, 0, 0, 0), (91, .getfield 29, 94, 6, 12, 0), (94, .iconst 3, 95, 0, 0, 3), (95, .iload_n 1, 96, 0, 0, 0), (96, .imul, 97, 0, 0, 0), (97, .iconst 2, 98, 0, 0, 2), (98, .iadd, 99, 0, 0, 0), (99, .iaload, 100, 0, 0, 0), (100, .if_icmp .lt 17, 103, 117, 0, 0), (103, .aload_n 0, 104, 0, 0, 0), (104, .iload_n 1, 105, 0, 0, 0), (105, .iload 6, 107, 0, 0, 0), (107, .iload 7, 109, 0, 0, 0), (109, .iload 8, 111, 0, 0, 0), (111, .invokevirtual 130, 114, 39, 5, 0), (114, .iconst 1, 115, 0, 0, 1), (115, .istore 5, 117, 0, 0, 0), (117, .iinc 8 1, 120, 0, 0, 1), (120, .goto (-74), 123, 46, 0, 0), (123, .iinc 7 1, 126, 0, 0, 1), (126, .goto (-89), 129, 37, 0, 0), (129, .iinc 6 1, 132, 0, 0, 1), (132, .goto (-104), 135, 28, 0, 0), (135, .iload_n 2, 136, 0, 0, 0), (136, .ifCond .le 16, 139, 152, 0, 0), (139, .iload_n 3, 140, 0, 0, 0), (140, .ifCond .le 12, 143, 152, 0, 0), (143, .iload 4, 145, 0, 0, 0), (145, .ifCond .le 7, 148, 152, 0, 0), (148, .iconst 1, 149, 0, 0, 1), (149, .goto 4, 152, 153, 0, 0), (152, .iconst 0, 153, 0, 0, 0), (153, .istore 6, 155, 0, 0, 0), (155, .aload_n 0, 156, 0, 0, 0), (156, .getfield 29, 159, 6, 12, 0), (159, .iconst 3, 160, 0, 0, 3), (160, .iload_n 1, 161, 0, 0, 0), (161, .imul, 162, 0, 0, 0), (162, .iload 6, 164, 0, 0, 0), (164, .ifCond .eq 7, 167, 171, 0, 0), (167, .iload_n 2, 168, 0, 0, 0), (168, .goto 4, 171, 172, 0, 0), (171, .iconst 0, 172, 0, 0, 0), (172, .iastore, 173, 0, 0, 0), (173, .aload_n 0, 174, 0, 0, 0), (174, .getfield 29, 177, 6, 12, 0), (177, .iconst 3, 178, 0, 0, 3), (178, .iload_n 1, 179, 0, 0, 0), (179, .imul, 180, 0, 0, 0), (180, .iconst 1, 181, 0, 0, 1), (181, .iadd, 182, 0, 0, 0), (182, .iload 6, 184, 0, 0, 0), (184, .ifCond .eq 7, 187, 191, 0, 0), (187, .iload_n 3, 188, 0, 0, 0), (188, .goto 4, 191, 192, 0, 0), (191, .iconst 0, 192, 0, 0, 0), (192, .iastore, 193, 0, 0, 0), (193, .aload_n 0, 194, 0, 0, 0), (194, .getfield 29, 197, 6, 12, 0), (197, .iconst 3, 198, 0, 0, 3), (198, .iload_n 1, 199, 0, 0, 0), (199, .imul, 200, 0, 0, 0), (200, .iconst 2, 201, 0, 0, 2), (201, .iadd, 202, 0, 0, 0), (202, .iload 6, 204, 0, 0, 0), (204, .ifCond .eq 8, 207, 212, 0, 0), (207, .iload 4, 209, 0, 0, 0), (209, .goto 4, 212, 213, 0, 0), (212, .iconst 0, 213, 0, 0, 0), (213, .iastore, 214, 0, 0, 0), (214, .iload 5, 216, 0, 0, 0), (216, .ireturn, 217, 0, 0, 0)]
def zp_M_findGraphs : List za_E := [(0, .aload_n 0, 1, 0, 0, 0), (1, .getfield 64, 4, 6, 7, 0), (4, .ifCond .eq 4, 7, 8, 0, 0), (7, .return_, 8, 0, 0, 0), (8, .aload_n 0, 9, 0, 0, 0), (9, .iconst 1, 10, 0, 0, 1), (10, .putfield 64, 13, 6, 7, 0), (13, .aload_n 0, 14, 0, 0, 0), (14, .iconst 0, 15, 0, 0, 0), (15, .putfield 99, 18, 6, 8, 0), (18, .aload_n 0, 19, 0, 0, 0), (19, .iconst 0, 20, 0, 0, 0), (20, .putfield 113, 23, 6, 9, 0), (23, .iconst 0, 24, 0, 0, 0), (24, .istore_n 1, 25, 0, 0, 0), (25, .iload_n 1, 26, 0, 0, 0), (26, .bipush 8, 28, 0, 0, 8), (28, .if_icmp .ge 16, 31, 44, 0, 0), (31, .aload_n 0, 32, 0, 0, 0), (32, .getfield 22, 35, 6, 10, 0), (35, .iload_n 1, 36, 0, 0, 0), (36, .iconst 0, 37, 0, 0, 0), (37, .iastore, 38, 0, 0, 0), (38, .iinc 1 1, 41, 0, 0, 1), (41, .goto (-16), 44, 25, 0, 0), (44, .iconst 0, 45, 0, 0, 0), (45, .istore_n 1, 46, 0, 0, 0), (46, .iload_n 1, 47, 0, 0, 0), (47, .bipush 48, 49, 0, 0, 48), (49, .if_icmp .ge 16, 52, 65, 0, 0), (52, .aload_n 0, 53, 0, 0, 0), (53, .getfield 29, 56, 6, 12, 0), (56, .iload_n 1, 57, 0, 0, 0), (57, .iconst 0, 58, 0, 0, 0), (58, .iastore, 59, 0, 0, 0), (59, .iinc 1 1, 62, 0, 0, 1), (62, .goto (-16), 65, 46, 0, 0), (65, .iconst 1, 66, 0, 0, 1), (66, .istore_n 1, 67, 0, 0, 0), (67, .iload_n 1, 68, 0, 0, 0), (68, .ifCond .eq 58, 71, 126, 0, 0), (71, .aload_n 0, 72, 0, 0, 0), (72, .getfield 99, 75, 6, 8, 0), (75, .ifCond .ne 51, 78, 126, 0, 0), (78, .iconst 0, 79, 0, 0, 0), (79, .istore_n 1, 80, 0, 0, 0), (80, .iconst 0, 81, 0, 0, 0), (81, .istore_n 2, 82, 0, 0, 0), (82, .iload_n 2, 83, 0, 0, 0), (83, .aload_n 0, 84, 0, 0, 0), (84, .getfield 58, 87, 6, 4, 0), (87, .if_icmp .ge 36, 90, 123, 0, 0), (90, .aload_n 0, 91, 0, 0, 0), (91, .getfield 99, 94, 6, 8, 0), (94, .ifCond .ne 29, 97, 123, 0, 0), (97, .aload_n 0, 98, 0, 0, 0), (98, .iload_n 2, 99, 0, 0, 0), (99, .invokevirtual 134, 102, 40, 2, 0), (102, .istore_n 3, 103, 0, 0, 0), (103, .iload_n 1, 104, 0, 0, 0), (104, .ifCond .ne 7, 107, 111, 0, 0), (107, .iload_n 3, 108, 0, 0, 0), (108, .ifCond .eq 7, 111, 115, 0, 0), (111, .iconst 1, 112, 0, 0, 1), (112, .goto 4, 115, 116, 0, 0), (115, .iconst 0, 116, 0, 0, 0), (116, .istore_n 1, 117, 0, 0, 0), (117, .iinc 2 1, 120, 0, 0, 1), (120, .goto (-38), 123, 82, 0, 0), (123, .goto (-56), 126, 67, 0, 0), (126, .return_, 127, 0, 0, 0)]
def zp_M_graphs : List za_E := [(0, .aload_n 0, 1, 0, 0, 0), (1, .aload_n 0, 2, 0, 0, 0), (2, .iload_n 1, 3, 0, 0, 0), (3, .invokevirtual 79, 6, 25, 2, 0), (6, .ifCond .ne 7, 9, 13, 0, 0), (9, .iconst 1, 10, 0, 0, 1), (10, .goto 4, 13, 14, 0, 0), (13, .iconst 0, 14, 0, 0, 0), (14, .iconst 0, 15, 0, 0, 0), (15, .invokevirtual 75, 18, 20, 3, 0), (18, .ifCond .eq 5, 21, 23, 0, 0), (21, .iconst 0, 22, 0, 0, 0), (22, .ireturn, 23, 0, 0, 0), (23, .aload_n 0, 24, 0, 0, 0), (24, .invokevirtual 137, 27, 41, 1, 0), (27, .aload_n 0, 28, 0, 0, 0), (28, .iconst 0, 29, 0, 0, 0), (29, .aload_n 0, 30, 0, 0, 0), (30, .getfield 99, 33, 6, 8, 0), (33, .invokevirtual 75, 36, 20, 3, 0), (36, .ifCond .eq 7, 39, 43, 0, 0), (39, .iconst 0, 40, 0, 0, 0), (40, .goto 9, 43, 49, 0, 0), (43, .aload_n 0, 44, 0, 0, 0), (44, .getfield 22, 47, 6, 10, 0), (47, .iload_n 1, 48, 0, 0, 0), (48, .iaload, 49, 0, 0, 0), (49, .ireturn, 50, 0, 0, 0)]
def zp_M_circular : List za_E := [(0, .aload_n 0, 1, 0, 0, 0), (1, .invokevirtual 137, 4, 41, 1, 0), (4, .aload_n 0, 5, 0, 0, 0), (5, .aload_n 0, 6, 0, 0, 0), (6, .getfield 99, 9, 6, 8, 0), (9, .iconst 0, 10, 0, 0, 0), (10, .invokevirtual 75, 13, 20, 3, 0), (13, .ifCond .ne 14, 16, 27, 0, 0), (16, .aload_n 0, 17, 0, 0, 0), (17, .getfield 113, 20, 6, 9, 0), (20, .ifCond .eq 7, 23, 27, 0, 0), (23, .iconst 1, 24, 0, 0, 1), (24, .goto 4, 27, 28, 0, 0), (27, .iconst 0, 28, 0, 0, 0), (28, .ireturn, 29, 0, 0, 0)]
def zp_M_allHave : List za_E := [(0, .iconst 1, 1, 0, 0, 1), (1, .istore_n 2, 2, 0, 0, 0), (2, .iconst 1, 3, 0, 0, 1), (3, .istore_n 3, 4, 0, 0, 0), (4, .iload_n 3, 5, 0, 0, 0), (5, .iconst 4, 6, 0, 0, 4), (6, .if_icmp .ge 50, 9, 56, 0, 0), (9, .iload_n 2, 10, 0, 0, 0), (10, .ifCond .eq 38, 13, 48, 0, 0), (13, .aload_n 0, 14, 0, 0, 0), (14, .getfield 16, 17, 6, 5, 0), (17, .iconst 4, 18, 0, 0, 4), (18, .iload_n 1, 19, 0, 0, 0), (19, .imul, 20, 0, 0, 0), (20, .iload_n 3, 21, 0, 0, 0), (21, .iadd, 22, 0, 0, 0), (22, .iaload, 23, 0, 0, 0), (23, .ifCond .lt 21, 26, 44, 0, 0), (26, .aload_n 0, 27, 0, 0, 0), (27, .getfield 35, 30, 6, 15, 0), (30, .aload_n 0, 31, 0, 0, 0), (31, .getfield 16, 34, 6, 5, 0), (34, .iconst 4, 35, 0, 0, 4), (35, .iload_n 1, 36, 0, 0, 0), (36, .imul, 37, 0, 0, 0), (37, .iload_n 3, 38, 0, 0, 0), (38, .iadd, 39, 0, 0, 0), (39, .iaload, 40, 0, 0, 0), (40, .baload, 41, 0, 0, 0), (41, .ifCond .eq 7, 44, 48, 0, 0), (44, .iconst 1, 45, 0, 0, 1), (45, .goto 4, 48, 49, 0, 0), (48, .iconst 0, 49, 0, 0, 0), (49, .istore_n 2, 50, 0, 0, 0), (50, .iinc 3 1, 53, 0, 0, 1), (53, .goto (-49), 56, 4, 0, 0), (56, .iload_n 2, 57, 0, 0, 0), (57, .ireturn, 58, 0, 0, 0)]
def zp_M_addUnions : List za_E := [(0, .iconst 1, 1, 0, 0, 1), (1, .istore_n 3, 2, 0, 0, 0), (2, .iload_n 3, 3, 0, 0, 0), (3, .iconst 4, 4, 0, 0, 4), (4, .if_icmp .ge 90, 7, 94, 0, 0), (7, .aload_n 0, 8, 0, 0, 0), (8, .getfield 16, 11, 6, 5, 0), (11, .iconst 4, 12, 0, 0, 4), (12, .iload_n 1, 13, 0, 0, 0), (13, .imul, 14, 0, 0, 0), (14, .iload_n 3, 15, 0, 0, 0), (15, .iadd, 16, 0, 0, 0), (16, .iaload, 17, 0, 0, 0), (17, .istore 4, 19, 0, 0, 0), (19, .iconst 0, 20, 0, 0, 0), (20, .istore 5, 22, 0, 0, 0), (22, .iload 5, 24, 0, 0, 0), (24, .bipush 6, 26, 0, 0, 6), (26, .if_icmp .ge 62, 29, 88, 0, 0), (29, .iload 4, 31, 0, 0, 0), (31, .ifCond .lt 57, 34, 88, 0, 0), (34, .iload_n 3, 35, 0, 0, 0), (35, .iload_n 2, 36, 0, 0, 0), (36, .if_icmp .eq 52, 39, 88, 0, 0), (39, .aload_n 0, 40, 0, 0, 0), (40, .getfield 32, 43, 6, 13, 0), (43, .bipush 8, 45, 0, 0, 8), (45, .iload_n 3, 46, 0, 0, 0), (46, .imul, 47, 0, 0, 0), (47, .iload 5, 49, 0, 0, 0), (49, .iadd, 50, 0, 0, 0), (50, .aload_n 0, 51, 0, 0, 0), (51, .getfield 32, 54, 6, 13, 0), (54, .bipush 8, 56, 0, 0, 8), (56, .iload_n 3, 57, 0, 0, 0), (57, .imul, 58, 0, 0, 0), (58, .iload 5, 60, 0, 0, 0), (60, .iadd, 61, 0, 0, 0), (61, .iaload, 62, 0, 0, 0), (62, .aload_n 0, 63, 0, 0, 0), (63, .getfield 39, 66, 6, 16, 0), (66, .bipush 8, 68, 0, 0, 8), (68, .iload 4, 70, 0, 0, 0), (70, .imul, 71, 0, 0, 0), (71, .iload 5, 73, 0, 0, 0), (73, .iadd, 74, 0, 0, 0), (74, .iaload, 75, 0, 0, 0), (75, .bipush 8, 77, 0, 0, 8), (77, .iload_n 3, 78, 0, 0, 0), (78, .imul, 79, 0, 0, 0), (79, .ishl, 80, 0, 0, 0), (80, .ior, 81, 0, 0, 0), (81, .iastore, 82, 0, 0, 0), (82, .iinc 5 1, 85, 0, 0, 1), (85, .goto (-63), 88, 22, 0, 0), (88, .iinc 3 1, 91, 0, 0, 1), (91, .goto (-89), 94, 2, 0, 0), (94, .return_, 95, 0, 0, 0)]
def zp_M_addAboves : List za_E := [(0, .iconst 0, 1, 0, 0, 0), (1, .istore_n 2, 2, 0, 0, 0), (2, .iload_n 2, 3, 0, 0, 0), (3, .bipush 6, 5, 0, 0, 6), (5, .if_icmp .ge 40, 8, 45, 0, 0), (8, .aload_n 0, 9, 0, 0, 0), (9, .getfield 32, 12, 6, 13, 0), (12, .iload_n 2, 13, 0, 0, 0), (13, .aload_n 0, 14, 0, 0, 0), (14, .getfield 32, 17, 6, 13, 0), (17, .iload_n 2, 18, 0, 0, 0), (18, .iaload, 19, 0, 0, 0), (19, .aload_n 0, 20, 0, 0, 0), (20, .getfield 42, 23, 6, 17, 0), (23, .bipush 8, 25, 0, 0, 8), (25, .aload_n 0, 26, 0, 0, 0), (26, .getfield 16, 29, 6, 5, 0), (29, .iconst 4, 30, 0, 0, 4), (30, .iload_n 1, 31, 0, 0, 0), (31, .imul, 32, 0, 0, 0), (32, .iaload, 33, 0, 0, 0), (33, .imul, 34, 0, 0, 0), (34, .iload_n 2, 35, 0, 0, 0), (35, .iadd, 36, 0, 0, 0), (36, .iaload, 37, 0, 0, 0), (37, .ior, 38, 0, 0, 0), (38, .iastore, 39, 0, 0, 0), (39, .iinc 2 1, 42, 0, 0, 1), (42, .goto (-40), 45, 2, 0, 0), (45, .return_, 46, 0, 0, 0)]
def zp_M_growUnion : List za_E := [(0, .aload_n 0, 1, 0, 0, 0), (1, .getfield 16, 4, 6, 5, 0), (4, .iconst 4, 5, 0, 0, 4), (5, .iload_n 1, 6, 0, 0, 0), (6, .imul, 7, 0, 0, 0), (7, .iaload, 8, 0, 0, 0), (8, .istore_n 2, 9, 0, 0, 0), (9, .aload_n 0, 10, 0, 0, 0), (10, .getfield 35, 13, 6, 15, 0), (13, .iload_n 2, 14, 0, 0, 0), (14, .baload, 15, 0, 0, 0), (15, .ifCond .ne 7, 18, 22, 0, 0), (18, .iconst 1, 19, 0, 0, 1), (19, .goto 4, 22, 23, 0, 0), (22, .iconst 0, 23, 0, 0, 0), (23, .istore_n 3, 24, 0, 0, 0), (24, .aload_n 0, 25, 0, 0, 0), (25, .getfield 35, 28, 6, 15, 0), (28, .iload_n 2, 29, 0, 0, 0), (29, .iconst 1, 30, 0, 0, 1), (30, .bastore, 31, 0, 0, 0), (31, .aload_n 0, 32, 0, 0, 0), (32, .iload_n 1, 33, 0, 0, 0), (33, .invokevirtual 102, 36, 32, 2, 0), (36, .aload_n 0, 37, 0, 0, 0), (37, .iload_n 1, 38, 0, 0, 0), (38, .iconst 0, 39, 0, 0, 0), (39, .invokevirtual 140, 42, 45, 3, 0), (42, .aload_n 0, 43, 0, 0, 0), (43, .invokevirtual 110, 46, 33, 1, 0), (46, .iconst 0, 47, 0, 0, 0), (47, .istore 4, 49, 0, 0, 0), (49, .iload 4, 51, 0, 0, 0), (51, .aload_n 0, 52, 0, 0, 0), (52, .getfield 7, 55, 6, 2, 0), (55, .iload_n 2, 56, 0, 0, 0), (56, .iaload, 57, 0, 0, 0), (57, .if_icmp .ge 96, 60, 153, 0, 0), (60, .aload_n 0, 61, 0, 0, 0), (61, .iload_n 2, 62, 0, 0, 0), (62, .iload 4, 64, 0, 0, 0), (64, .invokevirtual 91, 67, 27, 3, 0), (67, .ifCond .eq 7, 70, 74, 0, 0), (70, .iconst 0, 71, 0, 0, 0), (71, .goto 17, 74, 88, 0, 0), (74, .aload_n 0, 75, 0, 0, 0), (75, .getfield 32, 78, 6, 13, 0), (78, .iload 4, 80, 0, 0, 0), (80, .iaload, 81, 0, 0, 0), (81, .aload_n 0, 82, 0, 0, 0), (82, .getfield 13, 85, 6, 3, 0), (85, .iload_n 2, 86, 0, 0, 0), (86, .iaload, 87, 0, 0, 0), (87, .iand, 88, 0, 0, 0), (88, .istore 5, 90, 0, 0, 0), (90, .iload_n 3, 91, 0, 0, 0), (91, .ifCond .ne 23, 94, 114, 0, 0), (94, .iload 5, 96, 0, 0, 0), (96, .aload_n 0, 97, 0, 0, 0), (97, .getfield 39, 100, 6, 16, 0), (100, .bipush 8, 102, 0, 0, 8), (102, .iload_n 2, 103, 0, 0, 0), (103, .imul, 104, 0, 0, 0), (104, .iload 4, 106, 0, 0, 0), (106, .iadd, 107, 0, 0, 0), (107, .iaload, 108, 0, 0, 0), (108, .iconst (-1), 109, 0, 0, (-1)), (109, .ixor, 110, 0, 0, 0), (110, .iand, 111, 0, 0, 0), (111, .ifCond .eq 7, 114, 118, 0, 0), (114, .iconst 1, 115, 0, 0, 1), (115, .goto 4, 118, 119, 0, 0), (118, .iconst 0, 119, 0, 0, 0), (119, .istore_n 3, 120, 0, 0, 0), (120, .aload_n 0, 121, 0, 0, 0), (121, .getfield 39, 124, 6, 16, 0), (124, .bipush 8, 126, 0, 0, 8), (126, .iload_n 2, 127, 0, 0, 0), (127, .imul, 128, 0, 0, 0), (128, .iload 4, 130, 0, 0, 0), (130, .iadd, 131, 0, 0, 0), (131, .aload_n 0, 132, 0, 0, 0), (132, .getfield 39, 135, 6, 16, 0), (135, .bipush 8, 137, 0, 0, 8), (137, .iload_n 2, 138, 0, 0, 0), (138, .imul, 139, 0, 0, 0), (139, .iload 4, 141, 0, 0, 0), (141, .iadd, 142, 0, 0, 0), (142, .iaload, 143, 0, 0, 0), (143, .iload 5, 145, 0, 0, 0), (145, .ior, 146, 0, 0, 0), (146, .iastore, 147, 0, 0, 0), (147, .iinc 4 1, 150, 0, 0, 1), (150, .goto (-101), 153, 49, 0, 0), (153, .iload_n 3, 154, 0, 0, 0), (154, .ireturn, 155, 0, 0, 0)]
def zp_M_growAbove : List za_E := [(0, .aload_n 0, 1, 0, 0, 0), (1, .getfield 16, 4, 6, 5, 0), (4, .iconst 4, 5, 0, 0, 4), (5, .iload_n 1, 6, 0, 0, 0), (6, .imul, 7, 0, 0, 0), (7, .iload_n 2, 8, 0, 0, 0), (8, .iadd, 9, 0, 0, 0), (9, .iaload, 10, 0, 0, 0), (10, .istore_n 3, 11, 0, 0, 0), (11, .iload_n 3, 12, 0, 0, 0), (12, .ifCond .ge 5, 15, 17, 0, 0), (15, .iconst 0, 16, 0, 0, 0), (16, .ireturn, 17, 0, 0, 0), (17, .iconst 0, 18, 0, 0, 0), (18, .istore 4, 20, 0, 0, 0), (20, .aload_n 0, 21, 0, 0, 0), (21, .iload_n 1, 22, 0, 0, 0), (22, .invokevirtual 102, 25, 32, 2, 0), (25, .aload_n 0, 26, 0, 0, 0), (26, .iload_n 1, 27, 0, 0, 0), (27, .invokevirtual 144, 30, 46, 2, 0), (30, .aload_n 0, 31, 0, 0, 0), (31, .iload_n 1, 32, 0, 0, 0), (32, .iload_n 2, 33, 0, 0, 0), (33, .invokevirtual 140, 36, 45, 3, 0), (36, .aload_n 0, 37, 0, 0, 0), (37, .invokevirtual 110, 40, 33, 1, 0), (40, .iconst 0, 41, 0, 0, 0), (41, .istore 5, 43, 0, 0, 0), (43, .iload 5, 45, 0, 0, 0), (45, .aload_n 0, 46, 0, 0, 0), (46, .getfield 7, 49, 6, 2, 0), (49, .iload_n 3, 50, 0, 0, 0), (50, .iaload, 51, 0, 0, 0), (51, .if_icmp .ge 125, 54, 176, 0, 0), (54, .iconst 1, 55, 0, 0, 1), (55, .aload_n 0, 56, 0, 0, 0), (56, .getfield 7, 59, 6, 2, 0), (59, .iload_n 3, 60, 0, 0, 0), (60, .iaload, 61, 0, 0, 0), (61, .ishl, 62, 0, 0, 0), (62, .iconst 1, 63, 0, 0, 1), (63, .isub, 64, 0, 0, 0), (64, .aload_n 0, 65, 0, 0, 0), (65, .getfield 13, 68, 6, 3, 0), (68, .iload_n 3, 69, 0, 0, 0), (69, .iaload, 70, 0, 0, 0), (70, .iconst (-1), 71, 0, 0, (-1)), (71, .ixor, 72, 0, 0, 0), (72, .iand, 73, 0, 0, 0), (73, .istore 6, 75, 0, 0, 0), (75, .aload_n 0, 76, 0, 0, 0), (76, .iload_n 3, 77, 0, 0, 0), (77, .iload 5, 79, 0, 0, 0), (79, .invokevirtual 91, 82, 27, 3, 0), (82, .ifCond .eq 26, 85, 108, 0, 0), (85, .aload_n 0, 86, 0, 0, 0), (86, .getfield 32, 89, 6, 13, 0), (89, .bipush 8, 91, 0, 0, 8), (91, .iload_n 2, 92, 0, 0, 0), (92, .imul, 93, 0, 0, 0), (93, .iload 5, 95, 0, 0, 0), (95, .iadd, 96, 0, 0, 0), (96, .iaload, 97, 0, 0, 0), (97, .bipush 8, 99, 0, 0, 8), (99, .iload_n 2, 100, 0, 0, 0), (100, .imul, 101, 0, 0, 0), (101, .ishr, 102, 0, 0, 0), (102, .iload 6, 104, 0, 0, 0), (104, .iand, 105, 0, 0, 0), (105, .goto 4, 108, 109, 0, 0), (108, .iconst 0, 109, 0, 0, 0), (109, .istore 7, 111, 0, 0, 0), (111, .iload 4, 113, 0, 0, 0), (113, .ifCond .ne 23, 116, 136, 0, 0), (116, .iload 7, 118, 0, 0, 0), (118, .aload_n 0, 119, 0, 0, 0), (119, .getfield 42, 122, 6, 17, 0), (122, .bipush 8, 124, 0, 0, 8), (124, .iload_n 3, 125, 0, 0, 0), (125, .imul, 126, 0, 0, 0), (126, .iload 5, 128, 0, 0, 0), (128, .iadd, 129, 0, 0, 0), (129, .iaload, 130, 0, 0, 0), (130, .iconst (-1), 131, 0, 0, (-1)), (131, .ixor, 132, 0, 0, 0), (132, .iand, 133, 0, 0, 0), (133, .ifCond .eq 7, 136, 140, 0, 0), (136, .iconst 1, 137, 0, 0, 1), (137, .goto 4, 140, 141, 0, 0), (140, .iconst 0, 141, 0, 0, 0), (141, .istore 4, 143, 0, 0, 0), (143, .aload_n 0, 144, 0, 0, 0), (144, .getfield 42, 147, 6, 17, 0), (147, .bipush 8, 149, 0, 0, 8), (149, .iload_n 3, 150, 0, 0, 0), (150, .imul, 151, 0, 0, 0), (151, .iload 5, 153, 0, 0, 0), (153, .iadd, 154, 0, 0, 0), (154, .aload_n 0, 155, 0, 0, 0), (155, .getfield 42, 158, 6, 17, 0), (158, .bipush 8, 160, 0, 0, 8), (160, .iload_n 3, 161, 0, 0, 0), (161, .imul, 162, 0, 0, 0), (162, .iload 5, 164, 0, 0, 0), (164, .iadd, 165, 0, 0, 0), (165, .iaload, 166, 0, 0, 0), (166, .iload 7, 168, 0, 0, 0), (168, .ior, 169, 0, 0, 0), (169, .iastore, 170, 0, 0, 0), (170, .iinc 5 1, 173, 0, 0, 1), (173, .goto (-130), 176, 43, 0, 0), (176, .iload 4, 178, 0, 0, 0), (178, .ireturn, 179, 0, 0, 0)]
def zp_M_relate : List za_E := [(0, .aload_n 0, 1, 0, 0, 0), (1, .getfield 68, 4, 6, 14, 0), (4, .ifCond .eq 4, 7, 8, 0, 0), (7, .return_, 8, 0, 0, 0), (8, .aload_n 0, 9, 0, 0, 0), (9, .iconst 1, 10, 0, 0, 1), (10, .putfield 68, 13, 6, 14, 0), (13, .iconst 0, 14, 0, 0, 0), (14, .istore_n 1, 15, 0, 0, 0), (15, .iload_n 1, 16, 0, 0, 0), (16, .bipush 64, 18, 0, 0, 64), (18, .if_icmp .ge 33, 21, 51, 0, 0), (21, .aload_n 0, 22, 0, 0, 0), (22, .getfield 39, 25, 6, 16, 0), (25, .iload_n 1, 26, 0, 0, 0), (26, .iconst 0, 27, 0, 0, 0), (27, .iastore, 28, 0, 0, 0), (28, .aload_n 0, 29, 0, 0, 0), (29, .getfield 42, 32, 6, 17, 0), (32, .iload_n 1, 33, 0, 0, 0), (33, .iconst 0, 34, 0, 0, 0), (34, .iastore, 35, 0, 0, 0), (35, .aload_n 0, 36, 0, 0, 0), (36, .getfield 35, 39, 6, 15, 0), (39, .iload_n 1, 40, 0, 0, 0), (40, .bipush 8, 42, 0, 0, 8), (42, .idiv, 43, 0, 0, 0), (43, .iconst 0, 44, 0, 0, 0), (44, .bastore, 45, 0, 0, 0), (45, .iinc 1 1, 48, 0, 0, 1), (48, .goto (-33), 51, 15, 0, 0), (51, .iconst 1, 52, 0, 0, 1), (52, .istore_n 1, 53, 0, 0, 0), (53, .iload_n 1, 54, 0, 0, 0), (54, .ifCond .eq 60, 57, 114, 0, 0), (57, .iconst 0, 58, 0, 0, 0), (58, .istore_n 1, 59, 0, 0, 0), (59, .iconst 0, 60, 0, 0, 0), (60, .istore_n 2, 61, 0, 0, 0), (61, .iload_n 2, 62, 0, 0, 0), (62, .aload_n 0, 63, 0, 0, 0), (63, .getfield 58, 66, 6, 4, 0), (66, .if_icmp .ge 45, 69, 111, 0, 0), (69, .aload_n 0, 70, 0, 0, 0), (70, .iload_n 2, 71, 0, 0, 0), (71, .invokevirtual 147, 74, 44, 2, 0), (74, .ifCond .eq 15, 77, 89, 0, 0), (77, .aload_n 0, 78, 0, 0, 0), (78, .iload_n 2, 79, 0, 0, 0), (79, .invokevirtual 150, 82, 47, 2, 0), (82, .ifCond .eq 7, 85, 89, 0, 0), (85, .iconst 1, 86, 0, 0, 1), (86, .goto 4, 89, 90, 0, 0), (89, .iconst 0, 90, 0, 0, 0), (90, .istore_n 3, 91, 0, 0, 0), (91, .iload_n 1, 92, 0, 0, 0), (92, .ifCond .ne 7, 95, 99, 0, 0), (95, .iload_n 3, 96, 0, 0, 0), (96, .ifCond .eq 7, 99, 103, 0, 0), (99, .iconst 1, 100, 0, 0, 1), (100, .goto 4, 103, 104, 0, 0), (103, .iconst 0, 104, 0, 0, 0), (104, .istore_n 1, 105, 0, 0, 0), (105, .iinc 2 1, 108, 0, 0, 1), (108, .goto (-47), 111, 61, 0, 0), (111, .goto (-58), 114, 53, 0, 0), (114, .iconst 1, 115, 0, 0, 1), (115, .istore_n 1, 116, 0, 0, 0), (116, .iload_n 1, 117, 0, 0, 0), (117, .ifCond .eq 76, 120, 193, 0, 0), (120, .iconst 0, 121, 0, 0, 0), (121, .istore_n 1, 122, 0, 0, 0), (122, .iconst 0, 123, 0, 0, 0), (123, .istore_n 2, 124, 0, 0, 0), (124, .iload_n 2, 125, 0, 0, 0), (125, .aload_n 0, 126, 0, 0, 0), (126, .getfield 58, 129, 6, 4, 0), (129, .if_icmp .ge 61, 132, 190, 0, 0), (132, .iconst 1, 133, 0, 0, 1), (133, .istore_n 3, 134, 0, 0, 0), (134, .iload_n 3, 135, 0, 0, 0), (135, .iconst 4, 136, 0, 0, 4), (136, .if_icmp .ge 48, 139, 184, 0, 0), (139, .aload_n 0, 140, 0, 0, 0), (140, .iload_n 2, 141, 0, 0, 0), (141, .invokevirtual 147, 144, 44, 2, 0), (144, .ifCond .eq 16, 147, 160, 0, 0), (147, .aload_n 0, 148, 0, 0, 0), (148, .iload_n 2, 149, 0, 0, 0), (149, .iload_n 3, 150, 0, 0, 0), (150, .invokevirtual 153, 153, 48, 3, 0), (153, .ifCond .eq 7, 156, 160, 0, 0), (156, .iconst 1, 157, 0, 0, 1), (157, .goto 4, 160, 161, 0, 0), (160, .iconst 0, 161, 0, 0, 0), (161, .istore 4, 163, 0, 0, 0), (163, .iload_n 1, 164, 0, 0, 0), (164, .ifCond .ne 8, 167, 172, 0, 0), (167, .iload 4, 169, 0, 0, 0), (169, .ifCond .eq 7, 172, 176, 0, 0), (172, .iconst 1, 173, 0, 0, 1), (173, .goto 4, 176, 177, 0, 0), (176, .iconst 0, 177, 0, 0, 0), (177, .istore_n 1, 178, 0, 0, 0), (178, .iinc 3 1, 181, 0, 0, 1), (181, .goto (-47), 184, 134, 0, 0), (184, .iinc 2 1, 187, 0, 0, 1), (187, .goto (-63), 190, 124, 0, 0), (190, .goto (-74), 193, 116, 0, 0), (193, .aload_n 0, 194, 0, 0, 0), (194, .iconst 1, 195, 0, 0, 1), (195, .putfield 156, 198, 6, 18, 0), (198, .aload_n 0, 199, 0, 0, 0), (199, .iconst 1, 200, 0, 0, 1), (200, .putfield 159, 203, 6, 19, 0), (203, .iconst 0, 204, 0, 0, 0), (204, .istore_n 2, 205, 0, 0, 0), (205, .iload_n 2, 206, 0, 0, 0), (206, .aload_n 0, 207, 0, 0, 0), (207, .getfield 58, 210, 6, 4, 0), (210, .if_icmp .ge 98, 213, 308, 0, 0), (213, .aload_n 0, 214, 0, 0, 0), (214, .iload_n 2, 215, 0, 0, 0), (215, .invokevirtual 147, 218, 44, 2, 0), (218, .ifCond .eq 84, 221, 302, 0, 0), (221, .aload_n 0, 222, 0, 0, 0), (222, .iload_n 2, 223, 0, 0, 0), (223, .invokevirtual 102, 226, 32, 2, 0), (226, .aload_n 0, 227, 0, 0, 0), (227, .iload_n 2, 228, 0, 0, 0), (228, .iconst 0, 229, 0, 0, 0), (229, .invokevirtual 140, 232, 45, 3, 0), (232, .aload_n 0, 233, 0, 0, 0), (233, .invokevirtual 110, 236, 33, 1, 0), (236, .aload_n 0, 237, 0, 0, 0), (237, .aload_n 0, 238, 0, 0, 0), (238, .getfield 156, 241, 6, 18, 0), (241, .ifCond .eq 14, 244, 255, 0, 0), (244, .aload_n 0, 245, 0, 0, 0), (245, .invokevirtual 116, 248, 34, 1, 0), (248, .ifCond .ne 7, 251, 255, 0, 0), (251, .iconst 1, 252, 0, 0, 1), (252, .goto 4, 255, 256, 0, 0), (255, .iconst 0, 256, 0, 0, 0), (256, .putfield 156, 259, 6, 18, 0), (259, .aload_n 0, 260, 0, 0, 0), (260, .iload_n 2, 261, 0, 0, 0), (261, .invokevirtual 102, 264, 32, 2, 0), (264, .aload_n 0, 265, 0, 0, 0), (265, .iload_n 2, 266, 0, 0, 0), (266, .iconst 0, 267, 0, 0, 0), (267, .invokevirtual 140, 270, 45, 3, 0), (270, .aload_n 0, 271, 0, 0, 0), (271, .iload_n 2, 272, 0, 0, 0), (272, .invokevirtual 144, 275, 46, 2, 0), (275, .aload_n 0, 276, 0, 0, 0), (276, .invokevirtual 110, 279, 33, 1, 0), (279, .aload_n 0, 280, 0, 0, 0), (280, .aload_n 0, 281, 0, 0, 0), (281, .getfield 159, 284, 6, 19, 0), (284, .ifCond .eq 14, 287, 298, 0, 0), (287, .aload_n 0, 288, 0, 0, 0), (288, .invokevirtual 116, 291, 34, 1, 0), (291, .ifCond .ne 7, 294, 298, 0, 0), (294, .iconst 1, 295, 0, 0, 1), (295, .goto 4, 298, 299, 0, 0), (298, .iconst 0, 299, 0, 0, 0), (299, .putfield 159, 302, 6, 19, 0), (302, .iinc 2 1, 305, 0, 0, 1), (305, .goto (-100), 308, 205, 0, 0), (308, .return_, 309, 0, 0, 0)]
def zp_M_strong : List za_E := [(0, .aload_n 0, 1, 0, 0, 0), (1, .iconst 0, 2, 0, 0, 0), (2, .putfield 51, 5, 6, 0, 0), (5, .aload_n 0, 6, 0, 0, 0), (6, .invokevirtual 162, 9, 49, 1, 0), (9, .aload_n 0, 10, 0, 0, 0), (10, .getfield 156, 13, 6, 18, 0), (13, .ireturn, 14, 0, 0, 0)]
def zp_M_doubly : List za_E := [(0, .aload_n 0, 1, 0, 0, 0), (1, .iconst 0, 2, 0, 0, 0), (2, .putfield 51, 5, 6, 0, 0), (5, .aload_n 0, 6, 0, 0, 0), (6, .invokevirtual 162, 9, 49, 1, 0), (9, .aload_n 0, 10, 0, 0, 0), (10, .getfield 159, 13, 6, 19, 0), (13, .ireturn, 14, 0, 0, 0)]
def zp_M_isAttribute : List za_E := [(0, .aload_n 0, 1, 0, 0, 0), (1, .iload_n 1, 2, 0, 0, 0), (2, .invokevirtual 79, 5, 25, 2, 0), (5, .ifCond .eq 37, 8, 42, 0, 0), (8, .iload_n 2, 9, 0, 0, 0), (9, .iconst 0, 10, 0, 0, 0), (10, .aload_n 0, 11, 0, 0, 0), (11, .getfield 7, 14, 6, 2, 0), (14, .iload_n 1, 15, 0, 0, 0), (15, .iconst 0, 16, 0, 0, 0), (16, .bipush 7, 18, 0, 0, 7), (18, .invokestatic 71, 21, 21, 3, 0), (21, .ifCond .eq 7, 24, 28, 0, 0), (24, .iload_n 1, 25, 0, 0, 0), (25, .goto 4, 28, 29, 0, 0), (28, .iconst 0, 29, 0, 0, 0), (29, .iaload, 30, 0, 0, 0), (30, .iconst 1, 31, 0, 0, 1), (31, .isub, 32, 0, 0, 0), (32, .invokestatic 71, 35, 21, 3, 0), (35, .ifCond .eq 7, 38, 42, 0, 0), (38, .iconst 1, 39, 0, 0, 1), (39, .goto 4, 42, 43, 0, 0), (42, .iconst 0, 43, 0, 0, 0), (43, .ireturn, 44, 0, 0, 0)]
def zp_M_relation : List za_E := [(0, .aload_n 0, 1, 0, 0, 0), (1, .aload_n 0, 2, 0, 0, 0), (2, .iload_n 1, 3, 0, 0, 0), (3, .iload_n 2, 4, 0, 0, 0), (4, .invokevirtual 165, 7, 52, 3, 0), (7, .ifCond .ne 7, 10, 14, 0, 0), (10, .iconst 1, 11, 0, 0, 1), (11, .goto 4, 14, 15, 0, 0), (14, .iconst 0, 15, 0, 0, 0), (15, .iconst 0, 16, 0, 0, 0), (16, .invokevirtual 75, 19, 20, 3, 0), (19, .ifCond .eq 5, 22, 24, 0, 0), (22, .iconst 0, 23, 0, 0, 0), (23, .ireturn, 24, 0, 0, 0), (24, .aload_n 0, 25, 0, 0, 0), (25, .invokevirtual 162, 28, 49, 1, 0), (28, .aload_n 0, 29, 0, 0, 0), (29, .getfield 35, 32, 6, 15, 0), (32, .iload_n 1, 33, 0, 0, 0), (33, .baload, 34, 0, 0, 0), (34, .ifCond .ne 7, 37, 41, 0, 0), (37, .iconst (-1), 38, 0, 0, (-1)), (38, .goto 32, 41, 70, 0, 0), (41, .iload_n 3, 42, 0, 0, 0), (42, .ifCond .eq 17, 45, 59, 0, 0), (45, .aload_n 0, 46, 0, 0, 0), (46, .getfield 42, 49, 6, 17, 0), (49, .bipush 8, 51, 0, 0, 8), (51, .iload_n 1, 52, 0, 0, 0), (52, .imul, 53, 0, 0, 0), (53, .iload_n 2, 54, 0, 0, 0), (54, .iadd, 55, 0, 0, 0), (55, .iaload, 56, 0, 0, 0), (56, .goto 14, 59, 70, 0, 0), (59, .aload_n 0, 60, 0, 0, 0), (60, .getfield 39, 63, 6, 16, 0), (63, .bipush 8, 65, 0, 0, 8), (65, .iload_n 1, 66, 0, 0, 0), (66, .imul, 67, 0, 0, 0), (67, .iload_n 2, 68, 0, 0, 0), (68, .iadd, 69, 0, 0, 0), (69, .iaload, 70, 0, 0, 0), (70, .ireturn, 71, 0, 0, 0)]
def zp_M_inSet : List za_E := [(0, .aload_n 0, 1, 0, 0, 0), (1, .getfield 48, 4, 6, 21, 0), (4, .bipush 8, 6, 0, 0, 8), (6, .aload_n 0, 7, 0, 0, 0), (7, .iload_n 1, 8, 0, 0, 0), (8, .iload_n 2, 9, 0, 0, 0), (9, .bipush 8, 11, 0, 0, 8), (11, .idiv, 12, 0, 0, 0), (12, .invokevirtual 83, 15, 28, 3, 0), (15, .imul, 16, 0, 0, 0), (16, .iload_n 2, 17, 0, 0, 0), (17, .bipush 8, 19, 0, 0, 8), (19, .irem, 20, 0, 0, 0), (20, .iadd, 21, 0, 0, 0), (21, .baload, 22, 0, 0, 0), (22, .ireturn, 23, 0, 0, 0)]
def zp_M_mayStay : List za_E := [(0, .iconst 1, 1, 0, 0, 1), (1, .istore 4, 3, 0, 0, 0), (3, .iload_n 2, 4, 0, 0, 0), (4, .bipush 8, 6, 0, 0, 8), (6, .idiv, 7, 0, 0, 0), (7, .istore 5, 9, 0, 0, 0), (9, .iconst 0, 10, 0, 0, 0), (10, .istore 6, 12, 0, 0, 0), (12, .iload 6, 14, 0, 0, 0), (14, .bipush 32, 16, 0, 0, 32), (16, .if_icmp .ge 135, 19, 151, 0, 0), (19, .aload_n 0, 20, 0, 0, 0), (20, .getfield 19, 23, 6, 6, 0), (23, .bipush 32, 25, 0, 0, 32), (25, .iload_n 1, 26, 0, 0, 0), (26, .imul, 27, 0, 0, 0), (27, .iload_n 2, 28, 0, 0, 0), (28, .iadd, 29, 0, 0, 0), (29, .iaload, 30, 0, 0, 0), (30, .iload 6, 32, 0, 0, 0), (32, .ishr, 33, 0, 0, 0), (33, .iconst 1, 34, 0, 0, 1), (34, .iand, 35, 0, 0, 0), (35, .ifCond .ne 6, 38, 41, 0, 0), (38, .goto 107, 41, 145, 0, 0), (41, .aload_n 0, 42, 0, 0, 0), (42, .getfield 45, 45, 6, 20, 0), (45, .bipush 8, 47, 0, 0, 8), (47, .aload_n 0, 48, 0, 0, 0), (48, .iload_n 1, 49, 0, 0, 0), (49, .iload 6, 51, 0, 0, 0), (51, .bipush 8, 53, 0, 0, 8), (53, .idiv, 54, 0, 0, 0), (54, .invokevirtual 83, 57, 28, 3, 0), (57, .imul, 58, 0, 0, 0), (58, .iload 6, 60, 0, 0, 0), (60, .bipush 8, 62, 0, 0, 8), (62, .irem, 63, 0, 0, 0), (63, .iadd, 64, 0, 0, 0), (64, .iaload, 65, 0, 0, 0), (65, .istore 7, 67, 0, 0, 0), (67, .iload 5, 69, 0, 0, 0), (69, .ifCond .eq 37, 72, 106, 0, 0), (72, .iload 6, 74, 0, 0, 0), (74, .bipush 8, 76, 0, 0, 8), (76, .if_icmp .lt 30, 79, 106, 0, 0), (79, .iload_n 3, 80, 0, 0, 0), (80, .ifCond .eq 16, 83, 96, 0, 0), (83, .iload 6, 85, 0, 0, 0), (85, .bipush 8, 87, 0, 0, 8), (87, .idiv, 88, 0, 0, 0), (88, .iload 5, 90, 0, 0, 0), (90, .if_icmp .ge 20, 93, 110, 0, 0), (93, .goto 13, 96, 106, 0, 0), (96, .iload 6, 98, 0, 0, 0), (98, .bipush 8, 100, 0, 0, 8), (100, .idiv, 101, 0, 0, 0), (101, .iload 5, 103, 0, 0, 0), (103, .if_icmp .le 7, 106, 110, 0, 0), (106, .iconst 1, 107, 0, 0, 1), (107, .goto 4, 110, 111, 0, 0), (110, .iconst 0, 111, 0, 0, 0), (111, .istore 8, 113, 0, 0, 0), (113, .iload 4, 115, 0, 0, 0), (115, .ifCond .eq 27, 118, 142, 0, 0), (118, .iload 7, 120, 0, 0, 0), (120, .ifCond .gt 18, 123, 138, 0, 0), (123, .aload_n 0, 124, 0, 0, 0), (124, .iload_n 1, 125, 0, 0, 0), (125, .iload 6, 127, 0, 0, 0), (127, .invokevirtual 168, 130, 54, 3, 0), (130, .ifCond .eq 12, 133, 142, 0, 0), (133, .iload 8, 135, 0, 0, 0), (135, .ifCond .eq 7, 138, 142, 0, 0), (138, .iconst 1, 139, 0, 0, 1), (139, .goto 4, 142, 143, 0, 0), (142, .iconst 0, 143, 0, 0, 0), (143, .istore 4, 145, 0, 0, 0), (145, .iinc 6 1, 148, 0, 0, 1), (148, .goto (-136), 151, 12, 0, 0), (151, .iload 4, 153, 0, 0, 0), (153, .ireturn, 154, 0, 0, 0)]
def zp_M_leaveOut : List za_E := [(0, .iconst 0, 1, 0, 0, 0), (1, .istore_n 2, 2, 0, 0, 0), (2, .iconst 0, 3, 0, 0, 0), (3, .istore_n 3, 4, 0, 0, 0), (4, .iload_n 3, 5, 0, 0, 0), (5, .aload_n 0, 6, 0, 0, 0), (6, .getfield 58, 9, 6, 4, 0), (9, .if_icmp .ge 83, 12, 92, 0, 0), (12, .iconst 0, 13, 0, 0, 0), (13, .istore 4, 15, 0, 0, 0), (15, .iload 4, 17, 0, 0, 0), (17, .bipush 32, 19, 0, 0, 32), (19, .if_icmp .ge 67, 22, 86, 0, 0), (22, .aload_n 0, 23, 0, 0, 0), (23, .iload_n 3, 24, 0, 0, 0), (24, .iload 4, 26, 0, 0, 0), (26, .invokevirtual 94, 29, 30, 3, 0), (29, .ifCond .eq 51, 32, 80, 0, 0), (32, .aload_n 0, 33, 0, 0, 0), (33, .iload_n 3, 34, 0, 0, 0), (34, .iload 4, 36, 0, 0, 0), (36, .invokevirtual 168, 39, 54, 3, 0), (39, .ifCond .eq 41, 42, 80, 0, 0), (42, .aload_n 0, 43, 0, 0, 0), (43, .iload_n 3, 44, 0, 0, 0), (44, .iload 4, 46, 0, 0, 0), (46, .iload_n 1, 47, 0, 0, 0), (47, .invokevirtual 171, 50, 55, 4, 0), (50, .ifCond .ne 30, 53, 80, 0, 0), (53, .aload_n 0, 54, 0, 0, 0), (54, .getfield 48, 57, 6, 21, 0), (57, .bipush 8, 59, 0, 0, 8), (59, .aload_n 0, 60, 0, 0, 0), (60, .iload_n 3, 61, 0, 0, 0), (61, .iload 4, 63, 0, 0, 0), (63, .bipush 8, 65, 0, 0, 8), (65, .idiv, 66, 0, 0, 0), (66, .invokevirtual 83, 69, 28, 3, 0), (69, .imul, 70, 0, 0, 0), (70, .iload 4, 72, 0, 0, 0), (72, .bipush 8, 74, 0, 0, 8), (74, .irem, 75, 0, 0, 0), (75, .iadd, 76, 0, 0, 0), (76, .iconst 0, 77, 0, 0, 0), (77, .bastore, 78, 0, 0, 0), (78, .iconst 1, 79, 0, 0, 1), (79, .istore_n 2, 80, 0, 0, 0), (80, .iinc 4 1, 83, 0, 0, 1), (83, .goto (-68), 86, 15, 0, 0), (86, .iinc 3 1, 89, 0, 0, 1), (89, .goto (-85), 92, 4, 0, 0), (92, .iload_n 2, 93, 0, 0, 0), (93, .ireturn, 94, 0, 0, 0)]
def zp_M_onePass : List za_E := [(0, .iconst 0, 1, 0, 0, 0), (1, .istore_n 3, 2, 0, 0, 0), (2, .iload_n 3, 3, 0, 0, 0), (3, .bipush 64, 5, 0, 0, 64), (5, .if_icmp .ge 56, 8, 61, 0, 0), (8, .aload_n 0, 9, 0, 0, 0), (9, .getfield 48, 12, 6, 21, 0), (12, .iload_n 3, 13, 0, 0, 0), (13, .iload_n 3, 14, 0, 0, 0), (14, .bipush 8, 16, 0, 0, 8), (16, .idiv, 17, 0, 0, 0), (17, .aload_n 0, 18, 0, 0, 0), (18, .getfield 55, 21, 6, 1, 0), (21, .if_icmp .ge 32, 24, 53, 0, 0), (24, .iload_n 3, 25, 0, 0, 0), (25, .bipush 8, 27, 0, 0, 8), (27, .irem, 28, 0, 0, 0), (28, .aload_n 0, 29, 0, 0, 0), (29, .getfield 7, 32, 6, 2, 0), (32, .iload_n 3, 33, 0, 0, 0), (33, .bipush 8, 35, 0, 0, 8), (35, .idiv, 36, 0, 0, 0), (36, .iaload, 37, 0, 0, 0), (37, .if_icmp .ge 16, 40, 53, 0, 0), (40, .aload_n 0, 41, 0, 0, 0), (41, .getfield 45, 44, 6, 20, 0), (44, .iload_n 3, 45, 0, 0, 0), (45, .iaload, 46, 0, 0, 0), (46, .ifCond .ne 7, 49, 53, 0, 0), (49, .iconst 1, 50, 0, 0, 1), (50, .goto 4, 53, 54, 0, 0), (53, .iconst 0, 54, 0, 0, 0), (54, .bastore, 55, 0, 0, 0), (55, .iinc 3 1, 58, 0, 0, 1), (58, .goto (-56), 61, 2, 0, 0), (61, .iconst 1, 62, 0, 0, 1), (62, .istore_n 3, 63, 0, 0, 0), (63, .iload_n 3, 64, 0, 0, 0), (64, .ifCond .eq 12, 67, 76, 0, 0), (67, .aload_n 0, 68, 0, 0, 0), (68, .iload_n 2, 69, 0, 0, 0), (69, .invokevirtual 175, 72, 56, 2, 0), (72, .istore_n 3, 73, 0, 0, 0), (73, .goto (-10), 76, 63, 0, 0), (76, .iconst 0, 77, 0, 0, 0), (77, .istore 4, 79, 0, 0, 0), (79, .iconst 0, 80, 0, 0, 0), (80, .istore 5, 82, 0, 0, 0), (82, .iload 5, 84, 0, 0, 0), (84, .bipush 64, 86, 0, 0, 64), (86, .if_icmp .ge 58, 89, 144, 0, 0), (89, .aload_n 0, 90, 0, 0, 0), (90, .getfield 45, 93, 6, 20, 0), (93, .iload 5, 95, 0, 0, 0), (95, .aload_n 0, 96, 0, 0, 0), (96, .getfield 48, 99, 6, 21, 0), (99, .iload 5, 101, 0, 0, 0), (101, .baload, 102, 0, 0, 0), (102, .ifCond .eq 7, 105, 109, 0, 0), (105, .iload_n 1, 106, 0, 0, 0), (106, .goto 10, 109, 116, 0, 0), (109, .aload_n 0, 110, 0, 0, 0), (110, .getfield 45, 113, 6, 20, 0), (113, .iload 5, 115, 0, 0, 0), (115, .iaload, 116, 0, 0, 0), (116, .iastore, 117, 0, 0, 0), (117, .aload_n 0, 118, 0, 0, 0), (118, .getfield 48, 121, 6, 21, 0), (121, .iload 5, 123, 0, 0, 0), (123, .baload, 124, 0, 0, 0), (124, .ifCond .eq 10, 127, 134, 0, 0), (127, .iload 4, 129, 0, 0, 0), (129, .iconst 1, 130, 0, 0, 1), (130, .iadd, 131, 0, 0, 0), (131, .goto 5, 134, 136, 0, 0), (134, .iload 4, 136, 0, 0, 0), (136, .istore 4, 138, 0, 0, 0), (138, .iinc 5 1, 141, 0, 0, 1), (141, .goto (-59), 144, 82, 0, 0), (144, .iload 4, 146, 0, 0, 0), (146, .ireturn, 147, 0, 0, 0)]
def zp_M_findPasses : List za_E := [(0, .iconst 0, 1, 0, 0, 0), (1, .istore_n 2, 2, 0, 0, 0), (2, .iload_n 2, 3, 0, 0, 0), (3, .bipush 64, 5, 0, 0, 64), (5, .if_icmp .ge 16, 8, 21, 0, 0), (8, .aload_n 0, 9, 0, 0, 0), (9, .getfield 45, 12, 6, 20, 0), (12, .iload_n 2, 13, 0, 0, 0), (13, .iconst 0, 14, 0, 0, 0), (14, .iastore, 15, 0, 0, 0), (15, .iinc 2 1, 18, 0, 0, 1), (18, .goto (-16), 21, 2, 0, 0), (21, .aload_n 0, 22, 0, 0, 0), (22, .iconst 0, 23, 0, 0, 0), (23, .putfield 179, 26, 6, 22, 0), (26, .iconst 0, 27, 0, 0, 0), (27, .istore_n 2, 28, 0, 0, 0), (28, .iconst 1, 29, 0, 0, 1), (29, .istore_n 3, 30, 0, 0, 0), (30, .iload_n 2, 31, 0, 0, 0), (31, .iload_n 1, 32, 0, 0, 0), (32, .ifCond .eq 7, 35, 39, 0, 0), (35, .iconst 2, 36, 0, 0, 2), (36, .goto 4, 39, 40, 0, 0), (39, .iconst 1, 40, 0, 0, 1), (40, .if_icmp .ge 62, 43, 102, 0, 0), (43, .aload_n 0, 44, 0, 0, 0), (44, .iload_n 3, 45, 0, 0, 0), (45, .iload_n 1, 46, 0, 0, 0), (46, .ifCond .eq 10, 49, 56, 0, 0), (49, .iload_n 3, 50, 0, 0, 0), (50, .iconst 2, 51, 0, 0, 2), (51, .irem, 52, 0, 0, 0), (52, .iconst 1, 53, 0, 0, 1), (53, .if_icmp .ne 7, 56, 60, 0, 0), (56, .iconst 1, 57, 0, 0, 1), (57, .goto 4, 60, 61, 0, 0), (60, .iconst 0, 61, 0, 0, 0), (61, .invokevirtual 182, 64, 57, 3, 0), (64, .istore 4, 66, 0, 0, 0), (66, .iload 4, 68, 0, 0, 0), (68, .ifCond .le 7, 71, 75, 0, 0), (71, .iconst 0, 72, 0, 0, 0), (72, .goto 6, 75, 78, 0, 0), (75, .iload_n 2, 76, 0, 0, 0), (76, .iconst 1, 77, 0, 0, 1), (77, .iadd, 78, 0, 0, 0), (78, .istore_n 2, 79, 0, 0, 0), (79, .aload_n 0, 80, 0, 0, 0), (80, .iload 4, 82, 0, 0, 0), (82, .ifCond .le 7, 85, 89, 0, 0), (85, .iload_n 3, 86, 0, 0, 0), (86, .goto 7, 89, 93, 0, 0), (89, .aload_n 0, 90, 0, 0, 0), (90, .getfield 179, 93, 6, 22, 0), (93, .putfield 179, 96, 6, 22, 0), (96, .iinc 3 1, 99, 0, 0, 1), (99, .goto (-69), 102, 30, 0, 0), (102, .return_, 103, 0, 0, 0)]
def zp_M_pass : List za_E := [(0, .aload_n 0, 1, 0, 0, 0), (1, .aload_n 0, 2, 0, 0, 0), (2, .iload_n 1, 3, 0, 0, 0), (3, .iload_n 2, 4, 0, 0, 0), (4, .invokevirtual 165, 7, 52, 3, 0), (7, .ifCond .ne 7, 10, 14, 0, 0), (10, .iconst 1, 11, 0, 0, 1), (11, .goto 4, 14, 15, 0, 0), (14, .iconst 0, 15, 0, 0, 0), (15, .iconst 0, 16, 0, 0, 0), (16, .invokevirtual 75, 19, 20, 3, 0), (19, .ifCond .eq 5, 22, 24, 0, 0), (22, .iconst 0, 23, 0, 0, 0), (23, .ireturn, 24, 0, 0, 0), (24, .aload_n 0, 25, 0, 0, 0), (25, .iload_n 3, 26, 0, 0, 0), (26, .invokevirtual 186, 29, 58, 2, 0), (29, .aload_n 0, 30, 0, 0, 0), (30, .getfield 45, 33, 6, 20, 0), (33, .bipush 8, 35, 0, 0, 8), (35, .iload_n 1, 36, 0, 0, 0), (36, .imul, 37, 0, 0, 0), (37, .iload_n 2, 38, 0, 0, 0), (38, .iadd, 39, 0, 0, 0), (39, .iaload, 40, 0, 0, 0), (40, .ifCond .ne 7, 43, 47, 0, 0), (43, .iconst (-1), 44, 0, 0, (-1)), (44, .goto 14, 47, 58, 0, 0), (47, .aload_n 0, 48, 0, 0, 0), (48, .getfield 45, 51, 6, 20, 0), (51, .bipush 8, 53, 0, 0, 8), (53, .iload_n 1, 54, 0, 0, 0), (54, .imul, 55, 0, 0, 0), (55, .iload_n 2, 56, 0, 0, 0), (56, .iadd, 57, 0, 0, 0), (57, .iaload, 58, 0, 0, 0), (58, .ireturn, 59, 0, 0, 0)]
def zp_M_passes : List za_E := [(0, .aload_n 0, 1, 0, 0, 0), (1, .iconst 0, 2, 0, 0, 0), (2, .putfield 51, 5, 6, 0, 0), (5, .aload_n 0, 6, 0, 0, 0), (6, .iload_n 1, 7, 0, 0, 0), (7, .invokevirtual 186, 10, 58, 2, 0), (10, .iconst 1, 11, 0, 0, 1), (11, .istore_n 2, 12, 0, 0, 0), (12, .iconst 0, 13, 0, 0, 0), (13, .istore_n 3, 14, 0, 0, 0), (14, .iload_n 3, 15, 0, 0, 0), (15, .bipush 64, 17, 0, 0, 64), (17, .if_icmp .ge 55, 20, 72, 0, 0), (20, .iload_n 2, 21, 0, 0, 0), (21, .ifCond .eq 43, 24, 64, 0, 0), (24, .iload_n 3, 25, 0, 0, 0), (25, .bipush 8, 27, 0, 0, 8), (27, .idiv, 28, 0, 0, 0), (28, .aload_n 0, 29, 0, 0, 0), (29, .getfield 55, 32, 6, 1, 0), (32, .if_icmp .ge 28, 35, 60, 0, 0), (35, .iload_n 3, 36, 0, 0, 0), (36, .bipush 8, 38, 0, 0, 8), (38, .irem, 39, 0, 0, 0), (39, .aload_n 0, 40, 0, 0, 0), (40, .getfield 7, 43, 6, 2, 0), (43, .iload_n 3, 44, 0, 0, 0), (44, .bipush 8, 46, 0, 0, 8), (46, .idiv, 47, 0, 0, 0), (47, .iaload, 48, 0, 0, 0), (48, .if_icmp .ge 12, 51, 60, 0, 0), (51, .aload_n 0, 52, 0, 0, 0), (52, .getfield 45, 55, 6, 20, 0), (55, .iload_n 3, 56, 0, 0, 0), (56, .iaload, 57, 0, 0, 0), (57, .ifCond .le 7, 60, 64, 0, 0), (60, .iconst 1, 61, 0, 0, 1), (61, .goto 4, 64, 65, 0, 0), (64, .iconst 0, 65, 0, 0, 0), (65, .istore_n 2, 66, 0, 0, 0), (66, .iinc 3 1, 69, 0, 0, 1), (69, .goto (-55), 72, 14, 0, 0), (72, .iload_n 2, 73, 0, 0, 0), (73, .ifCond .eq 10, 76, 83, 0, 0), (76, .aload_n 0, 77, 0, 0, 0), (77, .getfield 179, 80, 6, 22, 0), (80, .goto 4, 83, 84, 0, 0), (83, .iconst (-1), 84, 0, 0, (-1)), (84, .ireturn, 85, 0, 0, 0)]
def zp_B_start : List za_E := [(0, .aload_n 1, 1, 0, 0, 0), (1, .iconst 0, 2, 0, 0, 0), (2, .aload_n 0, 3, 0, 0, 0), (3, .getfield 9, 6, 0, 0, 0), (6, .iconst 0, 7, 0, 0, 0), (7, .bipush 32, 9, 0, 0, 32), (9, .invokestatic 19, 12, 999, 0, 0), (12, .aload_n 0, 13, 0, 0, 0), (13, .iconst 0, 14, 0, 0, 0), (14, .putfield 15, 17, 0, 1, 0), (17, .return_, 18, 0, 0, 0)]
def zp_B_startFrom : List za_E := [(0, .aload_n 1, 1, 0, 0, 0), (1, .getfield 9, 4, 0, 0, 0), (4, .iconst 0, 5, 0, 0, 0), (5, .aload_n 0, 6, 0, 0, 0), (6, .getfield 9, 9, 0, 0, 0), (9, .iconst 0, 10, 0, 0, 0), (10, .bipush 32, 12, 0, 0, 32), (12, .invokestatic 19, 15, 999, 0, 0), (15, .aload_n 0, 16, 0, 0, 0), (16, .aload_n 1, 17, 0, 0, 0), (17, .getfield 15, 20, 0, 1, 0), (20, .putfield 15, 23, 0, 1, 0), (23, .return_, 24, 0, 0, 0)]
def zp_B_lay : List za_E := [(0, .bipush 8, 2, 0, 0, 8), (2, .iload_n 1, 3, 0, 0, 0), (3, .imul, 4, 0, 0, 0), (4, .istore 4, 6, 0, 0, 0), (6, .iconst 0, 7, 0, 0, 0), (7, .istore 5, 9, 0, 0, 0), (9, .iload 5, 11, 0, 0, 0), (11, .bipush 6, 13, 0, 0, 6), (13, .if_icmp .ge 31, 16, 44, 0, 0), (16, .aload_n 0, 17, 0, 0, 0), (17, .getfield 9, 20, 0, 0, 0), (20, .iload 4, 22, 0, 0, 0), (22, .iload 5, 24, 0, 0, 0), (24, .iadd, 25, 0, 0, 0), (25, .dup2, 26, 0, 0, 0), (26, .iaload, 27, 0, 0, 0), (27, .lload_n 2, 28, 0, 0, 0), (28, .iload 5, 30, 0, 0, 0), (30, .invokestatic 25, 33, 18, 2, 0), (33, .iload 4, 35, 0, 0, 0), (35, .ishl, 36, 0, 0, 0), (36, .ior, 37, 0, 0, 0), (37, .iastore, 38, 0, 0, 0), (38, .iinc 5 1, 41, 0, 0, 1), (41, .goto (-32), 44, 9, 0, 0), (44, .return_, 45, 0, 0, 0)]
def zp_B_join : List za_E := [(0, .bipush 8, 2, 0, 0, 8), (2, .iload_n 1, 3, 0, 0, 0), (3, .imul, 4, 0, 0, 0), (4, .istore_n 2, 5, 0, 0, 0), (5, .iconst 0, 6, 0, 0, 0), (6, .istore_n 3, 7, 0, 0, 0), (7, .iload_n 3, 8, 0, 0, 0), (8, .bipush 6, 10, 0, 0, 6), (10, .if_icmp .ge 27, 13, 37, 0, 0), (13, .aload_n 0, 14, 0, 0, 0), (14, .getfield 9, 17, 0, 0, 0), (17, .iload_n 2, 18, 0, 0, 0), (18, .iload_n 3, 19, 0, 0, 0), (19, .iadd, 20, 0, 0, 0), (20, .iaload, 21, 0, 0, 0), (21, .ifCond .eq 10, 24, 31, 0, 0), (24, .aload_n 0, 25, 0, 0, 0), (25, .iload_n 2, 26, 0, 0, 0), (26, .iload_n 3, 27, 0, 0, 0), (27, .iadd, 28, 0, 0, 0), (28, .invokevirtual 29, 31, 65, 2, 0), (31, .iinc 3 1, 34, 0, 0, 1), (34, .goto (-27), 37, 7, 0, 0), (37, .return_, 38, 0, 0, 0)]
def zp_B_joinAt : List za_E := [(0, .aload_n 0, 1, 0, 0, 0), (1, .getfield 9, 4, 0, 0, 0), (4, .iload_n 1, 5, 0, 0, 0), (5, .iaload, 6, 0, 0, 0), (6, .istore_n 2, 7, 0, 0, 0), (7, .iconst 1, 8, 0, 0, 1), (8, .iload_n 1, 9, 0, 0, 0), (9, .ishl, 10, 0, 0, 0), (10, .istore_n 3, 11, 0, 0, 0), (11, .iload_n 2, 12, 0, 0, 0), (12, .iload_n 3, 13, 0, 0, 0), (13, .iand, 14, 0, 0, 0), (14, .ifCond .eq 8, 17, 22, 0, 0), (17, .aload_n 0, 18, 0, 0, 0), (18, .iconst 1, 19, 0, 0, 1), (19, .putfield 15, 22, 0, 1, 0), (22, .iconst 0, 23, 0, 0, 0), (23, .istore 4, 25, 0, 0, 0), (25, .iload 4, 27, 0, 0, 0), (27, .bipush 32, 29, 0, 0, 32), (29, .if_icmp .ge 32, 32, 61, 0, 0), (32, .aload_n 0, 33, 0, 0, 0), (33, .getfield 9, 36, 0, 0, 0), (36, .iload 4, 38, 0, 0, 0), (38, .iaload, 39, 0, 0, 0), (39, .iload_n 3, 40, 0, 0, 0), (40, .iand, 41, 0, 0, 0), (41, .ifCond .eq 14, 44, 55, 0, 0), (44, .aload_n 0, 45, 0, 0, 0), (45, .getfield 9, 48, 0, 0, 0), (48, .iload 4, 50, 0, 0, 0), (50, .dup2, 51, 0, 0, 0), (51, .iaload, 52, 0, 0, 0), (52, .iload_n 2, 53, 0, 0, 0), (53, .ior, 54, 0, 0, 0), (54, .iastore, 55, 0, 0, 0), (55, .iinc 4 1, 58, 0, 0, 1), (58, .goto (-33), 61, 25, 0, 0), (61, .return_, 62, 0, 0, 0)]
def zp_B_relationAt : List za_E := [(0, .bipush 8, 2, 0, 0, 8), (2, .iload_n 1, 3, 0, 0, 0), (3, .imul, 4, 0, 0, 0), (4, .istore_n 2, 5, 0, 0, 0), (5, .lconst 0, 6, 0, 0, 0), (6, .lstore_n 3, 7, 0, 0, 0), (7, .iconst 0, 8, 0, 0, 0), (8, .istore 5, 10, 0, 0, 0), (10, .iload 5, 12, 0, 0, 0), (12, .bipush 6, 14, 0, 0, 6), (14, .if_icmp .ge 38, 17, 52, 0, 0), (17, .aload_n 0, 18, 0, 0, 0), (18, .getfield 9, 21, 0, 0, 0), (21, .iload_n 2, 22, 0, 0, 0), (22, .iload 5, 24, 0, 0, 0), (24, .iadd, 25, 0, 0, 0), (25, .iaload, 26, 0, 0, 0), (26, .iload_n 2, 27, 0, 0, 0), (27, .iushr, 28, 0, 0, 0), (28, .sipush 255, 31, 0, 0, 255), (31, .iand, 32, 0, 0, 0), (32, .i2l, 33, 0, 0, 0), (33, .lstore 6, 35, 0, 0, 0), (35, .lload_n 3, 36, 0, 0, 0), (36, .lload 6, 38, 0, 0, 0), (38, .bipush 8, 40, 0, 0, 8), (40, .iload 5, 42, 0, 0, 0), (42, .imul, 43, 0, 0, 0), (43, .lshl, 44, 0, 0, 0), (44, .lor, 45, 0, 0, 0), (45, .lstore_n 3, 46, 0, 0, 0), (46, .iinc 5 1, 49, 0, 0, 1), (49, .goto (-39), 52, 10, 0, 0), (52, .lload_n 3, 53, 0, 0, 0), (53, .lreturn, 54, 0, 0, 0)]
def zp_G_wipe : List za_E := [(0, .aload_n 0, 1, 0, 0, 0), (1, .iconst 0, 2, 0, 0, 0), (2, .putfield 9, 5, 1, 0, 0), (5, .aload_n 0, 6, 0, 0, 0), (6, .iconst 0, 7, 0, 0, 0), (7, .putfield 22, 10, 1, 3, 0), (10, .return_, 11, 0, 0, 0)]
def zp_G_hasSymbol : List za_E := [(0, .iload_n 1, 1, 0, 0, 0), (1, .ifCond .lt 15, 4, 16, 0, 0), (4, .iload_n 1, 5, 0, 0, 0), (5, .aload_n 0, 6, 0, 0, 0), (6, .getfield 9, 9, 1, 0, 0), (9, .if_icmp .ge 7, 12, 16, 0, 0), (12, .iconst 1, 13, 0, 0, 1), (13, .goto 4, 16, 17, 0, 0), (16, .iconst 0, 17, 0, 0, 0), (17, .ireturn, 18, 0, 0, 0)]
def zp_G_canBePart : List za_E := [(0, .iload_n 1, 1, 0, 0, 0), (1, .iconst (-1), 2, 0, 0, (-1)), (2, .if_icmp .eq 11, 5, 13, 0, 0), (5, .aload_n 0, 6, 0, 0, 0), (6, .iload_n 1, 7, 0, 0, 0), (7, .invokevirtual 42, 10, 68, 2, 0), (10, .ifCond .eq 7, 13, 17, 0, 0), (13, .iconst 1, 14, 0, 0, 1), (14, .goto 4, 17, 18, 0, 0), (17, .iconst 0, 18, 0, 0, 0), (18, .ireturn, 19, 0, 0, 0)]
def zp_G_hasProduction : List za_E := [(0, .iload_n 1, 1, 0, 0, 0), (1, .ifCond .lt 15, 4, 16, 0, 0), (4, .iload_n 1, 5, 0, 0, 0), (5, .aload_n 0, 6, 0, 0, 0), (6, .getfield 22, 9, 1, 3, 0), (9, .if_icmp .ge 7, 12, 16, 0, 0), (12, .iconst 1, 13, 0, 0, 1), (13, .goto 4, 16, 17, 0, 0), (16, .iconst 0, 17, 0, 0, 0), (17, .ireturn, 18, 0, 0, 0)]
def zp_G_defines : List za_E := [(0, .iload_n 2, 1, 0, 0, 0), (1, .ifCond .lt 26, 4, 27, 0, 0), (4, .iload_n 2, 5, 0, 0, 0), (5, .bipush 32, 7, 0, 0, 32), (7, .if_icmp .ge 20, 10, 27, 0, 0), (10, .aload_n 0, 11, 0, 0, 0), (11, .getfield 36, 14, 1, 7, 0), (14, .iload_n 1, 15, 0, 0, 0), (15, .iaload, 16, 0, 0, 0), (16, .iload_n 2, 17, 0, 0, 0), (17, .invokestatic 46, 20, 17, 2, 0), (20, .ifCond .eq 7, 23, 27, 0, 0), (23, .iconst 1, 24, 0, 0, 1), (24, .goto 4, 27, 28, 0, 0), (27, .iconst 0, 28, 0, 0, 0), (28, .ireturn, 29, 0, 0, 0)]
def zp_G_isGiven : List za_E := [(0, .iload_n 2, 1, 0, 0, 0), (1, .ifCond .lt 26, 4, 27, 0, 0), (4, .iload_n 2, 5, 0, 0, 0), (5, .bipush 32, 7, 0, 0, 32), (7, .if_icmp .ge 20, 10, 27, 0, 0), (10, .aload_n 0, 11, 0, 0, 0), (11, .getfield 39, 14, 1, 8, 0), (14, .iload_n 1, 15, 0, 0, 0), (15, .iaload, 16, 0, 0, 0), (16, .iload_n 2, 17, 0, 0, 0), (17, .invokestatic 46, 20, 17, 2, 0), (20, .ifCond .eq 7, 23, 27, 0, 0), (23, .iconst 1, 24, 0, 0, 1), (24, .goto 4, 27, 28, 0, 0), (27, .iconst 0, 28, 0, 0, 0), (28, .ireturn, 29, 0, 0, 0)]
def zp_G_addSymbol : List za_E := [(0, .aload_n 0, 1, 0, 0, 0), (1, .getfield 15, 4, 1, 1, 0), (4, .aload_n 0, 5, 0, 0, 0), (5, .getfield 9, 8, 1, 0, 0), (8, .iload_n 1, 9, 0, 0, 0), (9, .iastore, 10, 0, 0, 0), (10, .aload_n 0, 11, 0, 0, 0), (11, .getfield 19, 14, 1, 2, 0), (14, .aload_n 0, 15, 0, 0, 0), (15, .getfield 9, 18, 1, 0, 0), (18, .iload_n 2, 19, 0, 0, 0), (19, .iastore, 20, 0, 0, 0), (20, .aload_n 0, 21, 0, 0, 0), (21, .dup, 22, 0, 0, 0), (22, .getfield 9, 25, 1, 0, 0), (25, .iconst 1, 26, 0, 0, 1), (26, .iadd, 27, 0, 0, 0), (27, .putfield 9, 30, 1, 0, 0), (30, .aload_n 0, 31, 0, 0, 0), (31, .getfield 9, 34, 1, 0, 0), (34, .iconst 1, 35, 0, 0, 1), (35, .isub, 36, 0, 0, 0), (36, .ireturn, 37, 0, 0, 0)]
def zp_G_addProduction : List za_E := [(0, .aload_n 0, 1, 0, 0, 0), (1, .getfield 22, 4, 1, 3, 0), (4, .istore 5, 6, 0, 0, 0), (6, .aload_n 0, 7, 0, 0, 0), (7, .dup, 8, 0, 0, 0), (8, .getfield 22, 11, 1, 3, 0), (11, .iconst 1, 12, 0, 0, 1), (12, .iadd, 13, 0, 0, 0), (13, .putfield 22, 16, 1, 3, 0), (16, .aload_n 0, 17, 0, 0, 0), (17, .getfield 25, 20, 1, 4, 0), (20, .iload 5, 22, 0, 0, 0), (22, .iconst 0, 23, 0, 0, 0), (23, .iastore, 24, 0, 0, 0), (24, .iconst 0, 25, 0, 0, 0), (25, .istore 6, 27, 0, 0, 0), (27, .iload 6, 29, 0, 0, 0), (29, .bipush 32, 31, 0, 0, 32), (31, .if_icmp .ge 20, 34, 51, 0, 0), (34, .aload_n 0, 35, 0, 0, 0), (35, .getfield 33, 38, 1, 6, 0), (38, .iload 5, 40, 0, 0, 0), (40, .aaload, 41, 0, 0, 0), (41, .iload 6, 43, 0, 0, 0), (43, .iconst 0, 44, 0, 0, 0), (44, .iastore, 45, 0, 0, 0), (45, .iinc 6 1, 48, 0, 0, 1), (48, .goto (-21), 51, 27, 0, 0), (51, .aload_n 0, 52, 0, 0, 0), (52, .getfield 30, 55, 1, 5, 0), (55, .iload 5, 57, 0, 0, 0), (57, .aaload, 58, 0, 0, 0), (58, .iconst 0, 59, 0, 0, 0), (59, .iload_n 1, 60, 0, 0, 0), (60, .iastore, 61, 0, 0, 0), (61, .aload_n 0, 62, 0, 0, 0), (62, .getfield 36, 65, 1, 7, 0), (65, .iload 5, 67, 0, 0, 0), (67, .aload_n 0, 68, 0, 0, 0), (68, .iload_n 1, 69, 0, 0, 0), (69, .invokevirtual 50, 72, 78, 2, 0), (72, .iastore, 73, 0, 0, 0), (73, .aload_n 0, 74, 0, 0, 0), (74, .getfield 39, 77, 1, 8, 0), (77, .iload 5, 79, 0, 0, 0), (79, .aload_n 0, 80, 0, 0, 0), (80, .getfield 19, 83, 1, 2, 0), (83, .iload_n 1, 84, 0, 0, 0), (84, .iaload, 85, 0, 0, 0), (85, .iastore, 86, 0, 0, 0), (86, .aload_n 0, 87, 0, 0, 0), (87, .iload 5, 89, 0, 0, 0), (89, .iload_n 2, 90, 0, 0, 0), (90, .invokevirtual 54, 93, 75, 3, 0), (93, .aload_n 0, 94, 0, 0, 0), (94, .iload 5, 96, 0, 0, 0), (96, .iload_n 3, 97, 0, 0, 0), (97, .invokevirtual 54, 100, 75, 3, 0), (100, .aload_n 0, 101, 0, 0, 0), (101, .iload 5, 103, 0, 0, 0), (103, .iload 4, 105, 0, 0, 0), (105, .invokevirtual 54, 108, 75, 3, 0), (108, .iload 5, 110, 0, 0, 0), (110, .ireturn, 111, 0, 0, 0)]
def zp_G_addPart : List za_E := [(0, .iload_n 2, 1, 0, 0, 0), (1, .iconst (-1), 2, 0, 0, (-1)), (2, .if_icmp .eq 13, 5, 15, 0, 0), (5, .aload_n 0, 6, 0, 0, 0), (6, .getfield 25, 9, 1, 4, 0), (9, .iload_n 1, 10, 0, 0, 0), (10, .iaload, 11, 0, 0, 0), (11, .iconst 3, 12, 0, 0, 3), (12, .if_icmp .lt 4, 15, 16, 0, 0), (15, .return_, 16, 0, 0, 0), (16, .aload_n 0, 17, 0, 0, 0), (17, .getfield 25, 20, 1, 4, 0), (20, .iload_n 1, 21, 0, 0, 0), (21, .dup2, 22, 0, 0, 0), (22, .iaload, 23, 0, 0, 0), (23, .iconst 1, 24, 0, 0, 1), (24, .iadd, 25, 0, 0, 0), (25, .iastore, 26, 0, 0, 0), (26, .aload_n 0, 27, 0, 0, 0), (27, .getfield 25, 30, 1, 4, 0), (30, .iload_n 1, 31, 0, 0, 0), (31, .iaload, 32, 0, 0, 0), (32, .istore_n 3, 33, 0, 0, 0), (33, .aload_n 0, 34, 0, 0, 0), (34, .getfield 30, 37, 1, 5, 0), (37, .iload_n 1, 38, 0, 0, 0), (38, .aaload, 39, 0, 0, 0), (39, .iload_n 3, 40, 0, 0, 0), (40, .iload_n 2, 41, 0, 0, 0), (41, .iastore, 42, 0, 0, 0), (42, .aload_n 0, 43, 0, 0, 0), (43, .getfield 36, 46, 1, 7, 0), (46, .iload_n 1, 47, 0, 0, 0), (47, .dup2, 48, 0, 0, 0), (48, .iaload, 49, 0, 0, 0), (49, .aload_n 0, 50, 0, 0, 0), (50, .getfield 19, 53, 1, 2, 0), (53, .iload_n 2, 54, 0, 0, 0), (54, .iaload, 55, 0, 0, 0), (55, .bipush 8, 57, 0, 0, 8), (57, .iload_n 3, 58, 0, 0, 0), (58, .imul, 59, 0, 0, 0), (59, .ishl, 60, 0, 0, 0), (60, .ior, 61, 0, 0, 0), (61, .iastore, 62, 0, 0, 0), (62, .aload_n 0, 63, 0, 0, 0), (63, .getfield 39, 66, 1, 8, 0), (66, .iload_n 1, 67, 0, 0, 0), (67, .dup2, 68, 0, 0, 0), (68, .iaload, 69, 0, 0, 0), (69, .aload_n 0, 70, 0, 0, 0), (70, .iload_n 2, 71, 0, 0, 0), (71, .invokevirtual 50, 74, 78, 2, 0), (74, .bipush 8, 76, 0, 0, 8), (76, .iload_n 3, 77, 0, 0, 0), (77, .imul, 78, 0, 0, 0), (78, .ishl, 79, 0, 0, 0), (79, .ior, 80, 0, 0, 0), (80, .iastore, 81, 0, 0, 0), (81, .return_, 82, 0, 0, 0)]
def zp_G_addDependence : List za_E := [(0, .aload_n 0, 1, 0, 0, 0), (1, .getfield 33, 4, 1, 6, 0), (4, .iload_n 1, 5, 0, 0, 0), (5, .aaload, 6, 0, 0, 0), (6, .iload_n 2, 7, 0, 0, 0), (7, .iaload, 8, 0, 0, 0), (8, .iload_n 3, 9, 0, 0, 0), (9, .invokestatic 46, 12, 17, 2, 0), (12, .ifCond .eq 5, 15, 17, 0, 0), (15, .iconst 0, 16, 0, 0, 0), (16, .ireturn, 17, 0, 0, 0), (17, .aload_n 0, 18, 0, 0, 0), (18, .getfield 33, 21, 1, 6, 0), (21, .iload_n 1, 22, 0, 0, 0), (22, .aaload, 23, 0, 0, 0), (23, .iload_n 2, 24, 0, 0, 0), (24, .dup2, 25, 0, 0, 0), (25, .iaload, 26, 0, 0, 0), (26, .iconst 1, 27, 0, 0, 1), (27, .iload_n 3, 28, 0, 0, 0), (28, .ishl, 29, 0, 0, 0), (29, .ior, 30, 0, 0, 0), (30, .iastore, 31, 0, 0, 0), (31, .iconst 1, 32, 0, 0, 1), (32, .ireturn, 33, 0, 0, 0)]
def zp_G_all : List za_E := [(0, .aload_n 0, 1, 0, 0, 0), (1, .getfield 15, 4, 1, 1, 0), (4, .iload_n 1, 5, 0, 0, 0), (5, .iaload, 6, 0, 0, 0), (6, .invokestatic 58, 9, 16, 1, 0), (9, .ireturn, 10, 0, 0, 0)]
def zp_G_up : List za_E := [(0, .aload_n 0, 1, 0, 0, 0), (1, .iload_n 1, 2, 0, 0, 0), (2, .invokevirtual 61, 5, 77, 2, 0), (5, .aload_n 0, 6, 0, 0, 0), (6, .getfield 19, 9, 1, 2, 0), (9, .iload_n 1, 10, 0, 0, 0), (10, .iaload, 11, 0, 0, 0), (11, .iconst (-1), 12, 0, 0, (-1)), (12, .ixor, 13, 0, 0, 0), (13, .iand, 14, 0, 0, 0), (14, .ireturn, 15, 0, 0, 0)]
def zp_G_placesOf : List za_E := [(0, .iconst 0, 1, 0, 0, 0), (1, .istore_n 3, 2, 0, 0, 0), (2, .iconst 0, 3, 0, 0, 0), (3, .istore 4, 5, 0, 0, 0), (5, .iload 4, 7, 0, 0, 0), (7, .aload_n 0, 8, 0, 0, 0), (8, .getfield 25, 11, 1, 4, 0), (11, .iload_n 1, 12, 0, 0, 0), (12, .iaload, 13, 0, 0, 0), (13, .if_icmp .gt 29, 16, 42, 0, 0), (16, .iload_n 3, 17, 0, 0, 0), (17, .aload_n 2, 18, 0, 0, 0), (18, .aload_n 0, 19, 0, 0, 0), (19, .getfield 30, 22, 1, 5, 0), (22, .iload_n 1, 23, 0, 0, 0), (23, .aaload, 24, 0, 0, 0), (24, .iload 4, 26, 0, 0, 0), (26, .iaload, 27, 0, 0, 0), (27, .iaload, 28, 0, 0, 0), (28, .bipush 8, 30, 0, 0, 8), (30, .iload 4, 32, 0, 0, 0), (32, .imul, 33, 0, 0, 0), (33, .ishl, 34, 0, 0, 0), (34, .ior, 35, 0, 0, 0), (35, .istore_n 3, 36, 0, 0, 0), (36, .iinc 4 1, 39, 0, 0, 1), (39, .goto (-34), 42, 5, 0, 0), (42, .iload_n 3, 43, 0, 0, 0), (43, .ireturn, 44, 0, 0, 0)]
def zp_N_find : List za_E := [(0, .aload_n 0, 1, 0, 0, 0), (1, .getfield 9, 4, 2, 0, 0), (4, .ifCond .eq 4, 7, 8, 0, 0), (7, .return_, 8, 0, 0, 0), (8, .aload_n 0, 9, 0, 0, 0), (9, .invokevirtual 37, 12, 81, 1, 0), (12, .iconst 0, 13, 0, 0, 0), (13, .istore_n 2, 14, 0, 0, 0), (14, .aload_n 0, 15, 0, 0, 0), (15, .getfield 34, 18, 2, 4, 0), (18, .ifCond .eq 7, 21, 25, 0, 0), (21, .iconst 2, 22, 0, 0, 2), (22, .goto 4, 25, 26, 0, 0), (25, .iconst 1, 26, 0, 0, 1), (26, .istore_n 3, 27, 0, 0, 0), (27, .iconst 1, 28, 0, 0, 1), (28, .istore 4, 30, 0, 0, 0), (30, .iload_n 2, 31, 0, 0, 0), (31, .iload_n 3, 32, 0, 0, 0), (32, .if_icmp .ge 59, 35, 91, 0, 0), (35, .iload 4, 37, 0, 0, 0), (37, .sipush 1000, 40, 0, 0, 1000), (40, .if_icmp .ge 51, 43, 91, 0, 0), (43, .aload_n 0, 44, 0, 0, 0), (44, .aload_n 1, 45, 0, 0, 0), (45, .aload_n 0, 46, 0, 0, 0), (46, .getfield 34, 49, 2, 4, 0), (49, .ifCond .eq 14, 52, 63, 0, 0), (52, .iload 4, 54, 0, 0, 0), (54, .iconst 2, 55, 0, 0, 2), (55, .irem, 56, 0, 0, 0), (56, .ifCond .ne 7, 59, 63, 0, 0), (59, .iconst 1, 60, 0, 0, 1), (60, .goto 4, 63, 64, 0, 0), (63, .iconst 0, 64, 0, 0, 0), (64, .invokevirtual 40, 67, 82, 3, 0), (67, .aload_n 0, 68, 0, 0, 0), (68, .aload_n 1, 69, 0, 0, 0), (69, .iload 4, 71, 0, 0, 0), (71, .invokevirtual 44, 74, 85, 3, 0), (74, .ifCond .eq 7, 77, 81, 0, 0), (77, .iconst 0, 78, 0, 0, 0), (78, .goto 6, 81, 84, 0, 0), (81, .iload_n 2, 82, 0, 0, 0), (82, .iconst 1, 83, 0, 0, 1), (83, .iadd, 84, 0, 0, 0), (84, .istore_n 2, 85, 0, 0, 0), (85, .iinc 4 1, 88, 0, 0, 1), (88, .goto (-58), 91, 30, 0, 0), (91, .aload_n 0, 92, 0, 0, 0), (92, .aload_n 0, 93, 0, 0, 0), (93, .aload_n 1, 94, 0, 0, 0), (94, .invokevirtual 48, 97, 86, 2, 0), (97, .putfield 15, 100, 2, 1, 0), (100, .aload_n 0, 101, 0, 0, 0), (101, .iconst 1, 102, 0, 0, 1), (102, .putfield 9, 105, 2, 0, 0), (105, .return_, 106, 0, 0, 0)]
def zp_N_forget : List za_E := [(0, .aload_n 0, 1, 0, 0, 0), (1, .iconst 0, 2, 0, 0, 0), (2, .putfield 18, 5, 2, 2, 0), (5, .iconst 0, 6, 0, 0, 0), (6, .istore_n 1, 7, 0, 0, 0), (7, .iload_n 1, 8, 0, 0, 0), (8, .bipush 8, 10, 0, 0, 8), (10, .if_icmp .ge 39, 13, 49, 0, 0), (13, .aload_n 0, 14, 0, 0, 0), (14, .getfield 27, 17, 2, 5, 0), (17, .iload_n 1, 18, 0, 0, 0), (18, .iconst 0, 19, 0, 0, 0), (19, .iastore, 20, 0, 0, 0), (20, .iconst 0, 21, 0, 0, 0), (21, .istore_n 2, 22, 0, 0, 0), (22, .iload_n 2, 23, 0, 0, 0), (23, .bipush 6, 25, 0, 0, 6), (25, .if_icmp .ge 18, 28, 43, 0, 0), (28, .aload_n 0, 29, 0, 0, 0), (29, .getfield 24, 32, 2, 3, 0), (32, .iload_n 1, 33, 0, 0, 0), (33, .aaload, 34, 0, 0, 0), (34, .iload_n 2, 35, 0, 0, 0), (35, .iconst (-1), 36, 0, 0, (-1)), (36, .iastore, 37, 0, 0, 0), (37, .iinc 2 1, 40, 0, 0, 1), (40, .goto (-18), 43, 22, 0, 0), (43, .iinc 1 1, 46, 0, 0, 1), (46, .goto (-39), 49, 7, 0, 0), (49, .return_, 50, 0, 0, 0)]
def zp_N_choose : List za_E := [(0, .iconst 0, 1, 0, 0, 0), (1, .istore_n 3, 2, 0, 0, 0), (2, .iload_n 3, 3, 0, 0, 0), (3, .aload_n 1, 4, 0, 0, 0), (4, .getfield 52, 7, 1, 0, 0), (7, .if_icmp .ge 29, 10, 36, 0, 0), (10, .aload_n 0, 11, 0, 0, 0), (11, .getfield 31, 14, 2, 6, 0), (14, .iload_n 3, 15, 0, 0, 0), (15, .aload_n 1, 16, 0, 0, 0), (16, .iload_n 3, 17, 0, 0, 0), (17, .invokevirtual 57, 20, 77, 2, 0), (20, .aload_n 0, 21, 0, 0, 0), (21, .getfield 27, 24, 2, 5, 0), (24, .iload_n 3, 25, 0, 0, 0), (25, .iaload, 26, 0, 0, 0), (26, .iconst (-1), 27, 0, 0, (-1)), (27, .ixor, 28, 0, 0, 0), (28, .iand, 29, 0, 0, 0), (29, .iastore, 30, 0, 0, 0), (30, .iinc 3 1, 33, 0, 0, 1), (33, .goto (-31), 36, 2, 0, 0), (36, .iconst 1, 37, 0, 0, 1), (37, .istore_n 3, 38, 0, 0, 0), (38, .iconst 0, 39, 0, 0, 0), (39, .istore 4, 41, 0, 0, 0), (41, .iload_n 3, 42, 0, 0, 0), (42, .ifCond .eq 48, 45, 90, 0, 0), (45, .iload 4, 47, 0, 0, 0), (47, .sipush 1000, 50, 0, 0, 1000), (50, .if_icmp .ge 40, 53, 90, 0, 0), (53, .iconst 0, 54, 0, 0, 0), (54, .istore_n 3, 55, 0, 0, 0), (55, .iconst 0, 56, 0, 0, 0), (56, .istore 5, 58, 0, 0, 0), (58, .iload 5, 60, 0, 0, 0), (60, .aload_n 1, 61, 0, 0, 0), (61, .getfield 61, 64, 1, 3, 0), (64, .if_icmp .ge 20, 67, 84, 0, 0), (67, .iload_n 3, 68, 0, 0, 0), (68, .aload_n 0, 69, 0, 0, 0), (69, .aload_n 1, 70, 0, 0, 0), (70, .iload 5, 72, 0, 0, 0), (72, .iload_n 2, 73, 0, 0, 0), (73, .invokevirtual 64, 76, 83, 4, 0), (76, .ior, 77, 0, 0, 0), (77, .istore_n 3, 78, 0, 0, 0), (78, .iinc 5 1, 81, 0, 0, 1), (81, .goto (-23), 84, 58, 0, 0), (84, .iinc 4 1, 87, 0, 0, 1), (87, .goto (-46), 90, 41, 0, 0), (90, .return_, 91, 0, 0, 0)]
def zp_N_drop : List za_E := [(0, .aload_n 1, 1, 0, 0, 0), (1, .iload_n 2, 2, 0, 0, 0), (2, .aload_n 0, 3, 0, 0, 0), (3, .getfield 27, 6, 2, 5, 0), (6, .invokevirtual 68, 9, 79, 3, 0), (9, .istore 4, 11, 0, 0, 0), (11, .aload_n 1, 12, 0, 0, 0), (12, .iload_n 2, 13, 0, 0, 0), (13, .aload_n 0, 14, 0, 0, 0), (14, .getfield 31, 17, 2, 6, 0), (17, .invokevirtual 68, 20, 79, 3, 0), (20, .istore 5, 22, 0, 0, 0), (22, .iconst 0, 23, 0, 0, 0), (23, .istore 6, 25, 0, 0, 0), (25, .iconst 0, 26, 0, 0, 0), (26, .istore 7, 28, 0, 0, 0), (28, .iload 7, 30, 0, 0, 0), (30, .aload_n 1, 31, 0, 0, 0), (31, .getfield 72, 34, 1, 4, 0), (34, .iload_n 2, 35, 0, 0, 0), (35, .iaload, 36, 0, 0, 0), (36, .if_icmp .gt 111, 39, 147, 0, 0), (39, .aload_n 1, 40, 0, 0, 0), (40, .getfield 75, 43, 1, 5, 0), (43, .iload_n 2, 44, 0, 0, 0), (44, .aaload, 45, 0, 0, 0), (45, .iload 7, 47, 0, 0, 0), (47, .iaload, 48, 0, 0, 0), (48, .istore 8, 50, 0, 0, 0), (50, .iload 4, 52, 0, 0, 0), (52, .iload 5, 54, 0, 0, 0), (54, .iload 7, 56, 0, 0, 0), (56, .iload_n 3, 57, 0, 0, 0), (57, .invokestatic 78, 60, 84, 2, 0), (60, .iand, 61, 0, 0, 0), (61, .ior, 62, 0, 0, 0), (62, .istore 9, 64, 0, 0, 0), (64, .iconst 0, 65, 0, 0, 0), (65, .istore 10, 67, 0, 0, 0), (67, .iload 10, 69, 0, 0, 0), (69, .bipush 6, 71, 0, 0, 6), (71, .if_icmp .ge 70, 74, 141, 0, 0), (74, .aload_n 1, 75, 0, 0, 0), (75, .getfield 82, 78, 1, 6, 0), (78, .iload_n 2, 79, 0, 0, 0), (79, .aaload, 80, 0, 0, 0), (80, .bipush 8, 82, 0, 0, 8), (82, .iload 7, 84, 0, 0, 0), (84, .imul, 85, 0, 0, 0), (85, .iload 10, 87, 0, 0, 0), (87, .iadd, 88, 0, 0, 0), (88, .iaload, 89, 0, 0, 0), (89, .istore 11, 91, 0, 0, 0), (91, .iload 11, 93, 0, 0, 0), (93, .iload 9, 95, 0, 0, 0), (95, .iconst (-1), 96, 0, 0, (-1)), (96, .ixor, 97, 0, 0, 0), (97, .iand, 98, 0, 0, 0), (98, .ifCond .eq 37, 101, 135, 0, 0), (101, .aload_n 0, 102, 0, 0, 0), (102, .getfield 31, 105, 2, 6, 0), (105, .iload 8, 107, 0, 0, 0), (107, .iaload, 108, 0, 0, 0), (108, .iload 10, 110, 0, 0, 0), (110, .invokestatic 85, 113, 17, 2, 0), (113, .ifCond .eq 22, 116, 135, 0, 0), (116, .aload_n 0, 117, 0, 0, 0), (117, .getfield 31, 120, 2, 6, 0), (120, .iload 8, 122, 0, 0, 0), (122, .dup2, 123, 0, 0, 0), (123, .iaload, 124, 0, 0, 0), (124, .iconst 1, 125, 0, 0, 1), (125, .iload 10, 127, 0, 0, 0), (127, .ishl, 128, 0, 0, 0), (128, .iconst (-1), 129, 0, 0, (-1)), (129, .ixor, 130, 0, 0, 0), (130, .iand, 131, 0, 0, 0), (131, .iastore, 132, 0, 0, 0), (132, .iconst 1, 133, 0, 0, 1), (133, .istore 6, 135, 0, 0, 0), (135, .iinc 10 1, 138, 0, 0, 1), (138, .goto (-71), 141, 67, 0, 0), (141, .iinc 7 1, 144, 0, 0, 1), (144, .goto (-116), 147, 28, 0, 0), (147, .iload 6, 149, 0, 0, 0), (149, .ireturn, 150, 0, 0, 0)]
def zp_N_placesBefore : List za_E := [(0, .iload_n 0, 1, 0, 0, 0), (1, .ifCond .ne 5, 4, 6, 0, 0), (4, .iconst (-1), 5, 0, 0, (-1)), (5, .ireturn, 6, 0, 0, 0), (6, .iload_n 1, 7, 0, 0, 0), (7, .ifCond .eq 17, 10, 24, 0, 0), (10, .sipush 255, 13, 0, 0, 255), (13, .iconst (-1), 14, 0, 0, (-1)), (14, .bipush 8, 16, 0, 0, 8), (16, .iload_n 0, 17, 0, 0, 0), (17, .imul, 18, 0, 0, 0), (18, .ishl, 19, 0, 0, 0), (19, .bipush 8, 21, 0, 0, 8), (21, .ishl, 22, 0, 0, 0), (22, .ior, 23, 0, 0, 0), (23, .ireturn, 24, 0, 0, 0), (24, .bipush 8, 26, 0, 0, 8), (26, .iload_n 0, 27, 0, 0, 0), (27, .imul, 28, 0, 0, 0), (28, .invokestatic 89, 31, 16, 1, 0), (31, .ireturn, 32, 0, 0, 0)]
def zp_N_give : List za_E := [(0, .iconst 0, 1, 0, 0, 0), (1, .istore_n 3, 2, 0, 0, 0), (2, .iconst 0, 3, 0, 0, 0), (3, .istore 4, 5, 0, 0, 0), (5, .iload 4, 7, 0, 0, 0), (7, .aload_n 1, 8, 0, 0, 0), (8, .getfield 52, 11, 1, 0, 0), (11, .if_icmp .ge 80, 14, 91, 0, 0), (14, .iconst 0, 15, 0, 0, 0), (15, .istore 5, 17, 0, 0, 0), (17, .iload 5, 19, 0, 0, 0), (19, .aload_n 1, 20, 0, 0, 0), (20, .getfield 92, 23, 1, 1, 0), (23, .iload 4, 25, 0, 0, 0), (25, .iaload, 26, 0, 0, 0), (26, .if_icmp .ge 42, 29, 68, 0, 0), (29, .aload_n 0, 30, 0, 0, 0), (30, .getfield 31, 33, 2, 6, 0), (33, .iload 4, 35, 0, 0, 0), (35, .iaload, 36, 0, 0, 0), (36, .iload 5, 38, 0, 0, 0), (38, .invokestatic 85, 41, 17, 2, 0), (41, .ifCond .eq 21, 44, 62, 0, 0), (44, .aload_n 0, 45, 0, 0, 0), (45, .getfield 24, 48, 2, 3, 0), (48, .iload 4, 50, 0, 0, 0), (50, .aaload, 51, 0, 0, 0), (51, .iload 5, 53, 0, 0, 0), (53, .iload_n 2, 54, 0, 0, 0), (54, .iastore, 55, 0, 0, 0), (55, .aload_n 0, 56, 0, 0, 0), (56, .iload_n 2, 57, 0, 0, 0), (57, .putfield 18, 60, 2, 2, 0), (60, .iconst 1, 61, 0, 0, 1), (61, .istore_n 3, 62, 0, 0, 0), (62, .iinc 5 1, 65, 0, 0, 1), (65, .goto (-48), 68, 17, 0, 0), (68, .aload_n 0, 69, 0, 0, 0), (69, .getfield 27, 72, 2, 5, 0), (72, .iload 4, 74, 0, 0, 0), (74, .dup2, 75, 0, 0, 0), (75, .iaload, 76, 0, 0, 0), (76, .aload_n 0, 77, 0, 0, 0), (77, .getfield 31, 80, 2, 6, 0), (80, .iload 4, 82, 0, 0, 0), (82, .iaload, 83, 0, 0, 0), (83, .ior, 84, 0, 0, 0), (84, .iastore, 85, 0, 0, 0), (85, .iinc 4 1, 88, 0, 0, 1), (88, .goto (-83), 91, 5, 0, 0), (91, .iload_n 3, 92, 0, 0, 0), (92, .ireturn, 93, 0, 0, 0)]
def zp_N_isWhole : List za_E := [(0, .iconst 0, 1, 0, 0, 0), (1, .istore_n 2, 2, 0, 0, 0), (2, .iload_n 2, 3, 0, 0, 0), (3, .aload_n 1, 4, 0, 0, 0), (4, .getfield 52, 7, 1, 0, 0), (7, .if_icmp .ge 25, 10, 32, 0, 0), (10, .aload_n 0, 11, 0, 0, 0), (11, .getfield 27, 14, 2, 5, 0), (14, .iload_n 2, 15, 0, 0, 0), (15, .iaload, 16, 0, 0, 0), (16, .aload_n 1, 17, 0, 0, 0), (17, .iload_n 2, 18, 0, 0, 0), (18, .invokevirtual 57, 21, 77, 2, 0), (21, .if_icmp .eq 5, 24, 26, 0, 0), (24, .iconst 0, 25, 0, 0, 0), (25, .ireturn, 26, 0, 0, 0), (26, .iinc 2 1, 29, 0, 0, 1), (29, .goto (-27), 32, 2, 0, 0), (32, .iconst 1, 33, 0, 0, 1), (33, .ireturn, 34, 0, 0, 0)]
def zp_R_find : List za_E := [(0, .aload_n 0, 1, 0, 0, 0), (1, .getfield 9, 4, 3, 0, 0), (4, .ifCond .eq 4, 7, 8, 0, 0), (7, .return_, 8, 0, 0, 0), (8, .aload_n 0, 9, 0, 0, 0), (9, .invokevirtual 39, 12, 88, 1, 0), (12, .iconst 1, 13, 0, 0, 1), (13, .istore_n 2, 14, 0, 0, 0), (14, .iconst 0, 15, 0, 0, 0), (15, .istore_n 3, 16, 0, 0, 0), (16, .iload_n 2, 17, 0, 0, 0), (17, .ifCond .eq 22, 20, 39, 0, 0), (20, .iload_n 3, 21, 0, 0, 0), (21, .sipush 1000, 24, 0, 0, 1000), (24, .if_icmp .ge 15, 27, 39, 0, 0), (27, .aload_n 0, 28, 0, 0, 0), (28, .aload_n 1, 29, 0, 0, 0), (29, .invokevirtual 42, 32, 89, 2, 0), (32, .istore_n 2, 33, 0, 0, 0), (33, .iinc 3 1, 36, 0, 0, 1), (36, .goto (-20), 39, 16, 0, 0), (39, .iconst 1, 40, 0, 0, 1), (40, .istore_n 2, 41, 0, 0, 0), (41, .iconst 0, 42, 0, 0, 0), (42, .istore_n 3, 43, 0, 0, 0), (43, .iload_n 2, 44, 0, 0, 0), (44, .ifCond .eq 22, 47, 66, 0, 0), (47, .iload_n 3, 48, 0, 0, 0), (48, .sipush 1000, 51, 0, 0, 1000), (51, .if_icmp .ge 15, 54, 66, 0, 0), (54, .aload_n 0, 55, 0, 0, 0), (55, .aload_n 1, 56, 0, 0, 0), (56, .invokevirtual 46, 59, 90, 2, 0), (59, .istore_n 2, 60, 0, 0, 0), (60, .iinc 3 1, 63, 0, 0, 1), (63, .goto (-20), 66, 43, 0, 0), (66, .aload_n 0, 67, 0, 0, 0), (67, .aload_n 1, 68, 0, 0, 0), (68, .invokevirtual 49, 71, 91, 2, 0), (71, .aload_n 0, 72, 0, 0, 0), (72, .iconst 1, 73, 0, 0, 1), (73, .putfield 9, 76, 3, 0, 0), (76, .return_, 77, 0, 0, 0)]
def zp_R_forget : List za_E := [(0, .iconst 0, 1, 0, 0, 0), (1, .istore_n 1, 2, 0, 0, 0), (2, .iload_n 1, 3, 0, 0, 0), (3, .bipush 8, 5, 0, 0, 8), (5, .if_icmp .ge 30, 8, 35, 0, 0), (8, .aload_n 0, 9, 0, 0, 0), (9, .getfield 21, 12, 3, 3, 0), (12, .iload_n 1, 13, 0, 0, 0), (13, .iconst 0, 14, 0, 0, 0), (14, .bastore, 15, 0, 0, 0), (15, .aload_n 0, 16, 0, 0, 0), (16, .getfield 25, 19, 3, 4, 0), (19, .iload_n 1, 20, 0, 0, 0), (20, .lconst 0, 21, 0, 0, 0), (21, .lastore, 22, 0, 0, 0), (22, .aload_n 0, 23, 0, 0, 0), (23, .getfield 29, 26, 3, 5, 0), (26, .iload_n 1, 27, 0, 0, 0), (27, .lconst 0, 28, 0, 0, 0), (28, .lastore, 29, 0, 0, 0), (29, .iinc 1 1, 32, 0, 0, 1), (32, .goto (-30), 35, 2, 0, 0), (35, .return_, 36, 0, 0, 0)]
def zp_R_growUpwards : List za_E := [(0, .iconst 0, 1, 0, 0, 0), (1, .istore_n 2, 2, 0, 0, 0), (2, .iconst 0, 3, 0, 0, 0), (3, .istore_n 3, 4, 0, 0, 0), (4, .iload_n 3, 5, 0, 0, 0), (5, .aload_n 1, 6, 0, 0, 0), (6, .getfield 53, 9, 1, 3, 0), (9, .if_icmp .ge 117, 12, 126, 0, 0), (12, .aload_n 0, 13, 0, 0, 0), (13, .aload_n 1, 14, 0, 0, 0), (14, .iload_n 3, 15, 0, 0, 0), (15, .invokevirtual 59, 18, 92, 3, 0), (18, .ifCond .ne 6, 21, 24, 0, 0), (21, .goto 99, 24, 120, 0, 0), (24, .aload_n 1, 25, 0, 0, 0), (25, .getfield 63, 28, 1, 5, 0), (28, .iload_n 3, 29, 0, 0, 0), (29, .aaload, 30, 0, 0, 0), (30, .iconst 0, 31, 0, 0, 0), (31, .iaload, 32, 0, 0, 0), (32, .istore 4, 34, 0, 0, 0), (34, .aload_n 0, 35, 0, 0, 0), (35, .getfield 35, 38, 3, 6, 0), (38, .aload_n 1, 39, 0, 0, 0), (39, .getfield 67, 42, 1, 6, 0), (42, .iload_n 3, 43, 0, 0, 0), (43, .aaload, 44, 0, 0, 0), (44, .invokevirtual 70, 47, 61, 2, 0), (47, .aload_n 0, 48, 0, 0, 0), (48, .aload_n 1, 49, 0, 0, 0), (49, .iload_n 3, 50, 0, 0, 0), (50, .iconst 0, 51, 0, 0, 0), (51, .invokevirtual 74, 54, 94, 4, 0), (54, .aload_n 0, 55, 0, 0, 0), (55, .getfield 25, 58, 3, 4, 0), (58, .iload 4, 60, 0, 0, 0), (60, .laload, 61, 0, 0, 0), (61, .aload_n 0, 62, 0, 0, 0), (62, .getfield 35, 65, 3, 6, 0), (65, .iconst 0, 66, 0, 0, 0), (66, .invokevirtual 78, 69, 66, 2, 0), (69, .lor, 70, 0, 0, 0), (70, .lstore 5, 72, 0, 0, 0), (72, .iload_n 2, 73, 0, 0, 0), (73, .aload_n 0, 74, 0, 0, 0), (74, .getfield 21, 77, 3, 3, 0), (77, .iload 4, 79, 0, 0, 0), (79, .baload, 80, 0, 0, 0), (80, .ifCond .eq 16, 83, 96, 0, 0), (83, .lload 5, 85, 0, 0, 0), (85, .aload_n 0, 86, 0, 0, 0), (86, .getfield 25, 89, 3, 4, 0), (89, .iload 4, 91, 0, 0, 0), (91, .laload, 92, 0, 0, 0), (92, .lcmp, 93, 0, 0, 0), (93, .ifCond .eq 7, 96, 100, 0, 0), (96, .iconst 1, 97, 0, 0, 1), (97, .goto 4, 100, 101, 0, 0), (100, .iconst 0, 101, 0, 0, 0), (101, .ior, 102, 0, 0, 0), (102, .istore_n 2, 103, 0, 0, 0), (103, .aload_n 0, 104, 0, 0, 0), (104, .getfield 21, 107, 3, 3, 0), (107, .iload 4, 109, 0, 0, 0), (109, .iconst 1, 110, 0, 0, 1), (110, .bastore, 111, 0, 0, 0), (111, .aload_n 0, 112, 0, 0, 0), (112, .getfield 25, 115, 3, 4, 0), (115, .iload 4, 117, 0, 0, 0), (117, .lload 5, 119, 0, 0, 0), (119, .lastore, 120, 0, 0, 0), (120, .iinc 3 1, 123, 0, 0, 1), (123, .goto (-119), 126, 4, 0, 0), (126, .iload_n 2, 127, 0, 0, 0), (127, .ireturn, 128, 0, 0, 0)]
def zp_R_growFromAbove : List za_E := [(0, .iconst 0, 1, 0, 0, 0), (1, .istore_n 2, 2, 0, 0, 0), (2, .iconst 0, 3, 0, 0, 0), (3, .istore_n 3, 4, 0, 0, 0), (4, .iload_n 3, 5, 0, 0, 0), (5, .aload_n 1, 6, 0, 0, 0), (6, .getfield 53, 9, 1, 3, 0), (9, .if_icmp .ge 115, 12, 124, 0, 0), (12, .aload_n 0, 13, 0, 0, 0), (13, .aload_n 1, 14, 0, 0, 0), (14, .iload_n 3, 15, 0, 0, 0), (15, .invokevirtual 59, 18, 92, 3, 0), (18, .ifCond .ne 6, 21, 24, 0, 0), (21, .goto 97, 24, 118, 0, 0), (24, .iconst 1, 25, 0, 0, 1), (25, .istore 4, 27, 0, 0, 0), (27, .iload 4, 29, 0, 0, 0), (29, .aload_n 1, 30, 0, 0, 0), (30, .getfield 82, 33, 1, 4, 0), (33, .iload_n 3, 34, 0, 0, 0), (34, .iaload, 35, 0, 0, 0), (35, .if_icmp .gt 83, 38, 118, 0, 0), (38, .aload_n 1, 39, 0, 0, 0), (39, .getfield 63, 42, 1, 5, 0), (42, .iload_n 3, 43, 0, 0, 0), (43, .aaload, 44, 0, 0, 0), (44, .iload 4, 46, 0, 0, 0), (46, .iaload, 47, 0, 0, 0), (47, .istore 5, 49, 0, 0, 0), (49, .aload_n 0, 50, 0, 0, 0), (50, .aload_n 1, 51, 0, 0, 0), (51, .iload_n 3, 52, 0, 0, 0), (52, .invokevirtual 86, 55, 93, 3, 0), (55, .aload_n 0, 56, 0, 0, 0), (56, .aload_n 1, 57, 0, 0, 0), (57, .iload_n 3, 58, 0, 0, 0), (58, .iload 4, 60, 0, 0, 0), (60, .invokevirtual 74, 63, 94, 4, 0), (63, .aload_n 0, 64, 0, 0, 0), (64, .getfield 29, 67, 3, 5, 0), (67, .iload 5, 69, 0, 0, 0), (69, .laload, 70, 0, 0, 0), (70, .aload_n 0, 71, 0, 0, 0), (71, .getfield 35, 74, 3, 6, 0), (74, .iload 4, 76, 0, 0, 0), (76, .invokevirtual 78, 79, 66, 2, 0), (79, .lor, 80, 0, 0, 0), (80, .lstore 6, 82, 0, 0, 0), (82, .iload_n 2, 83, 0, 0, 0), (83, .lload 6, 85, 0, 0, 0), (85, .aload_n 0, 86, 0, 0, 0), (86, .getfield 29, 89, 3, 5, 0), (89, .iload 5, 91, 0, 0, 0), (91, .laload, 92, 0, 0, 0), (92, .lcmp, 93, 0, 0, 0), (93, .ifCond .eq 7, 96, 100, 0, 0), (96, .iconst 1, 97, 0, 0, 1), (97, .goto 4, 100, 101, 0, 0), (100, .iconst 0, 101, 0, 0, 0), (101, .ior, 102, 0, 0, 0), (102, .istore_n 2, 103, 0, 0, 0), (103, .aload_n 0, 104, 0, 0, 0), (104, .getfield 29, 107, 3, 5, 0), (107, .iload 5, 109, 0, 0, 0), (109, .lload 6, 111, 0, 0, 0), (111, .lastore, 112, 0, 0, 0), (112, .iinc 4 1, 115, 0, 0, 1), (115, .goto (-88), 118, 27, 0, 0), (118, .iinc 3 1, 121, 0, 0, 1), (121, .goto (-117), 124, 4, 0, 0), (124, .iload_n 2, 125, 0, 0, 0), (125, .ireturn, 126, 0, 0, 0)]
def zp_R_lookForCircles : List za_E := [(0, .aload_n 0, 1, 0, 0, 0), (1, .iconst 0, 2, 0, 0, 0), (2, .putfield 15, 5, 3, 1, 0), (5, .aload_n 0, 6, 0, 0, 0), (6, .iconst 0, 7, 0, 0, 0), (7, .putfield 18, 10, 3, 2, 0), (10, .iconst 0, 11, 0, 0, 0), (11, .istore_n 2, 12, 0, 0, 0), (12, .iload_n 2, 13, 0, 0, 0), (13, .aload_n 1, 14, 0, 0, 0), (14, .getfield 53, 17, 1, 3, 0), (17, .if_icmp .ge 86, 20, 103, 0, 0), (20, .aload_n 0, 21, 0, 0, 0), (21, .aload_n 1, 22, 0, 0, 0), (22, .iload_n 2, 23, 0, 0, 0), (23, .invokevirtual 59, 26, 92, 3, 0), (26, .ifCond .ne 6, 29, 32, 0, 0), (29, .goto 68, 32, 97, 0, 0), (32, .aload_n 0, 33, 0, 0, 0), (33, .getfield 35, 36, 3, 6, 0), (36, .aload_n 1, 37, 0, 0, 0), (37, .getfield 67, 40, 1, 6, 0), (40, .iload_n 2, 41, 0, 0, 0), (41, .aaload, 42, 0, 0, 0), (42, .invokevirtual 70, 45, 61, 2, 0), (45, .aload_n 0, 46, 0, 0, 0), (46, .aload_n 1, 47, 0, 0, 0), (47, .iload_n 2, 48, 0, 0, 0), (48, .iconst 0, 49, 0, 0, 0), (49, .invokevirtual 74, 52, 94, 4, 0), (52, .aload_n 0, 53, 0, 0, 0), (53, .dup, 54, 0, 0, 0), (54, .getfield 15, 57, 3, 1, 0), (57, .aload_n 0, 58, 0, 0, 0), (58, .getfield 35, 61, 3, 6, 0), (61, .getfield 90, 64, 0, 1, 0), (64, .ior, 65, 0, 0, 0), (65, .putfield 15, 68, 3, 1, 0), (68, .aload_n 0, 69, 0, 0, 0), (69, .aload_n 1, 70, 0, 0, 0), (70, .iload_n 2, 71, 0, 0, 0), (71, .invokevirtual 86, 74, 93, 3, 0), (74, .aload_n 0, 75, 0, 0, 0), (75, .aload_n 1, 76, 0, 0, 0), (76, .iload_n 2, 77, 0, 0, 0), (77, .iconst 0, 78, 0, 0, 0), (78, .invokevirtual 74, 81, 94, 4, 0), (81, .aload_n 0, 82, 0, 0, 0), (82, .dup, 83, 0, 0, 0), (83, .getfield 18, 86, 3, 2, 0), (86, .aload_n 0, 87, 0, 0, 0), (87, .getfield 35, 90, 3, 6, 0), (90, .getfield 90, 93, 0, 1, 0), (93, .ior, 94, 0, 0, 0), (94, .putfield 18, 97, 3, 2, 0), (97, .iinc 2 1, 100, 0, 0, 1), (100, .goto (-88), 103, 12, 0, 0), (103, .return_, 104, 0, 0, 0)]
def zp_R_allPartsExist : List za_E := [(0, .iconst 1, 1, 0, 0, 1), (1, .istore_n 3, 2, 0, 0, 0), (2, .iload_n 3, 3, 0, 0, 0), (3, .aload_n 1, 4, 0, 0, 0), (4, .getfield 82, 7, 1, 4, 0), (7, .iload_n 2, 8, 0, 0, 0), (8, .iaload, 9, 0, 0, 0), (9, .if_icmp .gt 27, 12, 36, 0, 0), (12, .aload_n 0, 13, 0, 0, 0), (13, .getfield 21, 16, 3, 3, 0), (16, .aload_n 1, 17, 0, 0, 0), (17, .getfield 63, 20, 1, 5, 0), (20, .iload_n 2, 21, 0, 0, 0), (21, .aaload, 22, 0, 0, 0), (22, .iload_n 3, 23, 0, 0, 0), (23, .iaload, 24, 0, 0, 0), (24, .baload, 25, 0, 0, 0), (25, .ifCond .ne 5, 28, 30, 0, 0), (28, .iconst 0, 29, 0, 0, 0), (29, .ireturn, 30, 0, 0, 0), (30, .iinc 3 1, 33, 0, 0, 1), (33, .goto (-31), 36, 2, 0, 0), (36, .iconst 1, 37, 0, 0, 1), (37, .ireturn, 38, 0, 0, 0)]
def zp_R_startWithHead : List za_E := [(0, .aload_n 0, 1, 0, 0, 0), (1, .getfield 35, 4, 3, 6, 0), (4, .aload_n 1, 5, 0, 0, 0), (5, .getfield 67, 8, 1, 6, 0), (8, .iload_n 2, 9, 0, 0, 0), (9, .aaload, 10, 0, 0, 0), (10, .invokevirtual 70, 13, 61, 2, 0), (13, .aload_n 0, 14, 0, 0, 0), (14, .getfield 35, 17, 3, 6, 0), (17, .iconst 0, 18, 0, 0, 0), (18, .aload_n 0, 19, 0, 0, 0), (19, .getfield 29, 22, 3, 5, 0), (22, .aload_n 1, 23, 0, 0, 0), (23, .getfield 63, 26, 1, 5, 0), (26, .iload_n 2, 27, 0, 0, 0), (27, .aaload, 28, 0, 0, 0), (28, .iconst 0, 29, 0, 0, 0), (29, .iaload, 30, 0, 0, 0), (30, .laload, 31, 0, 0, 0), (31, .invokevirtual 93, 34, 63, 3, 0), (34, .aload_n 0, 35, 0, 0, 0), (35, .getfield 35, 38, 3, 6, 0), (38, .iconst 0, 39, 0, 0, 0), (39, .invokevirtual 97, 42, 64, 2, 0), (42, .return_, 43, 0, 0, 0)]
def zp_R_joinParts : List za_E := [(0, .iconst 1, 1, 0, 0, 1), (1, .istore 4, 3, 0, 0, 0), (3, .iload 4, 5, 0, 0, 0), (5, .aload_n 1, 6, 0, 0, 0), (6, .getfield 82, 9, 1, 4, 0), (9, .iload_n 2, 10, 0, 0, 0), (10, .iaload, 11, 0, 0, 0), (11, .if_icmp .gt 47, 14, 58, 0, 0), (14, .iload 4, 16, 0, 0, 0), (16, .iload_n 3, 17, 0, 0, 0), (17, .if_icmp .eq 35, 20, 52, 0, 0), (20, .aload_n 0, 21, 0, 0, 0), (21, .getfield 35, 24, 3, 6, 0), (24, .iload 4, 26, 0, 0, 0), (26, .aload_n 0, 27, 0, 0, 0), (27, .getfield 25, 30, 3, 4, 0), (30, .aload_n 1, 31, 0, 0, 0), (31, .getfield 63, 34, 1, 5, 0), (34, .iload_n 2, 35, 0, 0, 0), (35, .aaload, 36, 0, 0, 0), (36, .iload 4, 38, 0, 0, 0), (38, .iaload, 39, 0, 0, 0), (39, .laload, 40, 0, 0, 0), (40, .invokevirtual 93, 43, 63, 3, 0), (43, .aload_n 0, 44, 0, 0, 0), (44, .getfield 35, 47, 3, 6, 0), (47, .iload 4, 49, 0, 0, 0), (49, .invokevirtual 97, 52, 64, 2, 0), (52, .iinc 4 1, 55, 0, 0, 1), (55, .goto (-52), 58, 3, 0, 0), (58, .return_, 59, 0, 0, 0)]
def zp_T_find : List za_E := [(0, .aload_n 0, 1, 0, 0, 0), (1, .getfield 9, 4, 4, 0, 0), (4, .ifCond .eq 4, 7, 8, 0, 0), (7, .return_, 8, 0, 0, 0), (8, .aload_n 0, 9, 0, 0, 0), (9, .invokevirtual 43, 12, 96, 1, 0), (12, .iconst 1, 13, 0, 0, 1), (13, .istore_n 2, 14, 0, 0, 0), (14, .iconst 0, 15, 0, 0, 0), (15, .istore_n 3, 16, 0, 0, 0), (16, .iload_n 2, 17, 0, 0, 0), (17, .ifCond .eq 79, 20, 96, 0, 0), (20, .aload_n 0, 21, 0, 0, 0), (21, .getfield 15, 24, 4, 1, 0), (24, .ifCond .ne 72, 27, 96, 0, 0), (27, .iload_n 3, 28, 0, 0, 0), (28, .sipush 1000, 31, 0, 0, 1000), (31, .if_icmp .ge 65, 34, 96, 0, 0), (34, .iconst 0, 35, 0, 0, 0), (35, .istore 4, 37, 0, 0, 0), (37, .iload 4, 39, 0, 0, 0), (39, .aload_n 1, 40, 0, 0, 0), (40, .getfield 46, 43, 1, 3, 0), (43, .if_icmp .ge 42, 46, 85, 0, 0), (46, .aload_n 0, 47, 0, 0, 0), (47, .getfield 38, 50, 4, 7, 0), (50, .iconst 0, 51, 0, 0, 0), (51, .aaload, 52, 0, 0, 0), (52, .aload_n 1, 53, 0, 0, 0), (53, .getfield 52, 56, 1, 6, 0), (56, .iload 4, 58, 0, 0, 0), (58, .aaload, 59, 0, 0, 0), (59, .invokevirtual 56, 62, 61, 2, 0), (62, .aload_n 0, 63, 0, 0, 0), (63, .aload_n 1, 64, 0, 0, 0), (64, .iload 4, 66, 0, 0, 0), (66, .iconst 1, 67, 0, 0, 1), (67, .iload_n 3, 68, 0, 0, 0), (68, .ifCond .ne 7, 71, 75, 0, 0), (71, .iconst 1, 72, 0, 0, 1), (72, .goto 4, 75, 76, 0, 0), (75, .iconst 0, 76, 0, 0, 0), (76, .invokevirtual 60, 79, 98, 5, 0), (79, .iinc 4 1, 82, 0, 0, 1), (82, .goto (-45), 85, 37, 0, 0), (85, .aload_n 0, 86, 0, 0, 0), (86, .invokevirtual 64, 89, 97, 1, 0), (89, .istore_n 2, 90, 0, 0, 0), (90, .iinc 3 1, 93, 0, 0, 1), (93, .goto (-77), 96, 16, 0, 0), (96, .aload_n 0, 97, 0, 0, 0), (97, .iconst 1, 98, 0, 0, 1), (98, .putfield 9, 101, 4, 0, 0), (101, .return_, 102, 0, 0, 0)]
def zp_T_forget : List za_E := [(0, .aload_n 0, 1, 0, 0, 0), (1, .iconst 0, 2, 0, 0, 0), (2, .putfield 15, 5, 4, 1, 0), (5, .aload_n 0, 6, 0, 0, 0), (6, .iconst 0, 7, 0, 0, 0), (7, .putfield 18, 10, 4, 2, 0), (10, .iconst 0, 11, 0, 0, 0), (11, .istore_n 1, 12, 0, 0, 0), (12, .iload_n 1, 13, 0, 0, 0), (13, .bipush 8, 15, 0, 0, 8), (15, .if_icmp .ge 30, 18, 45, 0, 0), (18, .aload_n 0, 19, 0, 0, 0), (19, .getfield 21, 22, 4, 3, 0), (22, .iload_n 1, 23, 0, 0, 0), (23, .iconst 0, 24, 0, 0, 0), (24, .iastore, 25, 0, 0, 0), (25, .aload_n 0, 26, 0, 0, 0), (26, .getfield 30, 29, 4, 5, 0), (29, .iload_n 1, 30, 0, 0, 0), (30, .iconst 0, 31, 0, 0, 0), (31, .iastore, 32, 0, 0, 0), (32, .aload_n 0, 33, 0, 0, 0), (33, .getfield 33, 36, 4, 6, 0), (36, .iload_n 1, 37, 0, 0, 0), (37, .iconst 0, 38, 0, 0, 0), (38, .iastore, 39, 0, 0, 0), (39, .iinc 1 1, 42, 0, 0, 1), (42, .goto (-30), 45, 12, 0, 0), (45, .return_, 46, 0, 0, 0)]
def zp_T_beginRound : List za_E := [(0, .iconst 0, 1, 0, 0, 0), (1, .istore_n 1, 2, 0, 0, 0), (2, .iconst 0, 3, 0, 0, 0), (3, .istore_n 2, 4, 0, 0, 0), (4, .iload_n 2, 5, 0, 0, 0), (5, .bipush 8, 7, 0, 0, 8), (7, .if_icmp .ge 56, 10, 63, 0, 0), (10, .aload_n 0, 11, 0, 0, 0), (11, .getfield 33, 14, 4, 6, 0), (14, .iload_n 2, 15, 0, 0, 0), (15, .aload_n 0, 16, 0, 0, 0), (16, .getfield 30, 19, 4, 5, 0), (19, .iload_n 2, 20, 0, 0, 0), (20, .iaload, 21, 0, 0, 0), (21, .iastore, 22, 0, 0, 0), (22, .aload_n 0, 23, 0, 0, 0), (23, .getfield 30, 26, 4, 5, 0), (26, .iload_n 2, 27, 0, 0, 0), (27, .aload_n 0, 28, 0, 0, 0), (28, .getfield 21, 31, 4, 3, 0), (31, .iload_n 2, 32, 0, 0, 0), (32, .iaload, 33, 0, 0, 0), (33, .iastore, 34, 0, 0, 0), (34, .iload_n 1, 35, 0, 0, 0), (35, .aload_n 0, 36, 0, 0, 0), (36, .getfield 30, 39, 4, 5, 0), (39, .iload_n 2, 40, 0, 0, 0), (40, .iaload, 41, 0, 0, 0), (41, .aload_n 0, 42, 0, 0, 0), (42, .getfield 33, 45, 4, 6, 0), (45, .iload_n 2, 46, 0, 0, 0), (46, .iaload, 47, 0, 0, 0), (47, .if_icmp .le 7, 50, 54, 0, 0), (50, .iconst 1, 51, 0, 0, 1), (51, .goto 4, 54, 55, 0, 0), (54, .iconst 0, 55, 0, 0, 0), (55, .ior, 56, 0, 0, 0), (56, .istore_n 1, 57, 0, 0, 0), (57, .iinc 2 1, 60, 0, 0, 1), (60, .goto (-56), 63, 4, 0, 0), (63, .iload_n 1, 64, 0, 0, 0), (64, .ireturn, 65, 0, 0, 0)]
def zp_T_combine : List za_E := [(0, .aload_n 0, 1, 0, 0, 0), (1, .getfield 15, 4, 4, 1, 0), (4, .ifCond .eq 4, 7, 8, 0, 0), (7, .return_, 8, 0, 0, 0), (8, .iload_n 3, 9, 0, 0, 0), (9, .aload_n 1, 10, 0, 0, 0), (10, .getfield 68, 13, 1, 4, 0), (13, .iload_n 2, 14, 0, 0, 0), (14, .iaload, 15, 0, 0, 0), (15, .if_icmp .gt 8, 18, 23, 0, 0), (18, .iload_n 3, 19, 0, 0, 0), (19, .iconst 3, 20, 0, 0, 3), (20, .if_icmp .le 29, 23, 49, 0, 0), (23, .iload 4, 25, 0, 0, 0), (25, .ifCond .eq 23, 28, 48, 0, 0), (28, .aload_n 0, 29, 0, 0, 0), (29, .aload_n 1, 30, 0, 0, 0), (30, .getfield 71, 33, 1, 5, 0), (33, .iload_n 2, 34, 0, 0, 0), (34, .aaload, 35, 0, 0, 0), (35, .iconst 0, 36, 0, 0, 0), (36, .iaload, 37, 0, 0, 0), (37, .aload_n 0, 38, 0, 0, 0), (38, .getfield 38, 41, 4, 7, 0), (41, .iload_n 3, 42, 0, 0, 0), (42, .iconst 1, 43, 0, 0, 1), (43, .isub, 44, 0, 0, 0), (44, .aaload, 45, 0, 0, 0), (45, .invokevirtual 74, 48, 99, 3, 0), (48, .return_, 49, 0, 0, 0), (49, .aload_n 1, 50, 0, 0, 0), (50, .getfield 71, 53, 1, 5, 0), (53, .iload_n 2, 54, 0, 0, 0), (54, .aaload, 55, 0, 0, 0), (55, .iload_n 3, 56, 0, 0, 0), (56, .iaload, 57, 0, 0, 0), (57, .istore 5, 59, 0, 0, 0), (59, .iload_n 3, 60, 0, 0, 0), (60, .aload_n 1, 61, 0, 0, 0), (61, .getfield 68, 64, 1, 4, 0), (64, .iload_n 2, 65, 0, 0, 0), (65, .iaload, 66, 0, 0, 0), (66, .if_icmp .ne 12, 69, 78, 0, 0), (69, .iload 4, 71, 0, 0, 0), (71, .ifCond .ne 7, 74, 78, 0, 0), (74, .iconst 1, 75, 0, 0, 1), (75, .goto 4, 78, 79, 0, 0), (78, .iconst 0, 79, 0, 0, 0), (79, .istore 6, 81, 0, 0, 0), (81, .iload 6, 83, 0, 0, 0), (83, .ifCond .eq 13, 86, 96, 0, 0), (86, .aload_n 0, 87, 0, 0, 0), (87, .getfield 33, 90, 4, 6, 0), (90, .iload 5, 92, 0, 0, 0), (92, .iaload, 93, 0, 0, 0), (93, .goto 4, 96, 97, 0, 0), (96, .iconst 0, 97, 0, 0, 0), (97, .istore 7, 99, 0, 0, 0), (99, .iload 7, 101, 0, 0, 0), (101, .istore 8, 103, 0, 0, 0), (103, .iload 8, 105, 0, 0, 0), (105, .aload_n 0, 106, 0, 0, 0), (106, .getfield 30, 109, 4, 5, 0), (109, .iload 5, 111, 0, 0, 0), (111, .iaload, 112, 0, 0, 0), (112, .if_icmp .ge 87, 115, 199, 0, 0), (115, .aload_n 0, 116, 0, 0, 0), (116, .getfield 38, 119, 4, 7, 0), (119, .iload_n 3, 120, 0, 0, 0), (120, .aaload, 121, 0, 0, 0), (121, .aload_n 0, 122, 0, 0, 0), (122, .getfield 38, 125, 4, 7, 0), (125, .iload_n 3, 126, 0, 0, 0), (126, .iconst 1, 127, 0, 0, 1), (127, .isub, 128, 0, 0, 0), (128, .aaload, 129, 0, 0, 0), (129, .invokevirtual 78, 132, 62, 2, 0), (132, .aload_n 0, 133, 0, 0, 0), (133, .getfield 38, 136, 4, 7, 0), (136, .iload_n 3, 137, 0, 0, 0), (137, .aaload, 138, 0, 0, 0), (138, .iload_n 3, 139, 0, 0, 0), (139, .aload_n 0, 140, 0, 0, 0), (140, .getfield 27, 143, 4, 4, 0), (143, .iload 5, 145, 0, 0, 0), (145, .aaload, 146, 0, 0, 0), (146, .iload 8, 148, 0, 0, 0), (148, .laload, 149, 0, 0, 0), (149, .invokevirtual 82, 152, 63, 3, 0), (152, .aload_n 0, 153, 0, 0, 0), (153, .getfield 38, 156, 4, 7, 0), (156, .iload_n 3, 157, 0, 0, 0), (157, .aaload, 158, 0, 0, 0), (158, .iload_n 3, 159, 0, 0, 0), (159, .invokevirtual 86, 162, 64, 2, 0), (162, .aload_n 0, 163, 0, 0, 0), (163, .aload_n 1, 164, 0, 0, 0), (164, .iload_n 2, 165, 0, 0, 0), (165, .iload_n 3, 166, 0, 0, 0), (166, .iconst 1, 167, 0, 0, 1), (167, .iadd, 168, 0, 0, 0), (168, .iload 4, 170, 0, 0, 0), (170, .ifCond .ne 15, 173, 185, 0, 0), (173, .iload 8, 175, 0, 0, 0), (175, .aload_n 0, 176, 0, 0, 0), (176, .getfield 33, 179, 4, 6, 0), (179, .iload 5, 181, 0, 0, 0), (181, .iaload, 182, 0, 0, 0), (182, .if_icmp .lt 7, 185, 189, 0, 0), (185, .iconst 1, 186, 0, 0, 1), (186, .goto 4, 189, 190, 0, 0), (189, .iconst 0, 190, 0, 0, 0), (190, .invokevirtual 60, 193, 98, 5, 0), (193, .iinc 8 1, 196, 0, 0, 1), (196, .goto (-93), 199, 103, 0, 0), (199, .return_, 200, 0, 0, 0)]
def zp_T_keep : List za_E := [(0, .aload_n 0, 1, 0, 0, 0), (1, .dup, 2, 0, 0, 0), (2, .getfield 18, 5, 4, 2, 0), (5, .aload_n 2, 6, 0, 0, 0), (6, .getfield 90, 9, 0, 1, 0), (9, .ior, 10, 0, 0, 0), (10, .putfield 18, 13, 4, 2, 0), (13, .aload_n 2, 14, 0, 0, 0), (14, .iconst 0, 15, 0, 0, 0), (15, .invokevirtual 91, 18, 66, 2, 0), (18, .lstore_n 3, 19, 0, 0, 0), (19, .iconst 0, 20, 0, 0, 0), (20, .istore 5, 22, 0, 0, 0), (22, .iload 5, 24, 0, 0, 0), (24, .aload_n 0, 25, 0, 0, 0), (25, .getfield 21, 28, 4, 3, 0), (28, .iload_n 1, 29, 0, 0, 0), (29, .iaload, 30, 0, 0, 0), (30, .if_icmp .ge 24, 33, 54, 0, 0), (33, .aload_n 0, 34, 0, 0, 0), (34, .getfield 27, 37, 4, 4, 0), (37, .iload_n 1, 38, 0, 0, 0), (38, .aaload, 39, 0, 0, 0), (39, .iload 5, 41, 0, 0, 0), (41, .laload, 42, 0, 0, 0), (42, .lload_n 3, 43, 0, 0, 0), (43, .lcmp, 44, 0, 0, 0), (44, .ifCond .ne 4, 47, 48, 0, 0), (47, .return_, 48, 0, 0, 0), (48, .iinc 5 1, 51, 0, 0, 1), (51, .goto (-29), 54, 22, 0, 0), (54, .aload_n 0, 55, 0, 0, 0), (55, .getfield 21, 58, 4, 3, 0), (58, .iload_n 1, 59, 0, 0, 0), (59, .iaload, 60, 0, 0, 0), (60, .bipush 10, 62, 0, 0, 10), (62, .if_icmp .lt 9, 65, 71, 0, 0), (65, .aload_n 0, 66, 0, 0, 0), (66, .iconst 1, 67, 0, 0, 1), (67, .putfield 15, 70, 4, 1, 0), (70, .return_, 71, 0, 0, 0), (71, .aload_n 0, 72, 0, 0, 0), (72, .getfield 27, 75, 4, 4, 0), (75, .iload_n 1, 76, 0, 0, 0), (76, .aaload, 77, 0, 0, 0), (77, .aload_n 0, 78, 0, 0, 0), (78, .getfield 21, 81, 4, 3, 0), (81, .iload_n 1, 82, 0, 0, 0), (82, .iaload, 83, 0, 0, 0), (83, .lload_n 3, 84, 0, 0, 0), (84, .lastore, 85, 0, 0, 0), (85, .aload_n 0, 86, 0, 0, 0), (86, .getfield 21, 89, 4, 3, 0), (89, .iload_n 1, 90, 0, 0, 0), (90, .dup2, 91, 0, 0, 0), (91, .iaload, 92, 0, 0, 0), (92, .iconst 1, 93, 0, 0, 1), (93, .iadd, 94, 0, 0, 0), (94, .iastore, 95, 0, 0, 0), (95, .return_, 96, 0, 0, 0)]
end
section
/-! WORDS by their places, by program -/
theorem zt_in (n : Nat) {w : Cond} (h : lw_tbl[n]? = some w) (hg : zt_ok w = true) : w ∈ zt_WS := List.mem_filter.mpr ⟨List.mem_of_getElem? h, hg⟩
theorem zw_ini_0 : Cond.initialized "AttributeKinds$Board" ∈ zt_WS := zt_in 58 (by decide +kernel) (by decide +kernel)
theorem zw_ini_1 : Cond.initialized "AttributeKinds$Grammar" ∈ zt_WS := zt_in 56 (by decide +kernel) (by decide +kernel)
theorem zw_ini_2 : Cond.initialized "AttributeKinds$Numbering" ∈ zt_WS := zt_in 60 (by decide +kernel) (by decide +kernel)
theorem zw_ini_3 : Cond.initialized "AttributeKinds$Relations" ∈ zt_WS := zt_in 59 (by decide +kernel) (by decide +kernel)
theorem zw_ini_4 : Cond.initialized "AttributeKinds$TreeGraphs" ∈ zt_WS := zt_in 57 (by decide +kernel) (by decide +kernel)
theorem zw_ini_5 : Cond.initialized "AttributeKinds" ∈ zt_WS := zt_in 55 (by decide +kernel) (by decide +kernel)
theorem zw_ini_6 : Cond.initialized "AttributeKindsModel" ∈ zt_WS := zt_in 61 (by decide +kernel) (by decide +kernel)
theorem zw_ini_S : Cond.initialized "java/lang/System" ∈ zt_WS := zt_in 68 (by decide +kernel) (by decide +kernel)
theorem zw_ac_nat : Cond.native arraycopyName ∈ zt_WS := zt_in 309 (by decide +kernel) (by decide +kernel)
theorem zw_ac_st : Cond.static arraycopyName ∈ zt_WS := zt_in 308 (by decide +kernel) (by decide +kernel)
theorem zw_im_0 : Cond.instanceMethod ⟨"AttributeKinds", "clear", "()V"⟩ ∈ zt_WS := zt_in 272 (by decide +kernel) (by decide +kernel)
theorem zw_se_0 : Cond.selects "AttributeKinds" ⟨"AttributeKinds", "clear", "()V"⟩ ⟨"AttributeKinds", "clear", "()V"⟩ ∈ zt_WS := zt_in 273 (by decide +kernel) (by decide +kernel)
theorem zw_im_1 : Cond.instanceMethod ⟨"AttributeKinds", "symbol", "(II)I"⟩ ∈ zt_WS := zt_in 405 (by decide +kernel) (by decide +kernel)
theorem zw_se_1 : Cond.selects "AttributeKinds" ⟨"AttributeKinds", "symbol", "(II)I"⟩ ⟨"AttributeKinds", "symbol", "(II)I"⟩ ∈ zt_WS := zt_in 406 (by decide +kernel) (by decide +kernel)
theorem zw_im_2 : Cond.instanceMethod ⟨"AttributeKinds", "production", "(IIII)I"⟩ ∈ zt_WS := zt_in 503 (by decide +kernel) (by decide +kernel)
theorem zw_se_2 : Cond.selects "AttributeKinds" ⟨"AttributeKinds", "production", "(IIII)I"⟩ ⟨"AttributeKinds", "production", "(IIII)I"⟩ ∈ zt_WS := zt_in 504 (by decide +kernel) (by decide +kernel)
theorem zw_im_3 : Cond.instanceMethod ⟨"AttributeKinds", "depend", "(III)Z"⟩ ∈ zt_WS := zt_in 537 (by decide +kernel) (by decide +kernel)
theorem zw_se_3 : Cond.selects "AttributeKinds" ⟨"AttributeKinds", "depend", "(III)Z"⟩ ⟨"AttributeKinds", "depend", "(III)Z"⟩ ∈ zt_WS := zt_in 538 (by decide +kernel) (by decide +kernel)
theorem zw_im_4 : Cond.instanceMethod ⟨"AttributeKinds", "graphs", "(I)I"⟩ ∈ zt_WS := zt_in 579 (by decide +kernel) (by decide +kernel)
theorem zw_se_4 : Cond.selects "AttributeKinds" ⟨"AttributeKinds", "graphs", "(I)I"⟩ ⟨"AttributeKinds", "graphs", "(I)I"⟩ ∈ zt_WS := zt_in 580 (by decide +kernel) (by decide +kernel)
theorem zw_im_5 : Cond.instanceMethod ⟨"AttributeKinds", "circular", "()Z"⟩ ∈ zt_WS := zt_in 624 (by decide +kernel) (by decide +kernel)
theorem zw_se_5 : Cond.selects "AttributeKinds" ⟨"AttributeKinds", "circular", "()Z"⟩ ⟨"AttributeKinds", "circular", "()Z"⟩ ∈ zt_WS := zt_in 625 (by decide +kernel) (by decide +kernel)
theorem zw_im_6 : Cond.instanceMethod ⟨"AttributeKinds", "strong", "()Z"⟩ ∈ zt_WS := zt_in 284 (by decide +kernel) (by decide +kernel)
theorem zw_se_6 : Cond.selects "AttributeKinds" ⟨"AttributeKinds", "strong", "()Z"⟩ ⟨"AttributeKinds", "strong", "()Z"⟩ ∈ zt_WS := zt_in 285 (by decide +kernel) (by decide +kernel)
theorem zw_im_7 : Cond.instanceMethod ⟨"AttributeKinds", "doubly", "()Z"⟩ ∈ zt_WS := zt_in 346 (by decide +kernel) (by decide +kernel)
theorem zw_se_7 : Cond.selects "AttributeKinds" ⟨"AttributeKinds", "doubly", "()Z"⟩ ⟨"AttributeKinds", "doubly", "()Z"⟩ ∈ zt_WS := zt_in 347 (by decide +kernel) (by decide +kernel)
theorem zw_im_8 : Cond.instanceMethod ⟨"AttributeKinds", "relation", "(IIZ)I"⟩ ∈ zt_WS := zt_in 631 (by decide +kernel) (by decide +kernel)
theorem zw_se_8 : Cond.selects "AttributeKinds" ⟨"AttributeKinds", "relation", "(IIZ)I"⟩ ⟨"AttributeKinds", "relation", "(IIZ)I"⟩ ∈ zt_WS := zt_in 632 (by decide +kernel) (by decide +kernel)
theorem zw_im_9 : Cond.instanceMethod ⟨"AttributeKinds", "pass", "(IIZ)I"⟩ ∈ zt_WS := zt_in 644 (by decide +kernel) (by decide +kernel)
theorem zw_se_9 : Cond.selects "AttributeKinds" ⟨"AttributeKinds", "pass", "(IIZ)I"⟩ ⟨"AttributeKinds", "pass", "(IIZ)I"⟩ ∈ zt_WS := zt_in 645 (by decide +kernel) (by decide +kernel)
theorem zw_im_10 : Cond.instanceMethod ⟨"AttributeKinds", "passes", "(Z)I"⟩ ∈ zt_WS := zt_in 350 (by decide +kernel) (by decide +kernel)
theorem zw_se_10 : Cond.selects "AttributeKinds" ⟨"AttributeKinds", "passes", "(Z)I"⟩ ⟨"AttributeKinds", "passes", "(Z)I"⟩ ∈ zt_WS := zt_in 351 (by decide +kernel) (by decide +kernel)
theorem zw_im_11 : Cond.instanceMethod ⟨"AttributeKinds", "checkSymbol", "(I)V"⟩ ∈ zt_WS := zt_in 584 (by decide +kernel) (by decide +kernel)
theorem zw_se_11 : Cond.selects "AttributeKinds" ⟨"AttributeKinds", "checkSymbol", "(I)V"⟩ ⟨"AttributeKinds", "checkSymbol", "(I)V"⟩ ∈ zt_WS := zt_in 18 (by decide +kernel) (by decide +kernel)
theorem zw_im_12 : Cond.instanceMethod ⟨"AttributeKinds", "checkAttribute", "(II)V"⟩ ∈ zt_WS := zt_in 636 (by decide +kernel) (by decide +kernel)
theorem zw_se_12 : Cond.selects "AttributeKinds" ⟨"AttributeKinds", "checkAttribute", "(II)V"⟩ ⟨"AttributeKinds", "checkAttribute", "(II)V"⟩ ∈ zt_WS := zt_in 24 (by decide +kernel) (by decide +kernel)
theorem zw_im_13 : Cond.instanceMethod ⟨"AttributeKinds", "findGraphs", "()V"⟩ ∈ zt_WS := zt_in 589 (by decide +kernel) (by decide +kernel)
theorem zw_se_13 : Cond.selects "AttributeKinds" ⟨"AttributeKinds", "findGraphs", "()V"⟩ ⟨"AttributeKinds", "findGraphs", "()V"⟩ ∈ zt_WS := zt_in 19 (by decide +kernel) (by decide +kernel)
theorem zw_im_14 : Cond.instanceMethod ⟨"AttributeKinds", "numbering", "(Z)LAttributeKinds$Numbering;"⟩ ∈ zt_WS := zt_in 355 (by decide +kernel) (by decide +kernel)
theorem zw_se_14 : Cond.selects "AttributeKinds" ⟨"AttributeKinds", "numbering", "(Z)LAttributeKinds$Numbering;"⟩ ⟨"AttributeKinds", "numbering", "(Z)LAttributeKinds$Numbering;"⟩ ∈ zt_WS := zt_in 9 (by decide +kernel) (by decide +kernel)
theorem zw_im_15 : Cond.instanceMethod ⟨"AttributeKinds", "forgetAnswers", "()V"⟩ ∈ zt_WS := zt_in 281 (by decide +kernel) (by decide +kernel)
theorem zw_se_15 : Cond.selects "AttributeKinds" ⟨"AttributeKinds", "forgetAnswers", "()V"⟩ ⟨"AttributeKinds", "forgetAnswers", "()V"⟩ ∈ zt_WS := zt_in 0 (by decide +kernel) (by decide +kernel)
theorem zw_st_16 : Cond.static ⟨"AttributeKinds", "firstBits", "(I)I"⟩ ∈ zt_WS := zt_in 374 (by decide +kernel) (by decide +kernel)
theorem zw_st_17 : Cond.static ⟨"AttributeKinds", "hasBit", "(II)Z"⟩ ∈ zt_WS := zt_in 389 (by decide +kernel) (by decide +kernel)
theorem zw_st_18 : Cond.static ⟨"AttributeKinds", "rowOf", "(JI)I"⟩ ∈ zt_WS := zt_in 319 (by decide +kernel) (by decide +kernel)
theorem zw_im_19 : Cond.instanceMethod ⟨"AttributeKindsModel", "thrown", "()I"⟩ ∈ zt_WS := zt_in 724 (by decide +kernel) (by decide +kernel)
theorem zw_se_19 : Cond.selects "AttributeKindsModel" ⟨"AttributeKindsModel", "thrown", "()I"⟩ ⟨"AttributeKindsModel", "thrown", "()I"⟩ ∈ zt_WS := zt_in 725 (by decide +kernel) (by decide +kernel)
theorem zw_im_20 : Cond.instanceMethod ⟨"AttributeKindsModel", "refuse", "(ZZ)Z"⟩ ∈ zt_WS := zt_in 744 (by decide +kernel) (by decide +kernel)
theorem zw_se_20 : Cond.selects "AttributeKindsModel" ⟨"AttributeKindsModel", "refuse", "(ZZ)Z"⟩ ⟨"AttributeKindsModel", "refuse", "(ZZ)Z"⟩ ∈ zt_WS := zt_in 26 (by decide +kernel) (by decide +kernel)
theorem zw_st_21 : Cond.static ⟨"AttributeKindsModel", "in", "(III)Z"⟩ ∈ zt_WS := zt_in 740 (by decide +kernel) (by decide +kernel)
theorem zw_im_22 : Cond.instanceMethod ⟨"AttributeKindsModel", "clear", "()V"⟩ ∈ zt_WS := zt_in 728 (by decide +kernel) (by decide +kernel)
theorem zw_se_22 : Cond.selects "AttributeKindsModel" ⟨"AttributeKindsModel", "clear", "()V"⟩ ⟨"AttributeKindsModel", "clear", "()V"⟩ ∈ zt_WS := zt_in 729 (by decide +kernel) (by decide +kernel)
theorem zw_im_23 : Cond.instanceMethod ⟨"AttributeKindsModel", "forget", "()V"⟩ ∈ zt_WS := zt_in 733 (by decide +kernel) (by decide +kernel)
theorem zw_se_23 : Cond.selects "AttributeKindsModel" ⟨"AttributeKindsModel", "forget", "()V"⟩ ⟨"AttributeKindsModel", "forget", "()V"⟩ ∈ zt_WS := zt_in 25 (by decide +kernel) (by decide +kernel)
theorem zw_im_24 : Cond.instanceMethod ⟨"AttributeKindsModel", "symbol", "(II)I"⟩ ∈ zt_WS := zt_in 736 (by decide +kernel) (by decide +kernel)
theorem zw_se_24 : Cond.selects "AttributeKindsModel" ⟨"AttributeKindsModel", "symbol", "(II)I"⟩ ⟨"AttributeKindsModel", "symbol", "(II)I"⟩ ∈ zt_WS := zt_in 737 (by decide +kernel) (by decide +kernel)
theorem zw_im_25 : Cond.instanceMethod ⟨"AttributeKindsModel", "isSymbol", "(I)Z"⟩ ∈ zt_WS := zt_in 752 (by decide +kernel) (by decide +kernel)
theorem zw_se_25 : Cond.selects "AttributeKindsModel" ⟨"AttributeKindsModel", "isSymbol", "(I)Z"⟩ ⟨"AttributeKindsModel", "isSymbol", "(I)Z"⟩ ∈ zt_WS := zt_in 27 (by decide +kernel) (by decide +kernel)
theorem zw_im_26 : Cond.instanceMethod ⟨"AttributeKindsModel", "production", "(IIII)I"⟩ ∈ zt_WS := zt_in 747 (by decide +kernel) (by decide +kernel)
theorem zw_se_26 : Cond.selects "AttributeKindsModel" ⟨"AttributeKindsModel", "production", "(IIII)I"⟩ ⟨"AttributeKindsModel", "production", "(IIII)I"⟩ ∈ zt_WS := zt_in 748 (by decide +kernel) (by decide +kernel)
theorem zw_im_27 : Cond.instanceMethod ⟨"AttributeKindsModel", "isDown", "(II)Z"⟩ ∈ zt_WS := zt_in 772 (by decide +kernel) (by decide +kernel)
theorem zw_se_27 : Cond.selects "AttributeKindsModel" ⟨"AttributeKindsModel", "isDown", "(II)Z"⟩ ⟨"AttributeKindsModel", "isDown", "(II)Z"⟩ ∈ zt_WS := zt_in 31 (by decide +kernel) (by decide +kernel)
theorem zw_im_28 : Cond.instanceMethod ⟨"AttributeKindsModel", "symbolOf", "(II)I"⟩ ∈ zt_WS := zt_in 764 (by decide +kernel) (by decide +kernel)
theorem zw_se_28 : Cond.selects "AttributeKindsModel" ⟨"AttributeKindsModel", "symbolOf", "(II)I"⟩ ⟨"AttributeKindsModel", "symbolOf", "(II)I"⟩ ∈ zt_WS := zt_in 29 (by decide +kernel) (by decide +kernel)
theorem zw_im_29 : Cond.instanceMethod ⟨"AttributeKindsModel", "isThere", "(II)Z"⟩ ∈ zt_WS := zt_in 760 (by decide +kernel) (by decide +kernel)
theorem zw_se_29 : Cond.selects "AttributeKindsModel" ⟨"AttributeKindsModel", "isThere", "(II)Z"⟩ ⟨"AttributeKindsModel", "isThere", "(II)Z"⟩ ∈ zt_WS := zt_in 28 (by decide +kernel) (by decide +kernel)
theorem zw_im_30 : Cond.instanceMethod ⟨"AttributeKindsModel", "defines", "(II)Z"⟩ ∈ zt_WS := zt_in 768 (by decide +kernel) (by decide +kernel)
theorem zw_se_30 : Cond.selects "AttributeKindsModel" ⟨"AttributeKindsModel", "defines", "(II)Z"⟩ ⟨"AttributeKindsModel", "defines", "(II)Z"⟩ ∈ zt_WS := zt_in 30 (by decide +kernel) (by decide +kernel)
theorem zw_im_31 : Cond.instanceMethod ⟨"AttributeKindsModel", "depend", "(III)Z"⟩ ∈ zt_WS := zt_in 755 (by decide +kernel) (by decide +kernel)
theorem zw_se_31 : Cond.selects "AttributeKindsModel" ⟨"AttributeKindsModel", "depend", "(III)Z"⟩ ⟨"AttributeKindsModel", "depend", "(III)Z"⟩ ∈ zt_WS := zt_in 756 (by decide +kernel) (by decide +kernel)
theorem zw_im_32 : Cond.instanceMethod ⟨"AttributeKindsModel", "takeDepends", "(I)V"⟩ ∈ zt_WS := zt_in 796 (by decide +kernel) (by decide +kernel)
theorem zw_se_32 : Cond.selects "AttributeKindsModel" ⟨"AttributeKindsModel", "takeDepends", "(I)V"⟩ ⟨"AttributeKindsModel", "takeDepends", "(I)V"⟩ ∈ zt_WS := zt_in 36 (by decide +kernel) (by decide +kernel)
theorem zw_im_33 : Cond.instanceMethod ⟨"AttributeKindsModel", "follow", "()V"⟩ ∈ zt_WS := zt_in 805 (by decide +kernel) (by decide +kernel)
theorem zw_se_33 : Cond.selects "AttributeKindsModel" ⟨"AttributeKindsModel", "follow", "()V"⟩ ⟨"AttributeKindsModel", "follow", "()V"⟩ ∈ zt_WS := zt_in 38 (by decide +kernel) (by decide +kernel)
theorem zw_im_34 : Cond.instanceMethod ⟨"AttributeKindsModel", "hasCircle", "()Z"⟩ ∈ zt_WS := zt_in 809 (by decide +kernel) (by decide +kernel)
theorem zw_se_34 : Cond.selects "AttributeKindsModel" ⟨"AttributeKindsModel", "hasCircle", "()Z"⟩ ⟨"AttributeKindsModel", "hasCircle", "()Z"⟩ ∈ zt_WS := zt_in 39 (by decide +kernel) (by decide +kernel)
theorem zw_im_35 : Cond.instanceMethod ⟨"AttributeKindsModel", "addGraph", "(IJ)V"⟩ ∈ zt_WS := zt_in 800 (by decide +kernel) (by decide +kernel)
theorem zw_se_35 : Cond.selects "AttributeKindsModel" ⟨"AttributeKindsModel", "addGraph", "(IJ)V"⟩ ⟨"AttributeKindsModel", "addGraph", "(IJ)V"⟩ ∈ zt_WS := zt_in 37 (by decide +kernel) (by decide +kernel)
theorem zw_im_36 : Cond.instanceMethod ⟨"AttributeKindsModel", "headGraph", "(I)J"⟩ ∈ zt_WS := zt_in 813 (by decide +kernel) (by decide +kernel)
theorem zw_se_36 : Cond.selects "AttributeKindsModel" ⟨"AttributeKindsModel", "headGraph", "(I)J"⟩ ⟨"AttributeKindsModel", "headGraph", "(I)J"⟩ ∈ zt_WS := zt_in 40 (by decide +kernel) (by decide +kernel)
theorem zw_im_37 : Cond.instanceMethod ⟨"AttributeKindsModel", "takeGraph", "(IJ)V"⟩ ∈ zt_WS := zt_in 817 (by decide +kernel) (by decide +kernel)
theorem zw_se_37 : Cond.selects "AttributeKindsModel" ⟨"AttributeKindsModel", "takeGraph", "(IJ)V"⟩ ⟨"AttributeKindsModel", "takeGraph", "(IJ)V"⟩ ∈ zt_WS := zt_in 41 (by decide +kernel) (by decide +kernel)
theorem zw_im_38 : Cond.instanceMethod ⟨"AttributeKindsModel", "countOf", "(II)I"⟩ ∈ zt_WS := zt_in 788 (by decide +kernel) (by decide +kernel)
theorem zw_se_38 : Cond.selects "AttributeKindsModel" ⟨"AttributeKindsModel", "countOf", "(II)I"⟩ ⟨"AttributeKindsModel", "countOf", "(II)I"⟩ ∈ zt_WS := zt_in 34 (by decide +kernel) (by decide +kernel)
theorem zw_im_39 : Cond.instanceMethod ⟨"AttributeKindsModel", "put", "(IIII)V"⟩ ∈ zt_WS := zt_in 792 (by decide +kernel) (by decide +kernel)
theorem zw_se_39 : Cond.selects "AttributeKindsModel" ⟨"AttributeKindsModel", "put", "(IIII)V"⟩ ⟨"AttributeKindsModel", "put", "(IIII)V"⟩ ∈ zt_WS := zt_in 35 (by decide +kernel) (by decide +kernel)
theorem zw_im_40 : Cond.instanceMethod ⟨"AttributeKindsModel", "work", "(I)Z"⟩ ∈ zt_WS := zt_in 784 (by decide +kernel) (by decide +kernel)
theorem zw_se_40 : Cond.selects "AttributeKindsModel" ⟨"AttributeKindsModel", "work", "(I)Z"⟩ ⟨"AttributeKindsModel", "work", "(I)Z"⟩ ∈ zt_WS := zt_in 33 (by decide +kernel) (by decide +kernel)
theorem zw_im_41 : Cond.instanceMethod ⟨"AttributeKindsModel", "findGraphs", "()V"⟩ ∈ zt_WS := zt_in 780 (by decide +kernel) (by decide +kernel)
theorem zw_se_41 : Cond.selects "AttributeKindsModel" ⟨"AttributeKindsModel", "findGraphs", "()V"⟩ ⟨"AttributeKindsModel", "findGraphs", "()V"⟩ ∈ zt_WS := zt_in 32 (by decide +kernel) (by decide +kernel)
theorem zw_im_42 : Cond.instanceMethod ⟨"AttributeKindsModel", "graphs", "(I)I"⟩ ∈ zt_WS := zt_in 775 (by decide +kernel) (by decide +kernel)
theorem zw_se_42 : Cond.selects "AttributeKindsModel" ⟨"AttributeKindsModel", "graphs", "(I)I"⟩ ⟨"AttributeKindsModel", "graphs", "(I)I"⟩ ∈ zt_WS := zt_in 776 (by decide +kernel) (by decide +kernel)
theorem zw_im_43 : Cond.instanceMethod ⟨"AttributeKindsModel", "circular", "()Z"⟩ ∈ zt_WS := zt_in 820 (by decide +kernel) (by decide +kernel)
theorem zw_se_43 : Cond.selects "AttributeKindsModel" ⟨"AttributeKindsModel", "circular", "()Z"⟩ ⟨"AttributeKindsModel", "circular", "()Z"⟩ ∈ zt_WS := zt_in 821 (by decide +kernel) (by decide +kernel)
theorem zw_im_44 : Cond.instanceMethod ⟨"AttributeKindsModel", "allHave", "(I)Z"⟩ ∈ zt_WS := zt_in 833 (by decide +kernel) (by decide +kernel)
theorem zw_se_44 : Cond.selects "AttributeKindsModel" ⟨"AttributeKindsModel", "allHave", "(I)Z"⟩ ⟨"AttributeKindsModel", "allHave", "(I)Z"⟩ ∈ zt_WS := zt_in 43 (by decide +kernel) (by decide +kernel)
theorem zw_im_45 : Cond.instanceMethod ⟨"AttributeKindsModel", "addUnions", "(II)V"⟩ ∈ zt_WS := zt_in 841 (by decide +kernel) (by decide +kernel)
theorem zw_se_45 : Cond.selects "AttributeKindsModel" ⟨"AttributeKindsModel", "addUnions", "(II)V"⟩ ⟨"AttributeKindsModel", "addUnions", "(II)V"⟩ ∈ zt_WS := zt_in 45 (by decide +kernel) (by decide +kernel)
theorem zw_im_46 : Cond.instanceMethod ⟨"AttributeKindsModel", "addAboves", "(I)V"⟩ ∈ zt_WS := zt_in 849 (by decide +kernel) (by decide +kernel)
theorem zw_se_46 : Cond.selects "AttributeKindsModel" ⟨"AttributeKindsModel", "addAboves", "(I)V"⟩ ⟨"AttributeKindsModel", "addAboves", "(I)V"⟩ ∈ zt_WS := zt_in 47 (by decide +kernel) (by decide +kernel)
theorem zw_im_47 : Cond.instanceMethod ⟨"AttributeKindsModel", "growUnion", "(I)Z"⟩ ∈ zt_WS := zt_in 837 (by decide +kernel) (by decide +kernel)
theorem zw_se_47 : Cond.selects "AttributeKindsModel" ⟨"AttributeKindsModel", "growUnion", "(I)Z"⟩ ⟨"AttributeKindsModel", "growUnion", "(I)Z"⟩ ∈ zt_WS := zt_in 44 (by decide +kernel) (by decide +kernel)
theorem zw_im_48 : Cond.instanceMethod ⟨"AttributeKindsModel", "growAbove", "(II)Z"⟩ ∈ zt_WS := zt_in 845 (by decide +kernel) (by decide +kernel)
theorem zw_se_48 : Cond.selects "AttributeKindsModel" ⟨"AttributeKindsModel", "growAbove", "(II)Z"⟩ ⟨"AttributeKindsModel", "growAbove", "(II)Z"⟩ ∈ zt_WS := zt_in 46 (by decide +kernel) (by decide +kernel)
theorem zw_im_49 : Cond.instanceMethod ⟨"AttributeKindsModel", "relate", "()V"⟩ ∈ zt_WS := zt_in 829 (by decide +kernel) (by decide +kernel)
theorem zw_se_49 : Cond.selects "AttributeKindsModel" ⟨"AttributeKindsModel", "relate", "()V"⟩ ⟨"AttributeKindsModel", "relate", "()V"⟩ ∈ zt_WS := zt_in 42 (by decide +kernel) (by decide +kernel)
theorem zw_im_50 : Cond.instanceMethod ⟨"AttributeKindsModel", "strong", "()Z"⟩ ∈ zt_WS := zt_in 824 (by decide +kernel) (by decide +kernel)
theorem zw_se_50 : Cond.selects "AttributeKindsModel" ⟨"AttributeKindsModel", "strong", "()Z"⟩ ⟨"AttributeKindsModel", "strong", "()Z"⟩ ∈ zt_WS := zt_in 825 (by decide +kernel) (by decide +kernel)
theorem zw_im_51 : Cond.instanceMethod ⟨"AttributeKindsModel", "doubly", "()Z"⟩ ∈ zt_WS := zt_in 852 (by decide +kernel) (by decide +kernel)
theorem zw_se_51 : Cond.selects "AttributeKindsModel" ⟨"AttributeKindsModel", "doubly", "()Z"⟩ ⟨"AttributeKindsModel", "doubly", "()Z"⟩ ∈ zt_WS := zt_in 853 (by decide +kernel) (by decide +kernel)
theorem zw_im_52 : Cond.instanceMethod ⟨"AttributeKindsModel", "isAttribute", "(II)Z"⟩ ∈ zt_WS := zt_in 861 (by decide +kernel) (by decide +kernel)
theorem zw_se_52 : Cond.selects "AttributeKindsModel" ⟨"AttributeKindsModel", "isAttribute", "(II)Z"⟩ ⟨"AttributeKindsModel", "isAttribute", "(II)Z"⟩ ∈ zt_WS := zt_in 48 (by decide +kernel) (by decide +kernel)
theorem zw_im_53 : Cond.instanceMethod ⟨"AttributeKindsModel", "relation", "(IIZ)I"⟩ ∈ zt_WS := zt_in 856 (by decide +kernel) (by decide +kernel)
theorem zw_se_53 : Cond.selects "AttributeKindsModel" ⟨"AttributeKindsModel", "relation", "(IIZ)I"⟩ ⟨"AttributeKindsModel", "relation", "(IIZ)I"⟩ ∈ zt_WS := zt_in 857 (by decide +kernel) (by decide +kernel)
theorem zw_im_54 : Cond.instanceMethod ⟨"AttributeKindsModel", "inSet", "(II)Z"⟩ ∈ zt_WS := zt_in 881 (by decide +kernel) (by decide +kernel)
theorem zw_se_54 : Cond.selects "AttributeKindsModel" ⟨"AttributeKindsModel", "inSet", "(II)Z"⟩ ⟨"AttributeKindsModel", "inSet", "(II)Z"⟩ ∈ zt_WS := zt_in 52 (by decide +kernel) (by decide +kernel)
theorem zw_im_55 : Cond.instanceMethod ⟨"AttributeKindsModel", "mayStay", "(IIZ)Z"⟩ ∈ zt_WS := zt_in 885 (by decide +kernel) (by decide +kernel)
theorem zw_se_55 : Cond.selects "AttributeKindsModel" ⟨"AttributeKindsModel", "mayStay", "(IIZ)Z"⟩ ⟨"AttributeKindsModel", "mayStay", "(IIZ)Z"⟩ ∈ zt_WS := zt_in 53 (by decide +kernel) (by decide +kernel)
theorem zw_im_56 : Cond.instanceMethod ⟨"AttributeKindsModel", "leaveOut", "(Z)Z"⟩ ∈ zt_WS := zt_in 877 (by decide +kernel) (by decide +kernel)
theorem zw_se_56 : Cond.selects "AttributeKindsModel" ⟨"AttributeKindsModel", "leaveOut", "(Z)Z"⟩ ⟨"AttributeKindsModel", "leaveOut", "(Z)Z"⟩ ∈ zt_WS := zt_in 51 (by decide +kernel) (by decide +kernel)
theorem zw_im_57 : Cond.instanceMethod ⟨"AttributeKindsModel", "onePass", "(IZ)I"⟩ ∈ zt_WS := zt_in 873 (by decide +kernel) (by decide +kernel)
theorem zw_se_57 : Cond.selects "AttributeKindsModel" ⟨"AttributeKindsModel", "onePass", "(IZ)I"⟩ ⟨"AttributeKindsModel", "onePass", "(IZ)I"⟩ ∈ zt_WS := zt_in 50 (by decide +kernel) (by decide +kernel)
theorem zw_im_58 : Cond.instanceMethod ⟨"AttributeKindsModel", "findPasses", "(Z)V"⟩ ∈ zt_WS := zt_in 869 (by decide +kernel) (by decide +kernel)
theorem zw_se_58 : Cond.selects "AttributeKindsModel" ⟨"AttributeKindsModel", "findPasses", "(Z)V"⟩ ⟨"AttributeKindsModel", "findPasses", "(Z)V"⟩ ∈ zt_WS := zt_in 49 (by decide +kernel) (by decide +kernel)
theorem zw_im_59 : Cond.instanceMethod ⟨"AttributeKindsModel", "pass", "(IIZ)I"⟩ ∈ zt_WS := zt_in 864 (by decide +kernel) (by decide +kernel)
theorem zw_se_59 : Cond.selects "AttributeKindsModel" ⟨"AttributeKindsModel", "pass", "(IIZ)I"⟩ ⟨"AttributeKindsModel", "pass", "(IIZ)I"⟩ ∈ zt_WS := zt_in 865 (by decide +kernel) (by decide +kernel)
theorem zw_im_60 : Cond.instanceMethod ⟨"AttributeKindsModel", "passes", "(Z)I"⟩ ∈ zt_WS := zt_in 888 (by decide +kernel) (by decide +kernel)
theorem zw_se_60 : Cond.selects "AttributeKindsModel" ⟨"AttributeKindsModel", "passes", "(Z)I"⟩ ⟨"AttributeKindsModel", "passes", "(Z)I"⟩ ∈ zt_WS := zt_in 889 (by decide +kernel) (by decide +kernel)
theorem zw_im_61 : Cond.instanceMethod ⟨"AttributeKinds$Board", "start", "([I)V"⟩ ∈ zt_WS := zt_in 304 (by decide +kernel) (by decide +kernel)
theorem zw_se_61 : Cond.selects "AttributeKinds$Board" ⟨"AttributeKinds$Board", "start", "([I)V"⟩ ⟨"AttributeKinds$Board", "start", "([I)V"⟩ ∈ zt_WS := zt_in 305 (by decide +kernel) (by decide +kernel)
theorem zw_im_62 : Cond.instanceMethod ⟨"AttributeKinds$Board", "startFrom", "(LAttributeKinds$Board;)V"⟩ ∈ zt_WS := zt_in 610 (by decide +kernel) (by decide +kernel)
theorem zw_se_62 : Cond.selects "AttributeKinds$Board" ⟨"AttributeKinds$Board", "startFrom", "(LAttributeKinds$Board;)V"⟩ ⟨"AttributeKinds$Board", "startFrom", "(LAttributeKinds$Board;)V"⟩ ∈ zt_WS := zt_in 611 (by decide +kernel) (by decide +kernel)
theorem zw_im_63 : Cond.instanceMethod ⟨"AttributeKinds$Board", "lay", "(IJ)V"⟩ ∈ zt_WS := zt_in 315 (by decide +kernel) (by decide +kernel)
theorem zw_se_63 : Cond.selects "AttributeKinds$Board" ⟨"AttributeKinds$Board", "lay", "(IJ)V"⟩ ⟨"AttributeKinds$Board", "lay", "(IJ)V"⟩ ∈ zt_WS := zt_in 316 (by decide +kernel) (by decide +kernel)
theorem zw_im_64 : Cond.instanceMethod ⟨"AttributeKinds$Board", "join", "(I)V"⟩ ∈ zt_WS := zt_in 322 (by decide +kernel) (by decide +kernel)
theorem zw_se_64 : Cond.selects "AttributeKinds$Board" ⟨"AttributeKinds$Board", "join", "(I)V"⟩ ⟨"AttributeKinds$Board", "join", "(I)V"⟩ ∈ zt_WS := zt_in 323 (by decide +kernel) (by decide +kernel)
theorem zw_im_65 : Cond.instanceMethod ⟨"AttributeKinds$Board", "joinAt", "(I)V"⟩ ∈ zt_WS := zt_in 327 (by decide +kernel) (by decide +kernel)
theorem zw_se_65 : Cond.selects "AttributeKinds$Board" ⟨"AttributeKinds$Board", "joinAt", "(I)V"⟩ ⟨"AttributeKinds$Board", "joinAt", "(I)V"⟩ ∈ zt_WS := zt_in 5 (by decide +kernel) (by decide +kernel)
theorem zw_im_66 : Cond.instanceMethod ⟨"AttributeKinds$Board", "relationAt", "(I)J"⟩ ∈ zt_WS := zt_in 330 (by decide +kernel) (by decide +kernel)
theorem zw_se_66 : Cond.selects "AttributeKinds$Board" ⟨"AttributeKinds$Board", "relationAt", "(I)J"⟩ ⟨"AttributeKinds$Board", "relationAt", "(I)J"⟩ ∈ zt_WS := zt_in 331 (by decide +kernel) (by decide +kernel)
theorem zw_im_67 : Cond.instanceMethod ⟨"AttributeKinds$Grammar", "wipe", "()V"⟩ ∈ zt_WS := zt_in 276 (by decide +kernel) (by decide +kernel)
theorem zw_se_67 : Cond.selects "AttributeKinds$Grammar" ⟨"AttributeKinds$Grammar", "wipe", "()V"⟩ ⟨"AttributeKinds$Grammar", "wipe", "()V"⟩ ∈ zt_WS := zt_in 277 (by decide +kernel) (by decide +kernel)
theorem zw_im_68 : Cond.instanceMethod ⟨"AttributeKinds$Grammar", "hasSymbol", "(I)Z"⟩ ∈ zt_WS := zt_in 507 (by decide +kernel) (by decide +kernel)
theorem zw_se_68 : Cond.selects "AttributeKinds$Grammar" ⟨"AttributeKinds$Grammar", "hasSymbol", "(I)Z"⟩ ⟨"AttributeKinds$Grammar", "hasSymbol", "(I)Z"⟩ ∈ zt_WS := zt_in 508 (by decide +kernel) (by decide +kernel)
theorem zw_im_69 : Cond.instanceMethod ⟨"AttributeKinds$Grammar", "canBePart", "(I)Z"⟩ ∈ zt_WS := zt_in 512 (by decide +kernel) (by decide +kernel)
theorem zw_se_69 : Cond.selects "AttributeKinds$Grammar" ⟨"AttributeKinds$Grammar", "canBePart", "(I)Z"⟩ ⟨"AttributeKinds$Grammar", "canBePart", "(I)Z"⟩ ∈ zt_WS := zt_in 513 (by decide +kernel) (by decide +kernel)
theorem zw_im_70 : Cond.instanceMethod ⟨"AttributeKinds$Grammar", "hasProduction", "(I)Z"⟩ ∈ zt_WS := zt_in 541 (by decide +kernel) (by decide +kernel)
theorem zw_se_70 : Cond.selects "AttributeKinds$Grammar" ⟨"AttributeKinds$Grammar", "hasProduction", "(I)Z"⟩ ⟨"AttributeKinds$Grammar", "hasProduction", "(I)Z"⟩ ∈ zt_WS := zt_in 542 (by decide +kernel) (by decide +kernel)
theorem zw_im_71 : Cond.instanceMethod ⟨"AttributeKinds$Grammar", "defines", "(II)Z"⟩ ∈ zt_WS := zt_in 561 (by decide +kernel) (by decide +kernel)
theorem zw_se_71 : Cond.selects "AttributeKinds$Grammar" ⟨"AttributeKinds$Grammar", "defines", "(II)Z"⟩ ⟨"AttributeKinds$Grammar", "defines", "(II)Z"⟩ ∈ zt_WS := zt_in 562 (by decide +kernel) (by decide +kernel)
theorem zw_im_72 : Cond.instanceMethod ⟨"AttributeKinds$Grammar", "isGiven", "(II)Z"⟩ ∈ zt_WS := zt_in 567 (by decide +kernel) (by decide +kernel)
theorem zw_se_72 : Cond.selects "AttributeKinds$Grammar" ⟨"AttributeKinds$Grammar", "isGiven", "(II)Z"⟩ ⟨"AttributeKinds$Grammar", "isGiven", "(II)Z"⟩ ∈ zt_WS := zt_in 568 (by decide +kernel) (by decide +kernel)
theorem zw_im_73 : Cond.instanceMethod ⟨"AttributeKinds$Grammar", "addSymbol", "(II)I"⟩ ∈ zt_WS := zt_in 496 (by decide +kernel) (by decide +kernel)
theorem zw_se_73 : Cond.selects "AttributeKinds$Grammar" ⟨"AttributeKinds$Grammar", "addSymbol", "(II)I"⟩ ⟨"AttributeKinds$Grammar", "addSymbol", "(II)I"⟩ ∈ zt_WS := zt_in 497 (by decide +kernel) (by decide +kernel)
theorem zw_im_74 : Cond.instanceMethod ⟨"AttributeKinds$Grammar", "addProduction", "(IIII)I"⟩ ∈ zt_WS := zt_in 520 (by decide +kernel) (by decide +kernel)
theorem zw_se_74 : Cond.selects "AttributeKinds$Grammar" ⟨"AttributeKinds$Grammar", "addProduction", "(IIII)I"⟩ ⟨"AttributeKinds$Grammar", "addProduction", "(IIII)I"⟩ ∈ zt_WS := zt_in 521 (by decide +kernel) (by decide +kernel)
theorem zw_im_75 : Cond.instanceMethod ⟨"AttributeKinds$Grammar", "addPart", "(II)V"⟩ ∈ zt_WS := zt_in 530 (by decide +kernel) (by decide +kernel)
theorem zw_se_75 : Cond.selects "AttributeKinds$Grammar" ⟨"AttributeKinds$Grammar", "addPart", "(II)V"⟩ ⟨"AttributeKinds$Grammar", "addPart", "(II)V"⟩ ∈ zt_WS := zt_in 17 (by decide +kernel) (by decide +kernel)
theorem zw_im_76 : Cond.instanceMethod ⟨"AttributeKinds$Grammar", "addDependence", "(III)Z"⟩ ∈ zt_WS := zt_in 572 (by decide +kernel) (by decide +kernel)
theorem zw_se_76 : Cond.selects "AttributeKinds$Grammar" ⟨"AttributeKinds$Grammar", "addDependence", "(III)Z"⟩ ⟨"AttributeKinds$Grammar", "addDependence", "(III)Z"⟩ ∈ zt_WS := zt_in 573 (by decide +kernel) (by decide +kernel)
theorem zw_im_77 : Cond.instanceMethod ⟨"AttributeKinds$Grammar", "all", "(I)I"⟩ ∈ zt_WS := zt_in 370 (by decide +kernel) (by decide +kernel)
theorem zw_se_77 : Cond.selects "AttributeKinds$Grammar" ⟨"AttributeKinds$Grammar", "all", "(I)I"⟩ ⟨"AttributeKinds$Grammar", "all", "(I)I"⟩ ∈ zt_WS := zt_in 371 (by decide +kernel) (by decide +kernel)
theorem zw_im_78 : Cond.instanceMethod ⟨"AttributeKinds$Grammar", "up", "(I)I"⟩ ∈ zt_WS := zt_in 525 (by decide +kernel) (by decide +kernel)
theorem zw_se_78 : Cond.selects "AttributeKinds$Grammar" ⟨"AttributeKinds$Grammar", "up", "(I)I"⟩ ⟨"AttributeKinds$Grammar", "up", "(I)I"⟩ ∈ zt_WS := zt_in 16 (by decide +kernel) (by decide +kernel)
theorem zw_im_79 : Cond.instanceMethod ⟨"AttributeKinds$Grammar", "placesOf", "(I[I)I"⟩ ∈ zt_WS := zt_in 381 (by decide +kernel) (by decide +kernel)
theorem zw_se_79 : Cond.selects "AttributeKinds$Grammar" ⟨"AttributeKinds$Grammar", "placesOf", "(I[I)I"⟩ ⟨"AttributeKinds$Grammar", "placesOf", "(I[I)I"⟩ ∈ zt_WS := zt_in 382 (by decide +kernel) (by decide +kernel)
theorem zw_im_80 : Cond.instanceMethod ⟨"AttributeKinds$Numbering", "find", "(LAttributeKinds$Grammar;)V"⟩ ∈ zt_WS := zt_in 358 (by decide +kernel) (by decide +kernel)
theorem zw_se_80 : Cond.selects "AttributeKinds$Numbering" ⟨"AttributeKinds$Numbering", "find", "(LAttributeKinds$Grammar;)V"⟩ ⟨"AttributeKinds$Numbering", "find", "(LAttributeKinds$Grammar;)V"⟩ ∈ zt_WS := zt_in 359 (by decide +kernel) (by decide +kernel)
theorem zw_im_81 : Cond.instanceMethod ⟨"AttributeKinds$Numbering", "forget", "()V"⟩ ∈ zt_WS := zt_in 363 (by decide +kernel) (by decide +kernel)
theorem zw_se_81 : Cond.selects "AttributeKinds$Numbering" ⟨"AttributeKinds$Numbering", "forget", "()V"⟩ ⟨"AttributeKinds$Numbering", "forget", "()V"⟩ ∈ zt_WS := zt_in 10 (by decide +kernel) (by decide +kernel)
theorem zw_im_82 : Cond.instanceMethod ⟨"AttributeKinds$Numbering", "choose", "(LAttributeKinds$Grammar;Z)V"⟩ ∈ zt_WS := zt_in 367 (by decide +kernel) (by decide +kernel)
theorem zw_se_82 : Cond.selects "AttributeKinds$Numbering" ⟨"AttributeKinds$Numbering", "choose", "(LAttributeKinds$Grammar;Z)V"⟩ ⟨"AttributeKinds$Numbering", "choose", "(LAttributeKinds$Grammar;Z)V"⟩ ∈ zt_WS := zt_in 11 (by decide +kernel) (by decide +kernel)
theorem zw_im_83 : Cond.instanceMethod ⟨"AttributeKinds$Numbering", "drop", "(LAttributeKinds$Grammar;IZ)Z"⟩ ∈ zt_WS := zt_in 378 (by decide +kernel) (by decide +kernel)
theorem zw_se_83 : Cond.selects "AttributeKinds$Numbering" ⟨"AttributeKinds$Numbering", "drop", "(LAttributeKinds$Grammar;IZ)Z"⟩ ⟨"AttributeKinds$Numbering", "drop", "(LAttributeKinds$Grammar;IZ)Z"⟩ ∈ zt_WS := zt_in 12 (by decide +kernel) (by decide +kernel)
theorem zw_st_84 : Cond.static ⟨"AttributeKinds$Numbering", "placesBefore", "(IZ)I"⟩ ∈ zt_WS := zt_in 385 (by decide +kernel) (by decide +kernel)
theorem zw_im_85 : Cond.instanceMethod ⟨"AttributeKinds$Numbering", "give", "(LAttributeKinds$Grammar;I)Z"⟩ ∈ zt_WS := zt_in 393 (by decide +kernel) (by decide +kernel)
theorem zw_se_85 : Cond.selects "AttributeKinds$Numbering" ⟨"AttributeKinds$Numbering", "give", "(LAttributeKinds$Grammar;I)Z"⟩ ⟨"AttributeKinds$Numbering", "give", "(LAttributeKinds$Grammar;I)Z"⟩ ∈ zt_WS := zt_in 13 (by decide +kernel) (by decide +kernel)
theorem zw_im_86 : Cond.instanceMethod ⟨"AttributeKinds$Numbering", "isWhole", "(LAttributeKinds$Grammar;)Z"⟩ ∈ zt_WS := zt_in 397 (by decide +kernel) (by decide +kernel)
theorem zw_se_86 : Cond.selects "AttributeKinds$Numbering" ⟨"AttributeKinds$Numbering", "isWhole", "(LAttributeKinds$Grammar;)Z"⟩ ⟨"AttributeKinds$Numbering", "isWhole", "(LAttributeKinds$Grammar;)Z"⟩ ∈ zt_WS := zt_in 14 (by decide +kernel) (by decide +kernel)
theorem zw_im_87 : Cond.instanceMethod ⟨"AttributeKinds$Relations", "find", "(LAttributeKinds$Grammar;)V"⟩ ∈ zt_WS := zt_in 288 (by decide +kernel) (by decide +kernel)
theorem zw_se_87 : Cond.selects "AttributeKinds$Relations" ⟨"AttributeKinds$Relations", "find", "(LAttributeKinds$Grammar;)V"⟩ ⟨"AttributeKinds$Relations", "find", "(LAttributeKinds$Grammar;)V"⟩ ∈ zt_WS := zt_in 289 (by decide +kernel) (by decide +kernel)
theorem zw_im_88 : Cond.instanceMethod ⟨"AttributeKinds$Relations", "forget", "()V"⟩ ∈ zt_WS := zt_in 293 (by decide +kernel) (by decide +kernel)
theorem zw_se_88 : Cond.selects "AttributeKinds$Relations" ⟨"AttributeKinds$Relations", "forget", "()V"⟩ ⟨"AttributeKinds$Relations", "forget", "()V"⟩ ∈ zt_WS := zt_in 1 (by decide +kernel) (by decide +kernel)
theorem zw_im_89 : Cond.instanceMethod ⟨"AttributeKinds$Relations", "growUpwards", "(LAttributeKinds$Grammar;)Z"⟩ ∈ zt_WS := zt_in 297 (by decide +kernel) (by decide +kernel)
theorem zw_se_89 : Cond.selects "AttributeKinds$Relations" ⟨"AttributeKinds$Relations", "growUpwards", "(LAttributeKinds$Grammar;)Z"⟩ ⟨"AttributeKinds$Relations", "growUpwards", "(LAttributeKinds$Grammar;)Z"⟩ ∈ zt_WS := zt_in 2 (by decide +kernel) (by decide +kernel)
theorem zw_im_90 : Cond.instanceMethod ⟨"AttributeKinds$Relations", "growFromAbove", "(LAttributeKinds$Grammar;)Z"⟩ ∈ zt_WS := zt_in 335 (by decide +kernel) (by decide +kernel)
theorem zw_se_90 : Cond.selects "AttributeKinds$Relations" ⟨"AttributeKinds$Relations", "growFromAbove", "(LAttributeKinds$Grammar;)Z"⟩ ⟨"AttributeKinds$Relations", "growFromAbove", "(LAttributeKinds$Grammar;)Z"⟩ ∈ zt_WS := zt_in 6 (by decide +kernel) (by decide +kernel)
theorem zw_im_91 : Cond.instanceMethod ⟨"AttributeKinds$Relations", "lookForCircles", "(LAttributeKinds$Grammar;)V"⟩ ∈ zt_WS := zt_in 343 (by decide +kernel) (by decide +kernel)
theorem zw_se_91 : Cond.selects "AttributeKinds$Relations" ⟨"AttributeKinds$Relations", "lookForCircles", "(LAttributeKinds$Grammar;)V"⟩ ⟨"AttributeKinds$Relations", "lookForCircles", "(LAttributeKinds$Grammar;)V"⟩ ∈ zt_WS := zt_in 8 (by decide +kernel) (by decide +kernel)
theorem zw_im_92 : Cond.instanceMethod ⟨"AttributeKinds$Relations", "allPartsExist", "(LAttributeKinds$Grammar;I)Z"⟩ ∈ zt_WS := zt_in 301 (by decide +kernel) (by decide +kernel)
theorem zw_se_92 : Cond.selects "AttributeKinds$Relations" ⟨"AttributeKinds$Relations", "allPartsExist", "(LAttributeKinds$Grammar;I)Z"⟩ ⟨"AttributeKinds$Relations", "allPartsExist", "(LAttributeKinds$Grammar;I)Z"⟩ ∈ zt_WS := zt_in 3 (by decide +kernel) (by decide +kernel)
theorem zw_im_93 : Cond.instanceMethod ⟨"AttributeKinds$Relations", "startWithHead", "(LAttributeKinds$Grammar;I)V"⟩ ∈ zt_WS := zt_in 339 (by decide +kernel) (by decide +kernel)
theorem zw_se_93 : Cond.selects "AttributeKinds$Relations" ⟨"AttributeKinds$Relations", "startWithHead", "(LAttributeKinds$Grammar;I)V"⟩ ⟨"AttributeKinds$Relations", "startWithHead", "(LAttributeKinds$Grammar;I)V"⟩ ∈ zt_WS := zt_in 7 (by decide +kernel) (by decide +kernel)
theorem zw_im_94 : Cond.instanceMethod ⟨"AttributeKinds$Relations", "joinParts", "(LAttributeKinds$Grammar;II)V"⟩ ∈ zt_WS := zt_in 312 (by decide +kernel) (by decide +kernel)
theorem zw_se_94 : Cond.selects "AttributeKinds$Relations" ⟨"AttributeKinds$Relations", "joinParts", "(LAttributeKinds$Grammar;II)V"⟩ ⟨"AttributeKinds$Relations", "joinParts", "(LAttributeKinds$Grammar;II)V"⟩ ∈ zt_WS := zt_in 4 (by decide +kernel) (by decide +kernel)
theorem zw_im_95 : Cond.instanceMethod ⟨"AttributeKinds$TreeGraphs", "find", "(LAttributeKinds$Grammar;)V"⟩ ∈ zt_WS := zt_in 592 (by decide +kernel) (by decide +kernel)
theorem zw_se_95 : Cond.selects "AttributeKinds$TreeGraphs" ⟨"AttributeKinds$TreeGraphs", "find", "(LAttributeKinds$Grammar;)V"⟩ ⟨"AttributeKinds$TreeGraphs", "find", "(LAttributeKinds$Grammar;)V"⟩ ∈ zt_WS := zt_in 593 (by decide +kernel) (by decide +kernel)
theorem zw_im_96 : Cond.instanceMethod ⟨"AttributeKinds$TreeGraphs", "forget", "()V"⟩ ∈ zt_WS := zt_in 597 (by decide +kernel) (by decide +kernel)
theorem zw_se_96 : Cond.selects "AttributeKinds$TreeGraphs" ⟨"AttributeKinds$TreeGraphs", "forget", "()V"⟩ ⟨"AttributeKinds$TreeGraphs", "forget", "()V"⟩ ∈ zt_WS := zt_in 20 (by decide +kernel) (by decide +kernel)
theorem zw_im_97 : Cond.instanceMethod ⟨"AttributeKinds$TreeGraphs", "beginRound", "()Z"⟩ ∈ zt_WS := zt_in 617 (by decide +kernel) (by decide +kernel)
theorem zw_se_97 : Cond.selects "AttributeKinds$TreeGraphs" ⟨"AttributeKinds$TreeGraphs", "beginRound", "()Z"⟩ ⟨"AttributeKinds$TreeGraphs", "beginRound", "()Z"⟩ ∈ zt_WS := zt_in 23 (by decide +kernel) (by decide +kernel)
theorem zw_im_98 : Cond.instanceMethod ⟨"AttributeKinds$TreeGraphs", "combine", "(LAttributeKinds$Grammar;IIZ)V"⟩ ∈ zt_WS := zt_in 602 (by decide +kernel) (by decide +kernel)
theorem zw_se_98 : Cond.selects "AttributeKinds$TreeGraphs" ⟨"AttributeKinds$TreeGraphs", "combine", "(LAttributeKinds$Grammar;IIZ)V"⟩ ⟨"AttributeKinds$TreeGraphs", "combine", "(LAttributeKinds$Grammar;IIZ)V"⟩ ∈ zt_WS := zt_in 21 (by decide +kernel) (by decide +kernel)
theorem zw_im_99 : Cond.instanceMethod ⟨"AttributeKinds$TreeGraphs", "keep", "(ILAttributeKinds$Board;)V"⟩ ∈ zt_WS := zt_in 606 (by decide +kernel) (by decide +kernel)
theorem zw_se_99 : Cond.selects "AttributeKinds$TreeGraphs" ⟨"AttributeKinds$TreeGraphs", "keep", "(ILAttributeKinds$Board;)V"⟩ ⟨"AttributeKinds$TreeGraphs", "keep", "(ILAttributeKinds$Board;)V"⟩ ∈ zt_WS := zt_in 22 (by decide +kernel) (by decide +kernel)
theorem zw_fl_0_9 : Cond.fieldLink "AttributeKinds$Board" 9 "AttributeKinds$Board" "rows" "[I" ∈ zt_WS := zt_in 146 (by decide +kernel) (by decide +kernel)
theorem zw_fl_0_15 : Cond.fieldLink "AttributeKinds$Board" 15 "AttributeKinds$Board" "circle" "Z" ∈ zt_WS := zt_in 147 (by decide +kernel) (by decide +kernel)
theorem zw_ml_0_19 : Cond.methodLink "AttributeKinds$Board" 19 arraycopyName ∈ zt_WS := zt_in 307 (by decide +kernel) (by decide +kernel)
theorem zw_mn_0_25 : Cond.methodLinkNest "AttributeKinds$Board" 25 ⟨"AttributeKinds", "rowOf", "(JI)I"⟩ "AttributeKinds" ∈ zt_WS := zt_in 318 (by decide +kernel) (by decide +kernel)
theorem zw_ml_0_29 : Cond.methodLink "AttributeKinds$Board" 29 ⟨"AttributeKinds$Board", "joinAt", "(I)V"⟩ ∈ zt_WS := zt_in 325 (by decide +kernel) (by decide +kernel)
theorem zw_fl_1_9 : Cond.fieldLink "AttributeKinds$Grammar" 9 "AttributeKinds$Grammar" "symbols" "I" ∈ zt_WS := zt_in 85 (by decide +kernel) (by decide +kernel)
theorem zw_fl_1_15 : Cond.fieldLink "AttributeKinds$Grammar" 15 "AttributeKinds$Grammar" "attributes" "[I" ∈ zt_WS := zt_in 88 (by decide +kernel) (by decide +kernel)
theorem zw_fl_1_19 : Cond.fieldLink "AttributeKinds$Grammar" 19 "AttributeKinds$Grammar" "down" "[I" ∈ zt_WS := zt_in 91 (by decide +kernel) (by decide +kernel)
theorem zw_fl_1_22 : Cond.fieldLink "AttributeKinds$Grammar" 22 "AttributeKinds$Grammar" "productions" "I" ∈ zt_WS := zt_in 92 (by decide +kernel) (by decide +kernel)
theorem zw_fl_1_25 : Cond.fieldLink "AttributeKinds$Grammar" 25 "AttributeKinds$Grammar" "parts" "[I" ∈ zt_WS := zt_in 97 (by decide +kernel) (by decide +kernel)
theorem zw_fl_1_30 : Cond.fieldLink "AttributeKinds$Grammar" 30 "AttributeKinds$Grammar" "symbolAt" "[[I" ∈ zt_WS := zt_in 101 (by decide +kernel) (by decide +kernel)
theorem zw_fl_1_33 : Cond.fieldLink "AttributeKinds$Grammar" 33 "AttributeKinds$Grammar" "needs" "[[I" ∈ zt_WS := zt_in 105 (by decide +kernel) (by decide +kernel)
theorem zw_fl_1_36 : Cond.fieldLink "AttributeKinds$Grammar" 36 "AttributeKinds$Grammar" "defined" "[I" ∈ zt_WS := zt_in 109 (by decide +kernel) (by decide +kernel)
theorem zw_fl_1_39 : Cond.fieldLink "AttributeKinds$Grammar" 39 "AttributeKinds$Grammar" "given" "[I" ∈ zt_WS := zt_in 110 (by decide +kernel) (by decide +kernel)
theorem zw_ml_1_42 : Cond.methodLink "AttributeKinds$Grammar" 42 ⟨"AttributeKinds$Grammar", "hasSymbol", "(I)Z"⟩ ∈ zt_WS := zt_in 515 (by decide +kernel) (by decide +kernel)
theorem zw_mn_1_46 : Cond.methodLinkNest "AttributeKinds$Grammar" 46 ⟨"AttributeKinds", "hasBit", "(II)Z"⟩ "AttributeKinds" ∈ zt_WS := zt_in 564 (by decide +kernel) (by decide +kernel)
theorem zw_ml_1_50 : Cond.methodLink "AttributeKinds$Grammar" 50 ⟨"AttributeKinds$Grammar", "up", "(I)I"⟩ ∈ zt_WS := zt_in 523 (by decide +kernel) (by decide +kernel)
theorem zw_ml_1_54 : Cond.methodLink "AttributeKinds$Grammar" 54 ⟨"AttributeKinds$Grammar", "addPart", "(II)V"⟩ ∈ zt_WS := zt_in 528 (by decide +kernel) (by decide +kernel)
theorem zw_mn_1_58 : Cond.methodLinkNest "AttributeKinds$Grammar" 58 ⟨"AttributeKinds", "firstBits", "(I)I"⟩ "AttributeKinds" ∈ zt_WS := zt_in 373 (by decide +kernel) (by decide +kernel)
theorem zw_ml_1_61 : Cond.methodLink "AttributeKinds$Grammar" 61 ⟨"AttributeKinds$Grammar", "all", "(I)I"⟩ ∈ zt_WS := zt_in 527 (by decide +kernel) (by decide +kernel)
theorem zw_fl_2_9 : Cond.fieldLink "AttributeKinds$Numbering" 9 "AttributeKinds$Numbering" "known" "Z" ∈ zt_WS := zt_in 229 (by decide +kernel) (by decide +kernel)
theorem zw_fl_2_15 : Cond.fieldLink "AttributeKinds$Numbering" 15 "AttributeKinds$Numbering" "whole" "Z" ∈ zt_WS := zt_in 231 (by decide +kernel) (by decide +kernel)
theorem zw_fl_2_18 : Cond.fieldLink "AttributeKinds$Numbering" 18 "AttributeKinds$Numbering" "last" "I" ∈ zt_WS := zt_in 233 (by decide +kernel) (by decide +kernel)
theorem zw_fl_2_24 : Cond.fieldLink "AttributeKinds$Numbering" 24 "AttributeKinds$Numbering" "number" "[[I" ∈ zt_WS := zt_in 235 (by decide +kernel) (by decide +kernel)
theorem zw_fl_2_27 : Cond.fieldLink "AttributeKinds$Numbering" 27 "AttributeKinds$Numbering" "numbered" "[I" ∈ zt_WS := zt_in 238 (by decide +kernel) (by decide +kernel)
theorem zw_fl_2_31 : Cond.fieldLink "AttributeKinds$Numbering" 31 "AttributeKinds$Numbering" "chosen" "[I" ∈ zt_WS := zt_in 239 (by decide +kernel) (by decide +kernel)
theorem zw_fl_2_34 : Cond.fieldLink "AttributeKinds$Numbering" 34 "AttributeKinds$Numbering" "turning" "Z" ∈ zt_WS := zt_in 237 (by decide +kernel) (by decide +kernel)
theorem zw_fl_2_52 : Cond.fieldLink "AttributeKinds$Numbering" 52 "AttributeKinds$Grammar" "symbols" "I" ∈ zt_WS := zt_in 87 (by decide +kernel) (by decide +kernel)
theorem zw_fl_2_61 : Cond.fieldLink "AttributeKinds$Numbering" 61 "AttributeKinds$Grammar" "productions" "I" ∈ zt_WS := zt_in 95 (by decide +kernel) (by decide +kernel)
theorem zw_fl_2_72 : Cond.fieldLink "AttributeKinds$Numbering" 72 "AttributeKinds$Grammar" "parts" "[I" ∈ zt_WS := zt_in 100 (by decide +kernel) (by decide +kernel)
theorem zw_fl_2_75 : Cond.fieldLink "AttributeKinds$Numbering" 75 "AttributeKinds$Grammar" "symbolAt" "[[I" ∈ zt_WS := zt_in 104 (by decide +kernel) (by decide +kernel)
theorem zw_fl_2_82 : Cond.fieldLink "AttributeKinds$Numbering" 82 "AttributeKinds$Grammar" "needs" "[[I" ∈ zt_WS := zt_in 108 (by decide +kernel) (by decide +kernel)
theorem zw_fl_2_92 : Cond.fieldLink "AttributeKinds$Numbering" 92 "AttributeKinds$Grammar" "attributes" "[I" ∈ zt_WS := zt_in 89 (by decide +kernel) (by decide +kernel)
theorem zw_ml_2_37 : Cond.methodLink "AttributeKinds$Numbering" 37 ⟨"AttributeKinds$Numbering", "forget", "()V"⟩ ∈ zt_WS := zt_in 361 (by decide +kernel) (by decide +kernel)
theorem zw_ml_2_40 : Cond.methodLink "AttributeKinds$Numbering" 40 ⟨"AttributeKinds$Numbering", "choose", "(LAttributeKinds$Grammar;Z)V"⟩ ∈ zt_WS := zt_in 365 (by decide +kernel) (by decide +kernel)
theorem zw_ml_2_44 : Cond.methodLink "AttributeKinds$Numbering" 44 ⟨"AttributeKinds$Numbering", "give", "(LAttributeKinds$Grammar;I)Z"⟩ ∈ zt_WS := zt_in 391 (by decide +kernel) (by decide +kernel)
theorem zw_ml_2_48 : Cond.methodLink "AttributeKinds$Numbering" 48 ⟨"AttributeKinds$Numbering", "isWhole", "(LAttributeKinds$Grammar;)Z"⟩ ∈ zt_WS := zt_in 395 (by decide +kernel) (by decide +kernel)
theorem zw_ml_2_57 : Cond.methodLink "AttributeKinds$Numbering" 57 ⟨"AttributeKinds$Grammar", "all", "(I)I"⟩ ∈ zt_WS := zt_in 369 (by decide +kernel) (by decide +kernel)
theorem zw_ml_2_64 : Cond.methodLink "AttributeKinds$Numbering" 64 ⟨"AttributeKinds$Numbering", "drop", "(LAttributeKinds$Grammar;IZ)Z"⟩ ∈ zt_WS := zt_in 376 (by decide +kernel) (by decide +kernel)
theorem zw_ml_2_68 : Cond.methodLink "AttributeKinds$Numbering" 68 ⟨"AttributeKinds$Grammar", "placesOf", "(I[I)I"⟩ ∈ zt_WS := zt_in 380 (by decide +kernel) (by decide +kernel)
theorem zw_ml_2_78 : Cond.methodLink "AttributeKinds$Numbering" 78 ⟨"AttributeKinds$Numbering", "placesBefore", "(IZ)I"⟩ ∈ zt_WS := zt_in 384 (by decide +kernel) (by decide +kernel)
theorem zw_mn_2_85 : Cond.methodLinkNest "AttributeKinds$Numbering" 85 ⟨"AttributeKinds", "hasBit", "(II)Z"⟩ "AttributeKinds" ∈ zt_WS := zt_in 388 (by decide +kernel) (by decide +kernel)
theorem zw_mn_2_89 : Cond.methodLinkNest "AttributeKinds$Numbering" 89 ⟨"AttributeKinds", "firstBits", "(I)I"⟩ "AttributeKinds" ∈ zt_WS := zt_in 387 (by decide +kernel) (by decide +kernel)
theorem zw_fl_3_9 : Cond.fieldLink "AttributeKinds$Relations" 9 "AttributeKinds$Relations" "known" "Z" ∈ zt_WS := zt_in 193 (by decide +kernel) (by decide +kernel)
theorem zw_fl_3_15 : Cond.fieldLink "AttributeKinds$Relations" 15 "AttributeKinds$Relations" "circleUpwards" "Z" ∈ zt_WS := zt_in 195 (by decide +kernel) (by decide +kernel)
theorem zw_fl_3_18 : Cond.fieldLink "AttributeKinds$Relations" 18 "AttributeKinds$Relations" "circleFromAbove" "Z" ∈ zt_WS := zt_in 197 (by decide +kernel) (by decide +kernel)
theorem zw_fl_3_21 : Cond.fieldLink "AttributeKinds$Relations" 21 "AttributeKinds$Relations" "exists" "[Z" ∈ zt_WS := zt_in 199 (by decide +kernel) (by decide +kernel)
theorem zw_fl_3_25 : Cond.fieldLink "AttributeKinds$Relations" 25 "AttributeKinds$Relations" "upwards" "[J" ∈ zt_WS := zt_in 201 (by decide +kernel) (by decide +kernel)
theorem zw_fl_3_29 : Cond.fieldLink "AttributeKinds$Relations" 29 "AttributeKinds$Relations" "fromAbove" "[J" ∈ zt_WS := zt_in 203 (by decide +kernel) (by decide +kernel)
theorem zw_fl_3_35 : Cond.fieldLink "AttributeKinds$Relations" 35 "AttributeKinds$Relations" "board" "LAttributeKinds$Board;" ∈ zt_WS := zt_in 205 (by decide +kernel) (by decide +kernel)
theorem zw_fl_3_53 : Cond.fieldLink "AttributeKinds$Relations" 53 "AttributeKinds$Grammar" "productions" "I" ∈ zt_WS := zt_in 94 (by decide +kernel) (by decide +kernel)
theorem zw_fl_3_63 : Cond.fieldLink "AttributeKinds$Relations" 63 "AttributeKinds$Grammar" "symbolAt" "[[I" ∈ zt_WS := zt_in 102 (by decide +kernel) (by decide +kernel)
theorem zw_fl_3_67 : Cond.fieldLink "AttributeKinds$Relations" 67 "AttributeKinds$Grammar" "needs" "[[I" ∈ zt_WS := zt_in 107 (by decide +kernel) (by decide +kernel)
theorem zw_fl_3_82 : Cond.fieldLink "AttributeKinds$Relations" 82 "AttributeKinds$Grammar" "parts" "[I" ∈ zt_WS := zt_in 99 (by decide +kernel) (by decide +kernel)
theorem zw_fl_3_90 : Cond.fieldLink "AttributeKinds$Relations" 90 "AttributeKinds$Board" "circle" "Z" ∈ zt_WS := zt_in 149 (by decide +kernel) (by decide +kernel)
theorem zw_ml_3_39 : Cond.methodLink "AttributeKinds$Relations" 39 ⟨"AttributeKinds$Relations", "forget", "()V"⟩ ∈ zt_WS := zt_in 291 (by decide +kernel) (by decide +kernel)
theorem zw_ml_3_42 : Cond.methodLink "AttributeKinds$Relations" 42 ⟨"AttributeKinds$Relations", "growUpwards", "(LAttributeKinds$Grammar;)Z"⟩ ∈ zt_WS := zt_in 295 (by decide +kernel) (by decide +kernel)
theorem zw_ml_3_46 : Cond.methodLink "AttributeKinds$Relations" 46 ⟨"AttributeKinds$Relations", "growFromAbove", "(LAttributeKinds$Grammar;)Z"⟩ ∈ zt_WS := zt_in 333 (by decide +kernel) (by decide +kernel)
theorem zw_ml_3_49 : Cond.methodLink "AttributeKinds$Relations" 49 ⟨"AttributeKinds$Relations", "lookForCircles", "(LAttributeKinds$Grammar;)V"⟩ ∈ zt_WS := zt_in 341 (by decide +kernel) (by decide +kernel)
theorem zw_ml_3_59 : Cond.methodLink "AttributeKinds$Relations" 59 ⟨"AttributeKinds$Relations", "allPartsExist", "(LAttributeKinds$Grammar;I)Z"⟩ ∈ zt_WS := zt_in 299 (by decide +kernel) (by decide +kernel)
theorem zw_ml_3_70 : Cond.methodLink "AttributeKinds$Relations" 70 ⟨"AttributeKinds$Board", "start", "([I)V"⟩ ∈ zt_WS := zt_in 303 (by decide +kernel) (by decide +kernel)
theorem zw_ml_3_74 : Cond.methodLink "AttributeKinds$Relations" 74 ⟨"AttributeKinds$Relations", "joinParts", "(LAttributeKinds$Grammar;II)V"⟩ ∈ zt_WS := zt_in 310 (by decide +kernel) (by decide +kernel)
theorem zw_ml_3_78 : Cond.methodLink "AttributeKinds$Relations" 78 ⟨"AttributeKinds$Board", "relationAt", "(I)J"⟩ ∈ zt_WS := zt_in 329 (by decide +kernel) (by decide +kernel)
theorem zw_ml_3_86 : Cond.methodLink "AttributeKinds$Relations" 86 ⟨"AttributeKinds$Relations", "startWithHead", "(LAttributeKinds$Grammar;I)V"⟩ ∈ zt_WS := zt_in 337 (by decide +kernel) (by decide +kernel)
theorem zw_ml_3_93 : Cond.methodLink "AttributeKinds$Relations" 93 ⟨"AttributeKinds$Board", "lay", "(IJ)V"⟩ ∈ zt_WS := zt_in 314 (by decide +kernel) (by decide +kernel)
theorem zw_ml_3_97 : Cond.methodLink "AttributeKinds$Relations" 97 ⟨"AttributeKinds$Board", "join", "(I)V"⟩ ∈ zt_WS := zt_in 321 (by decide +kernel) (by decide +kernel)
theorem zw_fl_4_9 : Cond.fieldLink "AttributeKinds$TreeGraphs" 9 "AttributeKinds$TreeGraphs" "known" "Z" ∈ zt_WS := zt_in 156 (by decide +kernel) (by decide +kernel)
theorem zw_fl_4_15 : Cond.fieldLink "AttributeKinds$TreeGraphs" 15 "AttributeKinds$TreeGraphs" "tooMany" "Z" ∈ zt_WS := zt_in 158 (by decide +kernel) (by decide +kernel)
theorem zw_fl_4_18 : Cond.fieldLink "AttributeKinds$TreeGraphs" 18 "AttributeKinds$TreeGraphs" "circle" "Z" ∈ zt_WS := zt_in 160 (by decide +kernel) (by decide +kernel)
theorem zw_fl_4_21 : Cond.fieldLink "AttributeKinds$TreeGraphs" 21 "AttributeKinds$TreeGraphs" "count" "[I" ∈ zt_WS := zt_in 162 (by decide +kernel) (by decide +kernel)
theorem zw_fl_4_27 : Cond.fieldLink "AttributeKinds$TreeGraphs" 27 "AttributeKinds$TreeGraphs" "found" "[[J" ∈ zt_WS := zt_in 164 (by decide +kernel) (by decide +kernel)
theorem zw_fl_4_30 : Cond.fieldLink "AttributeKinds$TreeGraphs" 30 "AttributeKinds$TreeGraphs" "countNow" "[I" ∈ zt_WS := zt_in 165 (by decide +kernel) (by decide +kernel)
theorem zw_fl_4_33 : Cond.fieldLink "AttributeKinds$TreeGraphs" 33 "AttributeKinds$TreeGraphs" "countBefore" "[I" ∈ zt_WS := zt_in 166 (by decide +kernel) (by decide +kernel)
theorem zw_fl_4_38 : Cond.fieldLink "AttributeKinds$TreeGraphs" 38 "AttributeKinds$TreeGraphs" "boards" "[LAttributeKinds$Board;" ∈ zt_WS := zt_in 167 (by decide +kernel) (by decide +kernel)
theorem zw_fl_4_46 : Cond.fieldLink "AttributeKinds$TreeGraphs" 46 "AttributeKinds$Grammar" "productions" "I" ∈ zt_WS := zt_in 93 (by decide +kernel) (by decide +kernel)
theorem zw_fl_4_52 : Cond.fieldLink "AttributeKinds$TreeGraphs" 52 "AttributeKinds$Grammar" "needs" "[[I" ∈ zt_WS := zt_in 106 (by decide +kernel) (by decide +kernel)
theorem zw_fl_4_68 : Cond.fieldLink "AttributeKinds$TreeGraphs" 68 "AttributeKinds$Grammar" "parts" "[I" ∈ zt_WS := zt_in 98 (by decide +kernel) (by decide +kernel)
theorem zw_fl_4_71 : Cond.fieldLink "AttributeKinds$TreeGraphs" 71 "AttributeKinds$Grammar" "symbolAt" "[[I" ∈ zt_WS := zt_in 103 (by decide +kernel) (by decide +kernel)
theorem zw_fl_4_90 : Cond.fieldLink "AttributeKinds$TreeGraphs" 90 "AttributeKinds$Board" "circle" "Z" ∈ zt_WS := zt_in 148 (by decide +kernel) (by decide +kernel)
theorem zw_ml_4_43 : Cond.methodLink "AttributeKinds$TreeGraphs" 43 ⟨"AttributeKinds$TreeGraphs", "forget", "()V"⟩ ∈ zt_WS := zt_in 595 (by decide +kernel) (by decide +kernel)
theorem zw_ml_4_56 : Cond.methodLink "AttributeKinds$TreeGraphs" 56 ⟨"AttributeKinds$Board", "start", "([I)V"⟩ ∈ zt_WS := zt_in 599 (by decide +kernel) (by decide +kernel)
theorem zw_ml_4_60 : Cond.methodLink "AttributeKinds$TreeGraphs" 60 ⟨"AttributeKinds$TreeGraphs", "combine", "(LAttributeKinds$Grammar;IIZ)V"⟩ ∈ zt_WS := zt_in 600 (by decide +kernel) (by decide +kernel)
theorem zw_ml_4_64 : Cond.methodLink "AttributeKinds$TreeGraphs" 64 ⟨"AttributeKinds$TreeGraphs", "beginRound", "()Z"⟩ ∈ zt_WS := zt_in 615 (by decide +kernel) (by decide +kernel)
theorem zw_ml_4_74 : Cond.methodLink "AttributeKinds$TreeGraphs" 74 ⟨"AttributeKinds$TreeGraphs", "keep", "(ILAttributeKinds$Board;)V"⟩ ∈ zt_WS := zt_in 604 (by decide +kernel) (by decide +kernel)
theorem zw_ml_4_78 : Cond.methodLink "AttributeKinds$TreeGraphs" 78 ⟨"AttributeKinds$Board", "startFrom", "(LAttributeKinds$Board;)V"⟩ ∈ zt_WS := zt_in 609 (by decide +kernel) (by decide +kernel)
theorem zw_ml_4_82 : Cond.methodLink "AttributeKinds$TreeGraphs" 82 ⟨"AttributeKinds$Board", "lay", "(IJ)V"⟩ ∈ zt_WS := zt_in 613 (by decide +kernel) (by decide +kernel)
theorem zw_ml_4_86 : Cond.methodLink "AttributeKinds$TreeGraphs" 86 ⟨"AttributeKinds$Board", "join", "(I)V"⟩ ∈ zt_WS := zt_in 614 (by decide +kernel) (by decide +kernel)
theorem zw_ml_4_91 : Cond.methodLink "AttributeKinds$TreeGraphs" 91 ⟨"AttributeKinds$Board", "relationAt", "(I)J"⟩ ∈ zt_WS := zt_in 608 (by decide +kernel) (by decide +kernel)
theorem zw_fl_5_12 : Cond.fieldLink "AttributeKinds" 12 "AttributeKinds" "grammar" "LAttributeKinds$Grammar;" ∈ zt_WS := zt_in 255 (by decide +kernel) (by decide +kernel)
theorem zw_fl_5_19 : Cond.fieldLink "AttributeKinds" 19 "AttributeKinds" "treeGraphs" "LAttributeKinds$TreeGraphs;" ∈ zt_WS := zt_in 256 (by decide +kernel) (by decide +kernel)
theorem zw_fl_5_26 : Cond.fieldLink "AttributeKinds" 26 "AttributeKinds" "relations" "LAttributeKinds$Relations;" ∈ zt_WS := zt_in 257 (by decide +kernel) (by decide +kernel)
theorem zw_fl_5_35 : Cond.fieldLink "AttributeKinds" 35 "AttributeKinds" "fromLeft" "LAttributeKinds$Numbering;" ∈ zt_WS := zt_in 258 (by decide +kernel) (by decide +kernel)
theorem zw_fl_5_39 : Cond.fieldLink "AttributeKinds" 39 "AttributeKinds" "inTurns" "LAttributeKinds$Numbering;" ∈ zt_WS := zt_in 259 (by decide +kernel) (by decide +kernel)
theorem zw_fl_5_61 : Cond.fieldLink "AttributeKinds" 61 "AttributeKinds$Grammar" "symbols" "I" ∈ zt_WS := zt_in 86 (by decide +kernel) (by decide +kernel)
theorem zw_fl_5_89 : Cond.fieldLink "AttributeKinds" 89 "AttributeKinds$Grammar" "productions" "I" ∈ zt_WS := zt_in 96 (by decide +kernel) (by decide +kernel)
theorem zw_fl_5_128 : Cond.fieldLink "AttributeKinds" 128 "AttributeKinds$TreeGraphs" "count" "[I" ∈ zt_WS := zt_in 163 (by decide +kernel) (by decide +kernel)
theorem zw_fl_5_132 : Cond.fieldLink "AttributeKinds" 132 "AttributeKinds$TreeGraphs" "circle" "Z" ∈ zt_WS := zt_in 161 (by decide +kernel) (by decide +kernel)
theorem zw_fl_5_140 : Cond.fieldLink "AttributeKinds" 140 "AttributeKinds$Relations" "circleUpwards" "Z" ∈ zt_WS := zt_in 196 (by decide +kernel) (by decide +kernel)
theorem zw_fl_5_143 : Cond.fieldLink "AttributeKinds" 143 "AttributeKinds$Relations" "circleFromAbove" "Z" ∈ zt_WS := zt_in 198 (by decide +kernel) (by decide +kernel)
theorem zw_fl_5_150 : Cond.fieldLink "AttributeKinds" 150 "AttributeKinds$Relations" "exists" "[Z" ∈ zt_WS := zt_in 200 (by decide +kernel) (by decide +kernel)
theorem zw_fl_5_154 : Cond.fieldLink "AttributeKinds" 154 "AttributeKinds$Relations" "fromAbove" "[J" ∈ zt_WS := zt_in 204 (by decide +kernel) (by decide +kernel)
theorem zw_fl_5_158 : Cond.fieldLink "AttributeKinds" 158 "AttributeKinds$Relations" "upwards" "[J" ∈ zt_WS := zt_in 202 (by decide +kernel) (by decide +kernel)
theorem zw_fl_5_169 : Cond.fieldLink "AttributeKinds" 169 "AttributeKinds$Numbering" "number" "[[I" ∈ zt_WS := zt_in 236 (by decide +kernel) (by decide +kernel)
theorem zw_fl_5_173 : Cond.fieldLink "AttributeKinds" 173 "AttributeKinds$Numbering" "whole" "Z" ∈ zt_WS := zt_in 232 (by decide +kernel) (by decide +kernel)
theorem zw_fl_5_176 : Cond.fieldLink "AttributeKinds" 176 "AttributeKinds$Numbering" "last" "I" ∈ zt_WS := zt_in 234 (by decide +kernel) (by decide +kernel)
theorem zw_fl_5_181 : Cond.fieldLink "AttributeKinds" 181 "AttributeKinds$Grammar" "attributes" "[I" ∈ zt_WS := zt_in 90 (by decide +kernel) (by decide +kernel)
theorem zw_fl_5_187 : Cond.fieldLink "AttributeKinds" 187 "AttributeKinds$TreeGraphs" "tooMany" "Z" ∈ zt_WS := zt_in 159 (by decide +kernel) (by decide +kernel)
theorem zw_fl_5_193 : Cond.fieldLink "AttributeKinds" 193 "AttributeKinds$TreeGraphs" "known" "Z" ∈ zt_WS := zt_in 157 (by decide +kernel) (by decide +kernel)
theorem zw_fl_5_196 : Cond.fieldLink "AttributeKinds" 196 "AttributeKinds$Relations" "known" "Z" ∈ zt_WS := zt_in 194 (by decide +kernel) (by decide +kernel)
theorem zw_fl_5_197 : Cond.fieldLink "AttributeKinds" 197 "AttributeKinds$Numbering" "known" "Z" ∈ zt_WS := zt_in 230 (by decide +kernel) (by decide +kernel)
theorem zw_ml_5_42 : Cond.methodLink "AttributeKinds" 42 ⟨"AttributeKinds$Grammar", "wipe", "()V"⟩ ∈ zt_WS := zt_in 275 (by decide +kernel) (by decide +kernel)
theorem zw_ml_5_45 : Cond.methodLink "AttributeKinds" 45 ⟨"AttributeKinds", "forgetAnswers", "()V"⟩ ∈ zt_WS := zt_in 279 (by decide +kernel) (by decide +kernel)
theorem zw_ml_5_55 : Cond.methodLink "AttributeKinds" 55 ⟨"AttributeKinds", "firstBits", "(I)I"⟩ ∈ zt_WS := zt_in 476 (by decide +kernel) (by decide +kernel)
theorem zw_ml_5_72 : Cond.methodLink "AttributeKinds" 72 ⟨"AttributeKinds$Grammar", "addSymbol", "(II)I"⟩ ∈ zt_WS := zt_in 495 (by decide +kernel) (by decide +kernel)
theorem zw_ml_5_76 : Cond.methodLink "AttributeKinds" 76 ⟨"AttributeKinds$Grammar", "hasSymbol", "(I)Z"⟩ ∈ zt_WS := zt_in 506 (by decide +kernel) (by decide +kernel)
theorem zw_ml_5_82 : Cond.methodLink "AttributeKinds" 82 ⟨"AttributeKinds$Grammar", "canBePart", "(I)Z"⟩ ∈ zt_WS := zt_in 511 (by decide +kernel) (by decide +kernel)
theorem zw_ml_5_94 : Cond.methodLink "AttributeKinds" 94 ⟨"AttributeKinds$Grammar", "addProduction", "(IIII)I"⟩ ∈ zt_WS := zt_in 519 (by decide +kernel) (by decide +kernel)
theorem zw_ml_5_98 : Cond.methodLink "AttributeKinds" 98 ⟨"AttributeKinds$Grammar", "hasProduction", "(I)Z"⟩ ∈ zt_WS := zt_in 540 (by decide +kernel) (by decide +kernel)
theorem zw_ml_5_106 : Cond.methodLink "AttributeKinds" 106 ⟨"AttributeKinds$Grammar", "defines", "(II)Z"⟩ ∈ zt_WS := zt_in 560 (by decide +kernel) (by decide +kernel)
theorem zw_ml_5_112 : Cond.methodLink "AttributeKinds" 112 ⟨"AttributeKinds$Grammar", "isGiven", "(II)Z"⟩ ∈ zt_WS := zt_in 566 (by decide +kernel) (by decide +kernel)
theorem zw_ml_5_117 : Cond.methodLink "AttributeKinds" 117 ⟨"AttributeKinds$Grammar", "addDependence", "(III)Z"⟩ ∈ zt_WS := zt_in 571 (by decide +kernel) (by decide +kernel)
theorem zw_ml_5_121 : Cond.methodLink "AttributeKinds" 121 ⟨"AttributeKinds", "checkSymbol", "(I)V"⟩ ∈ zt_WS := zt_in 582 (by decide +kernel) (by decide +kernel)
theorem zw_ml_5_125 : Cond.methodLink "AttributeKinds" 125 ⟨"AttributeKinds", "findGraphs", "()V"⟩ ∈ zt_WS := zt_in 587 (by decide +kernel) (by decide +kernel)
theorem zw_ml_5_136 : Cond.methodLink "AttributeKinds" 136 ⟨"AttributeKinds$Relations", "find", "(LAttributeKinds$Grammar;)V"⟩ ∈ zt_WS := zt_in 287 (by decide +kernel) (by decide +kernel)
theorem zw_ml_5_146 : Cond.methodLink "AttributeKinds" 146 ⟨"AttributeKinds", "checkAttribute", "(II)V"⟩ ∈ zt_WS := zt_in 634 (by decide +kernel) (by decide +kernel)
theorem zw_ml_5_161 : Cond.methodLink "AttributeKinds" 161 ⟨"AttributeKinds", "rowOf", "(JI)I"⟩ ∈ zt_WS := zt_in 639 (by decide +kernel) (by decide +kernel)
theorem zw_ml_5_165 : Cond.methodLink "AttributeKinds" 165 ⟨"AttributeKinds", "numbering", "(Z)LAttributeKinds$Numbering;"⟩ ∈ zt_WS := zt_in 353 (by decide +kernel) (by decide +kernel)
theorem zw_ml_5_186 : Cond.methodLink "AttributeKinds" 186 ⟨"AttributeKinds$TreeGraphs", "find", "(LAttributeKinds$Grammar;)V"⟩ ∈ zt_WS := zt_in 591 (by decide +kernel) (by decide +kernel)
theorem zw_ml_5_192 : Cond.methodLink "AttributeKinds" 192 ⟨"AttributeKinds$Numbering", "find", "(LAttributeKinds$Grammar;)V"⟩ ∈ zt_WS := zt_in 357 (by decide +kernel) (by decide +kernel)
theorem zw_fl_6_7 : Cond.fieldLink "AttributeKindsModel" 7 "AttributeKindsModel" "attributes" "[I" ∈ zt_WS := zt_in 655 (by decide +kernel) (by decide +kernel)
theorem zw_fl_6_13 : Cond.fieldLink "AttributeKindsModel" 13 "AttributeKindsModel" "downs" "[I" ∈ zt_WS := zt_in 656 (by decide +kernel) (by decide +kernel)
theorem zw_fl_6_16 : Cond.fieldLink "AttributeKindsModel" 16 "AttributeKindsModel" "occurrences" "[I" ∈ zt_WS := zt_in 658 (by decide +kernel) (by decide +kernel)
theorem zw_fl_6_19 : Cond.fieldLink "AttributeKindsModel" 19 "AttributeKindsModel" "depends" "[I" ∈ zt_WS := zt_in 659 (by decide +kernel) (by decide +kernel)
theorem zw_fl_6_22 : Cond.fieldLink "AttributeKindsModel" 22 "AttributeKindsModel" "counts" "[I" ∈ zt_WS := zt_in 663 (by decide +kernel) (by decide +kernel)
theorem zw_fl_6_25 : Cond.fieldLink "AttributeKindsModel" 25 "AttributeKindsModel" "graph" "[J" ∈ zt_WS := zt_in 664 (by decide +kernel) (by decide +kernel)
theorem zw_fl_6_29 : Cond.fieldLink "AttributeKindsModel" 29 "AttributeKindsModel" "done" "[I" ∈ zt_WS := zt_in 665 (by decide +kernel) (by decide +kernel)
theorem zw_fl_6_32 : Cond.fieldLink "AttributeKindsModel" 32 "AttributeKindsModel" "rows" "[I" ∈ zt_WS := zt_in 666 (by decide +kernel) (by decide +kernel)
theorem zw_fl_6_35 : Cond.fieldLink "AttributeKindsModel" 35 "AttributeKindsModel" "has" "[Z" ∈ zt_WS := zt_in 668 (by decide +kernel) (by decide +kernel)
theorem zw_fl_6_39 : Cond.fieldLink "AttributeKindsModel" 39 "AttributeKindsModel" "unions" "[I" ∈ zt_WS := zt_in 669 (by decide +kernel) (by decide +kernel)
theorem zw_fl_6_42 : Cond.fieldLink "AttributeKindsModel" 42 "AttributeKindsModel" "aboves" "[I" ∈ zt_WS := zt_in 670 (by decide +kernel) (by decide +kernel)
theorem zw_fl_6_45 : Cond.fieldLink "AttributeKindsModel" 45 "AttributeKindsModel" "numbers" "[I" ∈ zt_WS := zt_in 673 (by decide +kernel) (by decide +kernel)
theorem zw_fl_6_48 : Cond.fieldLink "AttributeKindsModel" 48 "AttributeKindsModel" "set" "[Z" ∈ zt_WS := zt_in 674 (by decide +kernel) (by decide +kernel)
theorem zw_fl_6_51 : Cond.fieldLink "AttributeKindsModel" 51 "AttributeKindsModel" "thrown" "I" ∈ zt_WS := zt_in 653 (by decide +kernel) (by decide +kernel)
theorem zw_fl_6_55 : Cond.fieldLink "AttributeKindsModel" 55 "AttributeKindsModel" "symbols" "I" ∈ zt_WS := zt_in 654 (by decide +kernel) (by decide +kernel)
theorem zw_fl_6_58 : Cond.fieldLink "AttributeKindsModel" 58 "AttributeKindsModel" "productions" "I" ∈ zt_WS := zt_in 657 (by decide +kernel) (by decide +kernel)
theorem zw_fl_6_64 : Cond.fieldLink "AttributeKindsModel" 64 "AttributeKindsModel" "known" "Z" ∈ zt_WS := zt_in 660 (by decide +kernel) (by decide +kernel)
theorem zw_fl_6_68 : Cond.fieldLink "AttributeKindsModel" 68 "AttributeKindsModel" "related" "Z" ∈ zt_WS := zt_in 667 (by decide +kernel) (by decide +kernel)
theorem zw_fl_6_99 : Cond.fieldLink "AttributeKindsModel" 99 "AttributeKindsModel" "great" "Z" ∈ zt_WS := zt_in 661 (by decide +kernel) (by decide +kernel)
theorem zw_fl_6_113 : Cond.fieldLink "AttributeKindsModel" 113 "AttributeKindsModel" "circle" "Z" ∈ zt_WS := zt_in 662 (by decide +kernel) (by decide +kernel)
theorem zw_fl_6_156 : Cond.fieldLink "AttributeKindsModel" 156 "AttributeKindsModel" "strong" "Z" ∈ zt_WS := zt_in 671 (by decide +kernel) (by decide +kernel)
theorem zw_fl_6_159 : Cond.fieldLink "AttributeKindsModel" 159 "AttributeKindsModel" "doubled" "Z" ∈ zt_WS := zt_in 672 (by decide +kernel) (by decide +kernel)
theorem zw_fl_6_179 : Cond.fieldLink "AttributeKindsModel" 179 "AttributeKindsModel" "mostPasses" "I" ∈ zt_WS := zt_in 675 (by decide +kernel) (by decide +kernel)
theorem zw_ml_6_61 : Cond.methodLink "AttributeKindsModel" 61 ⟨"AttributeKindsModel", "forget", "()V"⟩ ∈ zt_WS := zt_in 731 (by decide +kernel) (by decide +kernel)
theorem zw_ml_6_71 : Cond.methodLink "AttributeKindsModel" 71 ⟨"AttributeKindsModel", "in", "(III)Z"⟩ ∈ zt_WS := zt_in 739 (by decide +kernel) (by decide +kernel)
theorem zw_ml_6_75 : Cond.methodLink "AttributeKindsModel" 75 ⟨"AttributeKindsModel", "refuse", "(ZZ)Z"⟩ ∈ zt_WS := zt_in 742 (by decide +kernel) (by decide +kernel)
theorem zw_ml_6_79 : Cond.methodLink "AttributeKindsModel" 79 ⟨"AttributeKindsModel", "isSymbol", "(I)Z"⟩ ∈ zt_WS := zt_in 750 (by decide +kernel) (by decide +kernel)
theorem zw_ml_6_83 : Cond.methodLink "AttributeKindsModel" 83 ⟨"AttributeKindsModel", "symbolOf", "(II)I"⟩ ∈ zt_WS := zt_in 762 (by decide +kernel) (by decide +kernel)
theorem zw_ml_6_87 : Cond.methodLink "AttributeKindsModel" 87 ⟨"AttributeKindsModel", "isThere", "(II)Z"⟩ ∈ zt_WS := zt_in 758 (by decide +kernel) (by decide +kernel)
theorem zw_ml_6_91 : Cond.methodLink "AttributeKindsModel" 91 ⟨"AttributeKindsModel", "isDown", "(II)Z"⟩ ∈ zt_WS := zt_in 770 (by decide +kernel) (by decide +kernel)
theorem zw_ml_6_94 : Cond.methodLink "AttributeKindsModel" 94 ⟨"AttributeKindsModel", "defines", "(II)Z"⟩ ∈ zt_WS := zt_in 766 (by decide +kernel) (by decide +kernel)
theorem zw_ml_6_102 : Cond.methodLink "AttributeKindsModel" 102 ⟨"AttributeKindsModel", "takeDepends", "(I)V"⟩ ∈ zt_WS := zt_in 794 (by decide +kernel) (by decide +kernel)
theorem zw_ml_6_106 : Cond.methodLink "AttributeKindsModel" 106 ⟨"AttributeKindsModel", "addGraph", "(IJ)V"⟩ ∈ zt_WS := zt_in 798 (by decide +kernel) (by decide +kernel)
theorem zw_ml_6_110 : Cond.methodLink "AttributeKindsModel" 110 ⟨"AttributeKindsModel", "follow", "()V"⟩ ∈ zt_WS := zt_in 803 (by decide +kernel) (by decide +kernel)
theorem zw_ml_6_116 : Cond.methodLink "AttributeKindsModel" 116 ⟨"AttributeKindsModel", "hasCircle", "()Z"⟩ ∈ zt_WS := zt_in 807 (by decide +kernel) (by decide +kernel)
theorem zw_ml_6_120 : Cond.methodLink "AttributeKindsModel" 120 ⟨"AttributeKindsModel", "headGraph", "(I)J"⟩ ∈ zt_WS := zt_in 811 (by decide +kernel) (by decide +kernel)
theorem zw_ml_6_124 : Cond.methodLink "AttributeKindsModel" 124 ⟨"AttributeKindsModel", "takeGraph", "(IJ)V"⟩ ∈ zt_WS := zt_in 815 (by decide +kernel) (by decide +kernel)
theorem zw_ml_6_127 : Cond.methodLink "AttributeKindsModel" 127 ⟨"AttributeKindsModel", "countOf", "(II)I"⟩ ∈ zt_WS := zt_in 786 (by decide +kernel) (by decide +kernel)
theorem zw_ml_6_130 : Cond.methodLink "AttributeKindsModel" 130 ⟨"AttributeKindsModel", "put", "(IIII)V"⟩ ∈ zt_WS := zt_in 790 (by decide +kernel) (by decide +kernel)
theorem zw_ml_6_134 : Cond.methodLink "AttributeKindsModel" 134 ⟨"AttributeKindsModel", "work", "(I)Z"⟩ ∈ zt_WS := zt_in 782 (by decide +kernel) (by decide +kernel)
theorem zw_ml_6_137 : Cond.methodLink "AttributeKindsModel" 137 ⟨"AttributeKindsModel", "findGraphs", "()V"⟩ ∈ zt_WS := zt_in 778 (by decide +kernel) (by decide +kernel)
theorem zw_ml_6_140 : Cond.methodLink "AttributeKindsModel" 140 ⟨"AttributeKindsModel", "addUnions", "(II)V"⟩ ∈ zt_WS := zt_in 839 (by decide +kernel) (by decide +kernel)
theorem zw_ml_6_144 : Cond.methodLink "AttributeKindsModel" 144 ⟨"AttributeKindsModel", "addAboves", "(I)V"⟩ ∈ zt_WS := zt_in 847 (by decide +kernel) (by decide +kernel)
theorem zw_ml_6_147 : Cond.methodLink "AttributeKindsModel" 147 ⟨"AttributeKindsModel", "allHave", "(I)Z"⟩ ∈ zt_WS := zt_in 831 (by decide +kernel) (by decide +kernel)
theorem zw_ml_6_150 : Cond.methodLink "AttributeKindsModel" 150 ⟨"AttributeKindsModel", "growUnion", "(I)Z"⟩ ∈ zt_WS := zt_in 835 (by decide +kernel) (by decide +kernel)
theorem zw_ml_6_153 : Cond.methodLink "AttributeKindsModel" 153 ⟨"AttributeKindsModel", "growAbove", "(II)Z"⟩ ∈ zt_WS := zt_in 843 (by decide +kernel) (by decide +kernel)
theorem zw_ml_6_162 : Cond.methodLink "AttributeKindsModel" 162 ⟨"AttributeKindsModel", "relate", "()V"⟩ ∈ zt_WS := zt_in 827 (by decide +kernel) (by decide +kernel)
theorem zw_ml_6_165 : Cond.methodLink "AttributeKindsModel" 165 ⟨"AttributeKindsModel", "isAttribute", "(II)Z"⟩ ∈ zt_WS := zt_in 859 (by decide +kernel) (by decide +kernel)
theorem zw_ml_6_168 : Cond.methodLink "AttributeKindsModel" 168 ⟨"AttributeKindsModel", "inSet", "(II)Z"⟩ ∈ zt_WS := zt_in 879 (by decide +kernel) (by decide +kernel)
theorem zw_ml_6_171 : Cond.methodLink "AttributeKindsModel" 171 ⟨"AttributeKindsModel", "mayStay", "(IIZ)Z"⟩ ∈ zt_WS := zt_in 883 (by decide +kernel) (by decide +kernel)
theorem zw_ml_6_175 : Cond.methodLink "AttributeKindsModel" 175 ⟨"AttributeKindsModel", "leaveOut", "(Z)Z"⟩ ∈ zt_WS := zt_in 875 (by decide +kernel) (by decide +kernel)
theorem zw_ml_6_182 : Cond.methodLink "AttributeKindsModel" 182 ⟨"AttributeKindsModel", "onePass", "(IZ)I"⟩ ∈ zt_WS := zt_in 871 (by decide +kernel) (by decide +kernel)
theorem zw_ml_6_186 : Cond.methodLink "AttributeKindsModel" 186 ⟨"AttributeKindsModel", "findPasses", "(Z)V"⟩ ∈ zt_WS := zt_in 867 (by decide +kernel) (by decide +kernel)
theorem zw_cl_6_97 : Cond.constantLong "AttributeKindsModel" 97 ((63 : Int32).toInt64) ∈ zt_WS := zt_in 802 (by decide +kernel) (by decide +kernel)
end
section
/-! a class its links -/
def zl_0 : zh_K := ([(9, 0, 0), (15, 0, 1)], [(15, 0, 1)], [(29, 65, 2)], [(19, 999, 0), (25, 18, 2)], [])
theorem zl_ok0 : zh_fK zt "AttributeKinds$Board" zl_0 := ⟨List.forall_mem_cons.mpr ⟨⟨_, rfl, by decide, zw_fl_0_9⟩, List.forall_mem_cons.mpr ⟨⟨_, rfl, by decide, zw_fl_0_15⟩, fun _ h => absurd h List.not_mem_nil⟩⟩, List.forall_mem_cons.mpr ⟨⟨_, rfl, by decide, zw_fl_0_15, rfl⟩, fun _ h => absurd h List.not_mem_nil⟩, List.forall_mem_cons.mpr ⟨⟨_, _, rfl, rfl, rfl, rfl, zw_ml_0_29, zw_im_65, zw_se_65, by decide +kernel⟩, fun _ h => absurd h List.not_mem_nil⟩, List.forall_mem_cons.mpr ⟨Or.inl ⟨rfl, zw_ml_0_19, zw_ac_nat, zw_ac_st, zw_ini_S⟩, List.forall_mem_cons.mpr ⟨Or.inr ⟨_, by decide, rfl, rfl, Or.inr ⟨_, zw_mn_0_25⟩, zw_st_18, by decide +kernel⟩, fun _ h => absurd h List.not_mem_nil⟩⟩, fun _ h => absurd h List.not_mem_nil⟩
def zl_1 : zh_K := ([(9, 1, 0), (15, 1, 1), (19, 1, 2), (22, 1, 3), (25, 1, 4), (30, 1, 5), (33, 1, 6), (36, 1, 7), (39, 1, 8)], [(9, 1, 0), (22, 1, 3)], [(42, 68, 2), (50, 78, 2), (54, 75, 3), (61, 77, 2)], [(46, 17, 2), (58, 16, 1)], [])
theorem zl_ok1 : zh_fK zt "AttributeKinds$Grammar" zl_1 := ⟨List.forall_mem_cons.mpr ⟨⟨_, rfl, by decide, zw_fl_1_9⟩, List.forall_mem_cons.mpr ⟨⟨_, rfl, by decide, zw_fl_1_15⟩, List.forall_mem_cons.mpr ⟨⟨_, rfl, by decide, zw_fl_1_19⟩, List.forall_mem_cons.mpr ⟨⟨_, rfl, by decide, zw_fl_1_22⟩, List.forall_mem_cons.mpr ⟨⟨_, rfl, by decide, zw_fl_1_25⟩, List.forall_mem_cons.mpr ⟨⟨_, rfl, by decide, zw_fl_1_30⟩, List.forall_mem_cons.mpr ⟨⟨_, rfl, by decide, zw_fl_1_33⟩, List.forall_mem_cons.mpr ⟨⟨_, rfl, by decide, zw_fl_1_36⟩, List.forall_mem_cons.mpr ⟨⟨_, rfl, by decide, zw_fl_1_39⟩, fun _ h => absurd h List.not_mem_nil⟩⟩⟩⟩⟩⟩⟩⟩⟩, List.forall_mem_cons.mpr ⟨⟨_, rfl, by decide, zw_fl_1_9, rfl⟩, List.forall_mem_cons.mpr ⟨⟨_, rfl, by decide, zw_fl_1_22, rfl⟩, fun _ h => absurd h List.not_mem_nil⟩⟩, List.forall_mem_cons.mpr ⟨⟨_, _, rfl, rfl, rfl, rfl, zw_ml_1_42, zw_im_68, zw_se_68, by decide +kernel⟩, List.forall_mem_cons.mpr ⟨⟨_, _, rfl, rfl, rfl, rfl, zw_ml_1_50, zw_im_78, zw_se_78, by decide +kernel⟩, List.forall_mem_cons.mpr ⟨⟨_, _, rfl, rfl, rfl, rfl, zw_ml_1_54, zw_im_75, zw_se_75, by decide +kernel⟩, List.forall_mem_cons.mpr ⟨⟨_, _, rfl, rfl, rfl, rfl, zw_ml_1_61, zw_im_77, zw_se_77, by decide +kernel⟩, fun _ h => absurd h List.not_mem_nil⟩⟩⟩⟩, List.forall_mem_cons.mpr ⟨Or.inr ⟨_, by decide, rfl, rfl, Or.inr ⟨_, zw_mn_1_46⟩, zw_st_17, by decide +kernel⟩, List.forall_mem_cons.mpr ⟨Or.inr ⟨_, by decide, rfl, rfl, Or.inr ⟨_, zw_mn_1_58⟩, zw_st_16, by decide +kernel⟩, fun _ h => absurd h List.not_mem_nil⟩⟩, fun _ h => absurd h List.not_mem_nil⟩
def zl_2 : zh_K := ([(9, 2, 0), (24, 2, 3), (27, 2, 5), (31, 2, 6), (34, 2, 4), (52, 1, 0), (61, 1, 3), (72, 1, 4), (75, 1, 5), (82, 1, 6), (92, 1, 1)], [(9, 2, 0), (15, 2, 1), (18, 2, 2)], [(37, 81, 1), (40, 82, 3), (44, 85, 3), (48, 86, 2), (57, 77, 2), (64, 83, 4), (68, 79, 3)], [(78, 84, 2), (85, 17, 2), (89, 16, 1)], [])
theorem zl_ok2 : zh_fK zt "AttributeKinds$Numbering" zl_2 := ⟨List.forall_mem_cons.mpr ⟨⟨_, rfl, by decide, zw_fl_2_9⟩, List.forall_mem_cons.mpr ⟨⟨_, rfl, by decide, zw_fl_2_24⟩, List.forall_mem_cons.mpr ⟨⟨_, rfl, by decide, zw_fl_2_27⟩, List.forall_mem_cons.mpr ⟨⟨_, rfl, by decide, zw_fl_2_31⟩, List.forall_mem_cons.mpr ⟨⟨_, rfl, by decide, zw_fl_2_34⟩, List.forall_mem_cons.mpr ⟨⟨_, rfl, by decide, zw_fl_2_52⟩, List.forall_mem_cons.mpr ⟨⟨_, rfl, by decide, zw_fl_2_61⟩, List.forall_mem_cons.mpr ⟨⟨_, rfl, by decide, zw_fl_2_72⟩, List.forall_mem_cons.mpr ⟨⟨_, rfl, by decide, zw_fl_2_75⟩, List.forall_mem_cons.mpr ⟨⟨_, rfl, by decide, zw_fl_2_82⟩, List.forall_mem_cons.mpr ⟨⟨_, rfl, by decide, zw_fl_2_92⟩, fun _ h => absurd h List.not_mem_nil⟩⟩⟩⟩⟩⟩⟩⟩⟩⟩⟩, List.forall_mem_cons.mpr ⟨⟨_, rfl, by decide, zw_fl_2_9, rfl⟩, List.forall_mem_cons.mpr ⟨⟨_, rfl, by decide, zw_fl_2_15, rfl⟩, List.forall_mem_cons.mpr ⟨⟨_, rfl, by decide, zw_fl_2_18, rfl⟩, fun _ h => absurd h List.not_mem_nil⟩⟩⟩, List.forall_mem_cons.mpr ⟨⟨_, _, rfl, rfl, rfl, rfl, zw_ml_2_37, zw_im_81, zw_se_81, by decide +kernel⟩, List.forall_mem_cons.mpr ⟨⟨_, _, rfl, rfl, rfl, rfl, zw_ml_2_40, zw_im_82, zw_se_82, by decide +kernel⟩, List.forall_mem_cons.mpr ⟨⟨_, _, rfl, rfl, rfl, rfl, zw_ml_2_44, zw_im_85, zw_se_85, by decide +kernel⟩, List.forall_mem_cons.mpr ⟨⟨_, _, rfl, rfl, rfl, rfl, zw_ml_2_48, zw_im_86, zw_se_86, by decide +kernel⟩, List.forall_mem_cons.mpr ⟨⟨_, _, rfl, rfl, rfl, rfl, zw_ml_2_57, zw_im_77, zw_se_77, by decide +kernel⟩, List.forall_mem_cons.mpr ⟨⟨_, _, rfl, rfl, rfl, rfl, zw_ml_2_64, zw_im_83, zw_se_83, by decide +kernel⟩, List.forall_mem_cons.mpr ⟨⟨_, _, rfl, rfl, rfl, rfl, zw_ml_2_68, zw_im_79, zw_se_79, by decide +kernel⟩, fun _ h => absurd h List.not_mem_nil⟩⟩⟩⟩⟩⟩⟩, List.forall_mem_cons.mpr ⟨Or.inr ⟨_, by decide, rfl, rfl, Or.inl zw_ml_2_78, zw_st_84, by decide +kernel⟩, List.forall_mem_cons.mpr ⟨Or.inr ⟨_, by decide, rfl, rfl, Or.inr ⟨_, zw_mn_2_85⟩, zw_st_17, by decide +kernel⟩, List.forall_mem_cons.mpr ⟨Or.inr ⟨_, by decide, rfl, rfl, Or.inr ⟨_, zw_mn_2_89⟩, zw_st_16, by decide +kernel⟩, fun _ h => absurd h List.not_mem_nil⟩⟩⟩, fun _ h => absurd h List.not_mem_nil⟩
def zl_3 : zh_K := ([(9, 3, 0), (15, 3, 1), (18, 3, 2), (21, 3, 3), (25, 3, 4), (29, 3, 5), (35, 3, 6), (53, 1, 3), (63, 1, 5), (67, 1, 6), (82, 1, 4), (90, 0, 1)], [(9, 3, 0), (15, 3, 1), (18, 3, 2)], [(39, 88, 1), (42, 89, 2), (46, 90, 2), (49, 91, 2), (59, 92, 3), (70, 61, 2), (74, 94, 4), (78, 66, 2), (86, 93, 3), (93, 63, 3), (97, 64, 2)], [], [])
theorem zl_ok3 : zh_fK zt "AttributeKinds$Relations" zl_3 := ⟨List.forall_mem_cons.mpr ⟨⟨_, rfl, by decide, zw_fl_3_9⟩, List.forall_mem_cons.mpr ⟨⟨_, rfl, by decide, zw_fl_3_15⟩, List.forall_mem_cons.mpr ⟨⟨_, rfl, by decide, zw_fl_3_18⟩, List.forall_mem_cons.mpr ⟨⟨_, rfl, by decide, zw_fl_3_21⟩, List.forall_mem_cons.mpr ⟨⟨_, rfl, by decide, zw_fl_3_25⟩, List.forall_mem_cons.mpr ⟨⟨_, rfl, by decide, zw_fl_3_29⟩, List.forall_mem_cons.mpr ⟨⟨_, rfl, by decide, zw_fl_3_35⟩, List.forall_mem_cons.mpr ⟨⟨_, rfl, by decide, zw_fl_3_53⟩, List.forall_mem_cons.mpr ⟨⟨_, rfl, by decide, zw_fl_3_63⟩, List.forall_mem_cons.mpr ⟨⟨_, rfl, by decide, zw_fl_3_67⟩, List.forall_mem_cons.mpr ⟨⟨_, rfl, by decide, zw_fl_3_82⟩, List.forall_mem_cons.mpr ⟨⟨_, rfl, by decide, zw_fl_3_90⟩, fun _ h => absurd h List.not_mem_nil⟩⟩⟩⟩⟩⟩⟩⟩⟩⟩⟩⟩, List.forall_mem_cons.mpr ⟨⟨_, rfl, by decide, zw_fl_3_9, rfl⟩, List.forall_mem_cons.mpr ⟨⟨_, rfl, by decide, zw_fl_3_15, rfl⟩, List.forall_mem_cons.mpr ⟨⟨_, rfl, by decide, zw_fl_3_18, rfl⟩, fun _ h => absurd h List.not_mem_nil⟩⟩⟩, List.forall_mem_cons.mpr ⟨⟨_, _, rfl, rfl, rfl, rfl, zw_ml_3_39, zw_im_88, zw_se_88, by decide +kernel⟩, List.forall_mem_cons.mpr ⟨⟨_, _, rfl, rfl, rfl, rfl, zw_ml_3_42, zw_im_89, zw_se_89, by decide +kernel⟩, List.forall_mem_cons.mpr ⟨⟨_, _, rfl, rfl, rfl, rfl, zw_ml_3_46, zw_im_90, zw_se_90, by decide +kernel⟩, List.forall_mem_cons.mpr ⟨⟨_, _, rfl, rfl, rfl, rfl, zw_ml_3_49, zw_im_91, zw_se_91, by decide +kernel⟩, List.forall_mem_cons.mpr ⟨⟨_, _, rfl, rfl, rfl, rfl, zw_ml_3_59, zw_im_92, zw_se_92, by decide +kernel⟩, List.forall_mem_cons.mpr ⟨⟨_, _, rfl, rfl, rfl, rfl, zw_ml_3_70, zw_im_61, zw_se_61, by decide +kernel⟩, List.forall_mem_cons.mpr ⟨⟨_, _, rfl, rfl, rfl, rfl, zw_ml_3_74, zw_im_94, zw_se_94, by decide +kernel⟩, List.forall_mem_cons.mpr ⟨⟨_, _, rfl, rfl, rfl, rfl, zw_ml_3_78, zw_im_66, zw_se_66, by decide +kernel⟩, List.forall_mem_cons.mpr ⟨⟨_, _, rfl, rfl, rfl, rfl, zw_ml_3_86, zw_im_93, zw_se_93, by decide +kernel⟩, List.forall_mem_cons.mpr ⟨⟨_, _, rfl, rfl, rfl, rfl, zw_ml_3_93, zw_im_63, zw_se_63, by decide +kernel⟩, List.forall_mem_cons.mpr ⟨⟨_, _, rfl, rfl, rfl, rfl, zw_ml_3_97, zw_im_64, zw_se_64, by decide +kernel⟩, fun _ h => absurd h List.not_mem_nil⟩⟩⟩⟩⟩⟩⟩⟩⟩⟩⟩, fun _ h => absurd h List.not_mem_nil, fun _ h => absurd h List.not_mem_nil⟩
def zl_4 : zh_K := ([(9, 4, 0), (15, 4, 1), (18, 4, 2), (21, 4, 3), (27, 4, 4), (30, 4, 5), (33, 4, 6), (38, 4, 7), (46, 1, 3), (52, 1, 6), (68, 1, 4), (71, 1, 5), (90, 0, 1)], [(9, 4, 0), (15, 4, 1), (18, 4, 2)], [(43, 96, 1), (56, 61, 2), (60, 98, 5), (64, 97, 1), (74, 99, 3), (78, 62, 2), (82, 63, 3), (86, 64, 2), (91, 66, 2)], [], [])
theorem zl_ok4 : zh_fK zt "AttributeKinds$TreeGraphs" zl_4 := ⟨List.forall_mem_cons.mpr ⟨⟨_, rfl, by decide, zw_fl_4_9⟩, List.forall_mem_cons.mpr ⟨⟨_, rfl, by decide, zw_fl_4_15⟩, List.forall_mem_cons.mpr ⟨⟨_, rfl, by decide, zw_fl_4_18⟩, List.forall_mem_cons.mpr ⟨⟨_, rfl, by decide, zw_fl_4_21⟩, List.forall_mem_cons.mpr ⟨⟨_, rfl, by decide, zw_fl_4_27⟩, List.forall_mem_cons.mpr ⟨⟨_, rfl, by decide, zw_fl_4_30⟩, List.forall_mem_cons.mpr ⟨⟨_, rfl, by decide, zw_fl_4_33⟩, List.forall_mem_cons.mpr ⟨⟨_, rfl, by decide, zw_fl_4_38⟩, List.forall_mem_cons.mpr ⟨⟨_, rfl, by decide, zw_fl_4_46⟩, List.forall_mem_cons.mpr ⟨⟨_, rfl, by decide, zw_fl_4_52⟩, List.forall_mem_cons.mpr ⟨⟨_, rfl, by decide, zw_fl_4_68⟩, List.forall_mem_cons.mpr ⟨⟨_, rfl, by decide, zw_fl_4_71⟩, List.forall_mem_cons.mpr ⟨⟨_, rfl, by decide, zw_fl_4_90⟩, fun _ h => absurd h List.not_mem_nil⟩⟩⟩⟩⟩⟩⟩⟩⟩⟩⟩⟩⟩, List.forall_mem_cons.mpr ⟨⟨_, rfl, by decide, zw_fl_4_9, rfl⟩, List.forall_mem_cons.mpr ⟨⟨_, rfl, by decide, zw_fl_4_15, rfl⟩, List.forall_mem_cons.mpr ⟨⟨_, rfl, by decide, zw_fl_4_18, rfl⟩, fun _ h => absurd h List.not_mem_nil⟩⟩⟩, List.forall_mem_cons.mpr ⟨⟨_, _, rfl, rfl, rfl, rfl, zw_ml_4_43, zw_im_96, zw_se_96, by decide +kernel⟩, List.forall_mem_cons.mpr ⟨⟨_, _, rfl, rfl, rfl, rfl, zw_ml_4_56, zw_im_61, zw_se_61, by decide +kernel⟩, List.forall_mem_cons.mpr ⟨⟨_, _, rfl, rfl, rfl, rfl, zw_ml_4_60, zw_im_98, zw_se_98, by decide +kernel⟩, List.forall_mem_cons.mpr ⟨⟨_, _, rfl, rfl, rfl, rfl, zw_ml_4_64, zw_im_97, zw_se_97, by decide +kernel⟩, List.forall_mem_cons.mpr ⟨⟨_, _, rfl, rfl, rfl, rfl, zw_ml_4_74, zw_im_99, zw_se_99, by decide +kernel⟩, List.forall_mem_cons.mpr ⟨⟨_, _, rfl, rfl, rfl, rfl, zw_ml_4_78, zw_im_62, zw_se_62, by decide +kernel⟩, List.forall_mem_cons.mpr ⟨⟨_, _, rfl, rfl, rfl, rfl, zw_ml_4_82, zw_im_63, zw_se_63, by decide +kernel⟩, List.forall_mem_cons.mpr ⟨⟨_, _, rfl, rfl, rfl, rfl, zw_ml_4_86, zw_im_64, zw_se_64, by decide +kernel⟩, List.forall_mem_cons.mpr ⟨⟨_, _, rfl, rfl, rfl, rfl, zw_ml_4_91, zw_im_66, zw_se_66, by decide +kernel⟩, fun _ h => absurd h List.not_mem_nil⟩⟩⟩⟩⟩⟩⟩⟩⟩, fun _ h => absurd h List.not_mem_nil, fun _ h => absurd h List.not_mem_nil⟩
def zl_5 : zh_K := ([(12, 5, 0), (19, 5, 1), (26, 5, 2), (35, 5, 3), (39, 5, 4), (61, 1, 0), (89, 1, 3), (128, 4, 3), (132, 4, 2), (140, 3, 1), (143, 3, 2), (150, 3, 3), (154, 3, 5), (158, 3, 4), (169, 2, 3), (173, 2, 1), (176, 2, 2), (181, 1, 1), (187, 4, 1)], [(193, 4, 0), (196, 3, 0), (197, 2, 0)], [(42, 67, 1), (45, 15, 1), (72, 73, 3), (76, 68, 2), (82, 69, 2), (94, 74, 5), (98, 70, 2), (106, 71, 3), (112, 72, 3), (117, 76, 4), (121, 11, 2), (125, 13, 1), (136, 87, 2), (146, 12, 3), (165, 14, 2), (186, 95, 2), (192, 80, 2)], [(55, 16, 1), (161, 18, 2)], [])
theorem zl_ok5 : zh_fK zt "AttributeKinds" zl_5 := ⟨List.forall_mem_cons.mpr ⟨⟨_, rfl, by decide, zw_fl_5_12⟩, List.forall_mem_cons.mpr ⟨⟨_, rfl, by decide, zw_fl_5_19⟩, List.forall_mem_cons.mpr ⟨⟨_, rfl, by decide, zw_fl_5_26⟩, List.forall_mem_cons.mpr ⟨⟨_, rfl, by decide, zw_fl_5_35⟩, List.forall_mem_cons.mpr ⟨⟨_, rfl, by decide, zw_fl_5_39⟩, List.forall_mem_cons.mpr ⟨⟨_, rfl, by decide, zw_fl_5_61⟩, List.forall_mem_cons.mpr ⟨⟨_, rfl, by decide, zw_fl_5_89⟩, List.forall_mem_cons.mpr ⟨⟨_, rfl, by decide, zw_fl_5_128⟩, List.forall_mem_cons.mpr ⟨⟨_, rfl, by decide, zw_fl_5_132⟩, List.forall_mem_cons.mpr ⟨⟨_, rfl, by decide, zw_fl_5_140⟩, List.forall_mem_cons.mpr ⟨⟨_, rfl, by decide, zw_fl_5_143⟩, List.forall_mem_cons.mpr ⟨⟨_, rfl, by decide, zw_fl_5_150⟩, List.forall_mem_cons.mpr ⟨⟨_, rfl, by decide, zw_fl_5_154⟩, List.forall_mem_cons.mpr ⟨⟨_, rfl, by decide, zw_fl_5_158⟩, List.forall_mem_cons.mpr ⟨⟨_, rfl, by decide, zw_fl_5_169⟩, List.forall_mem_cons.mpr ⟨⟨_, rfl, by decide, zw_fl_5_173⟩, List.forall_mem_cons.mpr ⟨⟨_, rfl, by decide, zw_fl_5_176⟩, List.forall_mem_cons.mpr ⟨⟨_, rfl, by decide, zw_fl_5_181⟩, List.forall_mem_cons.mpr ⟨⟨_, rfl, by decide, zw_fl_5_187⟩, fun _ h => absurd h List.not_mem_nil⟩⟩⟩⟩⟩⟩⟩⟩⟩⟩⟩⟩⟩⟩⟩⟩⟩⟩⟩, List.forall_mem_cons.mpr ⟨⟨_, rfl, by decide, zw_fl_5_193, rfl⟩, List.forall_mem_cons.mpr ⟨⟨_, rfl, by decide, zw_fl_5_196, rfl⟩, List.forall_mem_cons.mpr ⟨⟨_, rfl, by decide, zw_fl_5_197, rfl⟩, fun _ h => absurd h List.not_mem_nil⟩⟩⟩, List.forall_mem_cons.mpr ⟨⟨_, _, rfl, rfl, rfl, rfl, zw_ml_5_42, zw_im_67, zw_se_67, by decide +kernel⟩, List.forall_mem_cons.mpr ⟨⟨_, _, rfl, rfl, rfl, rfl, zw_ml_5_45, zw_im_15, zw_se_15, by decide +kernel⟩, List.forall_mem_cons.mpr ⟨⟨_, _, rfl, rfl, rfl, rfl, zw_ml_5_72, zw_im_73, zw_se_73, by decide +kernel⟩, List.forall_mem_cons.mpr ⟨⟨_, _, rfl, rfl, rfl, rfl, zw_ml_5_76, zw_im_68, zw_se_68, by decide +kernel⟩, List.forall_mem_cons.mpr ⟨⟨_, _, rfl, rfl, rfl, rfl, zw_ml_5_82, zw_im_69, zw_se_69, by decide +kernel⟩, List.forall_mem_cons.mpr ⟨⟨_, _, rfl, rfl, rfl, rfl, zw_ml_5_94, zw_im_74, zw_se_74, by decide +kernel⟩, List.forall_mem_cons.mpr ⟨⟨_, _, rfl, rfl, rfl, rfl, zw_ml_5_98, zw_im_70, zw_se_70, by decide +kernel⟩, List.forall_mem_cons.mpr ⟨⟨_, _, rfl, rfl, rfl, rfl, zw_ml_5_106, zw_im_71, zw_se_71, by decide +kernel⟩, List.forall_mem_cons.mpr ⟨⟨_, _, rfl, rfl, rfl, rfl, zw_ml_5_112, zw_im_72, zw_se_72, by decide +kernel⟩, List.forall_mem_cons.mpr ⟨⟨_, _, rfl, rfl, rfl, rfl, zw_ml_5_117, zw_im_76, zw_se_76, by decide +kernel⟩, List.forall_mem_cons.mpr ⟨⟨_, _, rfl, rfl, rfl, rfl, zw_ml_5_121, zw_im_11, zw_se_11, by decide +kernel⟩, List.forall_mem_cons.mpr ⟨⟨_, _, rfl, rfl, rfl, rfl, zw_ml_5_125, zw_im_13, zw_se_13, by decide +kernel⟩, List.forall_mem_cons.mpr ⟨⟨_, _, rfl, rfl, rfl, rfl, zw_ml_5_136, zw_im_87, zw_se_87, by decide +kernel⟩, List.forall_mem_cons.mpr ⟨⟨_, _, rfl, rfl, rfl, rfl, zw_ml_5_146, zw_im_12, zw_se_12, by decide +kernel⟩, List.forall_mem_cons.mpr ⟨⟨_, _, rfl, rfl, rfl, rfl, zw_ml_5_165, zw_im_14, zw_se_14, by decide +kernel⟩, List.forall_mem_cons.mpr ⟨⟨_, _, rfl, rfl, rfl, rfl, zw_ml_5_186, zw_im_95, zw_se_95, by decide +kernel⟩, List.forall_mem_cons.mpr ⟨⟨_, _, rfl, rfl, rfl, rfl, zw_ml_5_192, zw_im_80, zw_se_80, by decide +kernel⟩, fun _ h => absurd h List.not_mem_nil⟩⟩⟩⟩⟩⟩⟩⟩⟩⟩⟩⟩⟩⟩⟩⟩⟩, List.forall_mem_cons.mpr ⟨Or.inr ⟨_, by decide, rfl, rfl, Or.inl zw_ml_5_55, zw_st_16, by decide +kernel⟩, List.forall_mem_cons.mpr ⟨Or.inr ⟨_, by decide, rfl, rfl, Or.inl zw_ml_5_161, zw_st_18, by decide +kernel⟩, fun _ h => absurd h List.not_mem_nil⟩⟩, fun _ h => absurd h List.not_mem_nil⟩
def zl_6 : zh_K := ([(7, 6, 2), (13, 6, 3), (16, 6, 5), (19, 6, 6), (22, 6, 10), (25, 6, 11), (29, 6, 12), (32, 6, 13), (35, 6, 15), (39, 6, 16), (42, 6, 17), (45, 6, 20), (48, 6, 21), (51, 6, 0), (55, 6, 1), (58, 6, 4), (64, 6, 7), (68, 6, 14), (99, 6, 8), (113, 6, 9), (156, 6, 18), (159, 6, 19), (179, 6, 22)], [(51, 6, 0), (55, 6, 1), (58, 6, 4), (64, 6, 7), (68, 6, 14), (99, 6, 8), (113, 6, 9), (156, 6, 18), (159, 6, 19), (179, 6, 22)], [(61, 23, 1), (75, 20, 3), (79, 25, 2), (83, 28, 3), (87, 29, 3), (91, 27, 3), (94, 30, 3), (102, 32, 2), (106, 35, 3), (110, 33, 1), (116, 34, 1), (120, 36, 2), (124, 37, 3), (127, 38, 3), (130, 39, 5), (134, 40, 2), (137, 41, 1), (140, 45, 3), (144, 46, 2), (147, 44, 2), (150, 47, 2), (153, 48, 3), (162, 49, 1), (165, 52, 3), (168, 54, 3), (171, 55, 4), (175, 56, 2), (182, 57, 3), (186, 58, 2)], [(71, 21, 3)], [(97, 63)])
theorem zl_ok6 : zh_fK zt "AttributeKindsModel" zl_6 := ⟨List.forall_mem_cons.mpr ⟨⟨_, rfl, by decide, zw_fl_6_7⟩, List.forall_mem_cons.mpr ⟨⟨_, rfl, by decide, zw_fl_6_13⟩, List.forall_mem_cons.mpr ⟨⟨_, rfl, by decide, zw_fl_6_16⟩, List.forall_mem_cons.mpr ⟨⟨_, rfl, by decide, zw_fl_6_19⟩, List.forall_mem_cons.mpr ⟨⟨_, rfl, by decide, zw_fl_6_22⟩, List.forall_mem_cons.mpr ⟨⟨_, rfl, by decide, zw_fl_6_25⟩, List.forall_mem_cons.mpr ⟨⟨_, rfl, by decide, zw_fl_6_29⟩, List.forall_mem_cons.mpr ⟨⟨_, rfl, by decide, zw_fl_6_32⟩, List.forall_mem_cons.mpr ⟨⟨_, rfl, by decide, zw_fl_6_35⟩, List.forall_mem_cons.mpr ⟨⟨_, rfl, by decide, zw_fl_6_39⟩, List.forall_mem_cons.mpr ⟨⟨_, rfl, by decide, zw_fl_6_42⟩, List.forall_mem_cons.mpr ⟨⟨_, rfl, by decide, zw_fl_6_45⟩, List.forall_mem_cons.mpr ⟨⟨_, rfl, by decide, zw_fl_6_48⟩, List.forall_mem_cons.mpr ⟨⟨_, rfl, by decide, zw_fl_6_51⟩, List.forall_mem_cons.mpr ⟨⟨_, rfl, by decide, zw_fl_6_55⟩, List.forall_mem_cons.mpr ⟨⟨_, rfl, by decide, zw_fl_6_58⟩, List.forall_mem_cons.mpr ⟨⟨_, rfl, by decide, zw_fl_6_64⟩, List.forall_mem_cons.mpr ⟨⟨_, rfl, by decide, zw_fl_6_68⟩, List.forall_mem_cons.mpr ⟨⟨_, rfl, by decide, zw_fl_6_99⟩, List.forall_mem_cons.mpr ⟨⟨_, rfl, by decide, zw_fl_6_113⟩, List.forall_mem_cons.mpr ⟨⟨_, rfl, by decide, zw_fl_6_156⟩, List.forall_mem_cons.mpr ⟨⟨_, rfl, by decide, zw_fl_6_159⟩, List.forall_mem_cons.mpr ⟨⟨_, rfl, by decide, zw_fl_6_179⟩, fun _ h => absurd h List.not_mem_nil⟩⟩⟩⟩⟩⟩⟩⟩⟩⟩⟩⟩⟩⟩⟩⟩⟩⟩⟩⟩⟩⟩⟩, List.forall_mem_cons.mpr ⟨⟨_, rfl, by decide, zw_fl_6_51, rfl⟩, List.forall_mem_cons.mpr ⟨⟨_, rfl, by decide, zw_fl_6_55, rfl⟩, List.forall_mem_cons.mpr ⟨⟨_, rfl, by decide, zw_fl_6_58, rfl⟩, List.forall_mem_cons.mpr ⟨⟨_, rfl, by decide, zw_fl_6_64, rfl⟩, List.forall_mem_cons.mpr ⟨⟨_, rfl, by decide, zw_fl_6_68, rfl⟩, List.forall_mem_cons.mpr ⟨⟨_, rfl, by decide, zw_fl_6_99, rfl⟩, List.forall_mem_cons.mpr ⟨⟨_, rfl, by decide, zw_fl_6_113, rfl⟩, List.forall_mem_cons.mpr ⟨⟨_, rfl, by decide, zw_fl_6_156, rfl⟩, List.forall_mem_cons.mpr ⟨⟨_, rfl, by decide, zw_fl_6_159, rfl⟩, List.forall_mem_cons.mpr ⟨⟨_, rfl, by decide, zw_fl_6_179, rfl⟩, fun _ h => absurd h List.not_mem_nil⟩⟩⟩⟩⟩⟩⟩⟩⟩⟩, List.forall_mem_cons.mpr ⟨⟨_, _, rfl, rfl, rfl, rfl, zw_ml_6_61, zw_im_23, zw_se_23, by decide +kernel⟩, List.forall_mem_cons.mpr ⟨⟨_, _, rfl, rfl, rfl, rfl, zw_ml_6_75, zw_im_20, zw_se_20, by decide +kernel⟩, List.forall_mem_cons.mpr ⟨⟨_, _, rfl, rfl, rfl, rfl, zw_ml_6_79, zw_im_25, zw_se_25, by decide +kernel⟩, List.forall_mem_cons.mpr ⟨⟨_, _, rfl, rfl, rfl, rfl, zw_ml_6_83, zw_im_28, zw_se_28, by decide +kernel⟩, List.forall_mem_cons.mpr ⟨⟨_, _, rfl, rfl, rfl, rfl, zw_ml_6_87, zw_im_29, zw_se_29, by decide +kernel⟩, List.forall_mem_cons.mpr ⟨⟨_, _, rfl, rfl, rfl, rfl, zw_ml_6_91, zw_im_27, zw_se_27, by decide +kernel⟩, List.forall_mem_cons.mpr ⟨⟨_, _, rfl, rfl, rfl, rfl, zw_ml_6_94, zw_im_30, zw_se_30, by decide +kernel⟩, List.forall_mem_cons.mpr ⟨⟨_, _, rfl, rfl, rfl, rfl, zw_ml_6_102, zw_im_32, zw_se_32, by decide +kernel⟩, List.forall_mem_cons.mpr ⟨⟨_, _, rfl, rfl, rfl, rfl, zw_ml_6_106, zw_im_35, zw_se_35, by decide +kernel⟩, List.forall_mem_cons.mpr ⟨⟨_, _, rfl, rfl, rfl, rfl, zw_ml_6_110, zw_im_33, zw_se_33, by decide +kernel⟩, List.forall_mem_cons.mpr ⟨⟨_, _, rfl, rfl, rfl, rfl, zw_ml_6_116, zw_im_34, zw_se_34, by decide +kernel⟩, List.forall_mem_cons.mpr ⟨⟨_, _, rfl, rfl, rfl, rfl, zw_ml_6_120, zw_im_36, zw_se_36, by decide +kernel⟩, List.forall_mem_cons.mpr ⟨⟨_, _, rfl, rfl, rfl, rfl, zw_ml_6_124, zw_im_37, zw_se_37, by decide +kernel⟩, List.forall_mem_cons.mpr ⟨⟨_, _, rfl, rfl, rfl, rfl, zw_ml_6_127, zw_im_38, zw_se_38, by decide +kernel⟩, List.forall_mem_cons.mpr ⟨⟨_, _, rfl, rfl, rfl, rfl, zw_ml_6_130, zw_im_39, zw_se_39, by decide +kernel⟩, List.forall_mem_cons.mpr ⟨⟨_, _, rfl, rfl, rfl, rfl, zw_ml_6_134, zw_im_40, zw_se_40, by decide +kernel⟩, List.forall_mem_cons.mpr ⟨⟨_, _, rfl, rfl, rfl, rfl, zw_ml_6_137, zw_im_41, zw_se_41, by decide +kernel⟩, List.forall_mem_cons.mpr ⟨⟨_, _, rfl, rfl, rfl, rfl, zw_ml_6_140, zw_im_45, zw_se_45, by decide +kernel⟩, List.forall_mem_cons.mpr ⟨⟨_, _, rfl, rfl, rfl, rfl, zw_ml_6_144, zw_im_46, zw_se_46, by decide +kernel⟩, List.forall_mem_cons.mpr ⟨⟨_, _, rfl, rfl, rfl, rfl, zw_ml_6_147, zw_im_44, zw_se_44, by decide +kernel⟩, List.forall_mem_cons.mpr ⟨⟨_, _, rfl, rfl, rfl, rfl, zw_ml_6_150, zw_im_47, zw_se_47, by decide +kernel⟩, List.forall_mem_cons.mpr ⟨⟨_, _, rfl, rfl, rfl, rfl, zw_ml_6_153, zw_im_48, zw_se_48, by decide +kernel⟩, List.forall_mem_cons.mpr ⟨⟨_, _, rfl, rfl, rfl, rfl, zw_ml_6_162, zw_im_49, zw_se_49, by decide +kernel⟩, List.forall_mem_cons.mpr ⟨⟨_, _, rfl, rfl, rfl, rfl, zw_ml_6_165, zw_im_52, zw_se_52, by decide +kernel⟩, List.forall_mem_cons.mpr ⟨⟨_, _, rfl, rfl, rfl, rfl, zw_ml_6_168, zw_im_54, zw_se_54, by decide +kernel⟩, List.forall_mem_cons.mpr ⟨⟨_, _, rfl, rfl, rfl, rfl, zw_ml_6_171, zw_im_55, zw_se_55, by decide +kernel⟩, List.forall_mem_cons.mpr ⟨⟨_, _, rfl, rfl, rfl, rfl, zw_ml_6_175, zw_im_56, zw_se_56, by decide +kernel⟩, List.forall_mem_cons.mpr ⟨⟨_, _, rfl, rfl, rfl, rfl, zw_ml_6_182, zw_im_57, zw_se_57, by decide +kernel⟩, List.forall_mem_cons.mpr ⟨⟨_, _, rfl, rfl, rfl, rfl, zw_ml_6_186, zw_im_58, zw_se_58, by decide +kernel⟩, fun _ h => absurd h List.not_mem_nil⟩⟩⟩⟩⟩⟩⟩⟩⟩⟩⟩⟩⟩⟩⟩⟩⟩⟩⟩⟩⟩⟩⟩⟩⟩⟩⟩⟩⟩, List.forall_mem_cons.mpr ⟨Or.inr ⟨_, by decide, rfl, rfl, Or.inl zw_ml_6_71, zw_st_21, by decide +kernel⟩, fun _ h => absurd h List.not_mem_nil⟩, List.forall_mem_cons.mpr ⟨zw_cl_6_97, fun _ h => absurd h List.not_mem_nil⟩⟩
end
section
/-! the programs are the code -/
set_option maxRecDepth 20000 in
theorem zg_A_clear : zp_A_clear.all (zh_gd zl_5 prog_1_method_2_code) = true := by decide +kernel
theorem zc_A_clear : zh_ch zp_A_clear = true := by decide +kernel
set_option maxRecDepth 20000 in
theorem zg_A_symbol : zp_A_symbol.all (zh_gd zl_5 prog_1_method_3_code) = true := by decide +kernel
theorem zc_A_symbol : zh_ch zp_A_symbol = true := by decide +kernel
set_option maxRecDepth 20000 in
theorem zg_A_production : zp_A_production.all (zh_gd zl_5 prog_1_method_4_code) = true := by decide +kernel
theorem zc_A_production : zh_ch zp_A_production = true := by decide +kernel
set_option maxRecDepth 20000 in
theorem zg_A_depend : zp_A_depend.all (zh_gd zl_5 prog_1_method_5_code) = true := by decide +kernel
theorem zc_A_depend : zh_ch zp_A_depend = true := by decide +kernel
set_option maxRecDepth 20000 in
theorem zg_A_graphs : zp_A_graphs.all (zh_gd zl_5 prog_1_method_6_code) = true := by decide +kernel
theorem zc_A_graphs : zh_ch zp_A_graphs = true := by decide +kernel
set_option maxRecDepth 20000 in
theorem zg_A_circular : zp_A_circular.all (zh_gd zl_5 prog_1_method_7_code) = true := by decide +kernel
theorem zc_A_circular : zh_ch zp_A_circular = true := by decide +kernel
set_option maxRecDepth 20000 in
theorem zg_A_strong : zp_A_strong.all (zh_gd zl_5 prog_1_method_8_code) = true := by decide +kernel
theorem zc_A_strong : zh_ch zp_A_strong = true := by decide +kernel
set_option maxRecDepth 20000 in
theorem zg_A_doubly : zp_A_doubly.all (zh_gd zl_5 prog_1_method_9_code) = true := by decide +kernel
theorem zc_A_doubly : zh_ch zp_A_doubly = true := by decide +kernel
set_option maxRecDepth 20000 in
theorem zg_A_relation : zp_A_relation.all (zh_gd zl_5 prog_1_method_10_code) = true := by decide +kernel
theorem zc_A_relation : zh_ch zp_A_relation = true := by decide +kernel
set_option maxRecDepth 20000 in
theorem zg_A_pass : zp_A_pass.all (zh_gd zl_5 prog_1_method_11_code) = true := by decide +kernel
theorem zc_A_pass : zh_ch zp_A_pass = true := by decide +kernel
set_option maxRecDepth 20000 in
theorem zg_A_passes : zp_A_passes.all (zh_gd zl_5 prog_1_method_12_code) = true := by decide +kernel
theorem zc_A_passes : zh_ch zp_A_passes = true := by decide +kernel
set_option maxRecDepth 20000 in
theorem zg_A_checkSymbol : zp_A_checkSymbol.all (zh_gd zl_5 prog_1_method_13_code) = true := by decide +kernel
theorem zc_A_checkSymbol : zh_ch zp_A_checkSymbol = true := by decide +kernel
set_option maxRecDepth 20000 in
theorem zg_A_checkAttribute : zp_A_checkAttribute.all (zh_gd zl_5 prog_1_method_14_code) = true := by decide +kernel
theorem zc_A_checkAttribute : zh_ch zp_A_checkAttribute = true := by decide +kernel
set_option maxRecDepth 20000 in
theorem zg_A_findGraphs : zp_A_findGraphs.all (zh_gd zl_5 prog_1_method_15_code) = true := by decide +kernel
theorem zc_A_findGraphs : zh_ch zp_A_findGraphs = true := by decide +kernel
set_option maxRecDepth 20000 in
theorem zg_A_numbering : zp_A_numbering.all (zh_gd zl_5 prog_1_method_16_code) = true := by decide +kernel
theorem zc_A_numbering : zh_ch zp_A_numbering = true := by decide +kernel
set_option maxRecDepth 20000 in
theorem zg_A_forgetAnswers : zp_A_forgetAnswers.all (zh_gd zl_5 prog_1_method_17_code) = true := by decide +kernel
theorem zc_A_forgetAnswers : zh_ch zp_A_forgetAnswers = true := by decide +kernel
set_option maxRecDepth 20000 in
theorem zg_A_firstBits : zp_A_firstBits.all (zh_gd zl_5 prog_1_method_18_code) = true := by decide +kernel
theorem zc_A_firstBits : zh_ch zp_A_firstBits = true := by decide +kernel
set_option maxRecDepth 20000 in
theorem zg_A_hasBit : zp_A_hasBit.all (zh_gd zl_5 prog_1_method_19_code) = true := by decide +kernel
theorem zc_A_hasBit : zh_ch zp_A_hasBit = true := by decide +kernel
set_option maxRecDepth 20000 in
theorem zg_A_rowOf : zp_A_rowOf.all (zh_gd zl_5 prog_1_method_20_code) = true := by decide +kernel
theorem zc_A_rowOf : zh_ch zp_A_rowOf = true := by decide +kernel
set_option maxRecDepth 20000 in
theorem zg_M_thrown : zp_M_thrown.all (zh_gd zl_6 prog_8_method_2_code) = true := by decide +kernel
theorem zc_M_thrown : zh_ch zp_M_thrown = true := by decide +kernel
set_option maxRecDepth 20000 in
theorem zg_M_refuse : zp_M_refuse.all (zh_gd zl_6 prog_8_method_3_code) = true := by decide +kernel
theorem zc_M_refuse : zh_ch zp_M_refuse = true := by decide +kernel
set_option maxRecDepth 20000 in
theorem zg_M_in : zp_M_in.all (zh_gd zl_6 prog_8_method_4_code) = true := by decide +kernel
theorem zc_M_in : zh_ch zp_M_in = true := by decide +kernel
set_option maxRecDepth 20000 in
theorem zg_M_clear : zp_M_clear.all (zh_gd zl_6 prog_8_method_5_code) = true := by decide +kernel
theorem zc_M_clear : zh_ch zp_M_clear = true := by decide +kernel
set_option maxRecDepth 20000 in
theorem zg_M_forget : zp_M_forget.all (zh_gd zl_6 prog_8_method_6_code) = true := by decide +kernel
theorem zc_M_forget : zh_ch zp_M_forget = true := by decide +kernel
set_option maxRecDepth 20000 in
theorem zg_M_symbol : zp_M_symbol.all (zh_gd zl_6 prog_8_method_7_code) = true := by decide +kernel
theorem zc_M_symbol : zh_ch zp_M_symbol = true := by decide +kernel
set_option maxRecDepth 20000 in
theorem zg_M_isSymbol : zp_M_isSymbol.all (zh_gd zl_6 prog_8_method_8_code) = true := by decide +kernel
theorem zc_M_isSymbol : zh_ch zp_M_isSymbol = true := by decide +kernel
set_option maxRecDepth 20000 in
theorem zg_M_production : zp_M_production.all (zh_gd zl_6 prog_8_method_9_code) = true := by decide +kernel
theorem zc_M_production : zh_ch zp_M_production = true := by decide +kernel
set_option maxRecDepth 20000 in
theorem zg_M_isDown : zp_M_isDown.all (zh_gd zl_6 prog_8_method_10_code) = true := by decide +kernel
theorem zc_M_isDown : zh_ch zp_M_isDown = true := by decide +kernel
set_option maxRecDepth 20000 in
theorem zg_M_symbolOf : zp_M_symbolOf.all (zh_gd zl_6 prog_8_method_11_code) = true := by decide +kernel
theorem zc_M_symbolOf : zh_ch zp_M_symbolOf = true := by decide +kernel
set_option maxRecDepth 20000 in
theorem zg_M_isThere : zp_M_isThere.all (zh_gd zl_6 prog_8_method_12_code) = true := by decide +kernel
theorem zc_M_isThere : zh_ch zp_M_isThere = true := by decide +kernel
set_option maxRecDepth 20000 in
theorem zg_M_defines : zp_M_defines.all (zh_gd zl_6 prog_8_method_13_code) = true := by decide +kernel
theorem zc_M_defines : zh_ch zp_M_defines = true := by decide +kernel
set_option maxRecDepth 20000 in
theorem zg_M_depend : zp_M_depend.all (zh_gd zl_6 prog_8_method_14_code) = true := by decide +kernel
theorem zc_M_depend : zh_ch zp_M_depend = true := by decide +kernel
set_option maxRecDepth 20000 in
theorem zg_M_takeDepends : zp_M_takeDepends.all (zh_gd zl_6 prog_8_method_15_code) = true := by decide +kernel
theorem zc_M_takeDepends : zh_ch zp_M_takeDepends = true := by decide +kernel
set_option maxRecDepth 20000 in
theorem zg_M_follow : zp_M_follow.all (zh_gd zl_6 prog_8_method_16_code) = true := by decide +kernel
theorem zc_M_follow : zh_ch zp_M_follow = true := by decide +kernel
set_option maxRecDepth 20000 in
theorem zg_M_hasCircle : zp_M_hasCircle.all (zh_gd zl_6 prog_8_method_17_code) = true := by decide +kernel
theorem zc_M_hasCircle : zh_ch zp_M_hasCircle = true := by decide +kernel
set_option maxRecDepth 20000 in
theorem zg_M_addGraph : zp_M_addGraph.all (zh_gd zl_6 prog_8_method_18_code) = true := by decide +kernel
theorem zc_M_addGraph : zh_ch zp_M_addGraph = true := by decide +kernel
set_option maxRecDepth 20000 in
theorem zg_M_headGraph : zp_M_headGraph.all (zh_gd zl_6 prog_8_method_19_code) = true := by decide +kernel
theorem zc_M_headGraph : zh_ch zp_M_headGraph = true := by decide +kernel
set_option maxRecDepth 20000 in
theorem zg_M_takeGraph : zp_M_takeGraph.all (zh_gd zl_6 prog_8_method_20_code) = true := by decide +kernel
theorem zc_M_takeGraph : zh_ch zp_M_takeGraph = true := by decide +kernel
set_option maxRecDepth 20000 in
theorem zg_M_countOf : zp_M_countOf.all (zh_gd zl_6 prog_8_method_21_code) = true := by decide +kernel
theorem zc_M_countOf : zh_ch zp_M_countOf = true := by decide +kernel
set_option maxRecDepth 20000 in
theorem zg_M_put : zp_M_put.all (zh_gd zl_6 prog_8_method_22_code) = true := by decide +kernel
theorem zc_M_put : zh_ch zp_M_put = true := by decide +kernel
set_option maxRecDepth 20000 in
theorem zg_M_work : zp_M_work.all (zh_gd zl_6 prog_8_method_23_code) = true := by decide +kernel
theorem zc_M_work : zh_ch zp_M_work = true := by decide +kernel
set_option maxRecDepth 20000 in
theorem zg_M_findGraphs : zp_M_findGraphs.all (zh_gd zl_6 prog_8_method_24_code) = true := by decide +kernel
theorem zc_M_findGraphs : zh_ch zp_M_findGraphs = true := by decide +kernel
set_option maxRecDepth 20000 in
theorem zg_M_graphs : zp_M_graphs.all (zh_gd zl_6 prog_8_method_25_code) = true := by decide +kernel
theorem zc_M_graphs : zh_ch zp_M_graphs = true := by decide +kernel
set_option maxRecDepth 20000 in
theorem zg_M_circular : zp_M_circular.all (zh_gd zl_6 prog_8_method_26_code) = true := by decide +kernel
theorem zc_M_circular : zh_ch zp_M_circular = true := by decide +kernel
set_option maxRecDepth 20000 in
theorem zg_M_allHave : zp_M_allHave.all (zh_gd zl_6 prog_8_method_27_code) = true := by decide +kernel
theorem zc_M_allHave : zh_ch zp_M_allHave = true := by decide +kernel
set_option maxRecDepth 20000 in
theorem zg_M_addUnions : zp_M_addUnions.all (zh_gd zl_6 prog_8_method_28_code) = true := by decide +kernel
theorem zc_M_addUnions : zh_ch zp_M_addUnions = true := by decide +kernel
set_option maxRecDepth 20000 in
theorem zg_M_addAboves : zp_M_addAboves.all (zh_gd zl_6 prog_8_method_29_code) = true := by decide +kernel
theorem zc_M_addAboves : zh_ch zp_M_addAboves = true := by decide +kernel
set_option maxRecDepth 20000 in
theorem zg_M_growUnion : zp_M_growUnion.all (zh_gd zl_6 prog_8_method_30_code) = true := by decide +kernel
theorem zc_M_growUnion : zh_ch zp_M_growUnion = true := by decide +kernel
set_option maxRecDepth 20000 in
theorem zg_M_growAbove : zp_M_growAbove.all (zh_gd zl_6 prog_8_method_31_code) = true := by decide +kernel
theorem zc_M_growAbove : zh_ch zp_M_growAbove = true := by decide +kernel
set_option maxRecDepth 20000 in
theorem zg_M_relate : zp_M_relate.all (zh_gd zl_6 prog_8_method_32_code) = true := by decide +kernel
theorem zc_M_relate : zh_ch zp_M_relate = true := by decide +kernel
set_option maxRecDepth 20000 in
theorem zg_M_strong : zp_M_strong.all (zh_gd zl_6 prog_8_method_33_code) = true := by decide +kernel
theorem zc_M_strong : zh_ch zp_M_strong = true := by decide +kernel
set_option maxRecDepth 20000 in
theorem zg_M_doubly : zp_M_doubly.all (zh_gd zl_6 prog_8_method_34_code) = true := by decide +kernel
theorem zc_M_doubly : zh_ch zp_M_doubly = true := by decide +kernel
set_option maxRecDepth 20000 in
theorem zg_M_isAttribute : zp_M_isAttribute.all (zh_gd zl_6 prog_8_method_35_code) = true := by decide +kernel
theorem zc_M_isAttribute : zh_ch zp_M_isAttribute = true := by decide +kernel
set_option maxRecDepth 20000 in
theorem zg_M_relation : zp_M_relation.all (zh_gd zl_6 prog_8_method_36_code) = true := by decide +kernel
theorem zc_M_relation : zh_ch zp_M_relation = true := by decide +kernel
set_option maxRecDepth 20000 in
theorem zg_M_inSet : zp_M_inSet.all (zh_gd zl_6 prog_8_method_37_code) = true := by decide +kernel
theorem zc_M_inSet : zh_ch zp_M_inSet = true := by decide +kernel
set_option maxRecDepth 20000 in
theorem zg_M_mayStay : zp_M_mayStay.all (zh_gd zl_6 prog_8_method_38_code) = true := by decide +kernel
theorem zc_M_mayStay : zh_ch zp_M_mayStay = true := by decide +kernel
set_option maxRecDepth 20000 in
theorem zg_M_leaveOut : zp_M_leaveOut.all (zh_gd zl_6 prog_8_method_39_code) = true := by decide +kernel
theorem zc_M_leaveOut : zh_ch zp_M_leaveOut = true := by decide +kernel
set_option maxRecDepth 20000 in
theorem zg_M_onePass : zp_M_onePass.all (zh_gd zl_6 prog_8_method_40_code) = true := by decide +kernel
theorem zc_M_onePass : zh_ch zp_M_onePass = true := by decide +kernel
set_option maxRecDepth 20000 in
theorem zg_M_findPasses : zp_M_findPasses.all (zh_gd zl_6 prog_8_method_41_code) = true := by decide +kernel
theorem zc_M_findPasses : zh_ch zp_M_findPasses = true := by decide +kernel
set_option maxRecDepth 20000 in
theorem zg_M_pass : zp_M_pass.all (zh_gd zl_6 prog_8_method_42_code) = true := by decide +kernel
theorem zc_M_pass : zh_ch zp_M_pass = true := by decide +kernel
set_option maxRecDepth 20000 in
theorem zg_M_passes : zp_M_passes.all (zh_gd zl_6 prog_8_method_43_code) = true := by decide +kernel
theorem zc_M_passes : zh_ch zp_M_passes = true := by decide +kernel
set_option maxRecDepth 20000 in
theorem zg_B_start : zp_B_start.all (zh_gd zl_0 prog_2_method_2_code) = true := by decide +kernel
theorem zc_B_start : zh_ch zp_B_start = true := by decide +kernel
set_option maxRecDepth 20000 in
theorem zg_B_startFrom : zp_B_startFrom.all (zh_gd zl_0 prog_2_method_3_code) = true := by decide +kernel
theorem zc_B_startFrom : zh_ch zp_B_startFrom = true := by decide +kernel
set_option maxRecDepth 20000 in
theorem zg_B_lay : zp_B_lay.all (zh_gd zl_0 prog_2_method_4_code) = true := by decide +kernel
theorem zc_B_lay : zh_ch zp_B_lay = true := by decide +kernel
set_option maxRecDepth 20000 in
theorem zg_B_join : zp_B_join.all (zh_gd zl_0 prog_2_method_5_code) = true := by decide +kernel
theorem zc_B_join : zh_ch zp_B_join = true := by decide +kernel
set_option maxRecDepth 20000 in
theorem zg_B_joinAt : zp_B_joinAt.all (zh_gd zl_0 prog_2_method_6_code) = true := by decide +kernel
theorem zc_B_joinAt : zh_ch zp_B_joinAt = true := by decide +kernel
set_option maxRecDepth 20000 in
theorem zg_B_relationAt : zp_B_relationAt.all (zh_gd zl_0 prog_2_method_7_code) = true := by decide +kernel
theorem zc_B_relationAt : zh_ch zp_B_relationAt = true := by decide +kernel
set_option maxRecDepth 20000 in
theorem zg_G_wipe : zp_G_wipe.all (zh_gd zl_1 prog_3_method_2_code) = true := by decide +kernel
theorem zc_G_wipe : zh_ch zp_G_wipe = true := by decide +kernel
set_option maxRecDepth 20000 in
theorem zg_G_hasSymbol : zp_G_hasSymbol.all (zh_gd zl_1 prog_3_method_3_code) = true := by decide +kernel
theorem zc_G_hasSymbol : zh_ch zp_G_hasSymbol = true := by decide +kernel
set_option maxRecDepth 20000 in
theorem zg_G_canBePart : zp_G_canBePart.all (zh_gd zl_1 prog_3_method_4_code) = true := by decide +kernel
theorem zc_G_canBePart : zh_ch zp_G_canBePart = true := by decide +kernel
set_option maxRecDepth 20000 in
theorem zg_G_hasProduction : zp_G_hasProduction.all (zh_gd zl_1 prog_3_method_5_code) = true := by decide +kernel
theorem zc_G_hasProduction : zh_ch zp_G_hasProduction = true := by decide +kernel
set_option maxRecDepth 20000 in
theorem zg_G_defines : zp_G_defines.all (zh_gd zl_1 prog_3_method_6_code) = true := by decide +kernel
theorem zc_G_defines : zh_ch zp_G_defines = true := by decide +kernel
set_option maxRecDepth 20000 in
theorem zg_G_isGiven : zp_G_isGiven.all (zh_gd zl_1 prog_3_method_7_code) = true := by decide +kernel
theorem zc_G_isGiven : zh_ch zp_G_isGiven = true := by decide +kernel
set_option maxRecDepth 20000 in
theorem zg_G_addSymbol : zp_G_addSymbol.all (zh_gd zl_1 prog_3_method_8_code) = true := by decide +kernel
theorem zc_G_addSymbol : zh_ch zp_G_addSymbol = true := by decide +kernel
set_option maxRecDepth 20000 in
theorem zg_G_addProduction : zp_G_addProduction.all (zh_gd zl_1 prog_3_method_9_code) = true := by decide +kernel
theorem zc_G_addProduction : zh_ch zp_G_addProduction = true := by decide +kernel
set_option maxRecDepth 20000 in
theorem zg_G_addPart : zp_G_addPart.all (zh_gd zl_1 prog_3_method_10_code) = true := by decide +kernel
theorem zc_G_addPart : zh_ch zp_G_addPart = true := by decide +kernel
set_option maxRecDepth 20000 in
theorem zg_G_addDependence : zp_G_addDependence.all (zh_gd zl_1 prog_3_method_11_code) = true := by decide +kernel
theorem zc_G_addDependence : zh_ch zp_G_addDependence = true := by decide +kernel
set_option maxRecDepth 20000 in
theorem zg_G_all : zp_G_all.all (zh_gd zl_1 prog_3_method_12_code) = true := by decide +kernel
theorem zc_G_all : zh_ch zp_G_all = true := by decide +kernel
set_option maxRecDepth 20000 in
theorem zg_G_up : zp_G_up.all (zh_gd zl_1 prog_3_method_13_code) = true := by decide +kernel
theorem zc_G_up : zh_ch zp_G_up = true := by decide +kernel
set_option maxRecDepth 20000 in
theorem zg_G_placesOf : zp_G_placesOf.all (zh_gd zl_1 prog_3_method_14_code) = true := by decide +kernel
theorem zc_G_placesOf : zh_ch zp_G_placesOf = true := by decide +kernel
set_option maxRecDepth 20000 in
theorem zg_N_find : zp_N_find.all (zh_gd zl_2 prog_4_method_2_code) = true := by decide +kernel
theorem zc_N_find : zh_ch zp_N_find = true := by decide +kernel
set_option maxRecDepth 20000 in
theorem zg_N_forget : zp_N_forget.all (zh_gd zl_2 prog_4_method_3_code) = true := by decide +kernel
theorem zc_N_forget : zh_ch zp_N_forget = true := by decide +kernel
set_option maxRecDepth 20000 in
theorem zg_N_choose : zp_N_choose.all (zh_gd zl_2 prog_4_method_4_code) = true := by decide +kernel
theorem zc_N_choose : zh_ch zp_N_choose = true := by decide +kernel
set_option maxRecDepth 20000 in
theorem zg_N_drop : zp_N_drop.all (zh_gd zl_2 prog_4_method_5_code) = true := by decide +kernel
theorem zc_N_drop : zh_ch zp_N_drop = true := by decide +kernel
set_option maxRecDepth 20000 in
theorem zg_N_placesBefore : zp_N_placesBefore.all (zh_gd zl_2 prog_4_method_6_code) = true := by decide +kernel
theorem zc_N_placesBefore : zh_ch zp_N_placesBefore = true := by decide +kernel
set_option maxRecDepth 20000 in
theorem zg_N_give : zp_N_give.all (zh_gd zl_2 prog_4_method_7_code) = true := by decide +kernel
theorem zc_N_give : zh_ch zp_N_give = true := by decide +kernel
set_option maxRecDepth 20000 in
theorem zg_N_isWhole : zp_N_isWhole.all (zh_gd zl_2 prog_4_method_8_code) = true := by decide +kernel
theorem zc_N_isWhole : zh_ch zp_N_isWhole = true := by decide +kernel
set_option maxRecDepth 20000 in
theorem zg_R_find : zp_R_find.all (zh_gd zl_3 prog_5_method_2_code) = true := by decide +kernel
theorem zc_R_find : zh_ch zp_R_find = true := by decide +kernel
set_option maxRecDepth 20000 in
theorem zg_R_forget : zp_R_forget.all (zh_gd zl_3 prog_5_method_3_code) = true := by decide +kernel
theorem zc_R_forget : zh_ch zp_R_forget = true := by decide +kernel
set_option maxRecDepth 20000 in
theorem zg_R_growUpwards : zp_R_growUpwards.all (zh_gd zl_3 prog_5_method_4_code) = true := by decide +kernel
theorem zc_R_growUpwards : zh_ch zp_R_growUpwards = true := by decide +kernel
set_option maxRecDepth 20000 in
theorem zg_R_growFromAbove : zp_R_growFromAbove.all (zh_gd zl_3 prog_5_method_5_code) = true := by decide +kernel
theorem zc_R_growFromAbove : zh_ch zp_R_growFromAbove = true := by decide +kernel
set_option maxRecDepth 20000 in
theorem zg_R_lookForCircles : zp_R_lookForCircles.all (zh_gd zl_3 prog_5_method_6_code) = true := by decide +kernel
theorem zc_R_lookForCircles : zh_ch zp_R_lookForCircles = true := by decide +kernel
set_option maxRecDepth 20000 in
theorem zg_R_allPartsExist : zp_R_allPartsExist.all (zh_gd zl_3 prog_5_method_7_code) = true := by decide +kernel
theorem zc_R_allPartsExist : zh_ch zp_R_allPartsExist = true := by decide +kernel
set_option maxRecDepth 20000 in
theorem zg_R_startWithHead : zp_R_startWithHead.all (zh_gd zl_3 prog_5_method_8_code) = true := by decide +kernel
theorem zc_R_startWithHead : zh_ch zp_R_startWithHead = true := by decide +kernel
set_option maxRecDepth 20000 in
theorem zg_R_joinParts : zp_R_joinParts.all (zh_gd zl_3 prog_5_method_9_code) = true := by decide +kernel
theorem zc_R_joinParts : zh_ch zp_R_joinParts = true := by decide +kernel
set_option maxRecDepth 20000 in
theorem zg_T_find : zp_T_find.all (zh_gd zl_4 prog_6_method_2_code) = true := by decide +kernel
theorem zc_T_find : zh_ch zp_T_find = true := by decide +kernel
set_option maxRecDepth 20000 in
theorem zg_T_forget : zp_T_forget.all (zh_gd zl_4 prog_6_method_3_code) = true := by decide +kernel
theorem zc_T_forget : zh_ch zp_T_forget = true := by decide +kernel
set_option maxRecDepth 20000 in
theorem zg_T_beginRound : zp_T_beginRound.all (zh_gd zl_4 prog_6_method_4_code) = true := by decide +kernel
theorem zc_T_beginRound : zh_ch zp_T_beginRound = true := by decide +kernel
set_option maxRecDepth 20000 in
theorem zg_T_combine : zp_T_combine.all (zh_gd zl_4 prog_6_method_5_code) = true := by decide +kernel
theorem zc_T_combine : zh_ch zp_T_combine = true := by decide +kernel
set_option maxRecDepth 20000 in
theorem zg_T_keep : zp_T_keep.all (zh_gd zl_4 prog_6_method_6_code) = true := by decide +kernel
theorem zc_T_keep : zh_ch zp_T_keep = true := by decide +kernel
end
section
/-! the tables are good -/
set_option maxRecDepth 100000 in
theorem zd_A_clear : zk_gm zt zm_A_clear := ⟨zt_in 274 (by rfl) (by rfl), zw_ini_5, ⟨by decide +kernel, by decide +kernel⟩, by decide +kernel, by decide⟩
set_option maxRecDepth 100000 in
theorem zd_A_symbol : zk_gm zt zm_A_symbol := ⟨zt_in 407 (by rfl) (by rfl), zw_ini_5, ⟨by decide +kernel, by decide +kernel⟩, by decide +kernel, by decide⟩
set_option maxRecDepth 100000 in
theorem zd_A_production : zk_gm zt zm_A_production := ⟨zt_in 505 (by rfl) (by rfl), zw_ini_5, ⟨by decide +kernel, by decide +kernel⟩, by decide +kernel, by decide⟩
set_option maxRecDepth 100000 in
theorem zd_A_depend : zk_gm zt zm_A_depend := ⟨zt_in 539 (by rfl) (by rfl), zw_ini_5, ⟨by decide +kernel, by decide +kernel⟩, by decide +kernel, by decide⟩
set_option maxRecDepth 100000 in
theorem zd_A_graphs : zk_gm zt zm_A_graphs := ⟨zt_in 581 (by rfl) (by rfl), zw_ini_5, ⟨by decide +kernel, by decide +kernel⟩, by decide +kernel, by decide⟩
set_option maxRecDepth 100000 in
theorem zd_A_circular : zk_gm zt zm_A_circular := ⟨zt_in 626 (by rfl) (by rfl), zw_ini_5, ⟨by decide +kernel, by decide +kernel⟩, by decide +kernel, by decide⟩
set_option maxRecDepth 100000 in
theorem zd_A_strong : zk_gm zt zm_A_strong := ⟨zt_in 286 (by rfl) (by rfl), zw_ini_5, ⟨by decide +kernel, by decide +kernel⟩, by decide +kernel, by decide⟩
set_option maxRecDepth 100000 in
theorem zd_A_doubly : zk_gm zt zm_A_doubly := ⟨zt_in 348 (by rfl) (by rfl), zw_ini_5, ⟨by decide +kernel, by decide +kernel⟩, by decide +kernel, by decide⟩
set_option maxRecDepth 100000 in
theorem zd_A_relation : zk_gm zt zm_A_relation := ⟨zt_in 633 (by rfl) (by rfl), zw_ini_5, ⟨by decide +kernel, by decide +kernel⟩, by decide +kernel, by decide⟩
set_option maxRecDepth 100000 in
theorem zd_A_pass : zk_gm zt zm_A_pass := ⟨zt_in 646 (by rfl) (by rfl), zw_ini_5, ⟨by decide +kernel, by decide +kernel⟩, by decide +kernel, by decide⟩
set_option maxRecDepth 100000 in
theorem zd_A_passes : zk_gm zt zm_A_passes := ⟨zt_in 352 (by rfl) (by rfl), zw_ini_5, ⟨by decide +kernel, by decide +kernel⟩, by decide +kernel, by decide⟩
set_option maxRecDepth 100000 in
theorem zd_A_checkSymbol : zk_gm zt zm_A_checkSymbol := ⟨zt_in 585 (by rfl) (by rfl), zw_ini_5, ⟨by decide +kernel, by decide +kernel⟩, by decide +kernel, by decide⟩
set_option maxRecDepth 100000 in
theorem zd_A_checkAttribute : zk_gm zt zm_A_checkAttribute := ⟨zt_in 637 (by rfl) (by rfl), zw_ini_5, ⟨by decide +kernel, by decide +kernel⟩, by decide +kernel, by decide⟩
set_option maxRecDepth 100000 in
theorem zd_A_findGraphs : zk_gm zt zm_A_findGraphs := ⟨zt_in 590 (by rfl) (by rfl), zw_ini_5, ⟨by decide +kernel, by decide +kernel⟩, by decide +kernel, by decide⟩
set_option maxRecDepth 100000 in
theorem zd_A_numbering : zk_gm zt zm_A_numbering := ⟨zt_in 356 (by rfl) (by rfl), zw_ini_5, ⟨by decide +kernel, by decide +kernel⟩, by decide +kernel, by decide⟩
set_option maxRecDepth 100000 in
theorem zd_A_forgetAnswers : zk_gm zt zm_A_forgetAnswers := ⟨zt_in 282 (by rfl) (by rfl), zw_ini_5, ⟨by decide +kernel, by decide +kernel⟩, by decide +kernel, by decide⟩
set_option maxRecDepth 100000 in
theorem zd_A_firstBits : zk_gm zt zm_A_firstBits := ⟨zt_in 375 (by rfl) (by rfl), zw_ini_5, ⟨by decide +kernel, by decide +kernel⟩, by decide +kernel, by decide⟩
set_option maxRecDepth 100000 in
theorem zd_A_hasBit : zk_gm zt zm_A_hasBit := ⟨zt_in 390 (by rfl) (by rfl), zw_ini_5, ⟨by decide +kernel, by decide +kernel⟩, by decide +kernel, by decide⟩
set_option maxRecDepth 100000 in
theorem zd_A_rowOf : zk_gm zt zm_A_rowOf := ⟨zt_in 320 (by rfl) (by rfl), zw_ini_5, ⟨by decide +kernel, by decide +kernel⟩, by decide +kernel, by decide⟩
set_option maxRecDepth 100000 in
theorem zd_M_thrown : zk_gm zt zm_M_thrown := ⟨zt_in 726 (by rfl) (by rfl), zw_ini_6, ⟨by decide +kernel, by decide +kernel⟩, by decide +kernel, by decide⟩
set_option maxRecDepth 100000 in
theorem zd_M_refuse : zk_gm zt zm_M_refuse := ⟨zt_in 745 (by rfl) (by rfl), zw_ini_6, ⟨by decide +kernel, by decide +kernel⟩, by decide +kernel, by decide⟩
set_option maxRecDepth 100000 in
theorem zd_M_in : zk_gm zt zm_M_in := ⟨zt_in 741 (by rfl) (by rfl), zw_ini_6, ⟨by decide +kernel, by decide +kernel⟩, by decide +kernel, by decide⟩
set_option maxRecDepth 100000 in
theorem zd_M_clear : zk_gm zt zm_M_clear := ⟨zt_in 730 (by rfl) (by rfl), zw_ini_6, ⟨by decide +kernel, by decide +kernel⟩, by decide +kernel, by decide⟩
set_option maxRecDepth 100000 in
theorem zd_M_forget : zk_gm zt zm_M_forget := ⟨zt_in 734 (by rfl) (by rfl), zw_ini_6, ⟨by decide +kernel, by decide +kernel⟩, by decide +kernel, by decide⟩
set_option maxRecDepth 100000 in
theorem zd_M_symbol : zk_gm zt zm_M_symbol := ⟨zt_in 738 (by rfl) (by rfl), zw_ini_6, ⟨by decide +kernel, by decide +kernel⟩, by decide +kernel, by decide⟩
set_option maxRecDepth 100000 in
theorem zd_M_isSymbol : zk_gm zt zm_M_isSymbol := ⟨zt_in 753 (by rfl) (by rfl), zw_ini_6, ⟨by decide +kernel, by decide +kernel⟩, by decide +kernel, by decide⟩
set_option maxRecDepth 100000 in
theorem zd_M_production : zk_gm zt zm_M_production := ⟨zt_in 749 (by rfl) (by rfl), zw_ini_6, ⟨by decide +kernel, by decide +kernel⟩, by decide +kernel, by decide⟩
set_option maxRecDepth 100000 in
theorem zd_M_isDown : zk_gm zt zm_M_isDown := ⟨zt_in 773 (by rfl) (by rfl), zw_ini_6, ⟨by decide +kernel, by decide +kernel⟩, by decide +kernel, by decide⟩
set_option maxRecDepth 100000 in
theorem zd_M_symbolOf : zk_gm zt zm_M_symbolOf := ⟨zt_in 765 (by rfl) (by rfl), zw_ini_6, ⟨by decide +kernel, by decide +kernel⟩, by decide +kernel, by decide⟩
set_option maxRecDepth 100000 in
theorem zd_M_isThere : zk_gm zt zm_M_isThere := ⟨zt_in 761 (by rfl) (by rfl), zw_ini_6, ⟨by decide +kernel, by decide +kernel⟩, by decide +kernel, by decide⟩
set_option maxRecDepth 100000 in
theorem zd_M_defines : zk_gm zt zm_M_defines := ⟨zt_in 769 (by rfl) (by rfl), zw_ini_6, ⟨by decide +kernel, by decide +kernel⟩, by decide +kernel, by decide⟩
set_option maxRecDepth 100000 in
theorem zd_M_depend : zk_gm zt zm_M_depend := ⟨zt_in 757 (by rfl) (by rfl), zw_ini_6, ⟨by decide +kernel, by decide +kernel⟩, by decide +kernel, by decide⟩
set_option maxRecDepth 100000 in
theorem zd_M_takeDepends : zk_gm zt zm_M_takeDepends := ⟨zt_in 797 (by rfl) (by rfl), zw_ini_6, ⟨by decide +kernel, by decide +kernel⟩, by decide +kernel, by decide⟩
set_option maxRecDepth 100000 in
theorem zd_M_follow : zk_gm zt zm_M_follow := ⟨zt_in 806 (by rfl) (by rfl), zw_ini_6, ⟨by decide +kernel, by decide +kernel⟩, by decide +kernel, by decide⟩
set_option maxRecDepth 100000 in
theorem zd_M_hasCircle : zk_gm zt zm_M_hasCircle := ⟨zt_in 810 (by rfl) (by rfl), zw_ini_6, ⟨by decide +kernel, by decide +kernel⟩, by decide +kernel, by decide⟩
set_option maxRecDepth 100000 in
theorem zd_M_addGraph : zk_gm zt zm_M_addGraph := ⟨zt_in 801 (by rfl) (by rfl), zw_ini_6, ⟨by decide +kernel, by decide +kernel⟩, by decide +kernel, by decide⟩
set_option maxRecDepth 100000 in
theorem zd_M_headGraph : zk_gm zt zm_M_headGraph := ⟨zt_in 814 (by rfl) (by rfl), zw_ini_6, ⟨by decide +kernel, by decide +kernel⟩, by decide +kernel, by decide⟩
set_option maxRecDepth 100000 in
theorem zd_M_takeGraph : zk_gm zt zm_M_takeGraph := ⟨zt_in 818 (by rfl) (by rfl), zw_ini_6, ⟨by decide +kernel, by decide +kernel⟩, by decide +kernel, by decide⟩
set_option maxRecDepth 100000 in
theorem zd_M_countOf : zk_gm zt zm_M_countOf := ⟨zt_in 789 (by rfl) (by rfl), zw_ini_6, ⟨by decide +kernel, by decide +kernel⟩, by decide +kernel, by decide⟩
set_option maxRecDepth 100000 in
theorem zd_M_put : zk_gm zt zm_M_put := ⟨zt_in 793 (by rfl) (by rfl), zw_ini_6, ⟨by decide +kernel, by decide +kernel⟩, by decide +kernel, by decide⟩
set_option maxRecDepth 100000 in
theorem zd_M_work : zk_gm zt zm_M_work := ⟨zt_in 785 (by rfl) (by rfl), zw_ini_6, ⟨by decide +kernel, by decide +kernel⟩, by decide +kernel, by decide⟩
set_option maxRecDepth 100000 in
theorem zd_M_findGraphs : zk_gm zt zm_M_findGraphs := ⟨zt_in 781 (by rfl) (by rfl), zw_ini_6, ⟨by decide +kernel, by decide +kernel⟩, by decide +kernel, by decide⟩
set_option maxRecDepth 100000 in
theorem zd_M_graphs : zk_gm zt zm_M_graphs := ⟨zt_in 777 (by rfl) (by rfl), zw_ini_6, ⟨by decide +kernel, by decide +kernel⟩, by decide +kernel, by decide⟩
set_option maxRecDepth 100000 in
theorem zd_M_circular : zk_gm zt zm_M_circular := ⟨zt_in 822 (by rfl) (by rfl), zw_ini_6, ⟨by decide +kernel, by decide +kernel⟩, by decide +kernel, by decide⟩
set_option maxRecDepth 100000 in
theorem zd_M_allHave : zk_gm zt zm_M_allHave := ⟨zt_in 834 (by rfl) (by rfl), zw_ini_6, ⟨by decide +kernel, by decide +kernel⟩, by decide +kernel, by decide⟩
set_option maxRecDepth 100000 in
theorem zd_M_addUnions : zk_gm zt zm_M_addUnions := ⟨zt_in 842 (by rfl) (by rfl), zw_ini_6, ⟨by decide +kernel, by decide +kernel⟩, by decide +kernel, by decide⟩
set_option maxRecDepth 100000 in
theorem zd_M_addAboves : zk_gm zt zm_M_addAboves := ⟨zt_in 850 (by rfl) (by rfl), zw_ini_6, ⟨by decide +kernel, by decide +kernel⟩, by decide +kernel, by decide⟩
set_option maxRecDepth 100000 in
theorem zd_M_growUnion : zk_gm zt zm_M_growUnion := ⟨zt_in 838 (by rfl) (by rfl), zw_ini_6, ⟨by decide +kernel, by decide +kernel⟩, by decide +kernel, by decide⟩
set_option maxRecDepth 100000 in
theorem zd_M_growAbove : zk_gm zt zm_M_growAbove := ⟨zt_in 846 (by rfl) (by rfl), zw_ini_6, ⟨by decide +kernel, by decide +kernel⟩, by decide +kernel, by decide⟩
set_option maxRecDepth 100000 in
theorem zd_M_relate : zk_gm zt zm_M_relate := ⟨zt_in 830 (by rfl) (by rfl), zw_ini_6, ⟨by decide +kernel, by decide +kernel⟩, by decide +kernel, by decide⟩
set_option maxRecDepth 100000 in
theorem zd_M_strong : zk_gm zt zm_M_strong := ⟨zt_in 826 (by rfl) (by rfl), zw_ini_6, ⟨by decide +kernel, by decide +kernel⟩, by decide +kernel, by decide⟩
set_option maxRecDepth 100000 in
theorem zd_M_doubly : zk_gm zt zm_M_doubly := ⟨zt_in 854 (by rfl) (by rfl), zw_ini_6, ⟨by decide +kernel, by decide +kernel⟩, by decide +kernel, by decide⟩
set_option maxRecDepth 100000 in
theorem zd_M_isAttribute : zk_gm zt zm_M_isAttribute := ⟨zt_in 862 (by rfl) (by rfl), zw_ini_6, ⟨by decide +kernel, by decide +kernel⟩, by decide +kernel, by decide⟩
set_option maxRecDepth 100000 in
theorem zd_M_relation : zk_gm zt zm_M_relation := ⟨zt_in 858 (by rfl) (by rfl), zw_ini_6, ⟨by decide +kernel, by decide +kernel⟩, by decide +kernel, by decide⟩
set_option maxRecDepth 100000 in
theorem zd_M_inSet : zk_gm zt zm_M_inSet := ⟨zt_in 882 (by rfl) (by rfl), zw_ini_6, ⟨by decide +kernel, by decide +kernel⟩, by decide +kernel, by decide⟩
set_option maxRecDepth 100000 in
theorem zd_M_mayStay : zk_gm zt zm_M_mayStay := ⟨zt_in 886 (by rfl) (by rfl), zw_ini_6, ⟨by decide +kernel, by decide +kernel⟩, by decide +kernel, by decide⟩
set_option maxRecDepth 100000 in
theorem zd_M_leaveOut : zk_gm zt zm_M_leaveOut := ⟨zt_in 878 (by rfl) (by rfl), zw_ini_6, ⟨by decide +kernel, by decide +kernel⟩, by decide +kernel, by decide⟩
set_option maxRecDepth 100000 in
theorem zd_M_onePass : zk_gm zt zm_M_onePass := ⟨zt_in 874 (by rfl) (by rfl), zw_ini_6, ⟨by decide +kernel, by decide +kernel⟩, by decide +kernel, by decide⟩
set_option maxRecDepth 100000 in
theorem zd_M_findPasses : zk_gm zt zm_M_findPasses := ⟨zt_in 870 (by rfl) (by rfl), zw_ini_6, ⟨by decide +kernel, by decide +kernel⟩, by decide +kernel, by decide⟩
set_option maxRecDepth 100000 in
theorem zd_M_pass : zk_gm zt zm_M_pass := ⟨zt_in 866 (by rfl) (by rfl), zw_ini_6, ⟨by decide +kernel, by decide +kernel⟩, by decide +kernel, by decide⟩
set_option maxRecDepth 100000 in
theorem zd_M_passes : zk_gm zt zm_M_passes := ⟨zt_in 890 (by rfl) (by rfl), zw_ini_6, ⟨by decide +kernel, by decide +kernel⟩, by decide +kernel, by decide⟩
set_option maxRecDepth 100000 in
theorem zd_B_start : zk_gm zt zm_B_start := ⟨zt_in 306 (by rfl) (by rfl), zw_ini_0, ⟨by decide +kernel, by decide +kernel⟩, by decide +kernel, by decide⟩
set_option maxRecDepth 100000 in
theorem zd_B_startFrom : zk_gm zt zm_B_startFrom := ⟨zt_in 612 (by rfl) (by rfl), zw_ini_0, ⟨by decide +kernel, by decide +kernel⟩, by decide +kernel, by decide⟩
set_option maxRecDepth 100000 in
theorem zd_B_lay : zk_gm zt zm_B_lay := ⟨zt_in 317 (by rfl) (by rfl), zw_ini_0, ⟨by decide +kernel, by decide +kernel⟩, by decide +kernel, by decide⟩
set_option maxRecDepth 100000 in
theorem zd_B_join : zk_gm zt zm_B_join := ⟨zt_in 324 (by rfl) (by rfl), zw_ini_0, ⟨by decide +kernel, by decide +kernel⟩, by decide +kernel, by decide⟩
set_option maxRecDepth 100000 in
theorem zd_B_joinAt : zk_gm zt zm_B_joinAt := ⟨zt_in 328 (by rfl) (by rfl), zw_ini_0, ⟨by decide +kernel, by decide +kernel⟩, by decide +kernel, by decide⟩
set_option maxRecDepth 100000 in
theorem zd_B_relationAt : zk_gm zt zm_B_relationAt := ⟨zt_in 332 (by rfl) (by rfl), zw_ini_0, ⟨by decide +kernel, by decide +kernel⟩, by decide +kernel, by decide⟩
set_option maxRecDepth 100000 in
theorem zd_G_wipe : zk_gm zt zm_G_wipe := ⟨zt_in 278 (by rfl) (by rfl), zw_ini_1, ⟨by decide +kernel, by decide +kernel⟩, by decide +kernel, by decide⟩
set_option maxRecDepth 100000 in
theorem zd_G_hasSymbol : zk_gm zt zm_G_hasSymbol := ⟨zt_in 509 (by rfl) (by rfl), zw_ini_1, ⟨by decide +kernel, by decide +kernel⟩, by decide +kernel, by decide⟩
set_option maxRecDepth 100000 in
theorem zd_G_canBePart : zk_gm zt zm_G_canBePart := ⟨zt_in 514 (by rfl) (by rfl), zw_ini_1, ⟨by decide +kernel, by decide +kernel⟩, by decide +kernel, by decide⟩
set_option maxRecDepth 100000 in
theorem zd_G_hasProduction : zk_gm zt zm_G_hasProduction := ⟨zt_in 543 (by rfl) (by rfl), zw_ini_1, ⟨by decide +kernel, by decide +kernel⟩, by decide +kernel, by decide⟩
set_option maxRecDepth 100000 in
theorem zd_G_defines : zk_gm zt zm_G_defines := ⟨zt_in 563 (by rfl) (by rfl), zw_ini_1, ⟨by decide +kernel, by decide +kernel⟩, by decide +kernel, by decide⟩
set_option maxRecDepth 100000 in
theorem zd_G_isGiven : zk_gm zt zm_G_isGiven := ⟨zt_in 569 (by rfl) (by rfl), zw_ini_1, ⟨by decide +kernel, by decide +kernel⟩, by decide +kernel, by decide⟩
set_option maxRecDepth 100000 in
theorem zd_G_addSymbol : zk_gm zt zm_G_addSymbol := ⟨zt_in 498 (by rfl) (by rfl), zw_ini_1, ⟨by decide +kernel, by decide +kernel⟩, by decide +kernel, by decide⟩
set_option maxRecDepth 100000 in
theorem zd_G_addProduction : zk_gm zt zm_G_addProduction := ⟨zt_in 522 (by rfl) (by rfl), zw_ini_1, ⟨by decide +kernel, by decide +kernel⟩, by decide +kernel, by decide⟩
set_option maxRecDepth 100000 in
theorem zd_G_addPart : zk_gm zt zm_G_addPart := ⟨zt_in 531 (by rfl) (by rfl), zw_ini_1, ⟨by decide +kernel, by decide +kernel⟩, by decide +kernel, by decide⟩
set_option maxRecDepth 100000 in
theorem zd_G_addDependence : zk_gm zt zm_G_addDependence := ⟨zt_in 574 (by rfl) (by rfl), zw_ini_1, ⟨by decide +kernel, by decide +kernel⟩, by decide +kernel, by decide⟩
set_option maxRecDepth 100000 in
theorem zd_G_all : zk_gm zt zm_G_all := ⟨zt_in 372 (by rfl) (by rfl), zw_ini_1, ⟨by decide +kernel, by decide +kernel⟩, by decide +kernel, by decide⟩
set_option maxRecDepth 100000 in
theorem zd_G_up : zk_gm zt zm_G_up := ⟨zt_in 526 (by rfl) (by rfl), zw_ini_1, ⟨by decide +kernel, by decide +kernel⟩, by decide +kernel, by decide⟩
set_option maxRecDepth 100000 in
theorem zd_G_placesOf : zk_gm zt zm_G_placesOf := ⟨zt_in 383 (by rfl) (by rfl), zw_ini_1, ⟨by decide +kernel, by decide +kernel⟩, by decide +kernel, by decide⟩
set_option maxRecDepth 100000 in
theorem zd_N_find : zk_gm zt zm_N_find := ⟨zt_in 360 (by rfl) (by rfl), zw_ini_2, ⟨by decide +kernel, by decide +kernel⟩, by decide +kernel, by decide⟩
set_option maxRecDepth 100000 in
theorem zd_N_forget : zk_gm zt zm_N_forget := ⟨zt_in 364 (by rfl) (by rfl), zw_ini_2, ⟨by decide +kernel, by decide +kernel⟩, by decide +kernel, by decide⟩
set_option maxRecDepth 100000 in
theorem zd_N_choose : zk_gm zt zm_N_choose := ⟨zt_in 368 (by rfl) (by rfl), zw_ini_2, ⟨by decide +kernel, by decide +kernel⟩, by decide +kernel, by decide⟩
set_option maxRecDepth 100000 in
theorem zd_N_drop : zk_gm zt zm_N_drop := ⟨zt_in 379 (by rfl) (by rfl), zw_ini_2, ⟨by decide +kernel, by decide +kernel⟩, by decide +kernel, by decide⟩
set_option maxRecDepth 100000 in
theorem zd_N_placesBefore : zk_gm zt zm_N_placesBefore := ⟨zt_in 386 (by rfl) (by rfl), zw_ini_2, ⟨by decide +kernel, by decide +kernel⟩, by decide +kernel, by decide⟩
set_option maxRecDepth 100000 in
theorem zd_N_give : zk_gm zt zm_N_give := ⟨zt_in 394 (by rfl) (by rfl), zw_ini_2, ⟨by decide +kernel, by decide +kernel⟩, by decide +kernel, by decide⟩
set_option maxRecDepth 100000 in
theorem zd_N_isWhole : zk_gm zt zm_N_isWhole := ⟨zt_in 398 (by rfl) (by rfl), zw_ini_2, ⟨by decide +kernel, by decide +kernel⟩, by decide +kernel, by decide⟩
set_option maxRecDepth 100000 in
theorem zd_R_find : zk_gm zt zm_R_find := ⟨zt_in 290 (by rfl) (by rfl), zw_ini_3, ⟨by decide +kernel, by decide +kernel⟩, by decide +kernel, by decide⟩
set_option maxRecDepth 100000 in
theorem zd_R_forget : zk_gm zt zm_R_forget := ⟨zt_in 294 (by rfl) (by rfl), zw_ini_3, ⟨by decide +kernel, by decide +kernel⟩, by decide +kernel, by decide⟩
set_option maxRecDepth 100000 in
theorem zd_R_growUpwards : zk_gm zt zm_R_growUpwards := ⟨zt_in 298 (by rfl) (by rfl), zw_ini_3, ⟨by decide +kernel, by decide +kernel⟩, by decide +kernel, by decide⟩
set_option maxRecDepth 100000 in
theorem zd_R_growFromAbove : zk_gm zt zm_R_growFromAbove := ⟨zt_in 336 (by rfl) (by rfl), zw_ini_3, ⟨by decide +kernel, by decide +kernel⟩, by decide +kernel, by decide⟩
set_option maxRecDepth 100000 in
theorem zd_R_lookForCircles : zk_gm zt zm_R_lookForCircles := ⟨zt_in 344 (by rfl) (by rfl), zw_ini_3, ⟨by decide +kernel, by decide +kernel⟩, by decide +kernel, by decide⟩
set_option maxRecDepth 100000 in
theorem zd_R_allPartsExist : zk_gm zt zm_R_allPartsExist := ⟨zt_in 302 (by rfl) (by rfl), zw_ini_3, ⟨by decide +kernel, by decide +kernel⟩, by decide +kernel, by decide⟩
set_option maxRecDepth 100000 in
theorem zd_R_startWithHead : zk_gm zt zm_R_startWithHead := ⟨zt_in 340 (by rfl) (by rfl), zw_ini_3, ⟨by decide +kernel, by decide +kernel⟩, by decide +kernel, by decide⟩
set_option maxRecDepth 100000 in
theorem zd_R_joinParts : zk_gm zt zm_R_joinParts := ⟨zt_in 313 (by rfl) (by rfl), zw_ini_3, ⟨by decide +kernel, by decide +kernel⟩, by decide +kernel, by decide⟩
set_option maxRecDepth 100000 in
theorem zd_T_find : zk_gm zt zm_T_find := ⟨zt_in 594 (by rfl) (by rfl), zw_ini_4, ⟨by decide +kernel, by decide +kernel⟩, by decide +kernel, by decide⟩
set_option maxRecDepth 100000 in
theorem zd_T_forget : zk_gm zt zm_T_forget := ⟨zt_in 598 (by rfl) (by rfl), zw_ini_4, ⟨by decide +kernel, by decide +kernel⟩, by decide +kernel, by decide⟩
set_option maxRecDepth 100000 in
theorem zd_T_beginRound : zk_gm zt zm_T_beginRound := ⟨zt_in 618 (by rfl) (by rfl), zw_ini_4, ⟨by decide +kernel, by decide +kernel⟩, by decide +kernel, by decide⟩
set_option maxRecDepth 100000 in
theorem zd_T_combine : zk_gm zt zm_T_combine := ⟨zt_in 603 (by rfl) (by rfl), zw_ini_4, ⟨by decide +kernel, by decide +kernel⟩, by decide +kernel, by decide⟩
set_option maxRecDepth 100000 in
theorem zd_T_keep : zk_gm zt zm_T_keep := ⟨zt_in 607 (by rfl) (by rfl), zw_ini_4, ⟨by decide +kernel, by decide +kernel⟩, by decide +kernel, by decide⟩
theorem zt_gm : ∀ M ∈ zt.2.2.2.2.2.1, zk_gm zt M := List.forall_mem_cons.mpr ⟨zd_A_clear, List.forall_mem_cons.mpr ⟨zd_A_symbol, List.forall_mem_cons.mpr ⟨zd_A_production, List.forall_mem_cons.mpr ⟨zd_A_depend, List.forall_mem_cons.mpr ⟨zd_A_graphs, List.forall_mem_cons.mpr ⟨zd_A_circular, List.forall_mem_cons.mpr ⟨zd_A_strong, List.forall_mem_cons.mpr ⟨zd_A_doubly, List.forall_mem_cons.mpr ⟨zd_A_relation, List.forall_mem_cons.mpr ⟨zd_A_pass, List.forall_mem_cons.mpr ⟨zd_A_passes, List.forall_mem_cons.mpr ⟨zd_A_checkSymbol, List.forall_mem_cons.mpr ⟨zd_A_checkAttribute, List.forall_mem_cons.mpr ⟨zd_A_findGraphs, List.forall_mem_cons.mpr ⟨zd_A_numbering, List.forall_mem_cons.mpr ⟨zd_A_forgetAnswers, List.forall_mem_cons.mpr ⟨zd_A_firstBits, List.forall_mem_cons.mpr ⟨zd_A_hasBit, List.forall_mem_cons.mpr ⟨zd_A_rowOf, List.forall_mem_cons.mpr ⟨zd_M_thrown, List.forall_mem_cons.mpr ⟨zd_M_refuse, List.forall_mem_cons.mpr ⟨zd_M_in, List.forall_mem_cons.mpr ⟨zd_M_clear, List.forall_mem_cons.mpr ⟨zd_M_forget, List.forall_mem_cons.mpr ⟨zd_M_symbol, List.forall_mem_cons.mpr ⟨zd_M_isSymbol, List.forall_mem_cons.mpr ⟨zd_M_production, List.forall_mem_cons.mpr ⟨zd_M_isDown, List.forall_mem_cons.mpr ⟨zd_M_symbolOf, List.forall_mem_cons.mpr ⟨zd_M_isThere, List.forall_mem_cons.mpr ⟨zd_M_defines, List.forall_mem_cons.mpr ⟨zd_M_depend, List.forall_mem_cons.mpr ⟨zd_M_takeDepends, List.forall_mem_cons.mpr ⟨zd_M_follow, List.forall_mem_cons.mpr ⟨zd_M_hasCircle, List.forall_mem_cons.mpr ⟨zd_M_addGraph, List.forall_mem_cons.mpr ⟨zd_M_headGraph, List.forall_mem_cons.mpr ⟨zd_M_takeGraph, List.forall_mem_cons.mpr ⟨zd_M_countOf, List.forall_mem_cons.mpr ⟨zd_M_put, List.forall_mem_cons.mpr ⟨zd_M_work, List.forall_mem_cons.mpr ⟨zd_M_findGraphs, List.forall_mem_cons.mpr ⟨zd_M_graphs, List.forall_mem_cons.mpr ⟨zd_M_circular, List.forall_mem_cons.mpr ⟨zd_M_allHave, List.forall_mem_cons.mpr ⟨zd_M_addUnions, List.forall_mem_cons.mpr ⟨zd_M_addAboves, List.forall_mem_cons.mpr ⟨zd_M_growUnion, List.forall_mem_cons.mpr ⟨zd_M_growAbove, List.forall_mem_cons.mpr ⟨zd_M_relate, List.forall_mem_cons.mpr ⟨zd_M_strong, List.forall_mem_cons.mpr ⟨zd_M_doubly, List.forall_mem_cons.mpr ⟨zd_M_isAttribute, List.forall_mem_cons.mpr ⟨zd_M_relation, List.forall_mem_cons.mpr ⟨zd_M_inSet, List.forall_mem_cons.mpr ⟨zd_M_mayStay, List.forall_mem_cons.mpr ⟨zd_M_leaveOut, List.forall_mem_cons.mpr ⟨zd_M_onePass, List.forall_mem_cons.mpr ⟨zd_M_findPasses, List.forall_mem_cons.mpr ⟨zd_M_pass, List.forall_mem_cons.mpr ⟨zd_M_passes, List.forall_mem_cons.mpr ⟨zd_B_start, List.forall_mem_cons.mpr ⟨zd_B_startFrom, List.forall_mem_cons.mpr ⟨zd_B_lay, List.forall_mem_cons.mpr ⟨zd_B_join, List.forall_mem_cons.mpr ⟨zd_B_joinAt, List.forall_mem_cons.mpr ⟨zd_B_relationAt, List.forall_mem_cons.mpr ⟨zd_G_wipe, List.forall_mem_cons.mpr ⟨zd_G_hasSymbol, List.forall_mem_cons.mpr ⟨zd_G_canBePart, List.forall_mem_cons.mpr ⟨zd_G_hasProduction, List.forall_mem_cons.mpr ⟨zd_G_defines, List.forall_mem_cons.mpr ⟨zd_G_isGiven, List.forall_mem_cons.mpr ⟨zd_G_addSymbol, List.forall_mem_cons.mpr ⟨zd_G_addProduction, List.forall_mem_cons.mpr ⟨zd_G_addPart, List.forall_mem_cons.mpr ⟨zd_G_addDependence, List.forall_mem_cons.mpr ⟨zd_G_all, List.forall_mem_cons.mpr ⟨zd_G_up, List.forall_mem_cons.mpr ⟨zd_G_placesOf, List.forall_mem_cons.mpr ⟨zd_N_find, List.forall_mem_cons.mpr ⟨zd_N_forget, List.forall_mem_cons.mpr ⟨zd_N_choose, List.forall_mem_cons.mpr ⟨zd_N_drop, List.forall_mem_cons.mpr ⟨zd_N_placesBefore, List.forall_mem_cons.mpr ⟨zd_N_give, List.forall_mem_cons.mpr ⟨zd_N_isWhole, List.forall_mem_cons.mpr ⟨zd_R_find, List.forall_mem_cons.mpr ⟨zd_R_forget, List.forall_mem_cons.mpr ⟨zd_R_growUpwards, List.forall_mem_cons.mpr ⟨zd_R_growFromAbove, List.forall_mem_cons.mpr ⟨zd_R_lookForCircles, List.forall_mem_cons.mpr ⟨zd_R_allPartsExist, List.forall_mem_cons.mpr ⟨zd_R_startWithHead, List.forall_mem_cons.mpr ⟨zd_R_joinParts, List.forall_mem_cons.mpr ⟨zd_T_find, List.forall_mem_cons.mpr ⟨zd_T_forget, List.forall_mem_cons.mpr ⟨zd_T_beginRound, List.forall_mem_cons.mpr ⟨zd_T_combine, List.forall_mem_cons.mpr ⟨zd_T_keep, fun _ h => absurd h List.not_mem_nil⟩⟩⟩⟩⟩⟩⟩⟩⟩⟩⟩⟩⟩⟩⟩⟩⟩⟩⟩⟩⟩⟩⟩⟩⟩⟩⟩⟩⟩⟩⟩⟩⟩⟩⟩⟩⟩⟩⟩⟩⟩⟩⟩⟩⟩⟩⟩⟩⟩⟩⟩⟩⟩⟩⟩⟩⟩⟩⟩⟩⟩⟩⟩⟩⟩⟩⟩⟩⟩⟩⟩⟩⟩⟩⟩⟩⟩⟩⟩⟩⟩⟩⟩⟩⟩⟩⟩⟩⟩⟩⟩⟩⟩⟩⟩⟩⟩⟩⟩⟩
end
section
/-! the tables are good, the rest -/
theorem zt_wf : zh_wf zt_Λ zt_cn = true := by decide +kernel
theorem zt_lf : zh_lf zt_Λ zt_ft = true := by decide +kernel
theorem zt_u1 : ((List.range 7).all fun ci => match zt_cl[ci]? with
  | some q => (List.range q.2.2).all fun k => decide (parseFieldDescriptor (q.2.1 k).2.2.1 = some (zt_ft ci k))
  | none => true) = true := by decide +kernel
theorem zt_u2 : (zt_cl.all fun q => (List.range q.2.2).all fun a => (List.range q.2.2).all fun b => decide (a = b) || decide ((q.2.1 a).2.1 ≠ (q.2.1 b).2.1)) = true := by decide +kernel
theorem zt_u0 : (zt_cl.all fun q => (u_ws q.1 q.2.1 q.2.2).all fun w => decide (w ∈ zt_WS)) = true := by decide +kernel
theorem zt_cg : za_cg zt_WS zt_cl zt_ft zt_Λ := by
  refine ⟨fun ci q hq => ⟨fun w hw => ?_, fun k hk => ?_, fun a ha b hb hab => ?_⟩, zh_lf_ok zt_lf⟩
  · exact of_decide_eq_true (List.all_eq_true.mp (List.all_eq_true.mp zt_u0 q (List.mem_of_getElem? hq)) w hw)
  · have hlt : ci < 7 := (List.getElem?_eq_some_iff.mp hq).1
    have h := List.all_eq_true.mp zt_u1 ci (List.mem_range.mpr hlt)
    rw [hq] at h
    exact of_decide_eq_true (List.all_eq_true.mp h k (List.mem_range.mpr hk))
  · have h := List.all_eq_true.mp (List.all_eq_true.mp (List.all_eq_true.mp zt_u2 q (List.mem_of_getElem? hq)) a (List.mem_range.mpr ha)) b (List.mem_range.mpr hb)
    simp only [Bool.or_eq_true, decide_eq_true_eq] at h
    rcases h with h | h
    · exact absurd h hab
    · exact h
theorem zt_gt : zk_gt zt := by
  refine ⟨zh_wf_ok zt_wf, zt_cg, zt_gm, fun w hw => ?_⟩
  have h := (List.mem_filter.mp hw).2
  unfold zt_ok at h
  rw [Bool.or_eq_true] at h
  rcases h with h | h
  · exact Or.inl h
  · right
    split at h
    · exact ⟨_, _, _, _, rfl⟩
    · cases h
end
section
/-! a method by its runs, by program -/
theorem zs_A_clear {Γ : zk_G} {d mc ms : Nat} {as : List za_V} {μ : za_M} {post : Option za_V → za_M → Prop} (hargs : (zk_l0 as).length ≤ 1) (hd : 1 ≤ d) (body : ∀ ZZ : Nat → za_K, (∀ (cuts : List Nat) (n pc : Nat) ls st μ κ, zk_go zt_Λ zk_X0 0 (zk_RR mc ms post) (fun _ _ _ => False) (zk_CC zt Γ d mc ms) (fun _ _ _ _ _ => False) zp_A_clear cuts ZZ n pc ls st μ κ → ZZ pc ls st μ κ) → ZZ 0 (zk_ls as 1) [] μ (0, 0)) : zk_Ct zt Γ zm_A_clear d mc ms as μ post (fun _ _ => False) := zk_meth0 (M := zm_A_clear) zt_gt (List.mem_of_getElem? (i := 0) rfl) zp_A_clear (zh_gd_ok zl_ok5 zg_A_clear) (zh_ch_ok zc_A_clear) hargs hd body
theorem zs_A_symbol {Γ : zk_G} {d mc ms : Nat} {as : List za_V} {μ : za_M} {post : Option za_V → za_M → Prop} (hargs : (zk_l0 as).length ≤ 3) (hd : 1 ≤ d) (body : ∀ ZZ : Nat → za_K, (∀ (cuts : List Nat) (n pc : Nat) ls st μ κ, zk_go zt_Λ zk_X0 1 (zk_RR mc ms post) (fun _ _ _ => False) (zk_CC zt Γ d mc ms) (fun _ _ _ _ _ => False) zp_A_symbol cuts ZZ n pc ls st μ κ → ZZ pc ls st μ κ) → ZZ 0 (zk_ls as 3) [] μ (0, 0)) : zk_Ct zt Γ zm_A_symbol d mc ms as μ post (fun _ _ => False) := zk_meth0 (M := zm_A_symbol) zt_gt (List.mem_of_getElem? (i := 1) rfl) zp_A_symbol (zh_gd_ok zl_ok5 zg_A_symbol) (zh_ch_ok zc_A_symbol) hargs hd body
theorem zs_A_production {Γ : zk_G} {d mc ms : Nat} {as : List za_V} {μ : za_M} {post : Option za_V → za_M → Prop} (hargs : (zk_l0 as).length ≤ 5) (hd : 1 ≤ d) (body : ∀ ZZ : Nat → za_K, (∀ (cuts : List Nat) (n pc : Nat) ls st μ κ, zk_go zt_Λ zk_X0 1 (zk_RR mc ms post) (fun _ _ _ => False) (zk_CC zt Γ d mc ms) (fun _ _ _ _ _ => False) zp_A_production cuts ZZ n pc ls st μ κ → ZZ pc ls st μ κ) → ZZ 0 (zk_ls as 5) [] μ (0, 0)) : zk_Ct zt Γ zm_A_production d mc ms as μ post (fun _ _ => False) := zk_meth0 (M := zm_A_production) zt_gt (List.mem_of_getElem? (i := 2) rfl) zp_A_production (zh_gd_ok zl_ok5 zg_A_production) (zh_ch_ok zc_A_production) hargs hd body
theorem zs_A_depend {Γ : zk_G} {d mc ms : Nat} {as : List za_V} {μ : za_M} {post : Option za_V → za_M → Prop} (hargs : (zk_l0 as).length ≤ 4) (hd : 1 ≤ d) (body : ∀ ZZ : Nat → za_K, (∀ (cuts : List Nat) (n pc : Nat) ls st μ κ, zk_go zt_Λ zk_X0 2 (zk_RR mc ms post) (fun _ _ _ => False) (zk_CC zt Γ d mc ms) (fun _ _ _ _ _ => False) zp_A_depend cuts ZZ n pc ls st μ κ → ZZ pc ls st μ κ) → ZZ 0 (zk_ls as 4) [] μ (0, 0)) : zk_Ct zt Γ zm_A_depend d mc ms as μ post (fun _ _ => False) := zk_meth0 (M := zm_A_depend) zt_gt (List.mem_of_getElem? (i := 3) rfl) zp_A_depend (zh_gd_ok zl_ok5 zg_A_depend) (zh_ch_ok zc_A_depend) hargs hd body
theorem zs_A_graphs {Γ : zk_G} {d mc ms : Nat} {as : List za_V} {μ : za_M} {post : Option za_V → za_M → Prop} (hargs : (zk_l0 as).length ≤ 2) (hd : 1 ≤ d) (body : ∀ ZZ : Nat → za_K, (∀ (cuts : List Nat) (n pc : Nat) ls st μ κ, zk_go zt_Λ zk_X0 1 (zk_RR mc ms post) (fun _ _ _ => False) (zk_CC zt Γ d mc ms) (fun _ _ _ _ _ => False) zp_A_graphs cuts ZZ n pc ls st μ κ → ZZ pc ls st μ κ) → ZZ 0 (zk_ls as 2) [] μ (0, 0)) : zk_Ct zt Γ zm_A_graphs d mc ms as μ post (fun _ _ => False) := zk_meth0 (M := zm_A_graphs) zt_gt (List.mem_of_getElem? (i := 4) rfl) zp_A_graphs (zh_gd_ok zl_ok5 zg_A_graphs) (zh_ch_ok zc_A_graphs) hargs hd body
theorem zs_A_circular {Γ : zk_G} {d mc ms : Nat} {as : List za_V} {μ : za_M} {post : Option za_V → za_M → Prop} (hargs : (zk_l0 as).length ≤ 1) (hd : 1 ≤ d) (body : ∀ ZZ : Nat → za_K, (∀ (cuts : List Nat) (n pc : Nat) ls st μ κ, zk_go zt_Λ zk_X0 2 (zk_RR mc ms post) (fun _ _ _ => False) (zk_CC zt Γ d mc ms) (fun _ _ _ _ _ => False) zp_A_circular cuts ZZ n pc ls st μ κ → ZZ pc ls st μ κ) → ZZ 0 (zk_ls as 1) [] μ (0, 0)) : zk_Ct zt Γ zm_A_circular d mc ms as μ post (fun _ _ => False) := zk_meth0 (M := zm_A_circular) zt_gt (List.mem_of_getElem? (i := 5) rfl) zp_A_circular (zh_gd_ok zl_ok5 zg_A_circular) (zh_ch_ok zc_A_circular) hargs hd body
theorem zs_A_strong {Γ : zk_G} {d mc ms : Nat} {as : List za_V} {μ : za_M} {post : Option za_V → za_M → Prop} (hargs : (zk_l0 as).length ≤ 1) (hd : 1 ≤ d) (body : ∀ ZZ : Nat → za_K, (∀ (cuts : List Nat) (n pc : Nat) ls st μ κ, zk_go zt_Λ zk_X0 2 (zk_RR mc ms post) (fun _ _ _ => False) (zk_CC zt Γ d mc ms) (fun _ _ _ _ _ => False) zp_A_strong cuts ZZ n pc ls st μ κ → ZZ pc ls st μ κ) → ZZ 0 (zk_ls as 1) [] μ (0, 0)) : zk_Ct zt Γ zm_A_strong d mc ms as μ post (fun _ _ => False) := zk_meth0 (M := zm_A_strong) zt_gt (List.mem_of_getElem? (i := 6) rfl) zp_A_strong (zh_gd_ok zl_ok5 zg_A_strong) (zh_ch_ok zc_A_strong) hargs hd body
theorem zs_A_doubly {Γ : zk_G} {d mc ms : Nat} {as : List za_V} {μ : za_M} {post : Option za_V → za_M → Prop} (hargs : (zk_l0 as).length ≤ 1) (hd : 1 ≤ d) (body : ∀ ZZ : Nat → za_K, (∀ (cuts : List Nat) (n pc : Nat) ls st μ κ, zk_go zt_Λ zk_X0 2 (zk_RR mc ms post) (fun _ _ _ => False) (zk_CC zt Γ d mc ms) (fun _ _ _ _ _ => False) zp_A_doubly cuts ZZ n pc ls st μ κ → ZZ pc ls st μ κ) → ZZ 0 (zk_ls as 1) [] μ (0, 0)) : zk_Ct zt Γ zm_A_doubly d mc ms as μ post (fun _ _ => False) := zk_meth0 (M := zm_A_doubly) zt_gt (List.mem_of_getElem? (i := 7) rfl) zp_A_doubly (zh_gd_ok zl_ok5 zg_A_doubly) (zh_ch_ok zc_A_doubly) hargs hd body
theorem zs_A_relation {Γ : zk_G} {d mc ms : Nat} {as : List za_V} {μ : za_M} {post : Option za_V → za_M → Prop} (hargs : (zk_l0 as).length ≤ 4) (hd : 1 ≤ d) (body : ∀ ZZ : Nat → za_K, (∀ (cuts : List Nat) (n pc : Nat) ls st μ κ, zk_go zt_Λ zk_X0 1 (zk_RR mc ms post) (fun _ _ _ => False) (zk_CC zt Γ d mc ms) (fun _ _ _ _ _ => False) zp_A_relation cuts ZZ n pc ls st μ κ → ZZ pc ls st μ κ) → ZZ 0 (zk_ls as 4) [] μ (0, 0)) : zk_Ct zt Γ zm_A_relation d mc ms as μ post (fun _ _ => False) := zk_meth0 (M := zm_A_relation) zt_gt (List.mem_of_getElem? (i := 8) rfl) zp_A_relation (zh_gd_ok zl_ok5 zg_A_relation) (zh_ch_ok zc_A_relation) hargs hd body
theorem zs_A_pass {Γ : zk_G} {d mc ms : Nat} {as : List za_V} {μ : za_M} {post : Option za_V → za_M → Prop} (hargs : (zk_l0 as).length ≤ 4) (hd : 1 ≤ d) (body : ∀ ZZ : Nat → za_K, (∀ (cuts : List Nat) (n pc : Nat) ls st μ κ, zk_go zt_Λ zk_X0 1 (zk_RR mc ms post) (fun _ _ _ => False) (zk_CC zt Γ d mc ms) (fun _ _ _ _ _ => False) zp_A_pass cuts ZZ n pc ls st μ κ → ZZ pc ls st μ κ) → ZZ 0 (zk_ls as 4) [] μ (0, 0)) : zk_Ct zt Γ zm_A_pass d mc ms as μ post (fun _ _ => False) := zk_meth0 (M := zm_A_pass) zt_gt (List.mem_of_getElem? (i := 9) rfl) zp_A_pass (zh_gd_ok zl_ok5 zg_A_pass) (zh_ch_ok zc_A_pass) hargs hd body
theorem zs_A_passes {Γ : zk_G} {d mc ms : Nat} {as : List za_V} {μ : za_M} {post : Option za_V → za_M → Prop} (hargs : (zk_l0 as).length ≤ 3) (hd : 1 ≤ d) (body : ∀ ZZ : Nat → za_K, (∀ (cuts : List Nat) (n pc : Nat) ls st μ κ, zk_go zt_Λ zk_X0 1 (zk_RR mc ms post) (fun _ _ _ => False) (zk_CC zt Γ d mc ms) (fun _ _ _ _ _ => False) zp_A_passes cuts ZZ n pc ls st μ κ → ZZ pc ls st μ κ) → ZZ 0 (zk_ls as 3) [] μ (0, 0)) : zk_Ct zt Γ zm_A_passes d mc ms as μ post (fun _ _ => False) := zk_meth0 (M := zm_A_passes) zt_gt (List.mem_of_getElem? (i := 10) rfl) zp_A_passes (zh_gd_ok zl_ok5 zg_A_passes) (zh_ch_ok zc_A_passes) hargs hd body
theorem zs_A_checkSymbol {Γ : zk_G} {d mc ms : Nat} {as : List za_V} {μ : za_M} {post : Option za_V → za_M → Prop} (hargs : (zk_l0 as).length ≤ 2) (hd : 1 ≤ d) (body : ∀ ZZ : Nat → za_K, (∀ (cuts : List Nat) (n pc : Nat) ls st μ κ, zk_go zt_Λ zk_X0 0 (zk_RR mc ms post) (fun _ _ _ => False) (zk_CC zt Γ d mc ms) (fun _ _ _ _ _ => False) zp_A_checkSymbol cuts ZZ n pc ls st μ κ → ZZ pc ls st μ κ) → ZZ 0 (zk_ls as 2) [] μ (0, 0)) : zk_Ct zt Γ zm_A_checkSymbol d mc ms as μ post (fun _ _ => False) := zk_meth0 (M := zm_A_checkSymbol) zt_gt (List.mem_of_getElem? (i := 11) rfl) zp_A_checkSymbol (zh_gd_ok zl_ok5 zg_A_checkSymbol) (zh_ch_ok zc_A_checkSymbol) hargs hd body
theorem zs_A_checkAttribute {Γ : zk_G} {d mc ms : Nat} {as : List za_V} {μ : za_M} {post : Option za_V → za_M → Prop} (hargs : (zk_l0 as).length ≤ 3) (hd : 1 ≤ d) (body : ∀ ZZ : Nat → za_K, (∀ (cuts : List Nat) (n pc : Nat) ls st μ κ, zk_go zt_Λ zk_X0 0 (zk_RR mc ms post) (fun _ _ _ => False) (zk_CC zt Γ d mc ms) (fun _ _ _ _ _ => False) zp_A_checkAttribute cuts ZZ n pc ls st μ κ → ZZ pc ls st μ κ) → ZZ 0 (zk_ls as 3) [] μ (0, 0)) : zk_Ct zt Γ zm_A_checkAttribute d mc ms as μ post (fun _ _ => False) := zk_meth0 (M := zm_A_checkAttribute) zt_gt (List.mem_of_getElem? (i := 12) rfl) zp_A_checkAttribute (zh_gd_ok zl_ok5 zg_A_checkAttribute) (zh_ch_ok zc_A_checkAttribute) hargs hd body
theorem zs_A_findGraphs {Γ : zk_G} {d mc ms : Nat} {as : List za_V} {μ : za_M} {post : Option za_V → za_M → Prop} (hargs : (zk_l0 as).length ≤ 1) (hd : 1 ≤ d) (body : ∀ ZZ : Nat → za_K, (∀ (cuts : List Nat) (n pc : Nat) ls st μ κ, zk_go zt_Λ zk_X0 0 (zk_RR mc ms post) (fun _ _ _ => False) (zk_CC zt Γ d mc ms) (fun _ _ _ _ _ => False) zp_A_findGraphs cuts ZZ n pc ls st μ κ → ZZ pc ls st μ κ) → ZZ 0 (zk_ls as 1) [] μ (0, 0)) : zk_Ct zt Γ zm_A_findGraphs d mc ms as μ post (fun _ _ => False) := zk_meth0 (M := zm_A_findGraphs) zt_gt (List.mem_of_getElem? (i := 13) rfl) zp_A_findGraphs (zh_gd_ok zl_ok5 zg_A_findGraphs) (zh_ch_ok zc_A_findGraphs) hargs hd body
theorem zs_A_numbering {Γ : zk_G} {d mc ms : Nat} {as : List za_V} {μ : za_M} {post : Option za_V → za_M → Prop} (hargs : (zk_l0 as).length ≤ 3) (hd : 1 ≤ d) (body : ∀ ZZ : Nat → za_K, (∀ (cuts : List Nat) (n pc : Nat) ls st μ κ, zk_go zt_Λ zk_X0 4 (zk_RR mc ms post) (fun _ _ _ => False) (zk_CC zt Γ d mc ms) (fun _ _ _ _ _ => False) zp_A_numbering cuts ZZ n pc ls st μ κ → ZZ pc ls st μ κ) → ZZ 0 (zk_ls as 3) [] μ (0, 0)) : zk_Ct zt Γ zm_A_numbering d mc ms as μ post (fun _ _ => False) := zk_meth0 (M := zm_A_numbering) zt_gt (List.mem_of_getElem? (i := 14) rfl) zp_A_numbering (zh_gd_ok zl_ok5 zg_A_numbering) (zh_ch_ok zc_A_numbering) hargs hd body
theorem zs_A_forgetAnswers {Γ : zk_G} {d mc ms : Nat} {as : List za_V} {μ : za_M} {post : Option za_V → za_M → Prop} (hargs : (zk_l0 as).length ≤ 1) (hd : 1 ≤ d) (body : ∀ ZZ : Nat → za_K, (∀ (cuts : List Nat) (n pc : Nat) ls st μ κ, zk_go zt_Λ zk_X0 0 (zk_RR mc ms post) (fun _ _ _ => False) (zk_CC zt Γ d mc ms) (fun _ _ _ _ _ => False) zp_A_forgetAnswers cuts ZZ n pc ls st μ κ → ZZ pc ls st μ κ) → ZZ 0 (zk_ls as 1) [] μ (0, 0)) : zk_Ct zt Γ zm_A_forgetAnswers d mc ms as μ post (fun _ _ => False) := zk_meth0 (M := zm_A_forgetAnswers) zt_gt (List.mem_of_getElem? (i := 15) rfl) zp_A_forgetAnswers (zh_gd_ok zl_ok5 zg_A_forgetAnswers) (zh_ch_ok zc_A_forgetAnswers) hargs hd body
theorem zs_A_firstBits {Γ : zk_G} {d mc ms : Nat} {as : List za_V} {μ : za_M} {post : Option za_V → za_M → Prop} (hargs : (zk_l0 as).length ≤ 1) (hd : 1 ≤ d) (body : ∀ ZZ : Nat → za_K, (∀ (cuts : List Nat) (n pc : Nat) ls st μ κ, zk_go zt_Λ zk_X0 1 (zk_RR mc ms post) (fun _ _ _ => False) (zk_CC zt Γ d mc ms) (fun _ _ _ _ _ => False) zp_A_firstBits cuts ZZ n pc ls st μ κ → ZZ pc ls st μ κ) → ZZ 0 (zk_ls as 1) [] μ (0, 0)) : zk_Ct zt Γ zm_A_firstBits d mc ms as μ post (fun _ _ => False) := zk_meth0 (M := zm_A_firstBits) zt_gt (List.mem_of_getElem? (i := 16) rfl) zp_A_firstBits (zh_gd_ok zl_ok5 zg_A_firstBits) (zh_ch_ok zc_A_firstBits) hargs hd body
theorem zs_A_hasBit {Γ : zk_G} {d mc ms : Nat} {as : List za_V} {μ : za_M} {post : Option za_V → za_M → Prop} (hargs : (zk_l0 as).length ≤ 2) (hd : 1 ≤ d) (body : ∀ ZZ : Nat → za_K, (∀ (cuts : List Nat) (n pc : Nat) ls st μ κ, zk_go zt_Λ zk_X0 2 (zk_RR mc ms post) (fun _ _ _ => False) (zk_CC zt Γ d mc ms) (fun _ _ _ _ _ => False) zp_A_hasBit cuts ZZ n pc ls st μ κ → ZZ pc ls st μ κ) → ZZ 0 (zk_ls as 2) [] μ (0, 0)) : zk_Ct zt Γ zm_A_hasBit d mc ms as μ post (fun _ _ => False) := zk_meth0 (M := zm_A_hasBit) zt_gt (List.mem_of_getElem? (i := 17) rfl) zp_A_hasBit (zh_gd_ok zl_ok5 zg_A_hasBit) (zh_ch_ok zc_A_hasBit) hargs hd body
theorem zs_A_rowOf {Γ : zk_G} {d mc ms : Nat} {as : List za_V} {μ : za_M} {post : Option za_V → za_M → Prop} (hargs : (zk_l0 as).length ≤ 3) (hd : 1 ≤ d) (body : ∀ ZZ : Nat → za_K, (∀ (cuts : List Nat) (n pc : Nat) ls st μ κ, zk_go zt_Λ zk_X0 1 (zk_RR mc ms post) (fun _ _ _ => False) (zk_CC zt Γ d mc ms) (fun _ _ _ _ _ => False) zp_A_rowOf cuts ZZ n pc ls st μ κ → ZZ pc ls st μ κ) → ZZ 0 (zk_ls as 3) [] μ (0, 0)) : zk_Ct zt Γ zm_A_rowOf d mc ms as μ post (fun _ _ => False) := zk_meth0 (M := zm_A_rowOf) zt_gt (List.mem_of_getElem? (i := 18) rfl) zp_A_rowOf (zh_gd_ok zl_ok5 zg_A_rowOf) (zh_ch_ok zc_A_rowOf) hargs hd body
theorem zs_M_thrown {Γ : zk_G} {d mc ms : Nat} {as : List za_V} {μ : za_M} {post : Option za_V → za_M → Prop} (hargs : (zk_l0 as).length ≤ 1) (hd : 1 ≤ d) (body : ∀ ZZ : Nat → za_K, (∀ (cuts : List Nat) (n pc : Nat) ls st μ κ, zk_go zt_Λ zk_X0 1 (zk_RR mc ms post) (fun _ _ _ => False) (zk_CC zt Γ d mc ms) (fun _ _ _ _ _ => False) zp_M_thrown cuts ZZ n pc ls st μ κ → ZZ pc ls st μ κ) → ZZ 0 (zk_ls as 1) [] μ (0, 0)) : zk_Ct zt Γ zm_M_thrown d mc ms as μ post (fun _ _ => False) := zk_meth0 (M := zm_M_thrown) zt_gt (List.mem_of_getElem? (i := 19) rfl) zp_M_thrown (zh_gd_ok zl_ok6 zg_M_thrown) (zh_ch_ok zc_M_thrown) hargs hd body
theorem zs_M_refuse {Γ : zk_G} {d mc ms : Nat} {as : List za_V} {μ : za_M} {post : Option za_V → za_M → Prop} (hargs : (zk_l0 as).length ≤ 3) (hd : 1 ≤ d) (body : ∀ ZZ : Nat → za_K, (∀ (cuts : List Nat) (n pc : Nat) ls st μ κ, zk_go zt_Λ zk_X0 2 (zk_RR mc ms post) (fun _ _ _ => False) (zk_CC zt Γ d mc ms) (fun _ _ _ _ _ => False) zp_M_refuse cuts ZZ n pc ls st μ κ → ZZ pc ls st μ κ) → ZZ 0 (zk_ls as 3) [] μ (0, 0)) : zk_Ct zt Γ zm_M_refuse d mc ms as μ post (fun _ _ => False) := zk_meth0 (M := zm_M_refuse) zt_gt (List.mem_of_getElem? (i := 20) rfl) zp_M_refuse (zh_gd_ok zl_ok6 zg_M_refuse) (zh_ch_ok zc_M_refuse) hargs hd body
theorem zs_M_in {Γ : zk_G} {d mc ms : Nat} {as : List za_V} {μ : za_M} {post : Option za_V → za_M → Prop} (hargs : (zk_l0 as).length ≤ 3) (hd : 1 ≤ d) (body : ∀ ZZ : Nat → za_K, (∀ (cuts : List Nat) (n pc : Nat) ls st μ κ, zk_go zt_Λ zk_X0 2 (zk_RR mc ms post) (fun _ _ _ => False) (zk_CC zt Γ d mc ms) (fun _ _ _ _ _ => False) zp_M_in cuts ZZ n pc ls st μ κ → ZZ pc ls st μ κ) → ZZ 0 (zk_ls as 3) [] μ (0, 0)) : zk_Ct zt Γ zm_M_in d mc ms as μ post (fun _ _ => False) := zk_meth0 (M := zm_M_in) zt_gt (List.mem_of_getElem? (i := 21) rfl) zp_M_in (zh_gd_ok zl_ok6 zg_M_in) (zh_ch_ok zc_M_in) hargs hd body
theorem zs_M_clear {Γ : zk_G} {d mc ms : Nat} {as : List za_V} {μ : za_M} {post : Option za_V → za_M → Prop} (hargs : (zk_l0 as).length ≤ 2) (hd : 1 ≤ d) (body : ∀ ZZ : Nat → za_K, (∀ (cuts : List Nat) (n pc : Nat) ls st μ κ, zk_go zt_Λ zk_X0 0 (zk_RR mc ms post) (fun _ _ _ => False) (zk_CC zt Γ d mc ms) (fun _ _ _ _ _ => False) zp_M_clear cuts ZZ n pc ls st μ κ → ZZ pc ls st μ κ) → ZZ 0 (zk_ls as 2) [] μ (0, 0)) : zk_Ct zt Γ zm_M_clear d mc ms as μ post (fun _ _ => False) := zk_meth0 (M := zm_M_clear) zt_gt (List.mem_of_getElem? (i := 22) rfl) zp_M_clear (zh_gd_ok zl_ok6 zg_M_clear) (zh_ch_ok zc_M_clear) hargs hd body
theorem zs_M_forget {Γ : zk_G} {d mc ms : Nat} {as : List za_V} {μ : za_M} {post : Option za_V → za_M → Prop} (hargs : (zk_l0 as).length ≤ 1) (hd : 1 ≤ d) (body : ∀ ZZ : Nat → za_K, (∀ (cuts : List Nat) (n pc : Nat) ls st μ κ, zk_go zt_Λ zk_X0 0 (zk_RR mc ms post) (fun _ _ _ => False) (zk_CC zt Γ d mc ms) (fun _ _ _ _ _ => False) zp_M_forget cuts ZZ n pc ls st μ κ → ZZ pc ls st μ κ) → ZZ 0 (zk_ls as 1) [] μ (0, 0)) : zk_Ct zt Γ zm_M_forget d mc ms as μ post (fun _ _ => False) := zk_meth0 (M := zm_M_forget) zt_gt (List.mem_of_getElem? (i := 23) rfl) zp_M_forget (zh_gd_ok zl_ok6 zg_M_forget) (zh_ch_ok zc_M_forget) hargs hd body
theorem zs_M_symbol {Γ : zk_G} {d mc ms : Nat} {as : List za_V} {μ : za_M} {post : Option za_V → za_M → Prop} (hargs : (zk_l0 as).length ≤ 4) (hd : 1 ≤ d) (body : ∀ ZZ : Nat → za_K, (∀ (cuts : List Nat) (n pc : Nat) ls st μ κ, zk_go zt_Λ zk_X0 1 (zk_RR mc ms post) (fun _ _ _ => False) (zk_CC zt Γ d mc ms) (fun _ _ _ _ _ => False) zp_M_symbol cuts ZZ n pc ls st μ κ → ZZ pc ls st μ κ) → ZZ 0 (zk_ls as 4) [] μ (0, 0)) : zk_Ct zt Γ zm_M_symbol d mc ms as μ post (fun _ _ => False) := zk_meth0 (M := zm_M_symbol) zt_gt (List.mem_of_getElem? (i := 24) rfl) zp_M_symbol (zh_gd_ok zl_ok6 zg_M_symbol) (zh_ch_ok zc_M_symbol) hargs hd body
theorem zs_M_isSymbol {Γ : zk_G} {d mc ms : Nat} {as : List za_V} {μ : za_M} {post : Option za_V → za_M → Prop} (hargs : (zk_l0 as).length ≤ 2) (hd : 1 ≤ d) (body : ∀ ZZ : Nat → za_K, (∀ (cuts : List Nat) (n pc : Nat) ls st μ κ, zk_go zt_Λ zk_X0 2 (zk_RR mc ms post) (fun _ _ _ => False) (zk_CC zt Γ d mc ms) (fun _ _ _ _ _ => False) zp_M_isSymbol cuts ZZ n pc ls st μ κ → ZZ pc ls st μ κ) → ZZ 0 (zk_ls as 2) [] μ (0, 0)) : zk_Ct zt Γ zm_M_isSymbol d mc ms as μ post (fun _ _ => False) := zk_meth0 (M := zm_M_isSymbol) zt_gt (List.mem_of_getElem? (i := 25) rfl) zp_M_isSymbol (zh_gd_ok zl_ok6 zg_M_isSymbol) (zh_ch_ok zc_M_isSymbol) hargs hd body
theorem zs_M_production {Γ : zk_G} {d mc ms : Nat} {as : List za_V} {μ : za_M} {post : Option za_V → za_M → Prop} (hargs : (zk_l0 as).length ≤ 6) (hd : 1 ≤ d) (body : ∀ ZZ : Nat → za_K, (∀ (cuts : List Nat) (n pc : Nat) ls st μ κ, zk_go zt_Λ zk_X0 1 (zk_RR mc ms post) (fun _ _ _ => False) (zk_CC zt Γ d mc ms) (fun _ _ _ _ _ => False) zp_M_production cuts ZZ n pc ls st μ κ → ZZ pc ls st μ κ) → ZZ 0 (zk_ls as 6) [] μ (0, 0)) : zk_Ct zt Γ zm_M_production d mc ms as μ post (fun _ _ => False) := zk_meth0 (M := zm_M_production) zt_gt (List.mem_of_getElem? (i := 26) rfl) zp_M_production (zh_gd_ok zl_ok6 zg_M_production) (zh_ch_ok zc_M_production) hargs hd body
theorem zs_M_isDown {Γ : zk_G} {d mc ms : Nat} {as : List za_V} {μ : za_M} {post : Option za_V → za_M → Prop} (hargs : (zk_l0 as).length ≤ 3) (hd : 1 ≤ d) (body : ∀ ZZ : Nat → za_K, (∀ (cuts : List Nat) (n pc : Nat) ls st μ κ, zk_go zt_Λ zk_X0 2 (zk_RR mc ms post) (fun _ _ _ => False) (zk_CC zt Γ d mc ms) (fun _ _ _ _ _ => False) zp_M_isDown cuts ZZ n pc ls st μ κ → ZZ pc ls st μ κ) → ZZ 0 (zk_ls as 3) [] μ (0, 0)) : zk_Ct zt Γ zm_M_isDown d mc ms as μ post (fun _ _ => False) := zk_meth0 (M := zm_M_isDown) zt_gt (List.mem_of_getElem? (i := 27) rfl) zp_M_isDown (zh_gd_ok zl_ok6 zg_M_isDown) (zh_ch_ok zc_M_isDown) hargs hd body
theorem zs_M_symbolOf {Γ : zk_G} {d mc ms : Nat} {as : List za_V} {μ : za_M} {post : Option za_V → za_M → Prop} (hargs : (zk_l0 as).length ≤ 3) (hd : 1 ≤ d) (body : ∀ ZZ : Nat → za_K, (∀ (cuts : List Nat) (n pc : Nat) ls st μ κ, zk_go zt_Λ zk_X0 1 (zk_RR mc ms post) (fun _ _ _ => False) (zk_CC zt Γ d mc ms) (fun _ _ _ _ _ => False) zp_M_symbolOf cuts ZZ n pc ls st μ κ → ZZ pc ls st μ κ) → ZZ 0 (zk_ls as 3) [] μ (0, 0)) : zk_Ct zt Γ zm_M_symbolOf d mc ms as μ post (fun _ _ => False) := zk_meth0 (M := zm_M_symbolOf) zt_gt (List.mem_of_getElem? (i := 28) rfl) zp_M_symbolOf (zh_gd_ok zl_ok6 zg_M_symbolOf) (zh_ch_ok zc_M_symbolOf) hargs hd body
theorem zs_M_isThere {Γ : zk_G} {d mc ms : Nat} {as : List za_V} {μ : za_M} {post : Option za_V → za_M → Prop} (hargs : (zk_l0 as).length ≤ 4) (hd : 1 ≤ d) (body : ∀ ZZ : Nat → za_K, (∀ (cuts : List Nat) (n pc : Nat) ls st μ κ, zk_go zt_Λ zk_X0 2 (zk_RR mc ms post) (fun _ _ _ => False) (zk_CC zt Γ d mc ms) (fun _ _ _ _ _ => False) zp_M_isThere cuts ZZ n pc ls st μ κ → ZZ pc ls st μ κ) → ZZ 0 (zk_ls as 4) [] μ (0, 0)) : zk_Ct zt Γ zm_M_isThere d mc ms as μ post (fun _ _ => False) := zk_meth0 (M := zm_M_isThere) zt_gt (List.mem_of_getElem? (i := 29) rfl) zp_M_isThere (zh_gd_ok zl_ok6 zg_M_isThere) (zh_ch_ok zc_M_isThere) hargs hd body
theorem zs_M_defines {Γ : zk_G} {d mc ms : Nat} {as : List za_V} {μ : za_M} {post : Option za_V → za_M → Prop} (hargs : (zk_l0 as).length ≤ 3) (hd : 1 ≤ d) (body : ∀ ZZ : Nat → za_K, (∀ (cuts : List Nat) (n pc : Nat) ls st μ κ, zk_go zt_Λ zk_X0 2 (zk_RR mc ms post) (fun _ _ _ => False) (zk_CC zt Γ d mc ms) (fun _ _ _ _ _ => False) zp_M_defines cuts ZZ n pc ls st μ κ → ZZ pc ls st μ κ) → ZZ 0 (zk_ls as 3) [] μ (0, 0)) : zk_Ct zt Γ zm_M_defines d mc ms as μ post (fun _ _ => False) := zk_meth0 (M := zm_M_defines) zt_gt (List.mem_of_getElem? (i := 30) rfl) zp_M_defines (zh_gd_ok zl_ok6 zg_M_defines) (zh_ch_ok zc_M_defines) hargs hd body
theorem zs_M_depend {Γ : zk_G} {d mc ms : Nat} {as : List za_V} {μ : za_M} {post : Option za_V → za_M → Prop} (hargs : (zk_l0 as).length ≤ 7) (hd : 1 ≤ d) (body : ∀ ZZ : Nat → za_K, (∀ (cuts : List Nat) (n pc : Nat) ls st μ κ, zk_go zt_Λ zk_X0 2 (zk_RR mc ms post) (fun _ _ _ => False) (zk_CC zt Γ d mc ms) (fun _ _ _ _ _ => False) zp_M_depend cuts ZZ n pc ls st μ κ → ZZ pc ls st μ κ) → ZZ 0 (zk_ls as 7) [] μ (0, 0)) : zk_Ct zt Γ zm_M_depend d mc ms as μ post (fun _ _ => False) := zk_meth0 (M := zm_M_depend) zt_gt (List.mem_of_getElem? (i := 31) rfl) zp_M_depend (zh_gd_ok zl_ok6 zg_M_depend) (zh_ch_ok zc_M_depend) hargs hd body
theorem zs_M_takeDepends {Γ : zk_G} {d mc ms : Nat} {as : List za_V} {μ : za_M} {post : Option za_V → za_M → Prop} (hargs : (zk_l0 as).length ≤ 3) (hd : 1 ≤ d) (body : ∀ ZZ : Nat → za_K, (∀ (cuts : List Nat) (n pc : Nat) ls st μ κ, zk_go zt_Λ zk_X0 0 (zk_RR mc ms post) (fun _ _ _ => False) (zk_CC zt Γ d mc ms) (fun _ _ _ _ _ => False) zp_M_takeDepends cuts ZZ n pc ls st μ κ → ZZ pc ls st μ κ) → ZZ 0 (zk_ls as 3) [] μ (0, 0)) : zk_Ct zt Γ zm_M_takeDepends d mc ms as μ post (fun _ _ => False) := zk_meth0 (M := zm_M_takeDepends) zt_gt (List.mem_of_getElem? (i := 32) rfl) zp_M_takeDepends (zh_gd_ok zl_ok6 zg_M_takeDepends) (zh_ch_ok zc_M_takeDepends) hargs hd body
theorem zs_M_follow {Γ : zk_G} {d mc ms : Nat} {as : List za_V} {μ : za_M} {post : Option za_V → za_M → Prop} (hargs : (zk_l0 as).length ≤ 3) (hd : 1 ≤ d) (body : ∀ ZZ : Nat → za_K, (∀ (cuts : List Nat) (n pc : Nat) ls st μ κ, zk_go zt_Λ zk_X0 0 (zk_RR mc ms post) (fun _ _ _ => False) (zk_CC zt Γ d mc ms) (fun _ _ _ _ _ => False) zp_M_follow cuts ZZ n pc ls st μ κ → ZZ pc ls st μ κ) → ZZ 0 (zk_ls as 3) [] μ (0, 0)) : zk_Ct zt Γ zm_M_follow d mc ms as μ post (fun _ _ => False) := zk_meth0 (M := zm_M_follow) zt_gt (List.mem_of_getElem? (i := 33) rfl) zp_M_follow (zh_gd_ok zl_ok6 zg_M_follow) (zh_ch_ok zc_M_follow) hargs hd body
theorem zs_M_hasCircle {Γ : zk_G} {d mc ms : Nat} {as : List za_V} {μ : za_M} {post : Option za_V → za_M → Prop} (hargs : (zk_l0 as).length ≤ 3) (hd : 1 ≤ d) (body : ∀ ZZ : Nat → za_K, (∀ (cuts : List Nat) (n pc : Nat) ls st μ κ, zk_go zt_Λ zk_X0 2 (zk_RR mc ms post) (fun _ _ _ => False) (zk_CC zt Γ d mc ms) (fun _ _ _ _ _ => False) zp_M_hasCircle cuts ZZ n pc ls st μ κ → ZZ pc ls st μ κ) → ZZ 0 (zk_ls as 3) [] μ (0, 0)) : zk_Ct zt Γ zm_M_hasCircle d mc ms as μ post (fun _ _ => False) := zk_meth0 (M := zm_M_hasCircle) zt_gt (List.mem_of_getElem? (i := 34) rfl) zp_M_hasCircle (zh_gd_ok zl_ok6 zg_M_hasCircle) (zh_ch_ok zc_M_hasCircle) hargs hd body
theorem zs_M_addGraph {Γ : zk_G} {d mc ms : Nat} {as : List za_V} {μ : za_M} {post : Option za_V → za_M → Prop} (hargs : (zk_l0 as).length ≤ 5) (hd : 1 ≤ d) (body : ∀ ZZ : Nat → za_K, (∀ (cuts : List Nat) (n pc : Nat) ls st μ κ, zk_go zt_Λ zk_X0 0 (zk_RR mc ms post) (fun _ _ _ => False) (zk_CC zt Γ d mc ms) (fun _ _ _ _ _ => False) zp_M_addGraph cuts ZZ n pc ls st μ κ → ZZ pc ls st μ κ) → ZZ 0 (zk_ls as 5) [] μ (0, 0)) : zk_Ct zt Γ zm_M_addGraph d mc ms as μ post (fun _ _ => False) := zk_meth0 (M := zm_M_addGraph) zt_gt (List.mem_of_getElem? (i := 35) rfl) zp_M_addGraph (zh_gd_ok zl_ok6 zg_M_addGraph) (zh_ch_ok zc_M_addGraph) hargs hd body
theorem zs_M_headGraph {Γ : zk_G} {d mc ms : Nat} {as : List za_V} {μ : za_M} {post : Option za_V → za_M → Prop} (hargs : (zk_l0 as).length ≤ 6) (hd : 1 ≤ d) (body : ∀ ZZ : Nat → za_K, (∀ (cuts : List Nat) (n pc : Nat) ls st μ κ, zk_go zt_Λ zk_X0 3 (zk_RR mc ms post) (fun _ _ _ => False) (zk_CC zt Γ d mc ms) (fun _ _ _ _ _ => False) zp_M_headGraph cuts ZZ n pc ls st μ κ → ZZ pc ls st μ κ) → ZZ 0 (zk_ls as 6) [] μ (0, 0)) : zk_Ct zt Γ zm_M_headGraph d mc ms as μ post (fun _ _ => False) := zk_meth0 (M := zm_M_headGraph) zt_gt (List.mem_of_getElem? (i := 36) rfl) zp_M_headGraph (zh_gd_ok zl_ok6 zg_M_headGraph) (zh_ch_ok zc_M_headGraph) hargs hd body
theorem zs_M_takeGraph {Γ : zk_G} {d mc ms : Nat} {as : List za_V} {μ : za_M} {post : Option za_V → za_M → Prop} (hargs : (zk_l0 as).length ≤ 6) (hd : 1 ≤ d) (body : ∀ ZZ : Nat → za_K, (∀ (cuts : List Nat) (n pc : Nat) ls st μ κ, zk_go zt_Λ zk_X0 0 (zk_RR mc ms post) (fun _ _ _ => False) (zk_CC zt Γ d mc ms) (fun _ _ _ _ _ => False) zp_M_takeGraph cuts ZZ n pc ls st μ κ → ZZ pc ls st μ κ) → ZZ 0 (zk_ls as 6) [] μ (0, 0)) : zk_Ct zt Γ zm_M_takeGraph d mc ms as μ post (fun _ _ => False) := zk_meth0 (M := zm_M_takeGraph) zt_gt (List.mem_of_getElem? (i := 37) rfl) zp_M_takeGraph (zh_gd_ok zl_ok6 zg_M_takeGraph) (zh_ch_ok zc_M_takeGraph) hargs hd body
theorem zs_M_countOf {Γ : zk_G} {d mc ms : Nat} {as : List za_V} {μ : za_M} {post : Option za_V → za_M → Prop} (hargs : (zk_l0 as).length ≤ 4) (hd : 1 ≤ d) (body : ∀ ZZ : Nat → za_K, (∀ (cuts : List Nat) (n pc : Nat) ls st μ κ, zk_go zt_Λ zk_X0 1 (zk_RR mc ms post) (fun _ _ _ => False) (zk_CC zt Γ d mc ms) (fun _ _ _ _ _ => False) zp_M_countOf cuts ZZ n pc ls st μ κ → ZZ pc ls st μ κ) → ZZ 0 (zk_ls as 4) [] μ (0, 0)) : zk_Ct zt Γ zm_M_countOf d mc ms as μ post (fun _ _ => False) := zk_meth0 (M := zm_M_countOf) zt_gt (List.mem_of_getElem? (i := 38) rfl) zp_M_countOf (zh_gd_ok zl_ok6 zg_M_countOf) (zh_ch_ok zc_M_countOf) hargs hd body
theorem zs_M_put {Γ : zk_G} {d mc ms : Nat} {as : List za_V} {μ : za_M} {post : Option za_V → za_M → Prop} (hargs : (zk_l0 as).length ≤ 6) (hd : 1 ≤ d) (body : ∀ ZZ : Nat → za_K, (∀ (cuts : List Nat) (n pc : Nat) ls st μ κ, zk_go zt_Λ zk_X0 0 (zk_RR mc ms post) (fun _ _ _ => False) (zk_CC zt Γ d mc ms) (fun _ _ _ _ _ => False) zp_M_put cuts ZZ n pc ls st μ κ → ZZ pc ls st μ κ) → ZZ 0 (zk_ls as 6) [] μ (0, 0)) : zk_Ct zt Γ zm_M_put d mc ms as μ post (fun _ _ => False) := zk_meth0 (M := zm_M_put) zt_gt (List.mem_of_getElem? (i := 39) rfl) zp_M_put (zh_gd_ok zl_ok6 zg_M_put) (zh_ch_ok zc_M_put) hargs hd body
theorem zs_M_work {Γ : zk_G} {d mc ms : Nat} {as : List za_V} {μ : za_M} {post : Option za_V → za_M → Prop} (hargs : (zk_l0 as).length ≤ 9) (hd : 1 ≤ d) (body : ∀ ZZ : Nat → za_K, (∀ (cuts : List Nat) (n pc : Nat) ls st μ κ, zk_go zt_Λ zk_X0 2 (zk_RR mc ms post) (fun _ _ _ => False) (zk_CC zt Γ d mc ms) (fun _ _ _ _ _ => False) zp_M_work cuts ZZ n pc ls st μ κ → ZZ pc ls st μ κ) → ZZ 0 (zk_ls as 9) [] μ (0, 0)) : zk_Ct zt Γ zm_M_work d mc ms as μ post (fun _ _ => False) := zk_meth0 (M := zm_M_work) zt_gt (List.mem_of_getElem? (i := 40) rfl) zp_M_work (zh_gd_ok zl_ok6 zg_M_work) (zh_ch_ok zc_M_work) hargs hd body
theorem zs_M_findGraphs {Γ : zk_G} {d mc ms : Nat} {as : List za_V} {μ : za_M} {post : Option za_V → za_M → Prop} (hargs : (zk_l0 as).length ≤ 4) (hd : 1 ≤ d) (body : ∀ ZZ : Nat → za_K, (∀ (cuts : List Nat) (n pc : Nat) ls st μ κ, zk_go zt_Λ zk_X0 0 (zk_RR mc ms post) (fun _ _ _ => False) (zk_CC zt Γ d mc ms) (fun _ _ _ _ _ => False) zp_M_findGraphs cuts ZZ n pc ls st μ κ → ZZ pc ls st μ κ) → ZZ 0 (zk_ls as 4) [] μ (0, 0)) : zk_Ct zt Γ zm_M_findGraphs d mc ms as μ post (fun _ _ => False) := zk_meth0 (M := zm_M_findGraphs) zt_gt (List.mem_of_getElem? (i := 41) rfl) zp_M_findGraphs (zh_gd_ok zl_ok6 zg_M_findGraphs) (zh_ch_ok zc_M_findGraphs) hargs hd body
theorem zs_M_graphs {Γ : zk_G} {d mc ms : Nat} {as : List za_V} {μ : za_M} {post : Option za_V → za_M → Prop} (hargs : (zk_l0 as).length ≤ 2) (hd : 1 ≤ d) (body : ∀ ZZ : Nat → za_K, (∀ (cuts : List Nat) (n pc : Nat) ls st μ κ, zk_go zt_Λ zk_X0 1 (zk_RR mc ms post) (fun _ _ _ => False) (zk_CC zt Γ d mc ms) (fun _ _ _ _ _ => False) zp_M_graphs cuts ZZ n pc ls st μ κ → ZZ pc ls st μ κ) → ZZ 0 (zk_ls as 2) [] μ (0, 0)) : zk_Ct zt Γ zm_M_graphs d mc ms as μ post (fun _ _ => False) := zk_meth0 (M := zm_M_graphs) zt_gt (List.mem_of_getElem? (i := 42) rfl) zp_M_graphs (zh_gd_ok zl_ok6 zg_M_graphs) (zh_ch_ok zc_M_graphs) hargs hd body
theorem zs_M_circular {Γ : zk_G} {d mc ms : Nat} {as : List za_V} {μ : za_M} {post : Option za_V → za_M → Prop} (hargs : (zk_l0 as).length ≤ 1) (hd : 1 ≤ d) (body : ∀ ZZ : Nat → za_K, (∀ (cuts : List Nat) (n pc : Nat) ls st μ κ, zk_go zt_Λ zk_X0 2 (zk_RR mc ms post) (fun _ _ _ => False) (zk_CC zt Γ d mc ms) (fun _ _ _ _ _ => False) zp_M_circular cuts ZZ n pc ls st μ κ → ZZ pc ls st μ κ) → ZZ 0 (zk_ls as 1) [] μ (0, 0)) : zk_Ct zt Γ zm_M_circular d mc ms as μ post (fun _ _ => False) := zk_meth0 (M := zm_M_circular) zt_gt (List.mem_of_getElem? (i := 43) rfl) zp_M_circular (zh_gd_ok zl_ok6 zg_M_circular) (zh_ch_ok zc_M_circular) hargs hd body
theorem zs_M_allHave {Γ : zk_G} {d mc ms : Nat} {as : List za_V} {μ : za_M} {post : Option za_V → za_M → Prop} (hargs : (zk_l0 as).length ≤ 4) (hd : 1 ≤ d) (body : ∀ ZZ : Nat → za_K, (∀ (cuts : List Nat) (n pc : Nat) ls st μ κ, zk_go zt_Λ zk_X0 2 (zk_RR mc ms post) (fun _ _ _ => False) (zk_CC zt Γ d mc ms) (fun _ _ _ _ _ => False) zp_M_allHave cuts ZZ n pc ls st μ κ → ZZ pc ls st μ κ) → ZZ 0 (zk_ls as 4) [] μ (0, 0)) : zk_Ct zt Γ zm_M_allHave d mc ms as μ post (fun _ _ => False) := zk_meth0 (M := zm_M_allHave) zt_gt (List.mem_of_getElem? (i := 44) rfl) zp_M_allHave (zh_gd_ok zl_ok6 zg_M_allHave) (zh_ch_ok zc_M_allHave) hargs hd body
theorem zs_M_addUnions {Γ : zk_G} {d mc ms : Nat} {as : List za_V} {μ : za_M} {post : Option za_V → za_M → Prop} (hargs : (zk_l0 as).length ≤ 6) (hd : 1 ≤ d) (body : ∀ ZZ : Nat → za_K, (∀ (cuts : List Nat) (n pc : Nat) ls st μ κ, zk_go zt_Λ zk_X0 0 (zk_RR mc ms post) (fun _ _ _ => False) (zk_CC zt Γ d mc ms) (fun _ _ _ _ _ => False) zp_M_addUnions cuts ZZ n pc ls st μ κ → ZZ pc ls st μ κ) → ZZ 0 (zk_ls as 6) [] μ (0, 0)) : zk_Ct zt Γ zm_M_addUnions d mc ms as μ post (fun _ _ => False) := zk_meth0 (M := zm_M_addUnions) zt_gt (List.mem_of_getElem? (i := 45) rfl) zp_M_addUnions (zh_gd_ok zl_ok6 zg_M_addUnions) (zh_ch_ok zc_M_addUnions) hargs hd body
theorem zs_M_addAboves {Γ : zk_G} {d mc ms : Nat} {as : List za_V} {μ : za_M} {post : Option za_V → za_M → Prop} (hargs : (zk_l0 as).length ≤ 3) (hd : 1 ≤ d) (body : ∀ ZZ : Nat → za_K, (∀ (cuts : List Nat) (n pc : Nat) ls st μ κ, zk_go zt_Λ zk_X0 0 (zk_RR mc ms post) (fun _ _ _ => False) (zk_CC zt Γ d mc ms) (fun _ _ _ _ _ => False) zp_M_addAboves cuts ZZ n pc ls st μ κ → ZZ pc ls st μ κ) → ZZ 0 (zk_ls as 3) [] μ (0, 0)) : zk_Ct zt Γ zm_M_addAboves d mc ms as μ post (fun _ _ => False) := zk_meth0 (M := zm_M_addAboves) zt_gt (List.mem_of_getElem? (i := 46) rfl) zp_M_addAboves (zh_gd_ok zl_ok6 zg_M_addAboves) (zh_ch_ok zc_M_addAboves) hargs hd body
theorem zs_M_growUnion {Γ : zk_G} {d mc ms : Nat} {as : List za_V} {μ : za_M} {post : Option za_V → za_M → Prop} (hargs : (zk_l0 as).length ≤ 6) (hd : 1 ≤ d) (body : ∀ ZZ : Nat → za_K, (∀ (cuts : List Nat) (n pc : Nat) ls st μ κ, zk_go zt_Λ zk_X0 2 (zk_RR mc ms post) (fun _ _ _ => False) (zk_CC zt Γ d mc ms) (fun _ _ _ _ _ => False) zp_M_growUnion cuts ZZ n pc ls st μ κ → ZZ pc ls st μ κ) → ZZ 0 (zk_ls as 6) [] μ (0, 0)) : zk_Ct zt Γ zm_M_growUnion d mc ms as μ post (fun _ _ => False) := zk_meth0 (M := zm_M_growUnion) zt_gt (List.mem_of_getElem? (i := 47) rfl) zp_M_growUnion (zh_gd_ok zl_ok6 zg_M_growUnion) (zh_ch_ok zc_M_growUnion) hargs hd body
theorem zs_M_growAbove {Γ : zk_G} {d mc ms : Nat} {as : List za_V} {μ : za_M} {post : Option za_V → za_M → Prop} (hargs : (zk_l0 as).length ≤ 8) (hd : 1 ≤ d) (body : ∀ ZZ : Nat → za_K, (∀ (cuts : List Nat) (n pc : Nat) ls st μ κ, zk_go zt_Λ zk_X0 2 (zk_RR mc ms post) (fun _ _ _ => False) (zk_CC zt Γ d mc ms) (fun _ _ _ _ _ => False) zp_M_growAbove cuts ZZ n pc ls st μ κ → ZZ pc ls st μ κ) → ZZ 0 (zk_ls as 8) [] μ (0, 0)) : zk_Ct zt Γ zm_M_growAbove d mc ms as μ post (fun _ _ => False) := zk_meth0 (M := zm_M_growAbove) zt_gt (List.mem_of_getElem? (i := 48) rfl) zp_M_growAbove (zh_gd_ok zl_ok6 zg_M_growAbove) (zh_ch_ok zc_M_growAbove) hargs hd body
theorem zs_M_relate {Γ : zk_G} {d mc ms : Nat} {as : List za_V} {μ : za_M} {post : Option za_V → za_M → Prop} (hargs : (zk_l0 as).length ≤ 5) (hd : 1 ≤ d) (body : ∀ ZZ : Nat → za_K, (∀ (cuts : List Nat) (n pc : Nat) ls st μ κ, zk_go zt_Λ zk_X0 0 (zk_RR mc ms post) (fun _ _ _ => False) (zk_CC zt Γ d mc ms) (fun _ _ _ _ _ => False) zp_M_relate cuts ZZ n pc ls st μ κ → ZZ pc ls st μ κ) → ZZ 0 (zk_ls as 5) [] μ (0, 0)) : zk_Ct zt Γ zm_M_relate d mc ms as μ post (fun _ _ => False) := zk_meth0 (M := zm_M_relate) zt_gt (List.mem_of_getElem? (i := 49) rfl) zp_M_relate (zh_gd_ok zl_ok6 zg_M_relate) (zh_ch_ok zc_M_relate) hargs hd body
theorem zs_M_strong {Γ : zk_G} {d mc ms : Nat} {as : List za_V} {μ : za_M} {post : Option za_V → za_M → Prop} (hargs : (zk_l0 as).length ≤ 1) (hd : 1 ≤ d) (body : ∀ ZZ : Nat → za_K, (∀ (cuts : List Nat) (n pc : Nat) ls st μ κ, zk_go zt_Λ zk_X0 2 (zk_RR mc ms post) (fun _ _ _ => False) (zk_CC zt Γ d mc ms) (fun _ _ _ _ _ => False) zp_M_strong cuts ZZ n pc ls st μ κ → ZZ pc ls st μ κ) → ZZ 0 (zk_ls as 1) [] μ (0, 0)) : zk_Ct zt Γ zm_M_strong d mc ms as μ post (fun _ _ => False) := zk_meth0 (M := zm_M_strong) zt_gt (List.mem_of_getElem? (i := 50) rfl) zp_M_strong (zh_gd_ok zl_ok6 zg_M_strong) (zh_ch_ok zc_M_strong) hargs hd body
theorem zs_M_doubly {Γ : zk_G} {d mc ms : Nat} {as : List za_V} {μ : za_M} {post : Option za_V → za_M → Prop} (hargs : (zk_l0 as).length ≤ 1) (hd : 1 ≤ d) (body : ∀ ZZ : Nat → za_K, (∀ (cuts : List Nat) (n pc : Nat) ls st μ κ, zk_go zt_Λ zk_X0 2 (zk_RR mc ms post) (fun _ _ _ => False) (zk_CC zt Γ d mc ms) (fun _ _ _ _ _ => False) zp_M_doubly cuts ZZ n pc ls st μ κ → ZZ pc ls st μ κ) → ZZ 0 (zk_ls as 1) [] μ (0, 0)) : zk_Ct zt Γ zm_M_doubly d mc ms as μ post (fun _ _ => False) := zk_meth0 (M := zm_M_doubly) zt_gt (List.mem_of_getElem? (i := 51) rfl) zp_M_doubly (zh_gd_ok zl_ok6 zg_M_doubly) (zh_ch_ok zc_M_doubly) hargs hd body
theorem zs_M_isAttribute {Γ : zk_G} {d mc ms : Nat} {as : List za_V} {μ : za_M} {post : Option za_V → za_M → Prop} (hargs : (zk_l0 as).length ≤ 3) (hd : 1 ≤ d) (body : ∀ ZZ : Nat → za_K, (∀ (cuts : List Nat) (n pc : Nat) ls st μ κ, zk_go zt_Λ zk_X0 2 (zk_RR mc ms post) (fun _ _ _ => False) (zk_CC zt Γ d mc ms) (fun _ _ _ _ _ => False) zp_M_isAttribute cuts ZZ n pc ls st μ κ → ZZ pc ls st μ κ) → ZZ 0 (zk_ls as 3) [] μ (0, 0)) : zk_Ct zt Γ zm_M_isAttribute d mc ms as μ post (fun _ _ => False) := zk_meth0 (M := zm_M_isAttribute) zt_gt (List.mem_of_getElem? (i := 52) rfl) zp_M_isAttribute (zh_gd_ok zl_ok6 zg_M_isAttribute) (zh_ch_ok zc_M_isAttribute) hargs hd body
theorem zs_M_relation {Γ : zk_G} {d mc ms : Nat} {as : List za_V} {μ : za_M} {post : Option za_V → za_M → Prop} (hargs : (zk_l0 as).length ≤ 4) (hd : 1 ≤ d) (body : ∀ ZZ : Nat → za_K, (∀ (cuts : List Nat) (n pc : Nat) ls st μ κ, zk_go zt_Λ zk_X0 1 (zk_RR mc ms post) (fun _ _ _ => False) (zk_CC zt Γ d mc ms) (fun _ _ _ _ _ => False) zp_M_relation cuts ZZ n pc ls st μ κ → ZZ pc ls st μ κ) → ZZ 0 (zk_ls as 4) [] μ (0, 0)) : zk_Ct zt Γ zm_M_relation d mc ms as μ post (fun _ _ => False) := zk_meth0 (M := zm_M_relation) zt_gt (List.mem_of_getElem? (i := 53) rfl) zp_M_relation (zh_gd_ok zl_ok6 zg_M_relation) (zh_ch_ok zc_M_relation) hargs hd body
theorem zs_M_inSet {Γ : zk_G} {d mc ms : Nat} {as : List za_V} {μ : za_M} {post : Option za_V → za_M → Prop} (hargs : (zk_l0 as).length ≤ 3) (hd : 1 ≤ d) (body : ∀ ZZ : Nat → za_K, (∀ (cuts : List Nat) (n pc : Nat) ls st μ κ, zk_go zt_Λ zk_X0 2 (zk_RR mc ms post) (fun _ _ _ => False) (zk_CC zt Γ d mc ms) (fun _ _ _ _ _ => False) zp_M_inSet cuts ZZ n pc ls st μ κ → ZZ pc ls st μ κ) → ZZ 0 (zk_ls as 3) [] μ (0, 0)) : zk_Ct zt Γ zm_M_inSet d mc ms as μ post (fun _ _ => False) := zk_meth0 (M := zm_M_inSet) zt_gt (List.mem_of_getElem? (i := 54) rfl) zp_M_inSet (zh_gd_ok zl_ok6 zg_M_inSet) (zh_ch_ok zc_M_inSet) hargs hd body
theorem zs_M_mayStay {Γ : zk_G} {d mc ms : Nat} {as : List za_V} {μ : za_M} {post : Option za_V → za_M → Prop} (hargs : (zk_l0 as).length ≤ 9) (hd : 1 ≤ d) (body : ∀ ZZ : Nat → za_K, (∀ (cuts : List Nat) (n pc : Nat) ls st μ κ, zk_go zt_Λ zk_X0 2 (zk_RR mc ms post) (fun _ _ _ => False) (zk_CC zt Γ d mc ms) (fun _ _ _ _ _ => False) zp_M_mayStay cuts ZZ n pc ls st μ κ → ZZ pc ls st μ κ) → ZZ 0 (zk_ls as 9) [] μ (0, 0)) : zk_Ct zt Γ zm_M_mayStay d mc ms as μ post (fun _ _ => False) := zk_meth0 (M := zm_M_mayStay) zt_gt (List.mem_of_getElem? (i := 55) rfl) zp_M_mayStay (zh_gd_ok zl_ok6 zg_M_mayStay) (zh_ch_ok zc_M_mayStay) hargs hd body
theorem zs_M_leaveOut {Γ : zk_G} {d mc ms : Nat} {as : List za_V} {μ : za_M} {post : Option za_V → za_M → Prop} (hargs : (zk_l0 as).length ≤ 5) (hd : 1 ≤ d) (body : ∀ ZZ : Nat → za_K, (∀ (cuts : List Nat) (n pc : Nat) ls st μ κ, zk_go zt_Λ zk_X0 2 (zk_RR mc ms post) (fun _ _ _ => False) (zk_CC zt Γ d mc ms) (fun _ _ _ _ _ => False) zp_M_leaveOut cuts ZZ n pc ls st μ κ → ZZ pc ls st μ κ) → ZZ 0 (zk_ls as 5) [] μ (0, 0)) : zk_Ct zt Γ zm_M_leaveOut d mc ms as μ post (fun _ _ => False) := zk_meth0 (M := zm_M_leaveOut) zt_gt (List.mem_of_getElem? (i := 56) rfl) zp_M_leaveOut (zh_gd_ok zl_ok6 zg_M_leaveOut) (zh_ch_ok zc_M_leaveOut) hargs hd body
theorem zs_M_onePass {Γ : zk_G} {d mc ms : Nat} {as : List za_V} {μ : za_M} {post : Option za_V → za_M → Prop} (hargs : (zk_l0 as).length ≤ 6) (hd : 1 ≤ d) (body : ∀ ZZ : Nat → za_K, (∀ (cuts : List Nat) (n pc : Nat) ls st μ κ, zk_go zt_Λ zk_X0 1 (zk_RR mc ms post) (fun _ _ _ => False) (zk_CC zt Γ d mc ms) (fun _ _ _ _ _ => False) zp_M_onePass cuts ZZ n pc ls st μ κ → ZZ pc ls st μ κ) → ZZ 0 (zk_ls as 6) [] μ (0, 0)) : zk_Ct zt Γ zm_M_onePass d mc ms as μ post (fun _ _ => False) := zk_meth0 (M := zm_M_onePass) zt_gt (List.mem_of_getElem? (i := 57) rfl) zp_M_onePass (zh_gd_ok zl_ok6 zg_M_onePass) (zh_ch_ok zc_M_onePass) hargs hd body
theorem zs_M_findPasses {Γ : zk_G} {d mc ms : Nat} {as : List za_V} {μ : za_M} {post : Option za_V → za_M → Prop} (hargs : (zk_l0 as).length ≤ 5) (hd : 1 ≤ d) (body : ∀ ZZ : Nat → za_K, (∀ (cuts : List Nat) (n pc : Nat) ls st μ κ, zk_go zt_Λ zk_X0 0 (zk_RR mc ms post) (fun _ _ _ => False) (zk_CC zt Γ d mc ms) (fun _ _ _ _ _ => False) zp_M_findPasses cuts ZZ n pc ls st μ κ → ZZ pc ls st μ κ) → ZZ 0 (zk_ls as 5) [] μ (0, 0)) : zk_Ct zt Γ zm_M_findPasses d mc ms as μ post (fun _ _ => False) := zk_meth0 (M := zm_M_findPasses) zt_gt (List.mem_of_getElem? (i := 58) rfl) zp_M_findPasses (zh_gd_ok zl_ok6 zg_M_findPasses) (zh_ch_ok zc_M_findPasses) hargs hd body
theorem zs_M_pass {Γ : zk_G} {d mc ms : Nat} {as : List za_V} {μ : za_M} {post : Option za_V → za_M → Prop} (hargs : (zk_l0 as).length ≤ 4) (hd : 1 ≤ d) (body : ∀ ZZ : Nat → za_K, (∀ (cuts : List Nat) (n pc : Nat) ls st μ κ, zk_go zt_Λ zk_X0 1 (zk_RR mc ms post) (fun _ _ _ => False) (zk_CC zt Γ d mc ms) (fun _ _ _ _ _ => False) zp_M_pass cuts ZZ n pc ls st μ κ → ZZ pc ls st μ κ) → ZZ 0 (zk_ls as 4) [] μ (0, 0)) : zk_Ct zt Γ zm_M_pass d mc ms as μ post (fun _ _ => False) := zk_meth0 (M := zm_M_pass) zt_gt (List.mem_of_getElem? (i := 59) rfl) zp_M_pass (zh_gd_ok zl_ok6 zg_M_pass) (zh_ch_ok zc_M_pass) hargs hd body
theorem zs_M_passes {Γ : zk_G} {d mc ms : Nat} {as : List za_V} {μ : za_M} {post : Option za_V → za_M → Prop} (hargs : (zk_l0 as).length ≤ 4) (hd : 1 ≤ d) (body : ∀ ZZ : Nat → za_K, (∀ (cuts : List Nat) (n pc : Nat) ls st μ κ, zk_go zt_Λ zk_X0 1 (zk_RR mc ms post) (fun _ _ _ => False) (zk_CC zt Γ d mc ms) (fun _ _ _ _ _ => False) zp_M_passes cuts ZZ n pc ls st μ κ → ZZ pc ls st μ κ) → ZZ 0 (zk_ls as 4) [] μ (0, 0)) : zk_Ct zt Γ zm_M_passes d mc ms as μ post (fun _ _ => False) := zk_meth0 (M := zm_M_passes) zt_gt (List.mem_of_getElem? (i := 60) rfl) zp_M_passes (zh_gd_ok zl_ok6 zg_M_passes) (zh_ch_ok zc_M_passes) hargs hd body
theorem zs_B_start {Γ : zk_G} {d mc ms : Nat} {as : List za_V} {μ : za_M} {post : Option za_V → za_M → Prop} (hargs : (zk_l0 as).length ≤ 2) (hd : 1 ≤ d) (body : ∀ ZZ : Nat → za_K, (∀ (cuts : List Nat) (n pc : Nat) ls st μ κ, zk_go zt_Λ zk_X0 0 (zk_RR mc ms post) (fun _ _ _ => False) (zk_CC zt Γ d mc ms) (fun _ _ _ _ _ => False) zp_B_start cuts ZZ n pc ls st μ κ → ZZ pc ls st μ κ) → ZZ 0 (zk_ls as 2) [] μ (0, 0)) : zk_Ct zt Γ zm_B_start d mc ms as μ post (fun _ _ => False) := zk_meth0 (M := zm_B_start) zt_gt (List.mem_of_getElem? (i := 61) rfl) zp_B_start (zh_gd_ok zl_ok0 zg_B_start) (zh_ch_ok zc_B_start) hargs hd body
theorem zs_B_startFrom {Γ : zk_G} {d mc ms : Nat} {as : List za_V} {μ : za_M} {post : Option za_V → za_M → Prop} (hargs : (zk_l0 as).length ≤ 2) (hd : 1 ≤ d) (body : ∀ ZZ : Nat → za_K, (∀ (cuts : List Nat) (n pc : Nat) ls st μ κ, zk_go zt_Λ zk_X0 0 (zk_RR mc ms post) (fun _ _ _ => False) (zk_CC zt Γ d mc ms) (fun _ _ _ _ _ => False) zp_B_startFrom cuts ZZ n pc ls st μ κ → ZZ pc ls st μ κ) → ZZ 0 (zk_ls as 2) [] μ (0, 0)) : zk_Ct zt Γ zm_B_startFrom d mc ms as μ post (fun _ _ => False) := zk_meth0 (M := zm_B_startFrom) zt_gt (List.mem_of_getElem? (i := 62) rfl) zp_B_startFrom (zh_gd_ok zl_ok0 zg_B_startFrom) (zh_ch_ok zc_B_startFrom) hargs hd body
theorem zs_B_lay {Γ : zk_G} {d mc ms : Nat} {as : List za_V} {μ : za_M} {post : Option za_V → za_M → Prop} (hargs : (zk_l0 as).length ≤ 6) (hd : 1 ≤ d) (body : ∀ ZZ : Nat → za_K, (∀ (cuts : List Nat) (n pc : Nat) ls st μ κ, zk_go zt_Λ zk_X0 0 (zk_RR mc ms post) (fun _ _ _ => False) (zk_CC zt Γ d mc ms) (fun _ _ _ _ _ => False) zp_B_lay cuts ZZ n pc ls st μ κ → ZZ pc ls st μ κ) → ZZ 0 (zk_ls as 6) [] μ (0, 0)) : zk_Ct zt Γ zm_B_lay d mc ms as μ post (fun _ _ => False) := zk_meth0 (M := zm_B_lay) zt_gt (List.mem_of_getElem? (i := 63) rfl) zp_B_lay (zh_gd_ok zl_ok0 zg_B_lay) (zh_ch_ok zc_B_lay) hargs hd body
theorem zs_B_join {Γ : zk_G} {d mc ms : Nat} {as : List za_V} {μ : za_M} {post : Option za_V → za_M → Prop} (hargs : (zk_l0 as).length ≤ 4) (hd : 1 ≤ d) (body : ∀ ZZ : Nat → za_K, (∀ (cuts : List Nat) (n pc : Nat) ls st μ κ, zk_go zt_Λ zk_X0 0 (zk_RR mc ms post) (fun _ _ _ => False) (zk_CC zt Γ d mc ms) (fun _ _ _ _ _ => False) zp_B_join cuts ZZ n pc ls st μ κ → ZZ pc ls st μ κ) → ZZ 0 (zk_ls as 4) [] μ (0, 0)) : zk_Ct zt Γ zm_B_join d mc ms as μ post (fun _ _ => False) := zk_meth0 (M := zm_B_join) zt_gt (List.mem_of_getElem? (i := 64) rfl) zp_B_join (zh_gd_ok zl_ok0 zg_B_join) (zh_ch_ok zc_B_join) hargs hd body
theorem zs_B_joinAt {Γ : zk_G} {d mc ms : Nat} {as : List za_V} {μ : za_M} {post : Option za_V → za_M → Prop} (hargs : (zk_l0 as).length ≤ 5) (hd : 1 ≤ d) (body : ∀ ZZ : Nat → za_K, (∀ (cuts : List Nat) (n pc : Nat) ls st μ κ, zk_go zt_Λ zk_X0 0 (zk_RR mc ms post) (fun _ _ _ => False) (zk_CC zt Γ d mc ms) (fun _ _ _ _ _ => False) zp_B_joinAt cuts ZZ n pc ls st μ κ → ZZ pc ls st μ κ) → ZZ 0 (zk_ls as 5) [] μ (0, 0)) : zk_Ct zt Γ zm_B_joinAt d mc ms as μ post (fun _ _ => False) := zk_meth0 (M := zm_B_joinAt) zt_gt (List.mem_of_getElem? (i := 65) rfl) zp_B_joinAt (zh_gd_ok zl_ok0 zg_B_joinAt) (zh_ch_ok zc_B_joinAt) hargs hd body
theorem zs_B_relationAt {Γ : zk_G} {d mc ms : Nat} {as : List za_V} {μ : za_M} {post : Option za_V → za_M → Prop} (hargs : (zk_l0 as).length ≤ 8) (hd : 1 ≤ d) (body : ∀ ZZ : Nat → za_K, (∀ (cuts : List Nat) (n pc : Nat) ls st μ κ, zk_go zt_Λ zk_X0 3 (zk_RR mc ms post) (fun _ _ _ => False) (zk_CC zt Γ d mc ms) (fun _ _ _ _ _ => False) zp_B_relationAt cuts ZZ n pc ls st μ κ → ZZ pc ls st μ κ) → ZZ 0 (zk_ls as 8) [] μ (0, 0)) : zk_Ct zt Γ zm_B_relationAt d mc ms as μ post (fun _ _ => False) := zk_meth0 (M := zm_B_relationAt) zt_gt (List.mem_of_getElem? (i := 66) rfl) zp_B_relationAt (zh_gd_ok zl_ok0 zg_B_relationAt) (zh_ch_ok zc_B_relationAt) hargs hd body
theorem zs_G_wipe {Γ : zk_G} {d mc ms : Nat} {as : List za_V} {μ : za_M} {post : Option za_V → za_M → Prop} (hargs : (zk_l0 as).length ≤ 1) (hd : 1 ≤ d) (body : ∀ ZZ : Nat → za_K, (∀ (cuts : List Nat) (n pc : Nat) ls st μ κ, zk_go zt_Λ zk_X0 0 (zk_RR mc ms post) (fun _ _ _ => False) (zk_CC zt Γ d mc ms) (fun _ _ _ _ _ => False) zp_G_wipe cuts ZZ n pc ls st μ κ → ZZ pc ls st μ κ) → ZZ 0 (zk_ls as 1) [] μ (0, 0)) : zk_Ct zt Γ zm_G_wipe d mc ms as μ post (fun _ _ => False) := zk_meth0 (M := zm_G_wipe) zt_gt (List.mem_of_getElem? (i := 67) rfl) zp_G_wipe (zh_gd_ok zl_ok1 zg_G_wipe) (zh_ch_ok zc_G_wipe) hargs hd body
theorem zs_G_hasSymbol {Γ : zk_G} {d mc ms : Nat} {as : List za_V} {μ : za_M} {post : Option za_V → za_M → Prop} (hargs : (zk_l0 as).length ≤ 2) (hd : 1 ≤ d) (body : ∀ ZZ : Nat → za_K, (∀ (cuts : List Nat) (n pc : Nat) ls st μ κ, zk_go zt_Λ zk_X0 2 (zk_RR mc ms post) (fun _ _ _ => False) (zk_CC zt Γ d mc ms) (fun _ _ _ _ _ => False) zp_G_hasSymbol cuts ZZ n pc ls st μ κ → ZZ pc ls st μ κ) → ZZ 0 (zk_ls as 2) [] μ (0, 0)) : zk_Ct zt Γ zm_G_hasSymbol d mc ms as μ post (fun _ _ => False) := zk_meth0 (M := zm_G_hasSymbol) zt_gt (List.mem_of_getElem? (i := 68) rfl) zp_G_hasSymbol (zh_gd_ok zl_ok1 zg_G_hasSymbol) (zh_ch_ok zc_G_hasSymbol) hargs hd body
theorem zs_G_canBePart {Γ : zk_G} {d mc ms : Nat} {as : List za_V} {μ : za_M} {post : Option za_V → za_M → Prop} (hargs : (zk_l0 as).length ≤ 2) (hd : 1 ≤ d) (body : ∀ ZZ : Nat → za_K, (∀ (cuts : List Nat) (n pc : Nat) ls st μ κ, zk_go zt_Λ zk_X0 2 (zk_RR mc ms post) (fun _ _ _ => False) (zk_CC zt Γ d mc ms) (fun _ _ _ _ _ => False) zp_G_canBePart cuts ZZ n pc ls st μ κ → ZZ pc ls st μ κ) → ZZ 0 (zk_ls as 2) [] μ (0, 0)) : zk_Ct zt Γ zm_G_canBePart d mc ms as μ post (fun _ _ => False) := zk_meth0 (M := zm_G_canBePart) zt_gt (List.mem_of_getElem? (i := 69) rfl) zp_G_canBePart (zh_gd_ok zl_ok1 zg_G_canBePart) (zh_ch_ok zc_G_canBePart) hargs hd body
theorem zs_G_hasProduction {Γ : zk_G} {d mc ms : Nat} {as : List za_V} {μ : za_M} {post : Option za_V → za_M → Prop} (hargs : (zk_l0 as).length ≤ 2) (hd : 1 ≤ d) (body : ∀ ZZ : Nat → za_K, (∀ (cuts : List Nat) (n pc : Nat) ls st μ κ, zk_go zt_Λ zk_X0 2 (zk_RR mc ms post) (fun _ _ _ => False) (zk_CC zt Γ d mc ms) (fun _ _ _ _ _ => False) zp_G_hasProduction cuts ZZ n pc ls st μ κ → ZZ pc ls st μ κ) → ZZ 0 (zk_ls as 2) [] μ (0, 0)) : zk_Ct zt Γ zm_G_hasProduction d mc ms as μ post (fun _ _ => False) := zk_meth0 (M := zm_G_hasProduction) zt_gt (List.mem_of_getElem? (i := 70) rfl) zp_G_hasProduction (zh_gd_ok zl_ok1 zg_G_hasProduction) (zh_ch_ok zc_G_hasProduction) hargs hd body
theorem zs_G_defines {Γ : zk_G} {d mc ms : Nat} {as : List za_V} {μ : za_M} {post : Option za_V → za_M → Prop} (hargs : (zk_l0 as).length ≤ 3) (hd : 1 ≤ d) (body : ∀ ZZ : Nat → za_K, (∀ (cuts : List Nat) (n pc : Nat) ls st μ κ, zk_go zt_Λ zk_X0 2 (zk_RR mc ms post) (fun _ _ _ => False) (zk_CC zt Γ d mc ms) (fun _ _ _ _ _ => False) zp_G_defines cuts ZZ n pc ls st μ κ → ZZ pc ls st μ κ) → ZZ 0 (zk_ls as 3) [] μ (0, 0)) : zk_Ct zt Γ zm_G_defines d mc ms as μ post (fun _ _ => False) := zk_meth0 (M := zm_G_defines) zt_gt (List.mem_of_getElem? (i := 71) rfl) zp_G_defines (zh_gd_ok zl_ok1 zg_G_defines) (zh_ch_ok zc_G_defines) hargs hd body
theorem zs_G_isGiven {Γ : zk_G} {d mc ms : Nat} {as : List za_V} {μ : za_M} {post : Option za_V → za_M → Prop} (hargs : (zk_l0 as).length ≤ 3) (hd : 1 ≤ d) (body : ∀ ZZ : Nat → za_K, (∀ (cuts : List Nat) (n pc : Nat) ls st μ κ, zk_go zt_Λ zk_X0 2 (zk_RR mc ms post) (fun _ _ _ => False) (zk_CC zt Γ d mc ms) (fun _ _ _ _ _ => False) zp_G_isGiven cuts ZZ n pc ls st μ κ → ZZ pc ls st μ κ) → ZZ 0 (zk_ls as 3) [] μ (0, 0)) : zk_Ct zt Γ zm_G_isGiven d mc ms as μ post (fun _ _ => False) := zk_meth0 (M := zm_G_isGiven) zt_gt (List.mem_of_getElem? (i := 72) rfl) zp_G_isGiven (zh_gd_ok zl_ok1 zg_G_isGiven) (zh_ch_ok zc_G_isGiven) hargs hd body
theorem zs_G_addSymbol {Γ : zk_G} {d mc ms : Nat} {as : List za_V} {μ : za_M} {post : Option za_V → za_M → Prop} (hargs : (zk_l0 as).length ≤ 3) (hd : 1 ≤ d) (body : ∀ ZZ : Nat → za_K, (∀ (cuts : List Nat) (n pc : Nat) ls st μ κ, zk_go zt_Λ zk_X0 1 (zk_RR mc ms post) (fun _ _ _ => False) (zk_CC zt Γ d mc ms) (fun _ _ _ _ _ => False) zp_G_addSymbol cuts ZZ n pc ls st μ κ → ZZ pc ls st μ κ) → ZZ 0 (zk_ls as 3) [] μ (0, 0)) : zk_Ct zt Γ zm_G_addSymbol d mc ms as μ post (fun _ _ => False) := zk_meth0 (M := zm_G_addSymbol) zt_gt (List.mem_of_getElem? (i := 73) rfl) zp_G_addSymbol (zh_gd_ok zl_ok1 zg_G_addSymbol) (zh_ch_ok zc_G_addSymbol) hargs hd body
theorem zs_G_addProduction {Γ : zk_G} {d mc ms : Nat} {as : List za_V} {μ : za_M} {post : Option za_V → za_M → Prop} (hargs : (zk_l0 as).length ≤ 7) (hd : 1 ≤ d) (body : ∀ ZZ : Nat → za_K, (∀ (cuts : List Nat) (n pc : Nat) ls st μ κ, zk_go zt_Λ zk_X0 1 (zk_RR mc ms post) (fun _ _ _ => False) (zk_CC zt Γ d mc ms) (fun _ _ _ _ _ => False) zp_G_addProduction cuts ZZ n pc ls st μ κ → ZZ pc ls st μ κ) → ZZ 0 (zk_ls as 7) [] μ (0, 0)) : zk_Ct zt Γ zm_G_addProduction d mc ms as μ post (fun _ _ => False) := zk_meth0 (M := zm_G_addProduction) zt_gt (List.mem_of_getElem? (i := 74) rfl) zp_G_addProduction (zh_gd_ok zl_ok1 zg_G_addProduction) (zh_ch_ok zc_G_addProduction) hargs hd body
theorem zs_G_addPart {Γ : zk_G} {d mc ms : Nat} {as : List za_V} {μ : za_M} {post : Option za_V → za_M → Prop} (hargs : (zk_l0 as).length ≤ 4) (hd : 1 ≤ d) (body : ∀ ZZ : Nat → za_K, (∀ (cuts : List Nat) (n pc : Nat) ls st μ κ, zk_go zt_Λ zk_X0 0 (zk_RR mc ms post) (fun _ _ _ => False) (zk_CC zt Γ d mc ms) (fun _ _ _ _ _ => False) zp_G_addPart cuts ZZ n pc ls st μ κ → ZZ pc ls st μ κ) → ZZ 0 (zk_ls as 4) [] μ (0, 0)) : zk_Ct zt Γ zm_G_addPart d mc ms as μ post (fun _ _ => False) := zk_meth0 (M := zm_G_addPart) zt_gt (List.mem_of_getElem? (i := 75) rfl) zp_G_addPart (zh_gd_ok zl_ok1 zg_G_addPart) (zh_ch_ok zc_G_addPart) hargs hd body
theorem zs_G_addDependence {Γ : zk_G} {d mc ms : Nat} {as : List za_V} {μ : za_M} {post : Option za_V → za_M → Prop} (hargs : (zk_l0 as).length ≤ 4) (hd : 1 ≤ d) (body : ∀ ZZ : Nat → za_K, (∀ (cuts : List Nat) (n pc : Nat) ls st μ κ, zk_go zt_Λ zk_X0 2 (zk_RR mc ms post) (fun _ _ _ => False) (zk_CC zt Γ d mc ms) (fun _ _ _ _ _ => False) zp_G_addDependence cuts ZZ n pc ls st μ κ → ZZ pc ls st μ κ) → ZZ 0 (zk_ls as 4) [] μ (0, 0)) : zk_Ct zt Γ zm_G_addDependence d mc ms as μ post (fun _ _ => False) := zk_meth0 (M := zm_G_addDependence) zt_gt (List.mem_of_getElem? (i := 76) rfl) zp_G_addDependence (zh_gd_ok zl_ok1 zg_G_addDependence) (zh_ch_ok zc_G_addDependence) hargs hd body
theorem zs_G_all {Γ : zk_G} {d mc ms : Nat} {as : List za_V} {μ : za_M} {post : Option za_V → za_M → Prop} (hargs : (zk_l0 as).length ≤ 2) (hd : 1 ≤ d) (body : ∀ ZZ : Nat → za_K, (∀ (cuts : List Nat) (n pc : Nat) ls st μ κ, zk_go zt_Λ zk_X0 1 (zk_RR mc ms post) (fun _ _ _ => False) (zk_CC zt Γ d mc ms) (fun _ _ _ _ _ => False) zp_G_all cuts ZZ n pc ls st μ κ → ZZ pc ls st μ κ) → ZZ 0 (zk_ls as 2) [] μ (0, 0)) : zk_Ct zt Γ zm_G_all d mc ms as μ post (fun _ _ => False) := zk_meth0 (M := zm_G_all) zt_gt (List.mem_of_getElem? (i := 77) rfl) zp_G_all (zh_gd_ok zl_ok1 zg_G_all) (zh_ch_ok zc_G_all) hargs hd body
theorem zs_G_up {Γ : zk_G} {d mc ms : Nat} {as : List za_V} {μ : za_M} {post : Option za_V → za_M → Prop} (hargs : (zk_l0 as).length ≤ 2) (hd : 1 ≤ d) (body : ∀ ZZ : Nat → za_K, (∀ (cuts : List Nat) (n pc : Nat) ls st μ κ, zk_go zt_Λ zk_X0 1 (zk_RR mc ms post) (fun _ _ _ => False) (zk_CC zt Γ d mc ms) (fun _ _ _ _ _ => False) zp_G_up cuts ZZ n pc ls st μ κ → ZZ pc ls st μ κ) → ZZ 0 (zk_ls as 2) [] μ (0, 0)) : zk_Ct zt Γ zm_G_up d mc ms as μ post (fun _ _ => False) := zk_meth0 (M := zm_G_up) zt_gt (List.mem_of_getElem? (i := 78) rfl) zp_G_up (zh_gd_ok zl_ok1 zg_G_up) (zh_ch_ok zc_G_up) hargs hd body
theorem zs_G_placesOf {Γ : zk_G} {d mc ms : Nat} {as : List za_V} {μ : za_M} {post : Option za_V → za_M → Prop} (hargs : (zk_l0 as).length ≤ 5) (hd : 1 ≤ d) (body : ∀ ZZ : Nat → za_K, (∀ (cuts : List Nat) (n pc : Nat) ls st μ κ, zk_go zt_Λ zk_X0 1 (zk_RR mc ms post) (fun _ _ _ => False) (zk_CC zt Γ d mc ms) (fun _ _ _ _ _ => False) zp_G_placesOf cuts ZZ n pc ls st μ κ → ZZ pc ls st μ κ) → ZZ 0 (zk_ls as 5) [] μ (0, 0)) : zk_Ct zt Γ zm_G_placesOf d mc ms as μ post (fun _ _ => False) := zk_meth0 (M := zm_G_placesOf) zt_gt (List.mem_of_getElem? (i := 79) rfl) zp_G_placesOf (zh_gd_ok zl_ok1 zg_G_placesOf) (zh_ch_ok zc_G_placesOf) hargs hd body
theorem zs_N_find {Γ : zk_G} {d mc ms : Nat} {as : List za_V} {μ : za_M} {post : Option za_V → za_M → Prop} (hargs : (zk_l0 as).length ≤ 5) (hd : 1 ≤ d) (body : ∀ ZZ : Nat → za_K, (∀ (cuts : List Nat) (n pc : Nat) ls st μ κ, zk_go zt_Λ zk_X0 0 (zk_RR mc ms post) (fun _ _ _ => False) (zk_CC zt Γ d mc ms) (fun _ _ _ _ _ => False) zp_N_find cuts ZZ n pc ls st μ κ → ZZ pc ls st μ κ) → ZZ 0 (zk_ls as 5) [] μ (0, 0)) : zk_Ct zt Γ zm_N_find d mc ms as μ post (fun _ _ => False) := zk_meth0 (M := zm_N_find) zt_gt (List.mem_of_getElem? (i := 80) rfl) zp_N_find (zh_gd_ok zl_ok2 zg_N_find) (zh_ch_ok zc_N_find) hargs hd body
theorem zs_N_forget {Γ : zk_G} {d mc ms : Nat} {as : List za_V} {μ : za_M} {post : Option za_V → za_M → Prop} (hargs : (zk_l0 as).length ≤ 3) (hd : 1 ≤ d) (body : ∀ ZZ : Nat → za_K, (∀ (cuts : List Nat) (n pc : Nat) ls st μ κ, zk_go zt_Λ zk_X0 0 (zk_RR mc ms post) (fun _ _ _ => False) (zk_CC zt Γ d mc ms) (fun _ _ _ _ _ => False) zp_N_forget cuts ZZ n pc ls st μ κ → ZZ pc ls st μ κ) → ZZ 0 (zk_ls as 3) [] μ (0, 0)) : zk_Ct zt Γ zm_N_forget d mc ms as μ post (fun _ _ => False) := zk_meth0 (M := zm_N_forget) zt_gt (List.mem_of_getElem? (i := 81) rfl) zp_N_forget (zh_gd_ok zl_ok2 zg_N_forget) (zh_ch_ok zc_N_forget) hargs hd body
theorem zs_N_choose {Γ : zk_G} {d mc ms : Nat} {as : List za_V} {μ : za_M} {post : Option za_V → za_M → Prop} (hargs : (zk_l0 as).length ≤ 6) (hd : 1 ≤ d) (body : ∀ ZZ : Nat → za_K, (∀ (cuts : List Nat) (n pc : Nat) ls st μ κ, zk_go zt_Λ zk_X0 0 (zk_RR mc ms post) (fun _ _ _ => False) (zk_CC zt Γ d mc ms) (fun _ _ _ _ _ => False) zp_N_choose cuts ZZ n pc ls st μ κ → ZZ pc ls st μ κ) → ZZ 0 (zk_ls as 6) [] μ (0, 0)) : zk_Ct zt Γ zm_N_choose d mc ms as μ post (fun _ _ => False) := zk_meth0 (M := zm_N_choose) zt_gt (List.mem_of_getElem? (i := 82) rfl) zp_N_choose (zh_gd_ok zl_ok2 zg_N_choose) (zh_ch_ok zc_N_choose) hargs hd body
theorem zs_N_drop {Γ : zk_G} {d mc ms : Nat} {as : List za_V} {μ : za_M} {post : Option za_V → za_M → Prop} (hargs : (zk_l0 as).length ≤ 12) (hd : 1 ≤ d) (body : ∀ ZZ : Nat → za_K, (∀ (cuts : List Nat) (n pc : Nat) ls st μ κ, zk_go zt_Λ zk_X0 2 (zk_RR mc ms post) (fun _ _ _ => False) (zk_CC zt Γ d mc ms) (fun _ _ _ _ _ => False) zp_N_drop cuts ZZ n pc ls st μ κ → ZZ pc ls st μ κ) → ZZ 0 (zk_ls as 12) [] μ (0, 0)) : zk_Ct zt Γ zm_N_drop d mc ms as μ post (fun _ _ => False) := zk_meth0 (M := zm_N_drop) zt_gt (List.mem_of_getElem? (i := 83) rfl) zp_N_drop (zh_gd_ok zl_ok2 zg_N_drop) (zh_ch_ok zc_N_drop) hargs hd body
theorem zs_N_placesBefore {Γ : zk_G} {d mc ms : Nat} {as : List za_V} {μ : za_M} {post : Option za_V → za_M → Prop} (hargs : (zk_l0 as).length ≤ 2) (hd : 1 ≤ d) (body : ∀ ZZ : Nat → za_K, (∀ (cuts : List Nat) (n pc : Nat) ls st μ κ, zk_go zt_Λ zk_X0 1 (zk_RR mc ms post) (fun _ _ _ => False) (zk_CC zt Γ d mc ms) (fun _ _ _ _ _ => False) zp_N_placesBefore cuts ZZ n pc ls st μ κ → ZZ pc ls st μ κ) → ZZ 0 (zk_ls as 2) [] μ (0, 0)) : zk_Ct zt Γ zm_N_placesBefore d mc ms as μ post (fun _ _ => False) := zk_meth0 (M := zm_N_placesBefore) zt_gt (List.mem_of_getElem? (i := 84) rfl) zp_N_placesBefore (zh_gd_ok zl_ok2 zg_N_placesBefore) (zh_ch_ok zc_N_placesBefore) hargs hd body
theorem zs_N_give {Γ : zk_G} {d mc ms : Nat} {as : List za_V} {μ : za_M} {post : Option za_V → za_M → Prop} (hargs : (zk_l0 as).length ≤ 6) (hd : 1 ≤ d) (body : ∀ ZZ : Nat → za_K, (∀ (cuts : List Nat) (n pc : Nat) ls st μ κ, zk_go zt_Λ zk_X0 2 (zk_RR mc ms post) (fun _ _ _ => False) (zk_CC zt Γ d mc ms) (fun _ _ _ _ _ => False) zp_N_give cuts ZZ n pc ls st μ κ → ZZ pc ls st μ κ) → ZZ 0 (zk_ls as 6) [] μ (0, 0)) : zk_Ct zt Γ zm_N_give d mc ms as μ post (fun _ _ => False) := zk_meth0 (M := zm_N_give) zt_gt (List.mem_of_getElem? (i := 85) rfl) zp_N_give (zh_gd_ok zl_ok2 zg_N_give) (zh_ch_ok zc_N_give) hargs hd body
theorem zs_N_isWhole {Γ : zk_G} {d mc ms : Nat} {as : List za_V} {μ : za_M} {post : Option za_V → za_M → Prop} (hargs : (zk_l0 as).length ≤ 3) (hd : 1 ≤ d) (body : ∀ ZZ : Nat → za_K, (∀ (cuts : List Nat) (n pc : Nat) ls st μ κ, zk_go zt_Λ zk_X0 2 (zk_RR mc ms post) (fun _ _ _ => False) (zk_CC zt Γ d mc ms) (fun _ _ _ _ _ => False) zp_N_isWhole cuts ZZ n pc ls st μ κ → ZZ pc ls st μ κ) → ZZ 0 (zk_ls as 3) [] μ (0, 0)) : zk_Ct zt Γ zm_N_isWhole d mc ms as μ post (fun _ _ => False) := zk_meth0 (M := zm_N_isWhole) zt_gt (List.mem_of_getElem? (i := 86) rfl) zp_N_isWhole (zh_gd_ok zl_ok2 zg_N_isWhole) (zh_ch_ok zc_N_isWhole) hargs hd body
theorem zs_R_find {Γ : zk_G} {d mc ms : Nat} {as : List za_V} {μ : za_M} {post : Option za_V → za_M → Prop} (hargs : (zk_l0 as).length ≤ 4) (hd : 1 ≤ d) (body : ∀ ZZ : Nat → za_K, (∀ (cuts : List Nat) (n pc : Nat) ls st μ κ, zk_go zt_Λ zk_X0 0 (zk_RR mc ms post) (fun _ _ _ => False) (zk_CC zt Γ d mc ms) (fun _ _ _ _ _ => False) zp_R_find cuts ZZ n pc ls st μ κ → ZZ pc ls st μ κ) → ZZ 0 (zk_ls as 4) [] μ (0, 0)) : zk_Ct zt Γ zm_R_find d mc ms as μ post (fun _ _ => False) := zk_meth0 (M := zm_R_find) zt_gt (List.mem_of_getElem? (i := 87) rfl) zp_R_find (zh_gd_ok zl_ok3 zg_R_find) (zh_ch_ok zc_R_find) hargs hd body
theorem zs_R_forget {Γ : zk_G} {d mc ms : Nat} {as : List za_V} {μ : za_M} {post : Option za_V → za_M → Prop} (hargs : (zk_l0 as).length ≤ 2) (hd : 1 ≤ d) (body : ∀ ZZ : Nat → za_K, (∀ (cuts : List Nat) (n pc : Nat) ls st μ κ, zk_go zt_Λ zk_X0 0 (zk_RR mc ms post) (fun _ _ _ => False) (zk_CC zt Γ d mc ms) (fun _ _ _ _ _ => False) zp_R_forget cuts ZZ n pc ls st μ κ → ZZ pc ls st μ κ) → ZZ 0 (zk_ls as 2) [] μ (0, 0)) : zk_Ct zt Γ zm_R_forget d mc ms as μ post (fun _ _ => False) := zk_meth0 (M := zm_R_forget) zt_gt (List.mem_of_getElem? (i := 88) rfl) zp_R_forget (zh_gd_ok zl_ok3 zg_R_forget) (zh_ch_ok zc_R_forget) hargs hd body
theorem zs_R_growUpwards {Γ : zk_G} {d mc ms : Nat} {as : List za_V} {μ : za_M} {post : Option za_V → za_M → Prop} (hargs : (zk_l0 as).length ≤ 7) (hd : 1 ≤ d) (body : ∀ ZZ : Nat → za_K, (∀ (cuts : List Nat) (n pc : Nat) ls st μ κ, zk_go zt_Λ zk_X0 2 (zk_RR mc ms post) (fun _ _ _ => False) (zk_CC zt Γ d mc ms) (fun _ _ _ _ _ => False) zp_R_growUpwards cuts ZZ n pc ls st μ κ → ZZ pc ls st μ κ) → ZZ 0 (zk_ls as 7) [] μ (0, 0)) : zk_Ct zt Γ zm_R_growUpwards d mc ms as μ post (fun _ _ => False) := zk_meth0 (M := zm_R_growUpwards) zt_gt (List.mem_of_getElem? (i := 89) rfl) zp_R_growUpwards (zh_gd_ok zl_ok3 zg_R_growUpwards) (zh_ch_ok zc_R_growUpwards) hargs hd body
theorem zs_R_growFromAbove {Γ : zk_G} {d mc ms : Nat} {as : List za_V} {μ : za_M} {post : Option za_V → za_M → Prop} (hargs : (zk_l0 as).length ≤ 8) (hd : 1 ≤ d) (body : ∀ ZZ : Nat → za_K, (∀ (cuts : List Nat) (n pc : Nat) ls st μ κ, zk_go zt_Λ zk_X0 2 (zk_RR mc ms post) (fun _ _ _ => False) (zk_CC zt Γ d mc ms) (fun _ _ _ _ _ => False) zp_R_growFromAbove cuts ZZ n pc ls st μ κ → ZZ pc ls st μ κ) → ZZ 0 (zk_ls as 8) [] μ (0, 0)) : zk_Ct zt Γ zm_R_growFromAbove d mc ms as μ post (fun _ _ => False) := zk_meth0 (M := zm_R_growFromAbove) zt_gt (List.mem_of_getElem? (i := 90) rfl) zp_R_growFromAbove (zh_gd_ok zl_ok3 zg_R_growFromAbove) (zh_ch_ok zc_R_growFromAbove) hargs hd body
theorem zs_R_lookForCircles {Γ : zk_G} {d mc ms : Nat} {as : List za_V} {μ : za_M} {post : Option za_V → za_M → Prop} (hargs : (zk_l0 as).length ≤ 3) (hd : 1 ≤ d) (body : ∀ ZZ : Nat → za_K, (∀ (cuts : List Nat) (n pc : Nat) ls st μ κ, zk_go zt_Λ zk_X0 0 (zk_RR mc ms post) (fun _ _ _ => False) (zk_CC zt Γ d mc ms) (fun _ _ _ _ _ => False) zp_R_lookForCircles cuts ZZ n pc ls st μ κ → ZZ pc ls st μ κ) → ZZ 0 (zk_ls as 3) [] μ (0, 0)) : zk_Ct zt Γ zm_R_lookForCircles d mc ms as μ post (fun _ _ => False) := zk_meth0 (M := zm_R_lookForCircles) zt_gt (List.mem_of_getElem? (i := 91) rfl) zp_R_lookForCircles (zh_gd_ok zl_ok3 zg_R_lookForCircles) (zh_ch_ok zc_R_lookForCircles) hargs hd body
theorem zs_R_allPartsExist {Γ : zk_G} {d mc ms : Nat} {as : List za_V} {μ : za_M} {post : Option za_V → za_M → Prop} (hargs : (zk_l0 as).length ≤ 4) (hd : 1 ≤ d) (body : ∀ ZZ : Nat → za_K, (∀ (cuts : List Nat) (n pc : Nat) ls st μ κ, zk_go zt_Λ zk_X0 2 (zk_RR mc ms post) (fun _ _ _ => False) (zk_CC zt Γ d mc ms) (fun _ _ _ _ _ => False) zp_R_allPartsExist cuts ZZ n pc ls st μ κ → ZZ pc ls st μ κ) → ZZ 0 (zk_ls as 4) [] μ (0, 0)) : zk_Ct zt Γ zm_R_allPartsExist d mc ms as μ post (fun _ _ => False) := zk_meth0 (M := zm_R_allPartsExist) zt_gt (List.mem_of_getElem? (i := 92) rfl) zp_R_allPartsExist (zh_gd_ok zl_ok3 zg_R_allPartsExist) (zh_ch_ok zc_R_allPartsExist) hargs hd body
theorem zs_R_startWithHead {Γ : zk_G} {d mc ms : Nat} {as : List za_V} {μ : za_M} {post : Option za_V → za_M → Prop} (hargs : (zk_l0 as).length ≤ 3) (hd : 1 ≤ d) (body : ∀ ZZ : Nat → za_K, (∀ (cuts : List Nat) (n pc : Nat) ls st μ κ, zk_go zt_Λ zk_X0 0 (zk_RR mc ms post) (fun _ _ _ => False) (zk_CC zt Γ d mc ms) (fun _ _ _ _ _ => False) zp_R_startWithHead cuts ZZ n pc ls st μ κ → ZZ pc ls st μ κ) → ZZ 0 (zk_ls as 3) [] μ (0, 0)) : zk_Ct zt Γ zm_R_startWithHead d mc ms as μ post (fun _ _ => False) := zk_meth0 (M := zm_R_startWithHead) zt_gt (List.mem_of_getElem? (i := 93) rfl) zp_R_startWithHead (zh_gd_ok zl_ok3 zg_R_startWithHead) (zh_ch_ok zc_R_startWithHead) hargs hd body
theorem zs_R_joinParts {Γ : zk_G} {d mc ms : Nat} {as : List za_V} {μ : za_M} {post : Option za_V → za_M → Prop} (hargs : (zk_l0 as).length ≤ 5) (hd : 1 ≤ d) (body : ∀ ZZ : Nat → za_K, (∀ (cuts : List Nat) (n pc : Nat) ls st μ κ, zk_go zt_Λ zk_X0 0 (zk_RR mc ms post) (fun _ _ _ => False) (zk_CC zt Γ d mc ms) (fun _ _ _ _ _ => False) zp_R_joinParts cuts ZZ n pc ls st μ κ → ZZ pc ls st μ κ) → ZZ 0 (zk_ls as 5) [] μ (0, 0)) : zk_Ct zt Γ zm_R_joinParts d mc ms as μ post (fun _ _ => False) := zk_meth0 (M := zm_R_joinParts) zt_gt (List.mem_of_getElem? (i := 94) rfl) zp_R_joinParts (zh_gd_ok zl_ok3 zg_R_joinParts) (zh_ch_ok zc_R_joinParts) hargs hd body
theorem zs_T_find {Γ : zk_G} {d mc ms : Nat} {as : List za_V} {μ : za_M} {post : Option za_V → za_M → Prop} (hargs : (zk_l0 as).length ≤ 5) (hd : 1 ≤ d) (body : ∀ ZZ : Nat → za_K, (∀ (cuts : List Nat) (n pc : Nat) ls st μ κ, zk_go zt_Λ zk_X0 0 (zk_RR mc ms post) (fun _ _ _ => False) (zk_CC zt Γ d mc ms) (fun _ _ _ _ _ => False) zp_T_find cuts ZZ n pc ls st μ κ → ZZ pc ls st μ κ) → ZZ 0 (zk_ls as 5) [] μ (0, 0)) : zk_Ct zt Γ zm_T_find d mc ms as μ post (fun _ _ => False) := zk_meth0 (M := zm_T_find) zt_gt (List.mem_of_getElem? (i := 95) rfl) zp_T_find (zh_gd_ok zl_ok4 zg_T_find) (zh_ch_ok zc_T_find) hargs hd body
theorem zs_T_forget {Γ : zk_G} {d mc ms : Nat} {as : List za_V} {μ : za_M} {post : Option za_V → za_M → Prop} (hargs : (zk_l0 as).length ≤ 2) (hd : 1 ≤ d) (body : ∀ ZZ : Nat → za_K, (∀ (cuts : List Nat) (n pc : Nat) ls st μ κ, zk_go zt_Λ zk_X0 0 (zk_RR mc ms post) (fun _ _ _ => False) (zk_CC zt Γ d mc ms) (fun _ _ _ _ _ => False) zp_T_forget cuts ZZ n pc ls st μ κ → ZZ pc ls st μ κ) → ZZ 0 (zk_ls as 2) [] μ (0, 0)) : zk_Ct zt Γ zm_T_forget d mc ms as μ post (fun _ _ => False) := zk_meth0 (M := zm_T_forget) zt_gt (List.mem_of_getElem? (i := 96) rfl) zp_T_forget (zh_gd_ok zl_ok4 zg_T_forget) (zh_ch_ok zc_T_forget) hargs hd body
theorem zs_T_beginRound {Γ : zk_G} {d mc ms : Nat} {as : List za_V} {μ : za_M} {post : Option za_V → za_M → Prop} (hargs : (zk_l0 as).length ≤ 3) (hd : 1 ≤ d) (body : ∀ ZZ : Nat → za_K, (∀ (cuts : List Nat) (n pc : Nat) ls st μ κ, zk_go zt_Λ zk_X0 2 (zk_RR mc ms post) (fun _ _ _ => False) (zk_CC zt Γ d mc ms) (fun _ _ _ _ _ => False) zp_T_beginRound cuts ZZ n pc ls st μ κ → ZZ pc ls st μ κ) → ZZ 0 (zk_ls as 3) [] μ (0, 0)) : zk_Ct zt Γ zm_T_beginRound d mc ms as μ post (fun _ _ => False) := zk_meth0 (M := zm_T_beginRound) zt_gt (List.mem_of_getElem? (i := 97) rfl) zp_T_beginRound (zh_gd_ok zl_ok4 zg_T_beginRound) (zh_ch_ok zc_T_beginRound) hargs hd body
theorem zs_T_combine {Γ : zk_G} {d mc ms : Nat} {as : List za_V} {μ : za_M} {post : Option za_V → za_M → Prop} (hargs : (zk_l0 as).length ≤ 9) (hd : 1 ≤ d) (body : ∀ ZZ : Nat → za_K, (∀ (cuts : List Nat) (n pc : Nat) ls st μ κ, zk_go zt_Λ zk_X0 0 (zk_RR mc ms post) (fun _ _ _ => False) (zk_CC zt Γ d mc ms) (fun _ _ _ _ _ => False) zp_T_combine cuts ZZ n pc ls st μ κ → ZZ pc ls st μ κ) → ZZ 0 (zk_ls as 9) [] μ (0, 0)) : zk_Ct zt Γ zm_T_combine d mc ms as μ post (fun _ _ => False) := zk_meth0 (M := zm_T_combine) zt_gt (List.mem_of_getElem? (i := 98) rfl) zp_T_combine (zh_gd_ok zl_ok4 zg_T_combine) (zh_ch_ok zc_T_combine) hargs hd body
theorem zs_T_keep {Γ : zk_G} {d mc ms : Nat} {as : List za_V} {μ : za_M} {post : Option za_V → za_M → Prop} (hargs : (zk_l0 as).length ≤ 6) (hd : 1 ≤ d) (body : ∀ ZZ : Nat → za_K, (∀ (cuts : List Nat) (n pc : Nat) ls st μ κ, zk_go zt_Λ zk_X0 0 (zk_RR mc ms post) (fun _ _ _ => False) (zk_CC zt Γ d mc ms) (fun _ _ _ _ _ => False) zp_T_keep cuts ZZ n pc ls st μ κ → ZZ pc ls st μ κ) → ZZ 0 (zk_ls as 6) [] μ (0, 0)) : zk_Ct zt Γ zm_T_keep d mc ms as μ post (fun _ _ => False) := zk_meth0 (M := zm_T_keep) zt_gt (List.mem_of_getElem? (i := 99) rfl) zp_T_keep (zh_gd_ok zl_ok4 zg_T_keep) (zh_ch_ok zc_T_keep) hargs hd body
end
section
/-! memory: rows, frames, counters -/
/-- nothing but the cells of S has changed -/
def zq_fr (S : Nat → Nat → Prop) (μ μ' : za_M) : Prop := (∀ b j, ¬ S b j → μ'.1 b j = μ.1 b j) ∧ ∀ b j, ¬ S b j → μ'.2 b j = μ.2 b j
theorem zq_rf {S : Nat → Nat → Prop} {μ : za_M} : zq_fr S μ μ := ⟨fun _ _ _ => rfl, fun _ _ _ => rfl⟩
theorem zq_tr {S : Nat → Nat → Prop} {a b c : za_M} (h1 : zq_fr S a b) (h2 : zq_fr S b c) : zq_fr S a c := ⟨fun x y h => (h2.1 x y h).trans (h1.1 x y h), fun x y h => (h2.2 x y h).trans (h1.2 x y h)⟩
theorem zq_up {S S' : Nat → Nat → Prop} {a b : za_M} (h : zq_fr S a b) (hS : ∀ x y, S x y → S' x y) : zq_fr S' a b := ⟨fun x y q => h.1 x y (fun z => q (hS x y z)), fun x y q => h.2 x y (fun z => q (hS x y z))⟩
theorem zq_u {S : Nat → Nat → Prop} {a b : za_M} (h : zq_fr S a b) {p j i : Nat} {x : Int32} (hS : S p j) : zq_fr S a (za_u b.1 p j i x, b.2) := by
  refine ⟨fun u v q => ?_, h.2⟩
  show za_u b.1 p j i x u v = _
  rw [za_u_ne (fun z => q (by rw [z.1, z.2]; exact hS))]
  exact h.1 u v q
theorem zq_uL {S : Nat → Nat → Prop} {a b : za_M} (h : zq_fr S a b) {p j i : Nat} {x : Int64} (hS : S p j) : zq_fr S a (b.1, za_u b.2 p j i x) := by
  refine ⟨h.1, fun u v q => ?_⟩
  show za_u b.2 p j i x u v = _
  rw [za_u_ne (fun z => q (by rw [z.1, z.2]; exact hS))]
  exact h.2 u v q
theorem za_u_same {α : Type} (f : Nat → Nat → Nat → α) (b j i : Nat) (x : α) : za_u f b j i x b j i = x := by simp [za_u]
theorem za_u_i {α : Type} {f : Nat → Nat → Nat → α} {b j i i' : Nat} {x : α} (h : i' ≠ i) : za_u f b j i x b j i' = f b j i' := by simp [za_u, h]
theorem za_u_b {α : Type} {f : Nat → Nat → Nat → α} {b j i b' j' : Nat} {x : α} (h : b' ≠ b) : za_u f b j i x b' j' = f b' j' := za_u_ne (fun z => h z.1)
theorem zn_lt {k n : Nat} (h : k < n) (hn : n < 2 ^ 31) : ¬ nI n ≤ nI k := nI_ge h hn
theorem zn_cl {k : Nat} (h : k < 2 ^ 31) : (nI k).toNatClampNeg = k := nI_clamp h
theorem zn_in {k n : Nat} (h : k < n) (hn : n < 2 ^ 31) : vp_in (nI k) n := vp_in_nI h hn
/-- a loop that counts -/
theorem zn_for {σ : Type} {P I : Nat → σ → Prop} {N : Nat} (hx : ∀ s, I N s → P N s) (hs : ∀ k s, k < N → I k s → (∀ s', I (k + 1) s' → P (k + 1) s') → P k s) : ∀ k s, k ≤ N → I k s → P k s := by
  have key : ∀ n k s, k + n = N → I k s → P k s := by
    intro n
    induction n with
    | zero =>
      intro k s hk h
      have hk : k = N := by omega
      subst hk
      exact hx s h
    | succ n ih =>
      intro k s hk h
      exact hs k s (by omega) h (fun s' h' => ih (k + 1) s' (by omega) h')
  intro k s hk h
  exact key (N - k) k s (by omega) h
/-- a loop by a measure -/
theorem zn_wh {σ : Type} {P I : σ → Prop} (m : σ → Nat) (hs : ∀ s, I s → (∀ s', I s' → m s' < m s → P s') → P s) : ∀ s, I s → P s := by
  have key : ∀ n s, m s < n → I s → P s := by
    intro n
    induction n with
    | zero => intro s h; omega
    | succ n ih => intro s h hI; exact hs s hI (fun s' h1 h2 => ih s' (by omega) h1)
  intro s h
  exact key (m s + 1) s (Nat.lt_succ_self _) h
theorem zn_8 (o : Nat) : (8 : Int32) * nI o = nI (8 * o) := pk_mul 8 o
theorem zn_c32 : (32 : Int32).toNatClampNeg = 32 := by decide
theorem zn_c0 : (0 : Int32).toNatClampNeg = 0 := by decide
theorem zn_s {k : Nat} {x : Int32} (h : x = nI k) : x + 1 = nI (k + 1) := by rw [h]; exact nI_1 k
theorem zn_ge {k n : Nat} {x y : Int32} (hx : x = nI k) (hy : y = nI n) (h : k < n) (hn : n < 2 ^ 31) : ¬ y ≤ x := by rw [hx, hy]; exact nI_ge h hn
theorem zn_i {k n : Nat} {x : Int32} (hx : x = nI k) (h : k < n) (hn : n < 2 ^ 31) : vp_in x n := by rw [hx]; exact vp_in_nI h hn
theorem zn_c {k : Nat} {x : Int32} (hx : x = nI k) (h : k < 2 ^ 31) : x.toNatClampNeg = k := by rw [hx]; exact nI_clamp h
end
section
theorem ct_A_firstBits {Γ : zk_G} {d : Nat} {n : Int32} {μ : za_M} (hd : 1 ≤ d) : zk_Ct zt Γ zm_A_firstBits d 0 0 [za_i n] μ (fun r μ' => r = some (za_i ((1 <<< (n &&& 31)) - 1)) ∧ μ' = μ) (fun _ _ => False) := by
  refine zs_A_firstBits (Nat.le_of_ble_eq_true rfl) hd (fun ZZ run => ?_)
  refine run [] 10 0 _ _ _ _ ?_
  exact ⟨rfl, Or.inl rfl, Nat.le_refl _, Nat.le_refl _, rfl, rfl⟩
theorem ct_A_rowOf {Γ : zk_G} {d : Nat} {n : Int32} {r : Int64} {μ : za_M} (hd : 1 ≤ d) : zk_Ct zt Γ zm_A_rowOf d 0 0 [za_l r, za_i n] μ (fun v μ' => v = some (za_i ((r.toUInt64 >>> ((8 * n).toInt64.toUInt64 &&& Int64.toUInt64 63)).toInt64.toInt32 &&& 255)) ∧ μ' = μ) (fun _ _ => False) := by
  refine zs_A_rowOf (Nat.le_of_ble_eq_true rfl) hd (fun ZZ run => ?_)
  refine run [] 20 0 _ _ _ _ ?_
  exact ⟨rfl, Or.inl rfl, Nat.le_refl _, Nat.le_refl _, rfl, rfl⟩
theorem ct_A_hasBit {Γ : zk_G} {d : Nat} {x i : Int32} {μ : za_M} (hd : 1 ≤ d) : zk_Ct zt Γ zm_A_hasBit d 0 0 [za_i x, za_i i] μ (fun v μ' => v = some (za_i (if ((x.toUInt32 >>> (i.toUInt32 &&& Int32.toUInt32 31)).toInt32 &&& 1) = 0 then 0 else 1)) ∧ μ' = μ) (fun _ _ => False) := by
  refine zs_A_hasBit (Nat.le_of_ble_eq_true rfl) hd (fun ZZ run => ?_)
  refine run [] 20 0 _ _ _ _ ?_
  refine ⟨fun h => ?_, fun h => ?_⟩
  · exact ⟨rfl, Or.inr ⟨rfl, Or.inl rfl⟩, Nat.le_refl _, Nat.le_refl _, by rw [if_pos h], rfl⟩
  · exact ⟨rfl, Or.inr ⟨rfl, Or.inr rfl⟩, Nat.le_refl _, Nat.le_refl _, by rw [if_neg h], rfl⟩
theorem ct_G_all {Γ : zk_G} {d : Nat} {s : Int32} {μ : za_M} (hd : 2 ≤ d) (hs : vp_in s 8) : zk_Ct zt Γ zm_G_all d 0 0 [za_r 1 0, za_i s] μ (fun v μ' => v = some (za_i ((1 <<< (μ.1 2 0 s.toNatClampNeg &&& 31)) - 1)) ∧ μ' = μ) (fun _ _ => False) := by
  refine zs_G_all (Nat.le_of_ble_eq_true rfl) (by omega) (fun ZZ run => ?_)
  refine run [] 20 0 _ _ _ _ ?_
  refine ⟨hs, d - 1, 0, 0, _, _, by omega, Nat.le_refl _, Nat.le_refl _, ct_A_firstBits (by omega), ?_, fun _ _ h => h.elim⟩
  rintro r μ1 ⟨rfl, rfl⟩
  exact ⟨rfl, Or.inl rfl, Nat.le_refl _, Nat.le_refl _, rfl, rfl⟩
end
section
/-! Board -/
/-- the steps that end at v go on with those that begin there -/
def bd_jn (r : Nat → Int32) (v : Nat) (i : Nat) : Int32 := if r i &&& (1 <<< (nI v &&& 31)) = 0 then r i else r i ||| r v
set_option maxHeartbeats 4000000 in
theorem ct_B_joinAt {Γ : zk_G} {d J v : Nat} {μ : za_M} (hd : 1 ≤ d) (hv : v < 32) : zk_Ct zt Γ zm_B_joinAt d 0 0 [za_r 18 J, za_i (nI v)] μ
    (fun r μ' => r = none ∧ (∀ i, i < 32 → μ'.1 19 J i = bd_jn (μ.1 19 J) v i) ∧ (μ'.1 18 J 1 = if μ.1 19 J v &&& (1 <<< (nI v &&& 31)) = 0 then μ.1 18 J 1 else 1) ∧ zq_fr (fun b j => (b = 18 ∨ b = 19) ∧ j = J) μ μ') (fun _ _ => False) := by
  refine zs_B_joinAt (Nat.le_of_ble_eq_true rfl) hd (fun ZZ run => ?_)
  have loop : ∀ (n k : Nat) (μ1 : za_M), k + n = 32 → (∀ i, i < 32 → μ1.1 19 J i = if i < k then bd_jn (μ.1 19 J) v i else μ.1 19 J i) → (μ1.1 18 J 1 = if μ.1 19 J v &&& (1 <<< (nI v &&& 31)) = 0 then μ.1 18 J 1 else 1) → zq_fr (fun b j => (b = 18 ∨ b = 19) ∧ j = J) μ μ1 →
      ZZ 25 [some (za_r 18 J), some (za_i (nI v)), some (za_i (μ.1 19 J v)), some (za_i (1 <<< (nI v &&& 31))), some (za_i (nI k))] [] μ1 (0, 0) := by
    intro n
    induction n with
    | zero =>
      intro k μ1 hk h1 h2 h3
      have hk : k = 32 := by omega
      subst hk
      refine run [25] 40 25 _ _ _ _ ?_
      refine ⟨fun _ => ?_, fun h => absurd (nI_le (Nat.le_refl 32) (by decide)) h⟩
      exact ⟨rfl, rfl, Nat.le_refl _, Nat.le_refl _, rfl, fun i hi => by rw [h1 i hi, if_pos hi], h2, h3⟩
    | succ n ih =>
      intro k μ1 hk h1 h2 h3
      have hlt : k < 32 := by omega
      refine run [25] 40 25 _ _ _ _ ?_
      refine ⟨fun h => absurd h (zn_lt hlt (by decide)), fun _ => ?_⟩
      have hck : (nI k).toNatClampNeg = k := zn_cl (by omega)
      have hrow : μ1.1 19 J k = μ.1 19 J k := by rw [h1 k hlt, if_neg (Nat.lt_irrefl k)]
      refine ⟨zn_in hlt (by decide), fun hb => ?_, fun hb => ?_⟩
      · rw [hck, hrow] at hb
        have h9 := ih (k + 1) μ1 (by omega) (fun i hi => by
          rw [h1 i hi]
          by_cases e : i = k
          · subst e
            rw [if_neg (Nat.lt_irrefl i), if_pos (Nat.lt_succ_self i), bd_jn, if_pos hb]
          · by_cases e2 : i < k
            · rw [if_pos e2, if_pos (by omega)]
            · rw [if_neg e2, if_neg (by omega)]) h2 h3
        rw [← nI_1 k] at h9
        exact h9
      · rw [hck, hrow] at hb
        refine ⟨zn_in hlt (by decide), zn_in hlt (by decide), ?_⟩
        have h9 := ih (k + 1) (za_u μ1.1 19 J (nI k).toNatClampNeg (μ1.1 19 J (nI k).toNatClampNeg ||| μ.1 19 J v), μ1.2) (by omega) ?_ ?_ (zq_u h3 ⟨Or.inr rfl, rfl⟩)
        · rw [← nI_1 k] at h9
          exact h9
        · intro i hi
          show za_u μ1.1 19 J (nI k).toNatClampNeg _ 19 J i = _
          rw [hck]
          by_cases e : i = k
          · subst e
            rw [za_u_same, if_pos (Nat.lt_succ_self i), bd_jn, if_neg hb, hrow]
          · rw [za_u_i e, h1 i hi]
            by_cases e2 : i < k
            · rw [if_pos e2, if_pos (by omega)]
            · rw [if_neg e2, if_neg (by omega)]
        · simp only [za_u]
          rw [if_neg (fun q => absurd q.1 (by decide))]
          exact h2
  have hcv : (nI v).toNatClampNeg = v := zn_cl (by omega)
  refine run [25] 40 0 _ _ _ _ ?_
  refine ⟨zn_in hv (by decide), fun hb => ?_, fun hb => ?_⟩
  · rw [hcv] at hb ⊢
    exact loop 32 0 μ rfl (fun i _ => by rw [if_neg (Nat.not_lt_zero i)]) (by rw [if_pos hb]) zq_rf
  · rw [hcv] at hb ⊢
    refine ⟨Or.inr rfl, ?_⟩
    refine loop 32 0 _ rfl (fun i _ => ?_) ?_ (zq_u zq_rf ⟨Or.inl rfl, rfl⟩)
    · show za_u μ.1 18 J 1 1 19 J i = _
      rw [za_u_b (by decide), if_neg (Nat.not_lt_zero i)]
    · show za_u μ.1 18 J 1 1 18 J 1 = _
      rw [za_u_same, if_neg hb]
end
section
/-! Board, the rest -/
theorem ct_B_start {Γ : zk_G} {d J p : Nat} {μ : za_M} (hd : 1 ≤ d) : zk_Ct zt Γ zm_B_start d 0 0 [za_r 18 J, za_r 8 p] μ
    (fun r μ' => r = none ∧ (∀ i, i < 32 → μ'.1 19 J i = μ.1 8 p i) ∧ μ'.1 18 J 1 = 0 ∧ zq_fr (fun b j => (b = 18 ∨ b = 19) ∧ j = J) μ μ') (fun _ _ => False) := by
  refine zs_B_start (Nat.le_of_ble_eq_true rfl) hd (fun ZZ run => ?_)
  refine run [] 20 0 _ _ _ _ ?_
  refine ⟨by decide, by decide, by decide, by decide, by decide, Nat.zero_le _, Or.inl rfl, rfl, rfl, Nat.le_refl _, Nat.le_refl _, rfl, fun i hi => ?_, ?_, ?_⟩
  · dsimp only
    rw [za_u_b (show (19 : Nat) ≠ 18 by decide), za_ur_at]
    rw [pk_cpy_in (by rw [zn_c0]; omega) (by rw [zn_c0]; show i < 0 + (32 : Int32).toNatClampNeg; rw [zn_c32]; omega)]
    rw [zn_c0, Nat.sub_zero, Nat.zero_add]
  · exact za_u_same _ _ _ _ _
  · refine ⟨fun b j h => ?_, fun _ _ _ => rfl⟩
    dsimp only
    rw [za_u_ne (fun q => h ⟨Or.inl q.1, q.2⟩), za_ur_ne (fun q => h ⟨Or.inr q.1, q.2⟩)]
theorem ct_B_startFrom {Γ : zk_G} {d J J' : Nat} {μ : za_M} (hd : 1 ≤ d) (hc : μ.1 18 J' 1 = 0 ∨ μ.1 18 J' 1 = 1) (hne : J ≠ J') : zk_Ct zt Γ zm_B_startFrom d 0 0 [za_r 18 J, za_r 18 J'] μ
    (fun r μ' => r = none ∧ (∀ i, i < 32 → μ'.1 19 J i = μ.1 19 J' i) ∧ μ'.1 18 J 1 = μ.1 18 J' 1 ∧ zq_fr (fun b j => (b = 18 ∨ b = 19) ∧ j = J) μ μ') (fun _ _ => False) := by
  refine zs_B_startFrom (Nat.le_of_ble_eq_true rfl) hd (fun ZZ run => ?_)
  refine run [] 20 0 _ _ _ _ ?_
  have hk : ∀ r : Nat → Int32, za_ur μ.1 19 J r 18 J' 1 = μ.1 18 J' 1 := fun r => by
    rw [za_ur_ne (fun q => absurd q.1 (by decide))]
  refine ⟨by decide, by decide, by decide, by decide, by decide, Nat.zero_le _, ?_, rfl, rfl, Nat.le_refl _, Nat.le_refl _, rfl, fun i hi => ?_, ?_, ?_⟩
  · dsimp only
    rw [hk]
    exact hc
  · dsimp only
    rw [za_u_b (show (19 : Nat) ≠ 18 by decide), za_ur_at]
    rw [pk_cpy_in (by rw [zn_c0]; omega) (by rw [zn_c0]; show i < 0 + (32 : Int32).toNatClampNeg; rw [zn_c32]; omega)]
    rw [zn_c0, Nat.sub_zero, Nat.zero_add]
  · dsimp only
    rw [za_u_same, hk]
  · refine ⟨fun b j h => ?_, fun _ _ _ => rfl⟩
    dsimp only
    rw [za_u_ne (fun q => h ⟨Or.inl q.1, q.2⟩), za_ur_ne (fun q => h ⟨Or.inr q.1, q.2⟩)]
/-- a relation's byte -/
def rw_of (rel : Int64) (a : Nat) : Int32 := (rel.toUInt64 >>> ((8 * nI a).toInt64.toUInt64 &&& Int64.toUInt64 63)).toInt64.toInt32 &&& 255
def bd_lay (r : Nat → Int32) (o : Nat) (rel : Int64) (i : Nat) : Int32 := if 8 * o ≤ i ∧ i < 8 * o + 6 then r i ||| (rw_of rel (i - 8 * o) <<< (nI (8 * o) &&& 31)) else r i
set_option maxHeartbeats 4000000 in
theorem ct_B_lay {Γ : zk_G} {d J o : Nat} {rel : Int64} {μ : za_M} (hd : 2 ≤ d) (ho : o < 4) : zk_Ct zt Γ zm_B_lay d 0 0 [za_r 18 J, za_i (nI o), za_l rel] μ
    (fun r μ' => r = none ∧ (∀ i, i < 32 → μ'.1 19 J i = bd_lay (μ.1 19 J) o rel i) ∧ zq_fr (fun b j => b = 19 ∧ j = J) μ μ') (fun _ _ => False) := by
  refine zs_B_lay (Nat.le_of_ble_eq_true rfl) (by omega) (fun ZZ run => ?_)
  have loop := zn_for (σ := za_M) (N := 6)
    (P := fun k μ1 => ∀ w x : Int32, w = nI (8 * o) → x = nI k → ZZ 9 [some (za_r 18 J), some (za_i (nI o)), some (za_l rel), none, some (za_i w), some (za_i x)] [] μ1 (0, 0))
    (I := fun k μ1 => (∀ i, i < 32 → μ1.1 19 J i = if i < 8 * o + k then bd_lay (μ.1 19 J) o rel i else μ.1 19 J i) ∧ zq_fr (fun b j => b = 19 ∧ j = J) μ μ1)
    (fun μ1 h w x hw hx => by
      refine run [9] 40 9 _ _ _ _ ?_
      refine ⟨fun _ => ?_, fun q => absurd (by rw [hx]; exact nI_le (Nat.le_refl 6) (by decide)) q⟩
      refine ⟨rfl, rfl, Nat.le_refl _, Nat.le_refl _, rfl, fun i hi => ?_, h.2⟩
      rw [h.1 i hi]
      by_cases e : i < 8 * o + 6
      · rw [if_pos e]
      · rw [if_neg e, bd_lay, if_neg (fun q => e q.2)])
    (fun k μ1 hk h ih w x hw hx => by
      refine run [9] 40 9 _ _ _ _ ?_
      refine ⟨fun q => absurd q (zn_ge hx rfl hk (by decide)), fun _ => ?_⟩
      have hwx : w + x = nI (8 * o + k) := by rw [hw, hx, nI_add]
      refine ⟨zn_i hwx (by omega) (by decide), d - 1, 0, 0, _, _, by omega, Nat.le_refl _, Nat.le_refl _, ct_A_rowOf (by omega), ?_, fun _ _ h => h.elim⟩
      rintro r μ2 ⟨rfl, rfl⟩
      refine ⟨zn_i hwx (by omega) (by decide), ?_⟩
      have hc : (w + x).toNatClampNeg = 8 * o + k := zn_c hwx (by omega)
      refine ih _ ⟨fun i hi => ?_, zq_u h.2 ⟨rfl, rfl⟩⟩ w _ hw (zn_s hx)
      simp only [hc]
      by_cases e : i = 8 * o + k
      · subst e
        rw [za_u_same, h.1 _ hi, if_neg (Nat.lt_irrefl _), if_pos (by omega), bd_lay, if_pos ⟨by omega, by omega⟩, rw_of, show 8 * o + k - 8 * o = k by omega, hx, hw]
      · rw [za_u_i e, h.1 i hi]
        by_cases e2 : i < 8 * o + k
        · rw [if_pos e2, if_pos (by omega)]
        · rw [if_neg e2, if_neg (by omega)])
  refine run [9] 40 0 _ _ _ _ ?_
  refine loop 0 μ (Nat.zero_le _) ⟨fun i hi => ?_, zq_rf⟩ (8 * nI o) 0 (zn_8 o) rfl
  by_cases e : i < 8 * o + 0
  · rw [if_pos e, bd_lay, if_neg (fun q => by omega)]
  · rw [if_neg e]
end
section
/-! Board: join, relationAt -/
theorem bd_jn_congr {r r' : Nat → Int32} {v : Nat} (h : ∀ i, i < 32 → r i = r' i) (hv : v < 32) : ∀ i, i < 32 → bd_jn r v i = bd_jn r' v i := by
  intro i hi
  simp only [bd_jn, h i hi, h v hv]
theorem ct_B_joinAt' {Γ : zk_G} {d J v : Nat} {μ : za_M} {x : Int32} (hx : x = nI v) (hd : 1 ≤ d) (hv : v < 32) : zk_Ct zt Γ zm_B_joinAt d 0 0 [za_r 18 J, za_i x] μ
    (fun r μ' => r = none ∧ (∀ i, i < 32 → μ'.1 19 J i = bd_jn (μ.1 19 J) v i) ∧ (μ'.1 18 J 1 = if μ.1 19 J v &&& (1 <<< (nI v &&& 31)) = 0 then μ.1 18 J 1 else 1) ∧ zq_fr (fun b j => (b = 18 ∨ b = 19) ∧ j = J) μ μ') (fun _ _ => False) := by
  subst hx
  exact ct_B_joinAt hd hv
/-- rows and circle behind the first k places of an occurrence -/
def bd_jk (r : Nat → Int32) (o : Nat) : Nat → Nat → Int32
  | 0 => r
  | k + 1 => if bd_jk r o k (8 * o + k) = 0 then bd_jk r o k else bd_jn (bd_jk r o k) (8 * o + k)
def bd_ck (r : Nat → Int32) (o : Nat) (c : Int32) : Nat → Int32
  | 0 => c
  | k + 1 => if bd_jk r o k (8 * o + k) = 0 then bd_ck r o c k else if bd_jk r o k (8 * o + k) &&& (1 <<< (nI (8 * o + k) &&& 31)) = 0 then bd_ck r o c k else 1
set_option maxHeartbeats 4000000 in
theorem ct_B_join {Γ : zk_G} {d J o : Nat} {μ : za_M} (hd : 2 ≤ d) (ho : o < 4) : zk_Ct zt Γ zm_B_join d 0 0 [za_r 18 J, za_i (nI o)] μ
    (fun r μ' => r = none ∧ (∀ i, i < 32 → μ'.1 19 J i = bd_jk (μ.1 19 J) o 6 i) ∧ μ'.1 18 J 1 = bd_ck (μ.1 19 J) o (μ.1 18 J 1) 6 ∧ zq_fr (fun b j => (b = 18 ∨ b = 19) ∧ j = J) μ μ') (fun _ _ => False) := by
  refine zs_B_join (Nat.le_of_ble_eq_true rfl) (by omega) (fun ZZ run => ?_)
  have loop := zn_for (σ := za_M) (N := 6)
    (P := fun k μ1 => ∀ w x : Int32, w = nI (8 * o) → x = nI k → ZZ 7 [some (za_r 18 J), some (za_i (nI o)), some (za_i w), some (za_i x)] [] μ1 (0, 0))
    (I := fun k μ1 => (∀ i, i < 32 → μ1.1 19 J i = bd_jk (μ.1 19 J) o k i) ∧ μ1.1 18 J 1 = bd_ck (μ.1 19 J) o (μ.1 18 J 1) k ∧ zq_fr (fun b j => (b = 18 ∨ b = 19) ∧ j = J) μ μ1)
    (fun μ1 h w x hw hx => by
      refine run [7] 40 7 _ _ _ _ ?_
      refine ⟨fun _ => ?_, fun q => absurd (by rw [hx]; exact nI_le (Nat.le_refl 6) (by decide)) q⟩
      exact ⟨rfl, rfl, Nat.le_refl _, Nat.le_refl _, rfl, h⟩)
    (fun k μ1 hk h ih w x hw hx => by
      refine run [7] 40 7 _ _ _ _ ?_
      refine ⟨fun q => absurd q (zn_ge hx rfl hk (by decide)), fun _ => ?_⟩
      have hwx : w + x = nI (8 * o + k) := by rw [hw, hx, nI_add]
      have hc : (w + x).toNatClampNeg = 8 * o + k := zn_c hwx (by omega)
      have hlt : 8 * o + k < 32 := by omega
      have hr := h.1 _ hlt
      refine ⟨zn_i hwx hlt (by decide), fun hz => ?_, fun hz => ?_⟩
      · rw [hc, hr] at hz
        refine ih μ1 ⟨fun i hi => ?_, ?_, h.2.2⟩ w _ hw (zn_s hx)
        · rw [h.1 i hi, bd_jk, if_pos hz]
        · rw [h.2.1, bd_ck, if_pos hz]
      · rw [hc, hr] at hz
        refine ⟨d - 1, 0, 0, _, _, by omega, Nat.le_refl _, Nat.le_refl _, ct_B_joinAt' hwx (by omega) hlt, ?_, fun _ _ h => h.elim⟩
        rintro r μ2 ⟨rfl, h1, h2, h3⟩
        refine ih μ2 ⟨fun i hi => ?_, ?_, zq_tr h.2.2 h3⟩ w _ hw (zn_s hx)
        · rw [h1 i hi, bd_jk, if_neg hz]
          exact bd_jn_congr h.1 hlt i hi
        · rw [h2, hr, h.2.1, bd_ck, if_neg hz])
  refine run [7] 40 0 _ _ _ _ ?_
  exact loop 0 μ (Nat.zero_le _) ⟨fun i hi => rfl, rfl, zq_rf⟩ (8 * nI o) 0 (zn_8 o) rfl
/-- a relation out of rows: the first k bytes -/
def bd_rk (r : Nat → Int32) (o : Nat) : Nat → Int64
  | 0 => 0
  | k + 1 => bd_rk r o k ||| (((r (8 * o + k)).toUInt32 >>> ((nI (8 * o)).toUInt32 &&& Int32.toUInt32 31)).toInt32 &&& 255).toInt64 <<< ((8 * nI k).toInt64 &&& 63)
set_option maxHeartbeats 4000000 in
theorem ct_B_relationAt {Γ : zk_G} {d J o : Nat} {μ : za_M} (hd : 1 ≤ d) (ho : o < 4) : zk_Ct zt Γ zm_B_relationAt d 0 0 [za_r 18 J, za_i (nI o)] μ
    (fun r μ' => r = some (za_l (bd_rk (μ.1 19 J) o 6)) ∧ μ' = μ) (fun _ _ => False) := by
  refine zs_B_relationAt (Nat.le_of_ble_eq_true rfl) (by omega) (fun ZZ run => ?_)
  have loop := zn_for (σ := Int64 × Option za_V) (N := 6)
    (P := fun k s => ∀ w x : Int32, w = nI (8 * o) → x = nI k → ZZ 10 [some (za_r 18 J), some (za_i (nI o)), some (za_i w), some (za_l s.1), none, some (za_i x), s.2, none] [] μ (0, 0))
    (I := fun k s => s.1 = bd_rk (μ.1 19 J) o k)
    (fun s h w x hw hx => by
      refine run [10] 40 10 _ _ _ _ ?_
      refine ⟨fun _ => ?_, fun q => absurd (by rw [hx]; exact nI_le (Nat.le_refl 6) (by decide)) q⟩
      exact ⟨rfl, rfl, Nat.le_refl _, Nat.le_refl _, by rw [← h], rfl⟩)
    (fun k s hk h ih w x hw hx => by
      refine run [10] 40 10 _ _ _ _ ?_
      refine ⟨fun q => absurd q (zn_ge hx rfl hk (by decide)), fun _ => ?_⟩
      have hwx : w + x = nI (8 * o + k) := by rw [hw, hx, nI_add]
      have hc : (w + x).toNatClampNeg = 8 * o + k := zn_c hwx (by omega)
      refine ⟨zn_i hwx (by omega) (by decide), ?_⟩
      have h9 := ih (s.1 ||| (((μ.1 19 J (w + x).toNatClampNeg).toUInt32 >>> (w.toUInt32 &&& Int32.toUInt32 31)).toInt32 &&& 255).toInt64 <<< ((8 * x).toInt64 &&& 63), some (za_l (((μ.1 19 J (w + x).toNatClampNeg).toUInt32 >>> (w.toUInt32 &&& Int32.toUInt32 31)).toInt32 &&& 255).toInt64)) (by rw [h, hc, hw, hx]; rfl) w (x + 1) hw (zn_s hx)
      exact h9)
  refine run [10] 40 0 _ _ _ _ ?_
  exact loop 0 (0, none) (Nat.zero_le _) rfl (8 * nI o) 0 (zn_8 o) rfl
end
section
/-! the reference: its small methods -/
theorem ct_M_thrown {Γ : zk_G} {d : Nat} {μ : za_M} (hd : 1 ≤ d) : zk_Ct zt Γ zm_M_thrown d 0 0 [za_r 30 0] μ (fun r μ' => r = some (za_i (μ.1 30 0 0)) ∧ μ' = μ) (fun _ _ => False) := by
  refine zs_M_thrown (Nat.le_of_ble_eq_true rfl) hd (fun ZZ run => ?_)
  refine run [] 20 0 _ _ _ _ ?_
  exact ⟨rfl, Or.inl rfl, Nat.le_refl _, Nat.le_refl _, rfl, rfl⟩
theorem ct_M_in {Γ : zk_G} {d : Nat} {v lo hi : Int32} {μ : za_M} (hd : 1 ≤ d) : zk_Ct zt Γ zm_M_in d 0 0 [za_i v, za_i lo, za_i hi] μ (fun r μ' => r = some (za_i (if v < lo ∨ hi < v then 0 else 1)) ∧ μ' = μ) (fun _ _ => False) := by
  refine zs_M_in (Nat.le_of_ble_eq_true rfl) hd (fun ZZ run => ?_)
  refine run [] 20 0 _ _ _ _ ?_
  refine ⟨fun h => ?_, fun h => ⟨fun h2 => ?_, fun h2 => ?_⟩⟩
  · exact ⟨rfl, Or.inr ⟨rfl, Or.inl rfl⟩, Nat.le_refl _, Nat.le_refl _, by rw [if_pos (Or.inl h)], rfl⟩
  · exact ⟨rfl, Or.inr ⟨rfl, Or.inl rfl⟩, Nat.le_refl _, Nat.le_refl _, by rw [if_pos (Or.inr h2)], rfl⟩
  · exact ⟨rfl, Or.inr ⟨rfl, Or.inr rfl⟩, Nat.le_refl _, Nat.le_refl _, by rw [if_neg (fun q => q.elim h h2)], rfl⟩
/-- what a refusal notes -/
def mo_t (a b : Int32) : Int32 := if a = 0 then (if b = 0 then 0 else 2) else 1
theorem ct_M_refuse {Γ : zk_G} {d : Nat} {a b : Int32} {μ : za_M} (hd : 1 ≤ d) : zk_Ct zt Γ zm_M_refuse d 0 0 [za_r 30 0, za_i a, za_i b] μ (fun r μ' => r = some (za_i (if mo_t a b = 0 then 0 else 1)) ∧ μ' = (za_u μ.1 30 0 0 (mo_t a b), μ.2)) (fun _ _ => False) := by
  refine zs_M_refuse (Nat.le_of_ble_eq_true rfl) hd (fun ZZ run => ?_)
  refine run [] 30 0 _ _ _ _ ?_
  refine ⟨fun h => ⟨fun h2 => ?_, fun h2 => ?_⟩, fun h => ?_⟩
  · refine ⟨fun _ => ?_, fun q => absurd ?_ q⟩
    · exact ⟨rfl, Or.inr ⟨rfl, Or.inl rfl⟩, Nat.le_refl _, Nat.le_refl _, by rw [mo_t, if_pos h, if_pos h2]; rfl, by rw [mo_t, if_pos h, if_pos h2]⟩
    · simp [za_u]
  · refine ⟨fun q => absurd q ?_, fun _ => ?_⟩
    · dsimp only
      rw [za_u_same]
      decide
    · exact ⟨rfl, Or.inr ⟨rfl, Or.inr rfl⟩, Nat.le_refl _, Nat.le_refl _, by rw [mo_t, if_pos h, if_neg h2]; rfl, by rw [mo_t, if_pos h, if_neg h2]⟩
  · refine ⟨fun q => absurd q ?_, fun _ => ?_⟩
    · dsimp only
      rw [za_u_same]
      decide
    · exact ⟨rfl, Or.inr ⟨rfl, Or.inr rfl⟩, Nat.le_refl _, Nat.le_refl _, by rw [mo_t, if_neg h]; rfl, by rw [mo_t, if_neg h]⟩
theorem ct_M_forget {Γ : zk_G} {d : Nat} {μ : za_M} (hd : 1 ≤ d) : zk_Ct zt Γ zm_M_forget d 0 0 [za_r 30 0] μ (fun r μ' => r = none ∧ μ' = (za_u (za_u μ.1 30 0 7 0) 30 0 14 0, μ.2)) (fun _ _ => False) := by
  refine zs_M_forget (Nat.le_of_ble_eq_true rfl) hd (fun ZZ run => ?_)
  refine run [] 20 0 _ _ _ _ ?_
  exact ⟨Or.inl rfl, Or.inl rfl, rfl, rfl, Nat.le_refl _, Nat.le_refl _, rfl, rfl⟩
theorem ct_M_isSymbol {Γ : zk_G} {d : Nat} {s : Int32} {μ : za_M} (hd : 2 ≤ d) : zk_Ct zt Γ zm_M_isSymbol d 0 0 [za_r 30 0, za_i s] μ (fun r μ' => r = some (za_i (if s < 0 ∨ μ.1 30 0 1 - 1 < s then 0 else 1)) ∧ μ' = μ) (fun _ _ => False) := by
  refine zs_M_isSymbol (Nat.le_of_ble_eq_true rfl) (by omega) (fun ZZ run => ?_)
  refine run [] 20 0 _ _ _ _ ?_
  refine ⟨d - 1, 0, 0, _, _, by omega, Nat.le_refl _, Nat.le_refl _, ct_M_in (by omega), ?_, fun _ _ h => h.elim⟩
  rintro r μ1 ⟨rfl, rfl⟩
  refine ⟨rfl, Or.inr ⟨rfl, ?_⟩, Nat.le_refl _, Nat.le_refl _, rfl, rfl⟩
  split
  · exact Or.inl rfl
  · exact Or.inr rfl
theorem ct_M_isDown {Γ : zk_G} {d : Nat} {s a : Int32} {μ : za_M} (hd : 1 ≤ d) (hs : vp_in s 8) : zk_Ct zt Γ zm_M_isDown d 0 0 [za_r 30 0, za_i s, za_i a] μ (fun r μ' => r = some (za_i (if (μ.1 32 0 s.toNatClampNeg >>> (a &&& 31)) &&& 1 = 1 then 1 else 0)) ∧ μ' = μ) (fun _ _ => False) := by
  refine zs_M_isDown (Nat.le_of_ble_eq_true rfl) hd (fun ZZ run => ?_)
  refine run [] 20 0 _ _ _ _ ?_
  refine ⟨hs, fun h => ?_, fun h => ?_⟩
  · exact ⟨rfl, Or.inr ⟨rfl, Or.inl rfl⟩, Nat.le_refl _, Nat.le_refl _, by rw [if_neg h], rfl⟩
  · exact ⟨rfl, Or.inr ⟨rfl, Or.inr rfl⟩, Nat.le_refl _, Nat.le_refl _, by rw [if_pos h], rfl⟩
theorem ct_M_symbolOf {Γ : zk_G} {d : Nat} {p o : Int32} {μ : za_M} (hd : 2 ≤ d) (hs : ¬ (o < 0 ∨ 3 < o) → vp_in (4 * p + o) 64) : zk_Ct zt Γ zm_M_symbolOf d 0 0 [za_r 30 0, za_i p, za_i o] μ (fun r μ' => r = some (za_i (if o < 0 ∨ 3 < o then -1 else μ.1 33 0 (4 * p + o).toNatClampNeg)) ∧ μ' = μ) (fun _ _ => False) := by
  refine zs_M_symbolOf (Nat.le_of_ble_eq_true rfl) (by omega) (fun ZZ run => ?_)
  refine run [] 20 0 _ _ _ _ ?_
  refine ⟨d - 1, 0, 0, _, _, by omega, Nat.le_refl _, Nat.le_refl _, ct_M_in (by omega), ?_, fun _ _ h => h.elim⟩
  rintro r μ1 ⟨rfl, rfl⟩
  by_cases h : o < 0 ∨ 3 < o
  · rw [if_pos h, if_pos h]
    exact ⟨fun _ => ⟨rfl, Or.inl rfl, Nat.le_refl _, Nat.le_refl _, rfl, rfl⟩, fun q => absurd rfl q⟩
  · rw [if_neg h, if_neg h]
    exact ⟨fun q => absurd q (by decide), fun _ => ⟨hs h, rfl, Or.inl rfl, Nat.le_refl _, Nat.le_refl _, rfl, rfl⟩⟩
set_option maxHeartbeats 4000000 in
theorem ct_M_takeDepends {Γ : zk_G} {d p : Nat} {x : Int32} {μ : za_M} (hx : x = nI p) (hd : 1 ≤ d) (hp : p < 16) : zk_Ct zt Γ zm_M_takeDepends d 0 0 [za_r 30 0, za_i x] μ (fun r μ' => r = none ∧ (∀ i, i < 32 → μ'.1 38 0 i = μ.1 34 0 (32 * p + i)) ∧ zq_fr (fun b j => b = 38 ∧ j = 0) μ μ') (fun _ _ => False) := by
  refine zs_M_takeDepends (Nat.le_of_ble_eq_true rfl) hd (fun ZZ run => ?_)
  have loop := zn_for (σ := za_M) (N := 32)
    (P := fun k μ1 => ∀ y : Int32, y = nI k → ZZ 2 [some (za_r 30 0), some (za_i x), some (za_i y)] [] μ1 (0, 0))
    (I := fun k μ1 => (∀ i, i < k → μ1.1 38 0 i = μ.1 34 0 (32 * p + i)) ∧ zq_fr (fun b j => b = 38 ∧ j = 0) μ μ1)
    (fun μ1 h y hy => by
      refine run [2] 40 2 _ _ _ _ ?_
      refine ⟨fun _ => ?_, fun q => absurd (by rw [hy]; exact nI_le (Nat.le_refl 32) (by decide)) q⟩
      exact ⟨rfl, rfl, Nat.le_refl _, Nat.le_refl _, rfl, h⟩)
    (fun k μ1 hk h ih y hy => by
      refine run [2] 40 2 _ _ _ _ ?_
      refine ⟨fun q => absurd q (zn_ge hy rfl hk (by decide)), fun _ => ?_⟩
      have hi : (32 : Int32) * x + y = nI (32 * p + k) := by rw [hx, hy, show (32 : Int32) * nI p = nI (32 * p) from pk_mul 32 p, nI_add]
      have hc : ((32 : Int32) * x + y).toNatClampNeg = 32 * p + k := zn_c hi (by omega)
      have hck : y.toNatClampNeg = k := zn_c hy (by omega)
      refine ⟨zn_i hi (by omega) (by decide), zn_i hy hk (by decide), ?_⟩
      refine ih _ ⟨fun i hi2 => ?_, zq_u h.2 ⟨rfl, rfl⟩⟩ _ (zn_s hy)
      dsimp only
      rw [hck, hc]
      by_cases e : i = k
      · subst e
        rw [za_u_same, (h.2.1 34 0 (fun q => absurd q.1 (by decide)))]
      · rw [za_u_i e]
        exact h.1 i (by omega))
  refine run [2] 40 0 _ _ _ _ ?_
  exact loop 0 μ (Nat.zero_le _) ⟨fun i hi => absurd hi (Nat.not_lt_zero i), zq_rf⟩ 0 rfl
end
section
/-! the reference: rows -/
/-- one place gone through, all places so far gone through -/
def mo_st (r : Nat → Int32) (y i : Nat) : Int32 := if (r i >>> (nI y &&& 31)) &&& 1 = 1 then r i ||| r y else r i
def mo_f (r : Nat → Int32) : Nat → Nat → Int32
  | 0 => r
  | k + 1 => mo_st (mo_f r k) k
theorem mo_st_self (r : Nat → Int32) (y : Nat) : mo_st r y y = r y := by
  unfold mo_st
  split
  · exact Int32.or_self
  · rfl
set_option maxHeartbeats 4000000 in
theorem ct_M_follow {Γ : zk_G} {d : Nat} {μ : za_M} (hd : 1 ≤ d) : zk_Ct zt Γ zm_M_follow d 0 0 [za_r 30 0] μ (fun r μ' => r = none ∧ (∀ i, i < 32 → μ'.1 38 0 i = mo_f (μ.1 38 0) 32 i) ∧ zq_fr (fun b j => b = 38 ∧ j = 0) μ μ') (fun _ _ => False) := by
  refine zs_M_follow (Nat.le_of_ble_eq_true rfl) hd (fun ZZ run => ?_)
  have loop := zn_for (σ := za_M × Option za_V) (N := 32)
    (P := fun k s => ∀ y : Int32, y = nI k → ZZ 2 [some (za_r 30 0), some (za_i y), s.2] [] s.1 (0, 0))
    (I := fun k s => (∀ i, i < 32 → s.1.1 38 0 i = mo_f (μ.1 38 0) k i) ∧ zq_fr (fun b j => b = 38 ∧ j = 0) μ s.1)
    (fun s h y hy => by
      refine run [2, 10] 40 2 _ _ _ _ ?_
      refine ⟨fun _ => ?_, fun q => absurd (by rw [hy]; exact nI_le (Nat.le_refl 32) (by decide)) q⟩
      exact ⟨rfl, rfl, Nat.le_refl _, Nat.le_refl _, rfl, h⟩)
    (fun k s hk h ih y hy => by
      have hcy : y.toNatClampNeg = k := zn_c hy (by omega)
      have inner := zn_for (σ := za_M) (N := 32)
        (P := fun n μ1 => ∀ x : Int32, x = nI n → ZZ 10 [some (za_r 30 0), some (za_i y), some (za_i x)] [] μ1 (0, 0))
        (I := fun n μ1 => (∀ i, i < 32 → μ1.1 38 0 i = if i < n then mo_f (μ.1 38 0) (k + 1) i else mo_f (μ.1 38 0) k i) ∧ zq_fr (fun b j => b = 38 ∧ j = 0) μ μ1)
        (fun μ1 g x hx => by
          refine run [2, 10] 40 10 _ _ _ _ ?_
          refine ⟨fun _ => ?_, fun q => absurd (by rw [hx]; exact nI_le (Nat.le_refl 32) (by decide)) q⟩
          refine ih (μ1, some (za_i x)) ⟨fun i hi => ?_, g.2⟩ _ (zn_s hy)
          rw [g.1 i hi, if_pos hi])
        (fun n μ1 hn g ih2 x hx => by
          refine run [2, 10] 40 10 _ _ _ _ ?_
          refine ⟨fun q => absurd q (zn_ge hx rfl hn (by decide)), fun _ => ?_⟩
          have hcx : x.toNatClampNeg = n := zn_c hx (by omega)
          have hrn : μ1.1 38 0 n = mo_f (μ.1 38 0) k n := by rw [g.1 n hn, if_neg (Nat.lt_irrefl n)]
          have hrk : μ1.1 38 0 k = mo_f (μ.1 38 0) k k := by
            rw [g.1 k hk]
            split
            · exact mo_st_self _ k
            · rfl
          have next : ∀ v : Int32, v = mo_f (μ.1 38 0) (k + 1) n → ZZ 10 [some (za_r 30 0), some (za_i y), some (za_i (x + 1))] [] (za_u μ1.1 38 0 x.toNatClampNeg v, μ1.2) (0, 0) := by
            intro v hv
            refine ih2 _ ⟨fun i hi => ?_, zq_u g.2 ⟨rfl, rfl⟩⟩ _ (zn_s hx)
            dsimp only
            rw [hcx]
            by_cases e : i = n
            · subst e
              rw [za_u_same, if_pos (Nat.lt_succ_self i), hv]
            · rw [za_u_i e, g.1 i hi]
              by_cases e2 : i < n
              · rw [if_pos e2, if_pos (by omega)]
              · rw [if_neg e2, if_neg (by omega)]
          refine ⟨zn_i hx hn (by decide), fun hb => ?_, fun hb => ?_⟩
          · refine ⟨zn_i hx hn (by decide), zn_i hx hn (by decide), ?_⟩
            refine next _ ?_
            rw [hcx, hrn, hy] at hb
            rw [hcx, hrn]
            show _ = mo_st _ k n
            rw [mo_st, if_neg hb]
          · refine ⟨zn_i hx hn (by decide), zn_i hy hk (by decide), zn_i hx hn (by decide), ?_⟩
            refine next _ ?_
            rw [hcx, hrn, hy] at hb
            rw [hcx, hrn, hcy, hrk]
            show _ = mo_st _ k n
            rw [mo_st, if_pos hb])
      refine run [2, 10] 40 2 _ _ _ _ ?_
      refine ⟨fun q => absurd q (zn_ge hy rfl hk (by decide)), fun _ => ?_⟩
      refine inner 0 s.1 (Nat.zero_le _) ⟨fun i hi => ?_, h.2⟩ 0 rfl
      rw [h.1 i hi, if_neg (Nat.not_lt_zero i)])
  refine run [2, 10] 40 0 _ _ _ _ ?_
  exact loop 0 (μ, none) (Nat.zero_le _) ⟨fun i hi => rfl, zq_rf⟩ 0 rfl
/-- some row has its own bit -/
def mo_c (r : Nat → Int32) (n : Nat) : Prop := ∃ i, i < n ∧ (r i >>> (nI i &&& 31)) &&& 1 = 1
set_option maxHeartbeats 4000000 in
theorem ct_M_hasCircle {Γ : zk_G} {d : Nat} {μ : za_M} (hd : 1 ≤ d) : zk_Ct zt Γ zm_M_hasCircle d 0 0 [za_r 30 0] μ (fun r μ' => (∃ v : Int32, r = some (za_i v) ∧ (v = 0 ∨ v = 1) ∧ (v = 1 ↔ mo_c (μ.1 38 0) 32)) ∧ μ' = μ) (fun _ _ => False) := by
  refine zs_M_hasCircle (Nat.le_of_ble_eq_true rfl) hd (fun ZZ run => ?_)
  have loop := zn_for (σ := Int32) (N := 32)
    (P := fun k v => ∀ y : Int32, y = nI k → ZZ 4 [some (za_r 30 0), some (za_i v), some (za_i y)] [] μ (0, 0))
    (I := fun k v => (v = 0 ∨ v = 1) ∧ (v = 1 ↔ mo_c (μ.1 38 0) k))
    (fun v h y hy => by
      refine run [4] 40 4 _ _ _ _ ?_
      refine ⟨fun _ => ?_, fun q => absurd (by rw [hy]; exact nI_le (Nat.le_refl 32) (by decide)) q⟩
      exact ⟨rfl, Or.inr ⟨rfl, h.1⟩, Nat.le_refl _, Nat.le_refl _, ⟨v, rfl, h.1, h.2⟩, rfl⟩)
    (fun k v hk h ih y hy => by
      refine run [4] 40 4 _ _ _ _ ?_
      refine ⟨fun q => absurd q (zn_ge hy rfl hk (by decide)), fun _ => ?_⟩
      have hcy : y.toNatClampNeg = k := zn_c hy (by omega)
      refine ⟨fun hv => ?_, fun hv => ?_⟩
      · refine ih 1 ⟨Or.inr rfl, fun _ => ?_, fun _ => rfl⟩ _ (zn_s hy)
        obtain ⟨i, h1, h2⟩ := h.2.mp (h.1.resolve_left hv)
        exact ⟨i, by omega, h2⟩
      · refine ⟨zn_i hy hk (by decide), fun hb => ?_, fun hb => ?_⟩
        · refine ih 0 ⟨Or.inl rfl, fun q => absurd q (by decide), fun ⟨i, h1, h2⟩ => ?_⟩ _ (zn_s hy)
          by_cases e : i = k
          · subst e
            rw [hcy, hy] at hb
            exact absurd h2 hb
          · have := h.2.mpr ⟨i, by omega, h2⟩
            rw [hv] at this
            exact absurd this (by decide)
        · refine ih 1 ⟨Or.inr rfl, fun _ => ⟨k, Nat.lt_succ_self k, ?_⟩, fun _ => rfl⟩ _ (zn_s hy)
          rw [hcy, hy] at hb
          exact hb)
  refine run [4] 40 0 _ _ _ _ ?_
  exact loop 0 0 (Nat.zero_le _) ⟨Or.inl rfl, fun q => absurd q (by decide), fun ⟨i, h1, _⟩ => absurd h1 (Nat.not_lt_zero i)⟩ 0 rfl
end
section
/-! ===== Int32 by its bits: bt x i ===== -/
def bt (x : Int32) (i : Nat) : Bool := x.toBitVec.getLsbD i
theorem b_ext {x y : Int32} (h : ∀ i, i < 32 → bt x i = bt y i) : x = y := Int32.toBitVec_inj.mp (BitVec.eq_of_getLsbD_eq (fun i hi => h i hi))
theorem b_or (x y : Int32) (i : Nat) : bt (x ||| y) i = (bt x i || bt y i) := by unfold bt; rw [Int32.toBitVec_or, BitVec.getLsbD_or]
theorem b_and (x y : Int32) (i : Nat) : bt (x &&& y) i = (bt x i && bt y i) := by unfold bt; rw [Int32.toBitVec_and, BitVec.getLsbD_and]
theorem b_xor (x y : Int32) (i : Nat) : bt (x ^^^ y) i = (bt x i ^^ bt y i) := by unfold bt; rw [Int32.toBitVec_xor, BitVec.getLsbD_xor]
theorem b_big {x : Int32} {i : Nat} (h : 32 ≤ i) : bt x i = false := BitVec.getLsbD_of_ge _ _ h
theorem b_255 (i : Nat) : bt 255 i = decide (i < 8) := by
  rcases Nat.lt_or_ge i 32 with h | h
  · exact (by decide +kernel : ∀ i, i < 32 → bt 255 i = decide (i < 8)) i h
  · rw [b_big h, decide_eq_false (by omega)]
theorem b_65535 (i : Nat) : bt 65535 i = decide (i < 16) := by
  rcases Nat.lt_or_ge i 32 with h | h
  · exact (by decide +kernel : ∀ i, i < 32 → bt 65535 i = decide (i < 16)) i h
  · rw [b_big h, decide_eq_false (by omega)]
theorem b_m1 : ∀ i, i < 32 → bt (-1) i = true := by decide +kernel
theorem b_0 (i : Nat) : bt 0 i = false := BitVec.getLsbD_zero
theorem s_l : ∀ n, n < 32 → ((nI n &&& 31).toBitVec.smod 32).toNat = n := by decide +kernel
theorem s_u : ∀ n, n < 32 → (((nI n).toUInt32 &&& Int32.toUInt32 31).toBitVec % 32).toNat = n := by decide +kernel
theorem b_shl (n : Nat) (hn : n < 32) (x : Int32) {i : Nat} (hi : i < 32) : bt (x <<< (nI n &&& 31)) i = (decide (n ≤ i) && bt x (i - n)) := by
  unfold bt
  rw [Int32.toBitVec_shiftLeft]
  show (x.toBitVec <<< ((nI n &&& 31).toBitVec.smod 32).toNat).getLsbD i = _
  rw [s_l n hn, BitVec.getLsbD_shiftLeft]
  rcases Nat.lt_or_ge i n with h | h
  · simp [h, Nat.not_le.mpr h]
  · simp [hi, h, Nat.not_lt.mpr h]
theorem b_ushr (n : Nat) (hn : n < 32) (x : Int32) (i : Nat) : bt ((x.toUInt32 >>> ((nI n).toUInt32 &&& Int32.toUInt32 31)).toInt32) i = bt x (n + i) := by
  show (x.toUInt32 >>> ((nI n).toUInt32 &&& Int32.toUInt32 31)).toBitVec.getLsbD i = x.toUInt32.toBitVec.getLsbD (n + i)
  rw [UInt32.toBitVec_shiftRight]
  show (x.toUInt32.toBitVec >>> (((nI n).toUInt32 &&& Int32.toUInt32 31).toBitVec % 32).toNat).getLsbD i = _
  rw [s_u n hn, BitVec.getLsbD_ushiftRight]
theorem b_sshr (n : Nat) (hn : n < 32) (x : Int32) {i : Nat} (hi : i < 32) : bt (x >>> (nI n &&& 31)) i = if n + i < 32 then bt x (n + i) else bt x 31 := by
  unfold bt
  rw [Int32.toBitVec_shiftRight]
  show (x.toBitVec.sshiftRight ((nI n &&& 31).toBitVec.smod 32).toNat).getLsbD i = _
  rw [s_l n hn, BitVec.getLsbD_sshiftRight, BitVec.msb_eq_getLsbD_last]
  simp [hi]
theorem b_shl8 (x : Int32) {i : Nat} (hi : i < 32) : bt (x <<< ((8 : Int32) &&& 31)) i = (decide (8 ≤ i) && bt x (i - 8)) := b_shl 8 (by omega) x hi
theorem b_shl16 (x : Int32) {i : Nat} (hi : i < 32) : bt (x <<< ((16 : Int32) &&& 31)) i = (decide (16 ≤ i) && bt x (i - 16)) := b_shl 16 (by omega) x hi
theorem b_shl24 (x : Int32) {i : Nat} (hi : i < 32) : bt (x <<< ((24 : Int32) &&& 31)) i = (decide (24 ≤ i) && bt x (i - 24)) := b_shl 24 (by omega) x hi
theorem b_sshr8 (x : Int32) {i : Nat} (hi : i < 32) : bt (x >>> ((8 : Int32) &&& 31)) i = if 8 + i < 32 then bt x (8 + i) else bt x 31 := b_sshr 8 (by omega) x hi
/-! ===== Int32 as a set of bits: test, set ===== -/
def nf_M (m : Int32) : Nat := 4294967296 - m.toBitVec.toNat
theorem nf_sh : ∀ l, l < 32 → ((1 : Int32) <<< (nI l &&& 31)).toBitVec = BitVec.twoPow 32 l := by decide +kernel
theorem nf_sl : ∀ l, l < 32 → (((nI l).toUInt32 &&& Int32.toUInt32 31).toBitVec % 32).toNat = l := by decide +kernel
theorem nf_tp : ∀ l, l < 32 → BitVec.twoPow 32 l ≠ 0#32 := by decide +kernel
theorem nf_bit (m : Int32) (l : Nat) (hl : l < 32) : ((m.toUInt32 >>> ((nI l).toUInt32 &&& Int32.toUInt32 31)).toInt32 &&& 1) = 0 ↔ (m &&& ((1 : Int32) <<< (nI l &&& 31))) = 0 := by
  have e : ((m.toUInt32 >>> ((nI l).toUInt32 &&& Int32.toUInt32 31)).toInt32).toBitVec = m.toBitVec >>> l := by
    show m.toBitVec >>> (((nI l).toUInt32 &&& Int32.toUInt32 31).toBitVec % 32) = m.toBitVec >>> l
    rw [BitVec.ushiftRight_eq', nf_sl l hl]
  rw [← Int32.toBitVec_inj, ← Int32.toBitVec_inj, Int32.toBitVec_and, Int32.toBitVec_and, nf_sh l hl, e, BitVec.and_twoPow]
  show (m.toBitVec >>> l &&& 1#32) = 0#32 ↔ _ = 0#32
  rw [BitVec.and_one_eq_setWidth_ofBool_getLsbD, BitVec.getLsbD_ushiftRight, Nat.add_zero]
  cases hb : m.toBitVec.getLsbD l
  · exact ⟨fun _ => by simp, fun _ => by decide⟩
  · exact ⟨fun z => absurd z (by decide), fun z => absurd ((if_pos rfl).symm.trans z) (nf_tp l hl)⟩
theorem nf_gr (m k : Int32) (h : m &&& k = 0) (hk : k ≠ 0) : nf_M (m ||| k) < nf_M m := by
  have hm := m.toBitVec.isLt
  have hm' := (m ||| k).toBitVec.isLt
  have h1 : m.toBitVec.toNat ≤ (m ||| k).toBitVec.toNat := by
    rw [Int32.toBitVec_or, BitVec.toNat_or]
    exact Nat.left_le_or
  have h2 : m.toBitVec.toNat ≠ (m ||| k).toBitVec.toNat := by
    intro e
    have e2 : m = m ||| k := Int32.toBitVec_inj.mp (BitVec.eq_of_toNat_eq e)
    apply hk
    apply Int32.toBitVec_inj.mp
    show k.toBitVec = 0#32
    apply BitVec.eq_of_getLsbD_eq
    intro i hi
    have a : m.toBitVec.getLsbD i = (m.toBitVec.getLsbD i || k.toBitVec.getLsbD i) := by rw [← BitVec.getLsbD_or, ← Int32.toBitVec_or, ← e2]
    have b : (m.toBitVec.getLsbD i && k.toBitVec.getLsbD i) = false := by
      rw [← BitVec.getLsbD_and, ← Int32.toBitVec_and, h]
      exact BitVec.getLsbD_zero
    rw [BitVec.getLsbD_zero]
    revert a b
    cases m.toBitVec.getLsbD i <;> cases k.toBitVec.getLsbD i <;> simp
  unfold nf_M
  omega
/-! tests of one bit -/
theorem zb_b1 : ∀ i, i < 32 → bt 1 i = decide (i = 0) := by decide +kernel
theorem zb_t1 (x : Int32) {l : Nat} (hl : l < 32) : x &&& (1 <<< (nI l &&& 31)) = 0 ↔ bt x l = false := by
  constructor
  · intro h
    have h1 := congrArg (fun z => bt z l) h
    simp only [b_and, b_0, b_shl l hl 1 hl, zb_b1 _ (show l - l < 32 by omega)] at h1
    simpa using h1
  · intro h
    refine b_ext fun i hi => ?_
    rw [b_and, b_0, b_shl l hl 1 hi]
    by_cases e : i = l
    · subst e
      rw [h]
      rfl
    · by_cases e2 : l ≤ i
      · rw [zb_b1 _ (show i - l < 32 by omega), decide_eq_false (show ¬ i - l = 0 by omega), Bool.and_false, Bool.and_false]
      · rw [decide_eq_false e2, Bool.false_and, Bool.and_false]
theorem zb_and1 (y : Int32) : y &&& 1 = 1 ↔ bt y 0 = true := by
  constructor
  · intro h
    have h1 := congrArg (fun z => bt z 0) h
    simp only [b_and, zb_b1 0 (by omega)] at h1
    simpa using h1
  · intro h
    refine b_ext fun i hi => ?_
    rw [b_and, zb_b1 i hi]
    by_cases e : i = 0
    · subst e
      rw [h]
      rfl
    · rw [decide_eq_false e, Bool.and_false]
theorem zb_t2 (x : Int32) {l : Nat} (hl : l < 32) : (x >>> (nI l &&& 31)) &&& 1 = 1 ↔ bt x l = true := by
  rw [zb_and1, b_sshr l hl x (show 0 < 32 by omega), if_pos (show l + 0 < 32 by omega), Nat.add_zero]
theorem zb_t3 (x : Int32) {l : Nat} (hl : l < 32) : ((x.toUInt32 >>> ((nI l).toUInt32 &&& Int32.toUInt32 31)).toInt32 &&& 1) = 0 ↔ bt x l = false := by
  rw [nf_bit x l hl, zb_t1 x hl]
end
section
/-! rows as relations, closed place by place -/
theorem mo_st_bt (r : Nat → Int32) {v : Nat} (hv : v < 32) (x y : Nat) : bt (mo_st r v x) y = (bt (r x) y || (bt (r x) v && bt (r v) y)) := by
  unfold mo_st
  by_cases h : bt (r x) v = true
  · rw [if_pos ((zb_t2 _ hv).mpr h), b_or, h, Bool.true_and]
  · rw [if_neg (fun q => h ((zb_t2 _ hv).mp q)), Bool.eq_false_iff.mpr h, Bool.false_and, Bool.or_false]
theorem bd_jn_bt (r : Nat → Int32) {v : Nat} (hv : v < 32) (x y : Nat) : bt (bd_jn r v x) y = (bt (r x) y || (bt (r x) v && bt (r v) y)) := by
  unfold bd_jn
  by_cases h : bt (r x) v = true
  · rw [if_neg (fun q => by rw [(zb_t1 _ hv).mp q] at h; cases h), b_or, h, Bool.true_and]
  · have h := Bool.eq_false_iff.mpr h
    rw [if_pos ((zb_t1 _ hv).mpr h), h, Bool.false_and, Bool.or_false]
/-- rows hold what goes on at S -/
def rl_is (r : Nat → Int32) (S : Nat → Prop) (E : Nat → Nat → Prop) : Prop := ∀ x y, x < 32 → (bt (r x) y = true ↔ pq_T S E x y)
theorem rl_step {r r' : Nat → Int32} {S : Nat → Prop} {E : Nat → Nat → Prop} {v : Nat} (hv : v < 32) (h : rl_is r S E) (hr : ∀ x y, x < 32 → bt (r' x) y = (bt (r x) y || (bt (r x) v && bt (r v) y))) : rl_is r' (fun u => S u ∨ u = v) E := by
  intro x y hx
  rw [hr x y hx, pq_elim, ← h x y hx, ← h x v hx, ← h v y hv, Bool.or_eq_true, Bool.and_eq_true]
theorem rl_congr {r : Nat → Int32} {S S' : Nat → Prop} {E E' : Nat → Nat → Prop} (h : rl_is r S E) (hS : ∀ v, S v ↔ S' v) (hE : ∀ a b, E a b ↔ E' a b) : rl_is r S' E' := fun x y hx => (h x y hx).trans (pq_congr hS hE x y)
/-- the rows themselves -/
theorem rl_base {r : Nat → Int32} {E : Nat → Nat → Prop} (h : ∀ x y, x < 32 → (bt (r x) y = true ↔ E x y)) : rl_is r (fun _ => False) E := fun x y hx => (h x y hx).trans (pq_none x y).symm
theorem mo_f_is {r : Nat → Int32} {E : Nat → Nat → Prop} (h : ∀ x y, x < 32 → (bt (r x) y = true ↔ E x y)) : ∀ n, n ≤ 32 → rl_is (mo_f r n) (fun v => v < n) E
  | 0, _ => rl_congr (rl_base h) (fun v => ⟨fun q => q.elim, fun q => absurd q (Nat.not_lt_zero v)⟩) (fun _ _ => Iff.rfl)
  | n + 1, hn => rl_congr (rl_step (v := n) (by omega) (mo_f_is h n (by omega)) (fun x y _ => mo_st_bt _ (by omega) x y)) (fun v => by omega) (fun _ _ => Iff.rfl)
/-- laid: F begins and ends outside S -/
theorem rl_lay {r r' : Nat → Int32} {S : Nat → Prop} {E F : Nat → Nat → Prop} (h : rl_is r S E) (hF : ∀ a b, F a b → ¬ S a ∧ ¬ S b) (hr : ∀ x y, x < 32 → (bt (r' x) y = true ↔ (bt (r x) y = true ∨ F x y))) : rl_is r' S (fun a b => E a b ∨ F a b) := by
  intro x y hx
  rw [hr x y hx, pq_lay hF, h x y hx]
theorem bd_jk_is {r : Nat → Int32} {S : Nat → Prop} {E : Nat → Nat → Prop} {o : Nat} (ho : o < 4) (h : rl_is r S E) : ∀ k, k ≤ 6 → rl_is (bd_jk r o k) (fun u => S u ∨ (8 * o ≤ u ∧ u < 8 * o + k)) E
  | 0, _ => rl_congr h (fun v => ⟨Or.inl, fun q => q.elim id (fun q => by omega)⟩) (fun _ _ => Iff.rfl)
  | k + 1, hk => by
    have ih := bd_jk_is ho h k (by omega)
    have hlt : 8 * o + k < 32 := by omega
    refine rl_congr (rl_step (r' := bd_jk r o (k + 1)) (v := 8 * o + k) hlt ih (fun x y _ => ?_)) (fun v => ?_) (fun _ _ => Iff.rfl)
    · rw [bd_jk]
      split
      · rename_i h0
        rw [h0, b_0, Bool.and_false, Bool.or_false]
      · exact bd_jn_bt _ hlt x y
    · constructor
      · rintro ((h | h) | h)
        · exact Or.inl h
        · exact Or.inr (by omega)
        · exact Or.inr (by omega)
      · rintro (h | h)
        · exact Or.inl (Or.inl h)
        · by_cases e : v = 8 * o + k
          · exact Or.inr e
          · exact Or.inl (Or.inr (by omega))
/-- circles among the places of S -/
def rl_ci (S : Nat → Prop) (E : Nat → Nat → Prop) : Prop := ∃ u, S u ∧ pq_T S E u u
theorem rl_ci_step {S : Nat → Prop} {E : Nat → Nat → Prop} (v : Nat) : rl_ci (fun u => S u ∨ u = v) E ↔ (rl_ci S E ∨ pq_T S E v v) := by
  constructor
  · intro ⟨u, hu, hc⟩
    refine Classical.byContradiction fun hn => ?_
    exact pq_acyc (S := S) (E := E) (v := v) (fun u hu hc => hn (Or.inl ⟨u, hu, hc⟩)) (fun hc => hn (Or.inr hc)) u hu hc
  · rintro (⟨u, hu, hc⟩ | hc)
    · exact ⟨u, Or.inl hu, pq_mono (fun _ h => Or.inl h) (fun _ _ h => h) hc⟩
    · exact ⟨v, Or.inr rfl, pq_mono (fun _ h => Or.inl h) (fun _ _ h => h) hc⟩
theorem rl_ci_congr {S S' : Nat → Prop} {E E' : Nat → Nat → Prop} (hS : ∀ v, S v ↔ S' v) (hE : ∀ a b, E a b ↔ E' a b) : rl_ci S E ↔ rl_ci S' E' :=
  ⟨fun ⟨u, h1, h2⟩ => ⟨u, (hS u).mp h1, (pq_congr hS hE u u).mp h2⟩, fun ⟨u, h1, h2⟩ => ⟨u, (hS u).mpr h1, (pq_congr hS hE u u).mpr h2⟩⟩
theorem rl_ci_lay {S : Nat → Prop} {E F : Nat → Nat → Prop} (hF : ∀ a b, F a b → ¬ S a ∧ ¬ S b) : rl_ci S (fun a b => E a b ∨ F a b) ↔ rl_ci S E :=
  ⟨fun ⟨u, h1, h2⟩ => ⟨u, h1, ((pq_lay hF u u).mp h2).resolve_right (fun q => (hF u u q).1 h1)⟩, fun ⟨u, h1, h2⟩ => ⟨u, h1, (pq_lay hF u u).mpr (Or.inl h2)⟩⟩
theorem bd_ck_is {r : Nat → Int32} {S : Nat → Prop} {E : Nat → Nat → Prop} {o : Nat} {c : Int32} (ho : o < 4) (h : rl_is r S E) (h01 : c = 0 ∨ c = 1) (hc : c = 1 ↔ rl_ci S E) : ∀ k, k ≤ 6 → (bd_ck r o c k = 0 ∨ bd_ck r o c k = 1) ∧ (bd_ck r o c k = 1 ↔ rl_ci (fun u => S u ∨ (8 * o ≤ u ∧ u < 8 * o + k)) E)
  | 0, _ => ⟨h01, hc.trans (rl_ci_congr (fun v => ⟨Or.inl, fun q => q.elim id (fun q => by omega)⟩) (fun _ _ => Iff.rfl))⟩
  | k + 1, hk => by
    obtain ⟨i1, i2⟩ := bd_ck_is ho h h01 hc k (by omega)
    have hlt : 8 * o + k < 32 := by omega
    have hj := bd_jk_is ho h k (by omega) (8 * o + k) (8 * o + k) hlt
    have hset : rl_ci (fun u => S u ∨ (8 * o ≤ u ∧ u < 8 * o + (k + 1))) E ↔ (rl_ci (fun u => S u ∨ (8 * o ≤ u ∧ u < 8 * o + k)) E ∨ bt (bd_jk r o k (8 * o + k)) (8 * o + k) = true) := by
      rw [hj, ← rl_ci_step]
      refine rl_ci_congr (fun v => ?_) (fun _ _ => Iff.rfl)
      constructor
      · rintro (h | h)
        · exact Or.inl (Or.inl h)
        · by_cases e : v = 8 * o + k
          · exact Or.inr e
          · exact Or.inl (Or.inr (by omega))
      · rintro ((h | h) | h)
        · exact Or.inl h
        · exact Or.inr (by omega)
        · exact Or.inr (by omega)
    rw [hset, bd_ck]
    split
    · rename_i h0
      refine ⟨i1, i2.trans ⟨Or.inl, fun q => q.resolve_right (fun z => by rw [h0, b_0] at z; cases z)⟩⟩
    · split
      · rename_i h0
        have h1 := (zb_t1 _ hlt).mp h0
        exact ⟨i1, i2.trans ⟨Or.inl, fun q => q.resolve_right (fun z => by rw [h1] at z; cases z)⟩⟩
      · rename_i h0
        refine ⟨Or.inr rfl, fun _ => Or.inr ?_, fun _ => rfl⟩
        cases hb : bt (bd_jk r o k (8 * o + k)) (8 * o + k) with
        | true => rfl
        | false => exact absurd ((zb_t1 _ hlt).mpr hb) h0
theorem mo_c_is {r : Nat → Int32} {E : Nat → Nat → Prop} (hE : ∀ a b, E a b → a < 32 ∧ b < 32) (h : ∀ x y, x < 32 → (bt (r x) y = true ↔ E x y)) : mo_c (mo_f r 32) 32 ↔ ∃ u, pq_T (fun _ => True) E u u := by
  have hall : ∀ x y, pq_T (fun _ => True) E x y ↔ pq_T (fun v => v < 32) E x y := pq_all (fun v a b h1 _ => (hE a v h1).2)
  constructor
  · intro ⟨i, hi, hc⟩
    exact ⟨i, (hall i i).mpr ((mo_f_is h 32 (Nat.le_refl _) i i hi).mp ((zb_t2 _ hi).mp hc))⟩
  · intro ⟨u, hu⟩
    obtain ⟨z, hz⟩ := pq_from hu
    have hlt := (hE u z hz).1
    exact ⟨u, hlt, (zb_t2 _ hlt).mpr ((mo_f_is h 32 (Nat.le_refl _) u u hlt).mpr ((hall u u).mp hu))⟩
end
section
/-! THE GRAMMAR as a value; what class and reference hold of it -/
/-- symbols: how many, their attributes, which are down; productions: how many, their parts, symbols by occurrence, dependences by place -/
abbrev gq_G : Type := (Nat × (Nat → Nat) × (Nat → Int32)) × (Nat × (Nat → Nat) × (Nat → Nat → Nat) × (Nat → Nat → Int32))
def gq_ns (g : gq_G) : Nat := g.1.1
def gq_at (g : gq_G) (s : Nat) : Nat := g.1.2.1 s
def gq_dn (g : gq_G) (s : Nat) : Int32 := g.1.2.2 s
def gq_np (g : gq_G) : Nat := g.2.1
def gq_m (g : gq_G) (p : Nat) : Nat := g.2.2.1 p
def gq_sy (g : gq_G) (p o : Nat) : Nat := g.2.2.2.1 p o
def gq_nd (g : gq_G) (p x : Nat) : Int32 := g.2.2.2.2 p x
/-- a place of a production that is there; one that the production defines; one that is given to it -/
def gq_th (g : gq_G) (p x : Nat) : Prop := x / 8 ≤ gq_m g p ∧ x % 8 < gq_at g (gq_sy g p (x / 8))
def gq_df (g : gq_G) (p x : Nat) : Prop := gq_th g p x ∧ (bt (gq_dn g (gq_sy g p (x / 8))) (x % 8) = true ↔ 7 < x)
def gq_gv (g : gq_G) (p x : Nat) : Prop := gq_th g p x ∧ ¬ (bt (gq_dn g (gq_sy g p (x / 8))) (x % 8) = true ↔ 7 < x)
def gq_ok (g : gq_G) : Prop := gq_ns g ≤ 8 ∧ gq_np g ≤ 16 ∧ (∀ s, s < gq_ns g → gq_at g s ≤ 6 ∧ ∀ a, bt (gq_dn g s) a = true → a < gq_at g s) ∧ (0 < gq_ns g → gq_dn g 0 = 0) ∧ (∀ p, p < gq_np g → gq_m g p ≤ 3 ∧ ∀ o, o ≤ gq_m g p → gq_sy g p o < gq_ns g) ∧ (∀ p x y, p < gq_np g → x < 32 → bt (gq_nd g p x) y = true → gq_df g p x ∧ gq_gv g p y)
/-- the reference's memory -/
def gq_M (g : gq_G) (μ : za_M) : Prop := μ.1 30 0 1 = nI (gq_ns g) ∧ μ.1 30 0 4 = nI (gq_np g) ∧ (∀ s, s < gq_ns g → μ.1 31 0 s = nI (gq_at g s) ∧ μ.1 32 0 s = gq_dn g s) ∧ (∀ p o, p < gq_np g → o < 4 → μ.1 33 0 (4 * p + o) = if o ≤ gq_m g p then nI (gq_sy g p o) else -1) ∧ (∀ p x, p < 16 → x < 32 → μ.1 34 0 (32 * p + x) = if p < gq_np g then gq_nd g p x else 0)
/-- the class's memory -/
def gq_C (g : gq_G) (μ : za_M) : Prop := μ.1 1 0 0 = nI (gq_ns g) ∧ μ.1 1 0 3 = nI (gq_np g) ∧ (∀ s, s < gq_ns g → μ.1 2 0 s = nI (gq_at g s) ∧ μ.1 3 0 s = gq_dn g s) ∧ (∀ p, p < gq_np g → μ.1 4 0 p = nI (gq_m g p) ∧ (∀ o, o ≤ gq_m g p → μ.1 6 p o = nI (gq_sy g p o)) ∧ (∀ x, x < 32 → μ.1 8 p x = gq_nd g p x) ∧ (∀ x, x < 32 → (bt (μ.1 9 0 p) x = true ↔ gq_df g p x)) ∧ (∀ x, x < 32 → (bt (μ.1 10 0 p) x = true ↔ gq_gv g p x)))
theorem gq_M_fr {g : gq_G} {S : Nat → Nat → Prop} {μ μ' : za_M} (h : gq_M g μ) (hf : zq_fr S μ μ') (h1 : ¬ S 31 0) (h2 : ¬ S 32 0) (h3 : ¬ S 33 0) (h4 : ¬ S 34 0) (h5 : μ'.1 30 0 1 = μ.1 30 0 1) (h6 : μ'.1 30 0 4 = μ.1 30 0 4) : gq_M g μ' := by
  unfold gq_M at h ⊢
  rw [h5, h6, hf.1 31 0 h1, hf.1 32 0 h2, hf.1 33 0 h3, hf.1 34 0 h4]
  exact h
theorem gq_C_fr {g : gq_G} {S : Nat → Nat → Prop} {μ μ' : za_M} (h : gq_C g μ) (hf : zq_fr S μ μ') (hS : ∀ b j, b ≤ 10 → ¬ S b j) : gq_C g μ' := by
  unfold gq_C at h ⊢
  rw [hf.1 1 0 (hS 1 0 (by decide)), hf.1 2 0 (hS 2 0 (by decide)), hf.1 3 0 (hS 3 0 (by decide)), hf.1 4 0 (hS 4 0 (by decide)), hf.1 9 0 (hS 9 0 (by decide)), hf.1 10 0 (hS 10 0 (by decide))]
  refine ⟨h.1, h.2.1, h.2.2.1, fun p hp => ?_⟩
  rw [hf.1 6 p (hS 6 p (by decide)), hf.1 8 p (hS 8 p (by decide))]
  exact h.2.2.2 p hp
/-- a symbol's number is in range -/
theorem gq_sy8 {g : gq_G} (hg : gq_ok g) {p o : Nat} (hp : p < gq_np g) (ho : o ≤ gq_m g p) : gq_sy g p o < 8 := Nat.lt_of_lt_of_le ((hg.2.2.2.2.1 p hp).2 o ho) hg.1
theorem gq_occ {g : gq_G} {μ : za_M} (h : gq_M g μ) {p o : Nat} {x y : Int32} (hx : x = nI p) (hy : y = nI o) (hp : p < gq_np g) (hp16 : p < 16) (ho : o < 4) : vp_in (4 * x + y) 64 ∧ μ.1 33 0 (4 * x + y).toNatClampNeg = if o ≤ gq_m g p then nI (gq_sy g p o) else -1 := by
  have e : (4 : Int32) * x + y = nI (4 * p + o) := by rw [hx, hy, show (4 : Int32) * nI p = nI (4 * p) from pk_mul 4 p, nI_add]
  rw [e, zn_cl (by omega)]
  exact ⟨zn_in (by omega) (by decide), h.2.2.2.1 p o hp ho⟩
theorem gq_neg (k : Nat) (h : k < 2 ^ 31) : ¬ nI k < 0 := nI_pos h
theorem gq_m1 : (-1 : Int32) < 0 := by decide
end
section
/-! the reference: unions -/
theorem zn_or01 {v : Int32} (h : v = 0 ∨ v = 1) (hn : ¬ v = 0) : v = 1 := h.resolve_left hn
/-- all parts have a union -/
def mo_all (g : gq_G) (μ : za_M) (p n : Nat) : Prop := ∀ o, 1 ≤ o → o < n → o ≤ gq_m g p → μ.1 39 0 (gq_sy g p o) = 1
set_option maxHeartbeats 4000000 in
theorem ct_M_allHave {Γ : zk_G} {d p : Nat} {x : Int32} {μ : za_M} {g : gq_G} (hg : gq_ok g) (hM : gq_M g μ) (h01 : ∀ s, s < 8 → μ.1 39 0 s = 0 ∨ μ.1 39 0 s = 1) (hx : x = nI p) (hp : p < gq_np g) (hd : 1 ≤ d) : zk_Ct zt Γ zm_M_allHave d 0 0 [za_r 30 0, za_i x] μ (fun r μ' => (∃ v : Int32, r = some (za_i v) ∧ (v = 0 ∨ v = 1) ∧ (v = 1 ↔ mo_all g μ p 4)) ∧ μ' = μ) (fun _ _ => False) := by
  have hp16 : p < 16 := Nat.lt_of_lt_of_le hp hg.2.1
  refine zs_M_allHave (Nat.le_of_ble_eq_true rfl) hd (fun ZZ run => ?_)
  have loop := zn_for (σ := Int32) (N := 4)
    (P := fun k v => 1 ≤ k → ∀ y : Int32, y = nI k → ZZ 4 [some (za_r 30 0), some (za_i x), some (za_i v), some (za_i y)] [] μ (0, 0))
    (I := fun k v => (v = 0 ∨ v = 1) ∧ (v = 1 ↔ mo_all g μ p k))
    (fun v h h1 y hy => by
      refine run [4] 60 4 _ _ _ _ ?_
      refine ⟨fun _ => ?_, fun q => absurd (by rw [hy]; exact nI_le (Nat.le_refl 4) (by decide)) q⟩
      exact ⟨rfl, Or.inr ⟨rfl, h.1⟩, Nat.le_refl _, Nat.le_refl _, ⟨v, rfl, h.1, h.2⟩, rfl⟩)
    (fun k v hk h ih h1 y hy => by
      obtain ⟨o1, o2⟩ := gq_occ hM hx hy hp hp16 hk
      have no : ¬ mo_all g μ p (k + 1) → ZZ 4 [some (za_r 30 0), some (za_i x), some (za_i 0), some (za_i (y + 1))] [] μ (0, 0) := fun q => ih 0 ⟨Or.inl rfl, fun z => absurd z (by decide), fun z => absurd z q⟩ (by omega) _ (zn_s hy)
      have yes : mo_all g μ p (k + 1) → ZZ 4 [some (za_r 30 0), some (za_i x), some (za_i 1), some (za_i (y + 1))] [] μ (0, 0) := fun q => ih 1 ⟨Or.inr rfl, fun _ => q, fun _ => rfl⟩ (by omega) _ (zn_s hy)
      refine run [4] 60 4 _ _ _ _ ?_
      refine ⟨fun q => absurd q (zn_ge hy rfl hk (by decide)), fun _ => ?_⟩
      refine ⟨fun hv => ?_, fun hv => ⟨o1, fun hs => ?_, fun hs => ?_⟩⟩
      · refine no (fun q => ?_)
        have := h.2.mpr (fun o a b c => q o a (by omega) c)
        rw [hv] at this
        exact absurd this (by decide)
      · rw [o2] at hs
        refine yes (fun o a b c => ?_)
        by_cases e : o = k
        · subst e
          rw [if_pos c] at hs
          exact absurd hs (gq_neg _ (by have := gq_sy8 hg hp c; omega))
        · exact h.2.mp (zn_or01 h.1 hv) o a (by omega) c
      · rw [o2] at hs
        have hle : k ≤ gq_m g p := by
          refine Classical.byContradiction fun q => hs ?_
          rw [if_neg q]
          exact gq_m1
        rw [if_pos hle] at o2
        have hs8 := gq_sy8 hg hp hle
        refine ⟨o1, by rw [o2]; exact zn_in hs8 (by decide), fun hb => ?_, fun hb => ?_⟩
        · rw [o2, zn_cl (by omega)] at hb
          refine no (fun q => ?_)
          have := q k h1 (Nat.lt_succ_self k) hle
          rw [hb] at this
          exact absurd this (by decide)
        · rw [o2, zn_cl (by omega)] at hb
          refine yes (fun o a b c => ?_)
          by_cases e : o = k
          · subst e
            exact zn_or01 (h01 _ hs8) hb
          · exact h.2.mp (zn_or01 h.1 hv) o a (by omega) c)
  refine run [4] 60 0 _ _ _ _ ?_
  exact loop 1 1 (by decide) ⟨Or.inr rfl, fun _ o a b _ => by omega, fun _ => rfl⟩ (Nat.le_refl 1) 1 rfl
/-- unions laid at the parts k .. of a production but one -/
def mo_lu (g : gq_G) (p : Nat) (but : Nat) (u : Nat → Int32) (r : Nat → Int32) (n : Nat) (i : Nat) : Int32 := if 1 ≤ i / 8 ∧ i / 8 < n ∧ i % 8 < 6 ∧ i / 8 ≤ gq_m g p ∧ i / 8 ≠ but then r i ||| (u (8 * gq_sy g p (i / 8) + i % 8) <<< (nI (8 * (i / 8)) &&& 31)) else r i
set_option maxHeartbeats 8000000 in
theorem ct_M_addUnions {Γ : zk_G} {d p but : Nat} {x z : Int32} {μ : za_M} {g : gq_G} (hg : gq_ok g) (hM : gq_M g μ) (hx : x = nI p) (hz : z = nI but) (hb4 : but < 4) (hp : p < gq_np g) (hd : 1 ≤ d) : zk_Ct zt Γ zm_M_addUnions d 0 0 [za_r 30 0, za_i x, za_i z] μ (fun r μ' => r = none ∧ (∀ i, i < 32 → μ'.1 38 0 i = mo_lu g p but (μ.1 40 0) (μ.1 38 0) 4 i) ∧ zq_fr (fun b j => b = 38 ∧ j = 0) μ μ') (fun _ _ => False) := by
  have hp16 : p < 16 := Nat.lt_of_lt_of_le hp hg.2.1
  refine zs_M_addUnions (Nat.le_of_ble_eq_true rfl) hd (fun ZZ run => ?_)
  have loop := zn_for (σ := za_M × Option za_V × Option za_V) (N := 4)
    (P := fun k s => 1 ≤ k → ∀ y : Int32, y = nI k → ZZ 2 [some (za_r 30 0), some (za_i x), some (za_i z), some (za_i y), s.2.1, s.2.2] [] s.1 (0, 0))
    (I := fun k s => (∀ i, i < 32 → s.1.1 38 0 i = mo_lu g p but (μ.1 40 0) (μ.1 38 0) k i) ∧ zq_fr (fun b j => b = 38 ∧ j = 0) μ s.1)
    (fun s h h1 y hy => by
      refine run [2, 22] 60 2 _ _ _ _ ?_
      refine ⟨fun _ => ?_, fun q => absurd (by rw [hy]; exact nI_le (Nat.le_refl 4) (by decide)) q⟩
      exact ⟨rfl, rfl, Nat.le_refl _, Nat.le_refl _, rfl, h.1, h.2⟩)
    (fun k s hk h ih h1 y hy => by
      have hM' : gq_M g s.1 := gq_M_fr hM h.2 (by decide) (by decide) (by decide) (by decide) (by rw [h.2.1 30 0 (by decide)]) (by rw [h.2.1 30 0 (by decide)])
      obtain ⟨o1, o2⟩ := gq_occ hM' hx hy hp hp16 hk
      generalize hw : s.1.1 33 0 (4 * x + y).toNatClampNeg = w at o2
      have skip : (¬ k ≤ gq_m g p ∨ k = but) → ∀ v1 v2, ZZ 2 [some (za_r 30 0), some (za_i x), some (za_i z), some (za_i (y + 1)), v1, v2] [] s.1 (0, 0) := by
        intro hs v1 v2
        refine ih (s.1, v1, v2) ⟨fun i hi => ?_, h.2⟩ (by omega) _ (zn_s hy)
        rw [h.1 i hi, mo_lu, mo_lu]
        by_cases e : i / 8 = k
        · rw [if_neg (fun q => by omega), if_neg (fun q => by rcases hs with hs | hs <;> omega)]
        · by_cases c : 1 ≤ i / 8 ∧ i / 8 < k ∧ i % 8 < 6 ∧ i / 8 ≤ gq_m g p ∧ i / 8 ≠ but
          · rw [if_pos c, if_pos (by omega)]
          · rw [if_neg c, if_neg (fun q => c (by omega))]
      have inner := zn_for (σ := za_M) (N := 6)
        (P := fun n μ1 => ∀ a : Int32, a = nI n → ZZ 22 [some (za_r 30 0), some (za_i x), some (za_i z), some (za_i y), some (za_i w), some (za_i a)] [] μ1 (0, 0))
        (I := fun n μ1 => (k ≤ gq_m g p ∧ k ≠ but) ∧ (∀ i, i < 32 → μ1.1 38 0 i = if i / 8 = k ∧ i % 8 < n then mo_lu g p but (μ.1 40 0) (μ.1 38 0) (k + 1) i else mo_lu g p but (μ.1 40 0) (μ.1 38 0) k i) ∧ zq_fr (fun b j => b = 38 ∧ j = 0) μ μ1)
        (fun μ1 q a ha => by
          refine run [2, 22] 60 22 _ _ _ _ ?_
          refine ⟨fun _ => ?_, fun z => absurd (by rw [ha]; exact nI_le (Nat.le_refl 6) (by decide)) z⟩
          refine ih (μ1, some (za_i w), some (za_i a)) ⟨fun i hi => ?_, q.2.2⟩ (by omega) _ (zn_s hy)
          rw [q.2.1 i hi]
          by_cases c : i / 8 = k ∧ i % 8 < 6
          · rw [if_pos c]
          · rw [if_neg c, mo_lu, mo_lu]
            by_cases c2 : 1 ≤ i / 8 ∧ i / 8 < k ∧ i % 8 < 6 ∧ i / 8 ≤ gq_m g p ∧ i / 8 ≠ but
            · rw [if_pos c2, if_pos (by omega)]
            · rw [if_neg c2, if_neg (fun q => c2 (by omega))])
        (fun n μ1 hn q ih2 a ha => by
          obtain ⟨⟨hle, hne⟩, q1, q2⟩ := q
          rw [if_pos hle] at o2
          have hs8 := gq_sy8 hg hp hle
          refine run [2, 22] 60 22 _ _ _ _ ?_
          refine ⟨fun z => absurd z (zn_ge ha rfl hn (by decide)), fun _ => ⟨fun hs => absurd hs (by rw [o2]; exact gq_neg _ (by omega)), fun _ => ⟨fun hs => ?_, fun _ => ?_⟩⟩⟩
          · rw [hy, hz, nI_eq (by omega) (by omega)] at hs
            exact absurd hs hne
          · have e1 : (8 : Int32) * y + a = nI (8 * k + n) := by rw [hy, ha, zn_8, nI_add]
            have e2 : (8 : Int32) * w + a = nI (8 * gq_sy g p k + n) := by rw [o2, ha, zn_8, nI_add]
            have e3 : (8 : Int32) * y = nI (8 * k) := by rw [hy, zn_8]
            refine ⟨zn_i e1 (by omega) (by decide), zn_i e2 (by omega) (by decide), zn_i e1 (by omega) (by decide), ?_⟩
            refine ih2 _ ⟨⟨hle, hne⟩, fun i hi => ?_, zq_u q2 ⟨rfl, rfl⟩⟩ _ (zn_s ha)
            dsimp only
            rw [zn_c e1 (by omega), zn_c e2 (by omega), e3]
            by_cases e : i = 8 * k + n
            · have d1 : i / 8 = k := by omega
              have d2 : i % 8 = n := by omega
              have hrow : μ1.1 38 0 i = μ.1 38 0 i := by
                rw [q1 i hi, if_neg (by omega), mo_lu, if_neg (by omega)]
              rw [if_pos (by omega), mo_lu, if_pos (by omega), d1, d2, ← e, za_u_same, hrow, q2.1 40 0 (by decide)]
            · rw [za_u_i e, q1 i hi]
              by_cases c : i / 8 = k ∧ i % 8 < n
              · rw [if_pos c, if_pos (by omega)]
              · rw [if_neg c, if_neg (by omega)])
      refine run [2, 22] 60 2 _ _ _ _ ?_
      refine ⟨fun q => absurd q (zn_ge hy rfl hk (by decide)), fun _ => ⟨o1, ?_⟩⟩
      by_cases hc : k ≤ gq_m g p ∧ k ≠ but
      · have h9 := inner 0 s.1 (Nat.zero_le _) ⟨hc, fun i hi => by rw [h.1 i hi, if_neg (by omega)], h.2⟩ 0 rfl
        rw [← hw] at h9
        exact h9
      · have head : ZZ 22 [some (za_r 30 0), some (za_i x), some (za_i z), some (za_i y), some (za_i w), some (za_i 0)] [] s.1 (0, 0) := by
          refine run [2, 22] 60 22 _ _ _ _ ?_
          refine ⟨fun z => absurd z (by decide), fun _ => ⟨fun hs => ?_, fun hs => ⟨fun hq => ?_, fun hq => ?_⟩⟩⟩
          · refine skip (Or.inl fun q => ?_) _ _
            rw [o2, if_pos q] at hs
            exact absurd hs (gq_neg _ (by have := gq_sy8 hg hp q; omega))
          · rw [hy, hz, nI_eq (by omega) (by omega)] at hq
            exact skip (Or.inr hq) _ _
          · refine absurd ⟨?_, fun q => hq (by rw [hy, hz, q])⟩ hc
            refine Classical.byContradiction fun q => hs ?_
            rw [o2, if_neg q]
            exact gq_m1
        rw [← hw] at head
        exact head)
  refine run [2, 22] 60 0 _ _ _ _ ?_
  exact loop 1 (μ, none, none) (by decide) ⟨fun i hi => by rw [mo_lu, if_neg (by omega)], zq_rf⟩ (Nat.le_refl 1) 1 rfl
end
section
/-! UNIONS, said of the grammar: the least ones -/
/-- the steps of a production: its dependences, what the parts' relations say (but one), what the head's says from above -/
def un_E (g : gq_G) (p but : Nat) (U : Nat → Nat → Nat → Prop) (V : Nat → Nat → Prop) (x y : Nat) : Prop := x < 32 ∧ y < 32 ∧ (bt (gq_nd g p x) y = true ∨ (1 ≤ x / 8 ∧ x / 8 ≤ gq_m g p ∧ x / 8 ≠ but ∧ y / 8 = x / 8 ∧ U (gq_sy g p (x / 8)) (x % 8) (y % 8)) ∨ (x < 8 ∧ y < 8 ∧ V x y))
theorem un_E_mono {g : gq_G} {p but : Nat} {U U' : Nat → Nat → Nat → Prop} {V V' : Nat → Nat → Prop} (hU : ∀ s a b, U s a b → U' s a b) (hV : ∀ a b, V a b → V' a b) {x y : Nat} (h : un_E g p but U V x y) : un_E g p but U' V' x y := by
  obtain ⟨h1, h2, h3⟩ := h
  refine ⟨h1, h2, ?_⟩
  rcases h3 with h | ⟨a, b, c, d, e⟩ | ⟨a, b, c⟩
  · exact Or.inl h
  · exact Or.inr (Or.inl ⟨a, b, c, d, hU _ _ _ e⟩)
  · exact Or.inr (Or.inr ⟨a, b, hV _ _ c⟩)
def un_no (_ _ : Nat) : Prop := False
def un_parts (g : gq_G) (ex : Nat → Prop) (p : Nat) : Prop := ∀ o, 1 ≤ o → o ≤ gq_m g p → ex (gq_sy g p o)
def un_cl (g : gq_G) (ex : Nat → Prop) (U : Nat → Nat → Nat → Prop) : Prop := ∀ p, p < gq_np g → un_parts g ex p → ex (gq_sy g p 0) ∧ ∀ a b, a < 8 → b < 8 → pq_T (fun _ => True) (un_E g p 0 U un_no) a b → U (gq_sy g p 0) a b
def un_ex (g : gq_G) (s : Nat) : Prop := ∀ ex U, un_cl g ex U → ex s
def un_U (g : gq_G) (s a b : Nat) : Prop := ∀ ex U, un_cl g ex U → U s a b
theorem un_least (g : gq_G) : un_cl g (un_ex g) (un_U g) := by
  intro p hp hparts
  refine ⟨fun ex U hc => (hc p hp (fun o h1 h2 => hparts o h1 h2 ex U hc)).1, fun a b ha hb h ex U hc => ?_⟩
  refine (hc p hp (fun o h1 h2 => hparts o h1 h2 ex U hc)).2 a b ha hb ?_
  exact pq_mono (fun _ h => h) (fun x y q => un_E_mono (fun s a b z => z ex U hc) (fun _ _ z => z) q) h
/-- from above -/
def un_vc (g : gq_G) (V : Nat → Nat → Nat → Prop) : Prop := ∀ p, p < gq_np g → un_parts g (un_ex g) p → ∀ o, 1 ≤ o → o ≤ gq_m g p → ∀ a b, a < 8 → b < 8 → pq_T (fun _ => True) (un_E g p o (un_U g) (V (gq_sy g p 0))) (8 * o + a) (8 * o + b) → V (gq_sy g p o) a b
def un_V (g : gq_G) (s a b : Nat) : Prop := ∀ V, un_vc g V → V s a b
theorem un_vleast (g : gq_G) : un_vc g (un_V g) := by
  intro p hp hparts o h1 h2 a b ha hb h V hc
  refine hc p hp hparts o h1 h2 a b ha hb ?_
  exact pq_mono (fun _ h => h) (fun x y q => un_E_mono (fun _ _ _ z => z) (fun _ _ z => z V hc) q) h
/-- strongly free, doubly free -/
def un_circ (g : gq_G) (V : Nat → Nat → Nat → Prop) : Prop := ∃ p, p < gq_np g ∧ un_parts g (un_ex g) p ∧ ∃ u, pq_T (fun _ => True) (un_E g p 0 (un_U g) (V (gq_sy g p 0))) u u
/-- how many of the first N are not -/
def ct_n (P : Nat → Bool) : Nat → Nat
  | 0 => 0
  | n + 1 => ct_n P n + (if P n = true then 0 else 1)
theorem ct_n_le {P Q : Nat → Bool} : ∀ {N : Nat}, (∀ i, i < N → P i = true → Q i = true) → ct_n Q N ≤ ct_n P N
  | 0, _ => Nat.le_refl _
  | n + 1, h => by
    have ih := ct_n_le (P := P) (Q := Q) (N := n) (fun i hi => h i (by omega))
    simp only [ct_n]
    by_cases hp : P n = true
    · rw [if_pos hp, if_pos (h n (by omega) hp)]
      omega
    · rw [if_neg hp]
      split <;> omega
theorem ct_n_lt {P Q : Nat → Bool} : ∀ {N : Nat}, (∀ i, i < N → P i = true → Q i = true) → (∃ i, i < N ∧ P i = false ∧ Q i = true) → ct_n Q N < ct_n P N
  | 0, _, ⟨i, hi, _⟩ => by omega
  | n + 1, h, ⟨i, hi, h1, h2⟩ => by
    simp only [ct_n]
    by_cases e : i = n
    · subst e
      have := ct_n_le (P := P) (Q := Q) (N := i) (fun j hj => h j (by omega))
      rw [h2, h1]
      simp
      omega
    · have ih := ct_n_lt (P := P) (Q := Q) (N := n) (fun j hj => h j (by omega)) ⟨i, by omega, h1, h2⟩
      by_cases hp : P n = true
      · rw [if_pos hp, if_pos (h n (by omega) hp)]
        omega
      · rw [if_neg hp]
        split <;> omega
theorem ct_n_max (P : Nat → Bool) : ∀ N, ct_n P N ≤ N
  | 0 => Nat.le_refl _
  | n + 1 => by
    have := ct_n_max P n
    simp only [ct_n]
    split <;> omega
/-- edges of a production begin at places that it defines or at parts' (or, from above, the head's); they end .. -/
theorem un_from {g : gq_G} (hg : gq_ok g) {p but : Nat} (hp : p < gq_np g) {U : Nat → Nat → Nat → Prop} {x y : Nat} (hx : x < 8) (h : pq_T (fun _ => True) (un_E g p but U un_no) x y) : gq_df g p x := by
  obtain ⟨z, h1, h2, h3⟩ := pq_from h
  rcases h3 with h | ⟨a, _⟩ | ⟨_, _, c⟩
  · exact (hg.2.2.2.2.2 p x z hp h1 h).1
  · omega
  · exact c.elim
theorem un_to {g : gq_G} (hg : gq_ok g) {p but : Nat} (hp : p < gq_np g) {U : Nat → Nat → Nat → Prop} {x y : Nat} (hy : y < 8) (h : pq_T (fun _ => True) (un_E g p but U un_no) x y) : gq_gv g p y := by
  obtain ⟨z, h1, h2, h3⟩ := pq_to h
  rcases h3 with h | ⟨a, _, _, d, _⟩ | ⟨_, _, c⟩
  · exact (hg.2.2.2.2.2 p z y hp h1 h).2
  · omega
  · exact c.elim
end
section
/-! the reference: rows with unions laid are the production's steps -/
theorem bt_shl8 (u : Int32) {o y : Nat} (ho : o < 4) (hy : y < 32) : bt (u <<< (nI (8 * o) &&& 31)) y = (decide (8 * o ≤ y) && bt u (y - 8 * o)) := b_shl (8 * o) (by omega) u hy
/-- unions in memory -/
def mo_U (μ : za_M) (s a b : Nat) : Prop := a < 6 ∧ b < 8 ∧ bt (μ.1 40 0 (8 * s + a)) b = true
/-- unions of attributes have bits of attributes alone -/
def mo_ub (μ : za_M) : Prop := ∀ i y, i < 64 → bt (μ.1 40 0 i) y = true → y < 6 ∧ i % 8 < 6
theorem mo_lu_is {g : gq_G} (hg : gq_ok g) {p but : Nat} (hp : p < gq_np g) {μ : za_M} (hub : mo_ub μ) {r : Nat → Int32} (hr : ∀ i, i < 32 → r i = gq_nd g p i) : ∀ x y, x < 32 → (bt (mo_lu g p but (μ.1 40 0) r 4 x) y = true ↔ un_E g p but (mo_U μ) un_no x y) := by
  intro x y hx
  have hm := (hg.2.2.2.2.1 p hp).1
  by_cases hy : y < 32
  · unfold mo_lu un_E
    rw [hr x hx]
    by_cases c : 1 ≤ x / 8 ∧ x / 8 < 4 ∧ x % 8 < 6 ∧ x / 8 ≤ gq_m g p ∧ x / 8 ≠ but
    · have hs8 := gq_sy8 hg hp c.2.2.2.1
      rw [if_pos c, b_or, bt_shl8 _ c.2.1 hy, Bool.or_eq_true, Bool.and_eq_true, decide_eq_true_eq]
      constructor
      · rintro (h | ⟨h1, h2⟩)
        · exact ⟨hx, hy, Or.inl h⟩
        · have h6 := (hub _ _ (by omega) h2).1
          refine ⟨hx, hy, Or.inr (Or.inl ⟨c.1, c.2.2.2.1, c.2.2.2.2, by omega, c.2.2.1, by omega, ?_⟩)⟩
          rw [show y % 8 = y - 8 * (x / 8) by omega]
          exact h2
      · rintro ⟨_, _, h | ⟨a, b, d, e, f1, f2, f3⟩ | ⟨_, _, h⟩⟩
        · exact Or.inl h
        · refine Or.inr ⟨by omega, ?_⟩
          rw [show y - 8 * (x / 8) = y % 8 by omega]
          exact f3
        · exact h.elim
    · rw [if_neg c]
      constructor
      · intro h
        exact ⟨hx, hy, Or.inl h⟩
      · rintro ⟨_, _, h | ⟨a, b, d, e, f1, f2, f3⟩ | ⟨_, _, h⟩⟩
        · exact h
        · exact absurd ⟨a, by omega, f1, b, d⟩ c
        · exact h.elim
  · constructor
    · intro h
      rw [b_big (by omega)] at h
      cases h
    · intro h
      exact absurd h.2.1 hy
theorem un_E_lt {g : gq_G} {p but : Nat} {U : Nat → Nat → Nat → Prop} {V : Nat → Nat → Prop} : ∀ a b, un_E g p but U V a b → a < 32 ∧ b < 32 := fun _ _ h => ⟨h.1, h.2.1⟩
/-- closed over all 32 places: closed -/
theorem un_closed {r : Nat → Int32} {g : gq_G} {p but : Nat} {U : Nat → Nat → Nat → Prop} {V : Nat → Nat → Prop} (h : ∀ x y, x < 32 → (bt (r x) y = true ↔ un_E g p but U V x y)) {x y : Nat} (hx : x < 32) : bt (mo_f r 32 x) y = true ↔ pq_T (fun _ => True) (un_E g p but U V) x y :=
  (mo_f_is h 32 (Nat.le_refl _) x y hx).trans (pq_all (fun v a b h1 _ => h1.2.1) x y).symm
end
section
/-! the reference: growUnion -/
theorem gq_occ0 {g : gq_G} {μ : za_M} (h : gq_M g μ) {p : Nat} {x : Int32} (hx : x = nI p) (hp : p < gq_np g) (hp16 : p < 16) : vp_in (4 * x) 64 ∧ μ.1 33 0 (4 * x).toNatClampNeg = nI (gq_sy g p 0) := by
  have e : (4 : Int32) * x = nI (4 * p + 0) := by rw [hx, show (4 : Int32) * nI p = nI (4 * p) from pk_mul 4 p]; rfl
  rw [e, zn_cl (by omega), h.2.2.2.1 p 0 hp (by decide), if_pos (Nat.zero_le _)]
  exact ⟨zn_in (by omega) (by decide), rfl⟩
theorem zb_new (m u : Int32) : m &&& (u ^^^ (-1)) = 0 ↔ ∀ b, bt m b = true → bt u b = true := by
  constructor
  · intro h b hb
    by_cases h32 : b < 32
    · have h1 := congrArg (fun z => bt z b) h
      simp only [b_and, b_xor, b_0, b_m1 b h32, hb] at h1
      simpa using h1
    · rw [b_big (by omega)] at hb
      cases hb
  · intro h
    refine b_ext fun b hb => ?_
    rw [b_and, b_xor, b_0, b_m1 b hb]
    cases hm : bt m b with
    | false => rfl
    | true => rw [h b hm]; rfl
theorem gq_up {g : gq_G} {p a : Nat} (ha : a < 8) (h : gq_df g p a) : a < gq_at g (gq_sy g p 0) ∧ bt (gq_dn g (gq_sy g p 0)) a = false := by
  obtain ⟨⟨_, h1⟩, h2⟩ := h
  rw [show a / 8 = 0 by omega, show a % 8 = a by omega] at h1 h2
  refine ⟨h1, ?_⟩
  cases hb : bt (gq_dn g (gq_sy g p 0)) a with
  | false => rfl
  | true => exact absurd (h2.mp hb) (by omega)
theorem gq_dw {g : gq_G} {p a : Nat} (ha : a < 8) (h : gq_gv g p a) : a < gq_at g (gq_sy g p 0) ∧ bt (gq_dn g (gq_sy g p 0)) a = true := by
  obtain ⟨⟨_, h1⟩, h2⟩ := h
  rw [show a / 8 = 0 by omega, show a % 8 = a by omega] at h1 h2
  refine ⟨h1, ?_⟩
  cases hb : bt (gq_dn g (gq_sy g p 0)) a with
  | true => rfl
  | false => exact absurd ⟨fun q => (by rw [hb] at q; cases q), fun q => by omega⟩ h2
/-- what a production says of its head -/
def mo_P (g : gq_G) (μ : za_M) (p a b : Nat) : Prop := b < 8 ∧ pq_T (fun _ => True) (un_E g p 0 (mo_U μ) un_no) a b
set_option maxHeartbeats 8000000 in
theorem ct_M_growUnion {Γ : zk_G} {d p : Nat} {x : Int32} {μ : za_M} {g : gq_G} (hg : gq_ok g) (hM : gq_M g μ) (hub : mo_ub μ) (h01 : ∀ s, s < 8 → μ.1 39 0 s = 0 ∨ μ.1 39 0 s = 1) (hx : x = nI p) (hp : p < gq_np g) (hd : 2 ≤ d) : zk_Ct zt Γ zm_M_growUnion d 0 0 [za_r 30 0, za_i x] μ
    (fun r μ' => (∃ v : Int32, r = some (za_i v) ∧ (v = 0 ∨ v = 1) ∧ (v = 1 ↔ (μ.1 39 0 (gq_sy g p 0) = 0 ∨ ∃ a b, a < 8 ∧ mo_P g μ p a b ∧ bt (μ.1 40 0 (8 * gq_sy g p 0 + a)) b = false))) ∧
      (∀ i, i < 8 → μ'.1 39 0 i = if i = gq_sy g p 0 then 1 else μ.1 39 0 i) ∧ (∀ i b, i < 64 → (bt (μ'.1 40 0 i) b = true ↔ (bt (μ.1 40 0 i) b = true ∨ (i / 8 = gq_sy g p 0 ∧ mo_P g μ p (i % 8) b)))) ∧ zq_fr (fun b j => (b = 38 ∨ b = 39 ∨ b = 40) ∧ j = 0) μ μ') (fun _ _ => False) := by
  have hp16 : p < 16 := Nat.lt_of_lt_of_le hp hg.2.1
  have hs8 : gq_sy g p 0 < 8 := gq_sy8 hg hp (Nat.zero_le _)
  have hsn : gq_sy g p 0 < gq_ns g := (hg.2.2.2.2.1 p hp).2 0 (Nat.zero_le _)
  obtain ⟨hat6, hdb⟩ := hg.2.2.1 _ hsn
  generalize hse : gq_sy g p 0 = s at hs8 hsn hat6 hdb
  obtain ⟨o1, o2⟩ := gq_occ0 hM hx hp hp16
  rw [hse] at o2
  refine zs_M_growUnion (Nat.le_of_ble_eq_true rfl) (by omega) (fun ZZ run => ?_)
  -- the loop, from any memory with the rows closed
  have loop := fun (R : Nat → Int32) (hR : ∀ a b, a < 8 → (bt (R a) b = true ↔ pq_T (fun _ => True) (un_E g p 0 (mo_U μ) un_no) a b)) (μ4 : za_M) (hrow : ∀ a, a < 8 → μ4.1 38 0 a = R a) =>
    zn_for (σ := za_M × Int32 × Option za_V) (N := gq_at g s)
    (P := fun k t => ∀ w y : Int32, w = nI s → y = nI k → ZZ 49 [some (za_r 30 0), some (za_i x), some (za_i w), some (za_i t.2.1), some (za_i y), t.2.2] [] t.1 (0, 0))
    (I := fun k t => (t.2.1 = 0 ∨ t.2.1 = 1) ∧ (t.2.1 = 1 ↔ (μ.1 39 0 s = 0 ∨ ∃ a b, a < k ∧ mo_P g μ p a b ∧ bt (μ.1 40 0 (8 * s + a)) b = false)) ∧ (∀ a, a < 8 → t.1.1 38 0 a = R a) ∧ (∀ i, i < 8 → t.1.1 39 0 i = if i = s then 1 else μ.1 39 0 i) ∧
      (∀ i b, i < 64 → (bt (t.1.1 40 0 i) b = true ↔ (bt (μ.1 40 0 i) b = true ∨ (i / 8 = s ∧ i % 8 < k ∧ mo_P g μ p (i % 8) b)))) ∧ zq_fr (fun b j => (b = 38 ∨ b = 39 ∨ b = 40) ∧ j = 0) μ t.1)
    (fun t h w y hw hy => by
      obtain ⟨i1, i2, i3, i4, i5, i6⟩ := h
      have e1 : t.1.1 31 0 w.toNatClampNeg = nI (gq_at g s) := by rw [i6.1 31 0 (by decide), zn_c hw (by omega)]; exact (hM.2.2.1 s hsn).1
      refine run [49] 80 49 _ _ _ _ ?_
      refine ⟨zn_i hw (by omega) (by decide), fun _ => ?_, fun q => absurd (by rw [e1, hy]; exact Int32.le_refl _) q⟩
      refine ⟨rfl, Or.inr ⟨rfl, i1⟩, Nat.le_refl _, Nat.le_refl _, ⟨t.2.1, rfl, i1, i2.trans ?_⟩, i4, fun i b hi => (i5 i b hi).trans ?_, i6⟩
      · refine ⟨fun q => q.elim Or.inl (fun ⟨a, b, q1, q2, q3⟩ => Or.inr ⟨a, b, by omega, q2, q3⟩), fun q => q.elim Or.inl (fun ⟨a, b, q1, q2, q3⟩ => Or.inr ⟨a, b, ?_, q2, q3⟩)⟩
        have := (gq_up q1 (un_from hg hp q1 q2.2)).1
        rw [hse] at this
        exact this
      · refine ⟨fun q => q.elim Or.inl (fun q => Or.inr ⟨q.1, q.2.2⟩), fun q => q.elim Or.inl (fun q => Or.inr ⟨q.1, ?_, q.2⟩)⟩
        have := (gq_up (by omega) (un_from hg hp (by omega) q.2.2)).1
        rw [hse] at this
        exact this)
    (fun k t hk h ih w y hw hy => by
      obtain ⟨i1, i2, i3, i4, i5, i6⟩ := h
      have hcw : w.toNatClampNeg = s := zn_c hw (by omega)
      have hcy : y.toNatClampNeg = k := zn_c hy (by omega)
      have e1 : t.1.1 31 0 s = nI (gq_at g s) := by rw [i6.1 31 0 (by decide)]; exact (hM.2.2.1 s hsn).1
      have e2 : t.1.1 32 0 s = gq_dn g s := by rw [i6.1 32 0 (by decide)]; exact (hM.2.2.1 s hsn).2
      have e3 : (8 : Int32) * w + y = nI (8 * s + k) := by rw [hw, hy, zn_8, nI_add]
      have hc3 : ((8 : Int32) * w + y).toNatClampNeg = 8 * s + k := zn_c e3 (by omega)
      have b3 : vp_in ((8 : Int32) * w + y) 64 := zn_i e3 (by omega) (by decide)
      have hold : ∀ b, bt (t.1.1 40 0 (8 * s + k)) b = true ↔ bt (μ.1 40 0 (8 * s + k)) b = true := fun b => (i5 (8 * s + k) b (by omega)).trans ⟨fun q => q.elim id (fun q => by omega), Or.inl⟩
      -- what is more
      have more : ∀ m : Int32, (∀ b, bt m b = true ↔ mo_P g μ p k b) → ∀ (v : Int32), (v = 0 ∨ v = 1) → (v = 1 ↔ (t.2.1 = 1 ∨ ¬ m &&& (t.1.1 40 0 (8 * s + k) ^^^ (-1)) = 0)) → ZZ 49 [some (za_r 30 0), some (za_i x), some (za_i w), some (za_i v), some (za_i (y + 1)), some (za_i m)] [] (za_u t.1.1 40 0 ((8 : Int32) * w + y).toNatClampNeg (t.1.1 40 0 ((8 : Int32) * w + y).toNatClampNeg ||| m), t.1.2) (0, 0) := by
        intro m hm v hv hv1
        refine ih (_, v, some (za_i m)) ⟨hv, ?_, fun a ha => ?_, fun i hi => ?_, fun i b hi => ?_, zq_u i6 ⟨Or.inr (Or.inr rfl), rfl⟩⟩ w _ hw (zn_s hy)
        · rw [hv1, i2, zb_new]
          constructor
          · rintro ((q | ⟨a, b, q1, q2, q3⟩) | q)
            · exact Or.inl q
            · exact Or.inr ⟨a, b, by omega, q2, q3⟩
            · refine Or.inr (Classical.byContradiction fun hn => q fun b hb => ?_)
              rw [hold]
              cases hu : bt (μ.1 40 0 (8 * s + k)) b with
              | true => rfl
              | false => exact absurd ⟨k, b, Nat.lt_succ_self k, (hm b).mp hb, hu⟩ hn
          · rintro (q | ⟨a, b, q1, q2, q3⟩)
            · exact Or.inl (Or.inl q)
            · by_cases e : a = k
              · subst e
                refine Or.inr fun hn => ?_
                have := (hold b).mp (hn b ((hm b).mpr q2))
                rw [q3] at this
                cases this
              · exact Or.inl (Or.inr ⟨a, b, by omega, q2, q3⟩)
        · dsimp only
          rw [za_u_b (show (38 : Nat) ≠ 40 by decide)]
          exact i3 a ha
        · dsimp only
          rw [za_u_b (show (39 : Nat) ≠ 40 by decide)]
          exact i4 i hi
        · dsimp only
          rw [hc3]
          by_cases e : i = 8 * s + k
          · subst e
            rw [za_u_same, b_or, Bool.or_eq_true, hold, hm, show (8 * s + k) / 8 = s by omega, show (8 * s + k) % 8 = k by omega]
            exact ⟨fun q => q.elim Or.inl (fun q => Or.inr ⟨rfl, Nat.lt_succ_self k, q⟩), fun q => q.elim Or.inl (fun q => Or.inr q.2.2)⟩
          · rw [za_u_i e, i5 i b hi]
            exact ⟨fun q => q.elim Or.inl (fun q => Or.inr ⟨q.1, by omega, q.2.2⟩), fun q => q.elim Or.inl (fun q => Or.inr ⟨q.1, by omega, q.2.2⟩)⟩
      have tail : ∀ m : Int32, (∀ b, bt m b = true ↔ mo_P g μ p k b) → ZZ 90 [some (za_r 30 0), some (za_i x), some (za_i w), some (za_i t.2.1), some (za_i y), some (za_i m)] [] t.1 (0, 0) := by
        intro m hm
        refine run [49] 80 90 _ _ _ _ ?_
        refine ⟨fun hv => ⟨b3, b3, ?_⟩, fun hv => ⟨b3, fun hz => ⟨b3, b3, ?_⟩, fun hz => ⟨b3, b3, ?_⟩⟩⟩
        · exact more m hm 1 (Or.inr rfl) ⟨fun _ => Or.inl (zn_or01 i1 hv), fun _ => rfl⟩
        · rw [hc3] at hz
          exact more m hm 0 (Or.inl rfl) ⟨fun q => absurd q (by decide), fun q => q.elim (fun q => by rw [hv] at q; exact absurd q (by decide)) (fun q => absurd hz q)⟩
        · rw [hc3] at hz
          exact more m hm 1 (Or.inr rfl) ⟨fun _ => Or.inr hz, fun _ => rfl⟩
      refine run [49, 90] 80 49 _ _ _ _ ?_
      refine ⟨zn_i hw (by omega) (by decide), fun q => absurd q (by rw [hcw]; exact zn_ge hy e1 hk (by omega)), fun _ => ?_⟩
      refine ⟨d - 1, 0, 0, _, _, by omega, Nat.le_refl _, Nat.le_refl _, ct_M_isDown (by omega) (zn_i hw (by omega) (by decide)), ?_, fun _ _ h => h.elim⟩
      rintro r μ5 ⟨rfl, rfl⟩
      have hif : (t.1.1 32 0 w.toNatClampNeg >>> (y &&& 31)) &&& 1 = 1 ↔ bt (gq_dn g s) k = true := by rw [hcw, e2, hy]; exact zb_t2 _ (by omega)
      by_cases hdn : bt (gq_dn g s) k = true
      · rw [if_pos (hif.mpr hdn)]
        refine ⟨fun q => absurd q (by decide), fun _ => ?_⟩
        refine tail 0 (fun b => ⟨fun q => (by rw [b_0] at q; cases q), fun q => ?_⟩)
        have := (gq_up (by omega) (un_from hg hp (show k < 8 by omega) q.2)).2
        rw [hse, hdn] at this
        cases this
      · rw [if_neg (fun q => hdn (hif.mp q))]
        refine ⟨fun _ => ?_, fun q => absurd rfl q⟩
        refine ⟨zn_i hy (by omega) (by decide), zn_i hw (by omega) (by decide), ?_⟩
        refine tail (t.1.1 38 0 y.toNatClampNeg &&& t.1.1 32 0 w.toNatClampNeg) (fun b => ?_)
        · rw [hcy, hcw, e2]
          rw [b_and, Bool.and_eq_true, i3 k (by omega), hR k b (by omega)]
          refine ⟨fun q => ⟨by have := hdb b q.2; omega, q.1⟩, fun q => ⟨q.2, ?_⟩⟩
          have := (gq_dw q.1 (un_to hg hp q.1 q.2)).2
          rw [hse] at this
          exact this)
  have pre : ∀ (v w : Int32), (v = 0 ∨ v = 1) → (v = 1 ↔ μ.1 39 0 s = 0) → w = nI s → ZZ 31 [some (za_r 30 0), some (za_i x), some (za_i w), some (za_i v), none, none] [] (za_u μ.1 39 0 w.toNatClampNeg 1, μ.2) (0, 0) := by
    intro v w hv hv1 hw
    have hcw : w.toNatClampNeg = s := zn_c hw (by omega)
    rw [hcw]
    have f0 : zq_fr (fun b j => (b = 38 ∨ b = 39 ∨ b = 40) ∧ j = 0) μ (za_u μ.1 39 0 s 1, μ.2) := zq_u zq_rf ⟨Or.inr (Or.inl rfl), rfl⟩
    refine run [49] 80 31 _ _ _ _ ?_
    refine ⟨d - 1, 0, 0, _, _, by omega, Nat.le_refl _, Nat.le_refl _, ct_M_takeDepends hx (by omega) hp16, ?_, fun _ _ h => h.elim⟩
    rintro r μ1 ⟨rfl, t1, t2⟩
    have f1 := zq_tr f0 (zq_up t2 (fun _ _ q => ⟨Or.inl q.1, q.2⟩))
    have hM1 : gq_M g μ1 := gq_M_fr hM f1 (by decide) (by decide) (by decide) (by decide) (by rw [f1.1 30 0 (by decide)]) (by rw [f1.1 30 0 (by decide)])
    refine ⟨d - 1, 0, 0, _, _, by omega, Nat.le_refl _, Nat.le_refl _, ct_M_addUnions (but := 0) hg hM1 hx rfl (by decide) hp (by omega), ?_, fun _ _ h => h.elim⟩
    rintro r μ2 ⟨rfl, u1, u2⟩
    have f2 := zq_tr f1 (zq_up u2 (fun _ _ q => ⟨Or.inl q.1, q.2⟩))
    refine ⟨d - 1, 0, 0, _, _, by omega, Nat.le_refl _, Nat.le_refl _, ct_M_follow (by omega), ?_, fun _ _ h => h.elim⟩
    rintro r μ3 ⟨rfl, w1, w2⟩
    have f3 := zq_tr f2 (zq_up w2 (fun _ _ q => ⟨Or.inl q.1, q.2⟩))
    have e40 : μ1.1 40 0 = μ.1 40 0 := by
      rw [t2.1 40 0 (by decide)]
      show za_u μ.1 39 0 s 1 40 0 = _
      exact za_u_b (by decide)
    have hnd : ∀ i, i < 32 → μ1.1 38 0 i = gq_nd g p i := fun i hi => by
      rw [t1 i hi]
      show za_u μ.1 39 0 s 1 34 0 (32 * p + i) = _
      rw [za_u_b (by decide), hM.2.2.2.2 p i hp16 hi, if_pos hp]
    have hrows : ∀ a b, a < 8 → (bt (mo_f (μ2.1 38 0) 32 a) b = true ↔ pq_T (fun _ => True) (un_E g p 0 (mo_U μ) un_no) a b) := fun a b ha => un_closed (fun x y hx => by
      rw [u1 x hx, e40]
      exact mo_lu_is hg hp hub hnd x y hx) (by omega)
    refine loop (mo_f (μ2.1 38 0) 32) hrows μ3 (fun a ha => w1 a (by omega)) 0 (μ3, v, none) (Nat.zero_le _) ⟨hv, hv1.trans ⟨Or.inl, fun q => q.elim id (fun ⟨a, b, q, _⟩ => absurd q (Nat.not_lt_zero a))⟩, fun a ha => w1 a (by omega), fun i hi => ?_, fun i b hi => ?_, f3⟩ w 0 hw rfl
    · dsimp only
      rw [w2.1 39 0 (by decide), u2.1 39 0 (by decide), t2.1 39 0 (by decide)]
      by_cases e : i = s
      · subst e
        rw [if_pos rfl]
        exact za_u_same _ _ _ _ _
      · rw [if_neg e]
        exact za_u_i e
    · dsimp only
      rw [w2.1 40 0 (by decide), u2.1 40 0 (by decide), e40]
      exact ⟨Or.inl, fun q => q.elim id (fun q => absurd q.2.1 (Nat.not_lt_zero _))⟩
  have hin : vp_in (μ.1 33 0 (4 * x).toNatClampNeg) 8 := by rw [o2]; exact zn_in hs8 (by decide)
  have hcs : (μ.1 33 0 (4 * x).toNatClampNeg).toNatClampNeg = s := zn_c o2 (by omega)
  refine run [31] 80 0 _ _ _ _ ?_
  refine ⟨o1, hin, fun hv => ⟨hin, Or.inr rfl, ?_⟩, fun hv => ⟨hin, Or.inr rfl, ?_⟩⟩
  · rw [hcs] at hv
    exact pre 0 _ (Or.inl rfl) ⟨fun q => absurd q (by decide), fun q => absurd q hv⟩ o2
  · rw [hcs] at hv
    exact pre 1 _ (Or.inr rfl) ⟨fun _ => hv, fun _ => rfl⟩ o2
end
section
/-! LEAST SETS, reached round by round -/
def lf_C (F : Nat → (Nat → Prop) → Nat → Prop) (n : Nat) (X : Nat → Prop) : Prop := ∀ p, p < n → ∀ i, F p X i → X i
def lf_L (F : Nat → (Nat → Prop) → Nat → Prop) (n : Nat) (i : Nat) : Prop := ∀ X, lf_C F n X → X i
def lf_m (F : Nat → (Nat → Prop) → Nat → Prop) : Prop := ∀ p X Y, (∀ i, X i → Y i) → ∀ i, F p X i → F p Y i
theorem lf_cl {F : Nat → (Nat → Prop) → Nat → Prop} {n : Nat} (hm : lf_m F) : lf_C F n (lf_L F n) := fun p hp i h X hX => hX p hp i (hm p _ X (fun _ q => q X hX) i h)
theorem lf_so {F : Nat → (Nat → Prop) → Nat → Prop} {n : Nat} (hm : lf_m F) {X : Nat → Prop} (hX : ∀ i, X i → lf_L F n i) {p : Nat} (hp : p < n) {i : Nat} (h : F p X i) : lf_L F n i := lf_cl hm p hp i (hm p X _ hX i h)
/-- the first N bits -/
def lf_V (N : Nat) (x : Nat → Bool) (i : Nat) : Prop := i < N ∧ x i = true
/-- within a round: x0 was there at its beginning, k steps are done, v tells of news -/
def lf_I (F : Nat → (Nat → Prop) → Nat → Prop) (n N : Nat) (x0 : Nat → Bool) (k : Nat) (x : Nat → Bool) (v : Int32) : Prop :=
  (v = 0 ∨ v = 1) ∧ (∀ i, lf_V N x i → lf_L F n i) ∧ (∀ i, lf_V N x0 i → lf_V N x i) ∧ (v = 1 → ct_n x N < ct_n x0 N) ∧ (v = 0 → (∀ i, lf_V N x i → lf_V N x0 i) ∧ ∀ q, q < k → ∀ i, F q (lf_V N x0) i → lf_V N x0 i)
theorem lf_I0 {F : Nat → (Nat → Prop) → Nat → Prop} {n N : Nat} {x0 : Nat → Bool} (h : ∀ i, lf_V N x0 i → lf_L F n i) : lf_I F n N x0 0 x0 0 :=
  ⟨Or.inl rfl, h, fun _ q => q, fun q => absurd q (by decide), fun _ => ⟨fun _ q => q, fun q hq => absurd hq (Nat.not_lt_zero q)⟩⟩
theorem lf_Is {F : Nat → (Nat → Prop) → Nat → Prop} {n N : Nat} {x0 x x' : Nat → Bool} {k : Nat} {v v' : Int32} (hm : lf_m F) (hN : ∀ p X i, p < n → F p X i → i < N) (h : lf_I F n N x0 k x v) (hk : k < n) (hx : ∀ i, i < N → (x' i = true ↔ (x i = true ∨ F k (lf_V N x) i))) (hv' : v' = 0 ∨ v' = 1) (hv : v' = 1 ↔ (v = 1 ∨ ∃ i, F k (lf_V N x) i ∧ ¬ lf_V N x i)) : lf_I F n N x0 (k + 1) x' v' := by
  obtain ⟨h1, h2, h3, h4, h5⟩ := h
  have up : ∀ i, lf_V N x i → lf_V N x' i := fun i q => ⟨q.1, (hx i q.1).mpr (Or.inl q.2)⟩
  refine ⟨hv', fun i q => ?_, fun i q => up i (h3 i q), fun q => ?_, fun q => ?_⟩
  · rcases (hx i q.1).mp q.2 with z | z
    · exact h2 i ⟨q.1, z⟩
    · exact lf_so hm h2 hk z
  · by_cases e : v = 1
    · exact Nat.lt_of_le_of_lt (ct_n_le (fun i hi z => (hx i hi).mpr (Or.inl z))) (h4 e)
    · obtain ⟨i, z1, z2⟩ := (hv.mp q).resolve_left e
      have hi := hN k _ i hk z1
      have h0 := h5 (h1.resolve_right e)
      refine Nat.lt_of_lt_of_le (ct_n_lt (P := x) (fun j hj z => (hx j hj).mpr (Or.inl z)) ⟨i, hi, ?_, (hx i hi).mpr (Or.inr z1)⟩) (ct_n_le (fun j hj z => (h3 j ⟨hj, z⟩).2))
      cases hxi : x i with
      | false => rfl
      | true => exact absurd ⟨hi, hxi⟩ z2
  · have e : ¬ v = 1 := fun z => by rw [hv.mpr (Or.inl z)] at q; exact absurd q (by decide)
    have h0 := h5 (h1.resolve_right e)
    have no : ∀ i, F k (lf_V N x) i → lf_V N x i := fun i z => Classical.byContradiction fun z2 => by
      rw [hv.mpr (Or.inr ⟨i, z, z2⟩)] at q
      exact absurd q (by decide)
    refine ⟨fun i z => h0.1 i ?_, fun r hr i z => ?_⟩
    · rcases (hx i z.1).mp z.2 with y | y
      · exact ⟨z.1, y⟩
      · exact no i y
    · by_cases e2 : r = k
      · subst e2
        exact h0.1 i (no i (hm r _ _ h3 i z))
      · exact h0.2 r (by omega) i z
/-- a step that says nothing -/
theorem lf_Ik {F : Nat → (Nat → Prop) → Nat → Prop} {n N : Nat} {x0 x : Nat → Bool} {k : Nat} {v : Int32} (hm : lf_m F) (hN : ∀ p X i, p < n → F p X i → i < N) (h : lf_I F n N x0 k x v) (hk : k < n) (hF : ∀ i, ¬ F k (lf_V N x) i) : lf_I F n N x0 (k + 1) x v :=
  lf_Is hm hN h hk (fun i _ => ⟨Or.inl, fun q => q.elim id (fun q => absurd q (hF i))⟩) h.1 ⟨Or.inl, fun q => q.elim id (fun ⟨i, q, _⟩ => absurd q (hF i))⟩
/-- at the head of a round -/
def lf_H (F : Nat → (Nat → Prop) → Nat → Prop) (n N : Nat) (x : Nat → Bool) (v : Int32) : Prop := (v = 0 ∨ v = 1) ∧ (∀ i, lf_V N x i → lf_L F n i) ∧ (v = 0 → ∀ i, lf_V N x i ↔ lf_L F n i)
theorem lf_IH {F : Nat → (Nat → Prop) → Nat → Prop} {n N : Nat} {x0 x : Nat → Bool} {v : Int32} (h : lf_I F n N x0 n x v) : lf_H F n N x v := by
  obtain ⟨h1, h2, h3, h4, h5⟩ := h
  refine ⟨h1, h2, fun q i => ⟨h2 i, fun z => h3 i (z _ (h5 q).2)⟩⟩
theorem lf_Im {F : Nat → (Nat → Prop) → Nat → Prop} {n N : Nat} {x0 x : Nat → Bool} {v v0 : Int32} (h : lf_I F n N x0 n x v) (h0 : v0 = 1) : 2 * ct_n x N + v.toNatClampNeg < 2 * ct_n x0 N + v0.toNatClampNeg := by
  obtain ⟨h1, h2, h3, h4, h5⟩ := h
  have hle : ct_n x N ≤ ct_n x0 N := ct_n_le (fun i hi z => (h3 i ⟨hi, z⟩).2)
  rcases h1 with e | e
  · rw [e, h0, show (0 : Int32).toNatClampNeg = 0 by decide, show (1 : Int32).toNatClampNeg = 1 by decide]
    omega
  · have := h4 e
    rw [e, h0, show (1 : Int32).toNatClampNeg = 1 by decide]
    omega
/-! UNIONS AND WHAT COMES FROM ABOVE as such sets: 0 .. 7 whether a symbol has one, then 64 bits a symbol -/
def un_P (X : Nat → Prop) (s a b : Nat) : Prop := X (8 + 64 * s + 8 * a + b)
def un_F (g : gq_G) (p : Nat) (X : Nat → Prop) (i : Nat) : Prop := (∀ o, 1 ≤ o → o ≤ gq_m g p → X (gq_sy g p o)) ∧ (i = gq_sy g p 0 ∨ ∃ a b, a < 8 ∧ b < 8 ∧ i = 8 + 64 * gq_sy g p 0 + 8 * a + b ∧ pq_T (fun _ => True) (un_E g p 0 (un_P X) un_no) a b)
theorem un_Fm (g : gq_G) : lf_m (un_F g) := by
  intro p X Y h i ⟨h1, h2⟩
  refine ⟨fun o a b => h _ (h1 o a b), h2.elim Or.inl (fun ⟨a, b, q1, q2, q3, q4⟩ => Or.inr ⟨a, b, q1, q2, q3, ?_⟩)⟩
  exact pq_mono (fun _ q => q) (fun x y q => un_E_mono (fun s a b z => h _ z) (fun _ _ z => z) q) q4
theorem un_FN {g : gq_G} (hg : gq_ok g) : ∀ p X i, p < gq_np g → un_F g p X i → i < 520 := by
  intro p X i hp ⟨_, h2⟩
  have := gq_sy8 hg hp (Nat.zero_le _)
  rcases h2 with h | ⟨a, b, h1, h2, h3, _⟩
  · omega
  · omega
/-- the unions -/
def un_X (g : gq_G) (i : Nat) : Prop := lf_L (un_F g) (gq_np g) i
def un_pa (g : gq_G) (p : Nat) : Prop := ∀ o, 1 ≤ o → o ≤ gq_m g p → un_X g (gq_sy g p o)
/-- from above: step 3 p + o - 1 for the part o of p -/
def un_Q (Y : Nat → Prop) (s a b : Nat) : Prop := Y (64 * s + 8 * a + b)
def un_W (g : gq_G) (q : Nat) (Y : Nat → Prop) (i : Nat) : Prop := (q % 3 + 1 ≤ gq_m g (q / 3) ∧ un_pa g (q / 3)) ∧ ∃ a b, a < 8 ∧ b < 8 ∧ i = 64 * gq_sy g (q / 3) (q % 3 + 1) + 8 * a + b ∧ pq_T (fun _ => True) (un_E g (q / 3) (q % 3 + 1) (un_P (un_X g)) (un_Q Y (gq_sy g (q / 3) 0))) (8 * (q % 3 + 1) + a) (8 * (q % 3 + 1) + b)
theorem un_Wm (g : gq_G) : lf_m (un_W g) := by
  intro q X Y h i ⟨h1, a, b, q1, q2, q3, q4⟩
  refine ⟨h1, a, b, q1, q2, q3, ?_⟩
  exact pq_mono (fun _ q => q) (fun x y z => un_E_mono (fun _ _ _ z => z) (fun a b z => h _ z) z) q4
theorem un_WN {g : gq_G} (hg : gq_ok g) : ∀ q X i, q < 3 * gq_np g → un_W g q X i → i < 512 := by
  intro q X i hq ⟨⟨h1, _⟩, a, b, q1, q2, q3, _⟩
  have := gq_sy8 hg (show q / 3 < gq_np g by omega) h1
  omega
def un_Y (g : gq_G) (i : Nat) : Prop := lf_L (un_W g) (3 * gq_np g) i
/-- a circle: of the unions alone, with those from above -/
def un_c (g : gq_G) (p : Nat) (V : Nat → Nat → Nat → Prop) : Prop := un_pa g p ∧ ∃ u, pq_T (fun _ => True) (un_E g p 0 (un_P (un_X g)) (V (gq_sy g p 0))) u u
/-- which attributes may stand in them -/
theorem un_good {g : gq_G} (hg : gq_ok g) {i : Nat} (h : un_X g i) : i < gq_ns g ∨ ∃ s a b, s < gq_ns g ∧ a < gq_at g s ∧ b < gq_at g s ∧ bt (gq_dn g s) a = false ∧ bt (gq_dn g s) b = true ∧ i = 8 + 64 * s + 8 * a + b := by
  refine h (fun i => i < gq_ns g ∨ ∃ s a b, s < gq_ns g ∧ a < gq_at g s ∧ b < gq_at g s ∧ bt (gq_dn g s) a = false ∧ bt (gq_dn g s) b = true ∧ i = 8 + 64 * s + 8 * a + b) ?_
  rintro p hp i ⟨_, h | ⟨a, b, h1, h2, h3, h4⟩⟩
  · rw [h]
    exact Or.inl ((hg.2.2.2.2.1 p hp).2 0 (Nat.zero_le _))
  · have d1 := gq_up h1 (un_from hg hp h1 h4)
    have d2 := gq_dw h2 (un_to hg hp h2 h4)
    exact Or.inr ⟨gq_sy g p 0, a, b, (hg.2.2.2.2.1 p hp).2 0 (Nat.zero_le _), d1.1, d2.1, d1.2, d2.2, h3⟩
/-- places of a part whose relation is left out -/
theorem un_from2 {g : gq_G} (hg : gq_ok g) {p o : Nat} (hp : p < gq_np g) {U : Nat → Nat → Nat → Prop} {V : Nat → Nat → Prop} {a y : Nat} (ho : 1 ≤ o) (ha : a < 8) (h : pq_T (fun _ => True) (un_E g p o U V) (8 * o + a) y) : a < gq_at g (gq_sy g p o) ∧ bt (gq_dn g (gq_sy g p o)) a = true := by
  obtain ⟨z, h1, h2, h3⟩ := pq_from h
  rcases h3 with h | ⟨_, _, q, _⟩ | ⟨q, _⟩
  · obtain ⟨⟨⟨_, h5⟩, h6⟩, _⟩ := hg.2.2.2.2.2 p _ z hp h1 h
    rw [show (8 * o + a) / 8 = o by omega, show (8 * o + a) % 8 = a by omega] at h5 h6
    exact ⟨h5, h6.mpr (by omega)⟩
  · omega
  · omega
theorem un_to2 {g : gq_G} (hg : gq_ok g) {p o : Nat} (hp : p < gq_np g) {U : Nat → Nat → Nat → Prop} {V : Nat → Nat → Prop} {b x : Nat} (ho : 1 ≤ o) (hb : b < 8) (h : pq_T (fun _ => True) (un_E g p o U V) x (8 * o + b)) : b < gq_at g (gq_sy g p o) ∧ bt (gq_dn g (gq_sy g p o)) b = false := by
  obtain ⟨z, h1, h2, h3⟩ := pq_to h
  rcases h3 with h | ⟨_, _, q, q2, _⟩ | ⟨_, q, _⟩
  · obtain ⟨_, ⟨_, h5⟩, h6⟩ := hg.2.2.2.2.2 p z _ hp h1 h
    rw [show (8 * o + b) / 8 = o by omega, show (8 * o + b) % 8 = b by omega] at h5 h6
    refine ⟨h5, ?_⟩
    cases hb : bt (gq_dn g (gq_sy g p o)) b with
    | false => rfl
    | true => exact absurd ⟨fun _ => by omega, fun _ => hb⟩ h6
  · omega
  · omega
theorem un_goodY {g : gq_G} (hg : gq_ok g) {i : Nat} (h : un_Y g i) : ∃ s a b, s < gq_ns g ∧ a < gq_at g s ∧ b < gq_at g s ∧ bt (gq_dn g s) a = true ∧ bt (gq_dn g s) b = false ∧ i = 64 * s + 8 * a + b := by
  refine h (fun i => ∃ s a b, s < gq_ns g ∧ a < gq_at g s ∧ b < gq_at g s ∧ bt (gq_dn g s) a = true ∧ bt (gq_dn g s) b = false ∧ i = 64 * s + 8 * a + b) ?_
  rintro q hq i ⟨⟨h0, _⟩, a, b, h1, h2, h3, h4⟩
  have hp : q / 3 < gq_np g := by omega
  have d1 := un_from2 hg hp (by omega) h1 h4
  have d2 := un_to2 hg hp (by omega) h2 h4
  exact ⟨_, a, b, (hg.2.2.2.2.1 _ hp).2 _ h0, d1.1, d2.1, d1.2, d2.2, h3⟩
end
section
/-! the reference: its unions and aboves as sets of bits -/
def mo_x (μ : za_M) (i : Nat) : Bool := if i < 8 then decide (μ.1 39 0 i = 1) else bt (μ.1 40 0 ((i - 8) / 8)) ((i - 8) % 8)
def mo_y (μ : za_M) (i : Nat) : Bool := bt (μ.1 41 0 (i / 8)) (i % 8)
def mo_vb (μ : za_M) : Prop := ∀ i y, i < 64 → bt (μ.1 41 0 i) y = true → y < 6 ∧ i % 8 < 6
def mo_V (μ : za_M) (s a b : Nat) : Prop := a < 6 ∧ b < 8 ∧ bt (μ.1 41 0 (8 * s + a)) b = true
def mo_01 (μ : za_M) : Prop := ∀ s, s < 8 → μ.1 39 0 s = 0 ∨ μ.1 39 0 s = 1
theorem mo_xs (μ : za_M) {s : Nat} (h : s < 8) : lf_V 520 (mo_x μ) s ↔ μ.1 39 0 s = 1 := by
  unfold lf_V mo_x
  rw [if_pos h, decide_eq_true_eq]
  exact ⟨fun q => q.2, fun q => ⟨by omega, q⟩⟩
theorem mo_xu (μ : za_M) {s a b : Nat} (hs : s < 8) (ha : a < 8) (hb : b < 8) : lf_V 520 (mo_x μ) (8 + 64 * s + 8 * a + b) ↔ bt (μ.1 40 0 (8 * s + a)) b = true := by
  unfold lf_V mo_x
  rw [if_neg (by omega), show (8 + 64 * s + 8 * a + b - 8) / 8 = 8 * s + a by omega, show (8 + 64 * s + 8 * a + b - 8) % 8 = b by omega]
  exact ⟨fun q => q.2, fun q => ⟨by omega, q⟩⟩
theorem mo_yu (μ : za_M) {s a b : Nat} (hs : s < 8) (ha : a < 8) (hb : b < 8) : lf_V 512 (mo_y μ) (64 * s + 8 * a + b) ↔ bt (μ.1 41 0 (8 * s + a)) b = true := by
  unfold lf_V mo_y
  rw [show (64 * s + 8 * a + b) / 8 = 8 * s + a by omega, show (64 * s + 8 * a + b) % 8 = b by omega]
  exact ⟨fun q => q.2, fun q => ⟨by omega, q⟩⟩
theorem mo_eU {g : gq_G} (hg : gq_ok g) {p but : Nat} (hp : p < gq_np g) {μ : za_M} (hub : mo_ub μ) {V : Nat → Nat → Prop} (x y : Nat) : un_E g p but (mo_U μ) V x y ↔ un_E g p but (un_P (lf_V 520 (mo_x μ))) V x y := by
  have key : x / 8 ≤ gq_m g p → (mo_U μ (gq_sy g p (x / 8)) (x % 8) (y % 8) ↔ un_P (lf_V 520 (mo_x μ)) (gq_sy g p (x / 8)) (x % 8) (y % 8)) := by
    intro h
    have hs := gq_sy8 hg hp h
    unfold un_P mo_U
    rw [mo_xu μ hs (by omega) (by omega)]
    refine ⟨fun q => q.2.2, fun q => ⟨?_, by omega, q⟩⟩
    have := (hub _ _ (by omega) q).2
    omega
  unfold un_E
  constructor
  · rintro ⟨h1, h2, h | ⟨a, b, c, d, e⟩ | h⟩
    · exact ⟨h1, h2, Or.inl h⟩
    · exact ⟨h1, h2, Or.inr (Or.inl ⟨a, b, c, d, (key b).mp e⟩)⟩
    · exact ⟨h1, h2, Or.inr (Or.inr h)⟩
  · rintro ⟨h1, h2, h | ⟨a, b, c, d, e⟩ | h⟩
    · exact ⟨h1, h2, Or.inl h⟩
    · exact ⟨h1, h2, Or.inr (Or.inl ⟨a, b, c, d, (key b).mpr e⟩)⟩
    · exact ⟨h1, h2, Or.inr (Or.inr h)⟩
theorem mo_eV {g : gq_G} {p but s : Nat} (hs : s < 8) {μ : za_M} (hvb : mo_vb μ) {U : Nat → Nat → Nat → Prop} (x y : Nat) : un_E g p but U (mo_V μ s) x y ↔ un_E g p but U (un_Q (lf_V 512 (mo_y μ)) s) x y := by
  have key : x < 8 → y < 8 → (mo_V μ s x y ↔ un_Q (lf_V 512 (mo_y μ)) s x y) := by
    intro h1 h2
    unfold un_Q mo_V
    rw [mo_yu μ hs h1 h2]
    refine ⟨fun q => q.2.2, fun q => ⟨?_, h2, q⟩⟩
    have := (hvb _ _ (by omega) q).2
    omega
  unfold un_E
  constructor
  · rintro ⟨h1, h2, h | h | ⟨a, b, h⟩⟩
    · exact ⟨h1, h2, Or.inl h⟩
    · exact ⟨h1, h2, Or.inr (Or.inl h)⟩
    · exact ⟨h1, h2, Or.inr (Or.inr ⟨a, b, (key a b).mp h⟩)⟩
  · rintro ⟨h1, h2, h | h | ⟨a, b, h⟩⟩
    · exact ⟨h1, h2, Or.inl h⟩
    · exact ⟨h1, h2, Or.inr (Or.inl h)⟩
    · exact ⟨h1, h2, Or.inr (Or.inr ⟨a, b, (key a b).mpr h⟩)⟩
/-- growUnion, said of the bits -/
theorem mo_gu {g : gq_G} (hg : gq_ok g) {p : Nat} (hp : p < gq_np g) {μ μ' : za_M} (hub : mo_ub μ) (h01 : mo_01 μ) (hall : mo_all g μ p 4) {v : Int32}
    (hv : v = 1 ↔ (μ.1 39 0 (gq_sy g p 0) = 0 ∨ ∃ a b, a < 8 ∧ mo_P g μ p a b ∧ bt (μ.1 40 0 (8 * gq_sy g p 0 + a)) b = false))
    (h39 : ∀ i, i < 8 → μ'.1 39 0 i = if i = gq_sy g p 0 then 1 else μ.1 39 0 i) (h40 : ∀ i b, i < 64 → (bt (μ'.1 40 0 i) b = true ↔ (bt (μ.1 40 0 i) b = true ∨ (i / 8 = gq_sy g p 0 ∧ mo_P g μ p (i % 8) b)))) :
    (∀ i, i < 520 → (mo_x μ' i = true ↔ (mo_x μ i = true ∨ un_F g p (lf_V 520 (mo_x μ)) i))) ∧ (v = 1 ↔ ∃ i, un_F g p (lf_V 520 (mo_x μ)) i ∧ ¬ lf_V 520 (mo_x μ) i) ∧ mo_01 μ' ∧ mo_ub μ' := by
  have hs8 := gq_sy8 hg hp (Nat.zero_le _)
  have hm3 := (hg.2.2.2.2.1 p hp).1
  have hpar : ∀ o, 1 ≤ o → o ≤ gq_m g p → lf_V 520 (mo_x μ) (gq_sy g p o) := fun o h1 h2 => (mo_xs μ (gq_sy8 hg hp h2)).mpr (hall o h1 (by omega) h2)
  have hT : ∀ a b, pq_T (fun _ => True) (un_E g p 0 (mo_U μ) un_no) a b ↔ pq_T (fun _ => True) (un_E g p 0 (un_P (lf_V 520 (mo_x μ))) un_no) a b := pq_congr (fun _ => Iff.rfl) (mo_eU hg hp hub)
  refine ⟨fun i hi => ?_, ?_, fun s hs => ?_, fun i y hi h => ?_⟩
  · by_cases c : i < 8
    · have e1 : mo_x μ' i = true ↔ μ'.1 39 0 i = 1 := by rw [mo_x, if_pos c, decide_eq_true_eq]
      have e2 : mo_x μ i = true ↔ μ.1 39 0 i = 1 := by rw [mo_x, if_pos c, decide_eq_true_eq]
      rw [e1, e2, h39 i c]
      by_cases e : i = gq_sy g p 0
      · rw [if_pos e]
        exact ⟨fun _ => Or.inr ⟨hpar, Or.inl e⟩, fun _ => rfl⟩
      · rw [if_neg e]
        refine ⟨Or.inl, fun q => q.elim id (fun q => ?_)⟩
        rcases q.2 with q | ⟨a, b, q1, q2, q3, _⟩
        · exact absurd q e
        · omega
    · obtain ⟨j, hj⟩ : ∃ j, i = 8 + j := ⟨i - 8, by omega⟩
      have e1 : ∀ ν : za_M, mo_x ν i = bt (ν.1 40 0 (j / 8)) (j % 8) := fun ν => by rw [mo_x, if_neg c, hj, show 8 + j - 8 = j by omega]
      rw [e1, e1, h40 (j / 8) (j % 8) (by omega)]
      constructor
      · rintro (q | ⟨q1, q2⟩)
        · exact Or.inl q
        · exact Or.inr ⟨hpar, Or.inr ⟨j / 8 % 8, j % 8, by omega, by omega, by omega, (hT _ _).mp q2.2⟩⟩
      · rintro (q | ⟨_, q | ⟨a, b, q1, q2, q3, q4⟩⟩)
        · exact Or.inl q
        · omega
        · refine Or.inr ⟨by omega, by omega, ?_⟩
          rw [show j / 8 % 8 = a by omega, show j % 8 = b by omega]
          exact (hT _ _).mpr q4
  · rw [hv]
    constructor
    · rintro (q | ⟨a, b, q1, q2, q3⟩)
      · refine ⟨gq_sy g p 0, ⟨hpar, Or.inl rfl⟩, fun z => ?_⟩
        rw [mo_xs μ hs8, q] at z
        exact absurd z (by decide)
      · refine ⟨8 + 64 * gq_sy g p 0 + 8 * a + b, ⟨hpar, Or.inr ⟨a, b, q1, q2.1, rfl, (hT _ _).mp q2.2⟩⟩, fun z => ?_⟩
        rw [mo_xu μ hs8 q1 q2.1, q3] at z
        cases z
    · rintro ⟨i, ⟨_, q | ⟨a, b, q1, q2, q3, q4⟩⟩, z⟩
      · subst q
        rw [mo_xs μ hs8] at z
        exact Or.inl ((h01 _ hs8).resolve_right z)
      · subst q3
        rw [mo_xu μ hs8 q1 q2] at z
        exact Or.inr ⟨a, b, q1, ⟨q2, (hT _ _).mpr q4⟩, Bool.eq_false_iff.mpr z⟩
  · rw [h39 s hs]
    split
    · exact Or.inr rfl
    · exact h01 s hs
  · rcases (h40 i y hi).mp h with q | ⟨q1, q2, q3⟩
    · exact hub i y hi q
    · have d0 := (hg.2.2.1 _ ((hg.2.2.2.2.1 p hp).2 0 (Nat.zero_le _))).1
      have d1 := (gq_up (show i % 8 < 8 by omega) (un_from hg hp (by omega) q3)).1
      have d2 := (gq_dw q2 (un_to hg hp q2 q3)).1
      omega
/-- aboves laid at the head -/
def mo_la (s : Nat) (u r : Nat → Int32) (n i : Nat) : Int32 := if i < n then r i ||| u (8 * s + i) else r i
set_option maxHeartbeats 4000000 in
theorem ct_M_addAboves {Γ : zk_G} {d p : Nat} {x : Int32} {μ : za_M} {g : gq_G} (hg : gq_ok g) (hM : gq_M g μ) (hx : x = nI p) (hp : p < gq_np g) (hd : 1 ≤ d) : zk_Ct zt Γ zm_M_addAboves d 0 0 [za_r 30 0, za_i x] μ (fun r μ' => r = none ∧ (∀ i, i < 32 → μ'.1 38 0 i = mo_la (gq_sy g p 0) (μ.1 41 0) (μ.1 38 0) 6 i) ∧ zq_fr (fun b j => b = 38 ∧ j = 0) μ μ') (fun _ _ => False) := by
  have hp16 : p < 16 := Nat.lt_of_lt_of_le hp hg.2.1
  have hs8 := gq_sy8 hg hp (Nat.zero_le _)
  refine zs_M_addAboves (Nat.le_of_ble_eq_true rfl) hd (fun ZZ run => ?_)
  have loop := zn_for (σ := za_M) (N := 6)
    (P := fun k μ1 => ∀ y : Int32, y = nI k → ZZ 2 [some (za_r 30 0), some (za_i x), some (za_i y)] [] μ1 (0, 0))
    (I := fun k μ1 => (∀ i, i < 32 → μ1.1 38 0 i = mo_la (gq_sy g p 0) (μ.1 41 0) (μ.1 38 0) k i) ∧ zq_fr (fun b j => b = 38 ∧ j = 0) μ μ1)
    (fun μ1 h y hy => by
      refine run [2] 60 2 _ _ _ _ ?_
      refine ⟨fun _ => ?_, fun q => absurd (by rw [hy]; exact nI_le (Nat.le_refl 6) (by decide)) q⟩
      exact ⟨rfl, rfl, Nat.le_refl _, Nat.le_refl _, rfl, h⟩)
    (fun k μ1 hk h ih y hy => by
      have hM' : gq_M g μ1 := gq_M_fr hM h.2 (by decide) (by decide) (by decide) (by decide) (by rw [h.2.1 30 0 (by decide)]) (by rw [h.2.1 30 0 (by decide)])
      obtain ⟨o1, o2⟩ := gq_occ0 hM' hx hp hp16
      have hck : y.toNatClampNeg = k := zn_c hy (by omega)
      have e2 : (8 : Int32) * μ1.1 33 0 (4 * x).toNatClampNeg + y = nI (8 * gq_sy g p 0 + k) := by rw [o2, hy, zn_8, nI_add]
      refine run [2] 60 2 _ _ _ _ ?_
      refine ⟨fun q => absurd q (zn_ge hy rfl hk (by decide)), fun _ => ?_⟩
      refine ⟨zn_i hy (by omega) (by decide), o1, zn_i e2 (by omega) (by decide), zn_i hy (by omega) (by decide), ?_⟩
      refine ih _ ⟨fun i hi => ?_, zq_u h.2 ⟨rfl, rfl⟩⟩ _ (zn_s hy)
      dsimp only
      rw [zn_c e2 (by omega), hck, h.2.1 41 0 (by decide)]
      by_cases e : i = k
      · subst e
        rw [za_u_same, h.1 i hi, mo_la, if_neg (Nat.lt_irrefl i), mo_la, if_pos (Nat.lt_succ_self i)]
      · rw [za_u_i e, h.1 i hi, mo_la, mo_la]
        by_cases e2 : i < k
        · rw [if_pos e2, if_pos (by omega)]
        · rw [if_neg e2, if_neg (by omega)])
  refine run [2] 60 0 _ _ _ _ ?_
  exact loop 0 μ (Nat.zero_le _) ⟨fun i hi => by rw [mo_la, if_neg (Nat.not_lt_zero i)], zq_rf⟩ 0 rfl
/-- rows with more laid -/
theorem mo_lu_g {g : gq_G} (hg : gq_ok g) {p but : Nat} (hp : p < gq_np g) {μ : za_M} (hub : mo_ub μ) (r : Nat → Int32) {x : Nat} (y : Nat) (hx : x < 32) : bt (mo_lu g p but (μ.1 40 0) r 4 x) y = true ↔ (bt (r x) y = true ∨ (y < 32 ∧ 1 ≤ x / 8 ∧ x / 8 ≤ gq_m g p ∧ x / 8 ≠ but ∧ y / 8 = x / 8 ∧ mo_U μ (gq_sy g p (x / 8)) (x % 8) (y % 8))) := by
  have hm := (hg.2.2.2.2.1 p hp).1
  by_cases hy : y < 32
  · unfold mo_lu
    by_cases c : 1 ≤ x / 8 ∧ x / 8 < 4 ∧ x % 8 < 6 ∧ x / 8 ≤ gq_m g p ∧ x / 8 ≠ but
    · have hs8 := gq_sy8 hg hp c.2.2.2.1
      rw [if_pos c, b_or, bt_shl8 _ c.2.1 hy, Bool.or_eq_true, Bool.and_eq_true, decide_eq_true_eq]
      constructor
      · rintro (h | ⟨h1, h2⟩)
        · exact Or.inl h
        · have h6 := (hub _ _ (by omega) h2).1
          refine Or.inr ⟨hy, c.1, c.2.2.2.1, c.2.2.2.2, by omega, c.2.2.1, by omega, ?_⟩
          rw [show y % 8 = y - 8 * (x / 8) by omega]
          exact h2
      · rintro (h | ⟨_, a, b, d, e, f1, f2, f3⟩)
        · exact Or.inl h
        · refine Or.inr ⟨by omega, ?_⟩
          rw [show y - 8 * (x / 8) = y % 8 by omega]
          exact f3
    · rw [if_neg c]
      refine ⟨Or.inl, fun q => q.elim id (fun ⟨_, a, b, d, e, f1, f2, f3⟩ => absurd ⟨a, by omega, f1, b, d⟩ c)⟩
  · rw [b_big (by omega), b_big (by omega)]
    exact ⟨fun q => (by cases q), fun q => q.elim (fun q => by cases q) (fun q => absurd q.1 hy)⟩
theorem mo_la_g {μ : za_M} (hvb : mo_vb μ) {s : Nat} (hs : s < 8) (r : Nat → Int32) (x y : Nat) : bt (mo_la s (μ.1 41 0) r 6 x) y = true ↔ (bt (r x) y = true ∨ (x < 8 ∧ y < 8 ∧ mo_V μ s x y)) := by
  unfold mo_la mo_V
  by_cases c : x < 6
  · rw [if_pos c, b_or, Bool.or_eq_true]
    refine ⟨fun q => q.elim Or.inl (fun q => Or.inr ?_), fun q => q.elim Or.inl (fun q => Or.inr q.2.2.2.2)⟩
    have := (hvb _ _ (by omega) q).1
    exact ⟨by omega, by omega, c, by omega, q⟩
  · rw [if_neg c]
    exact ⟨Or.inl, fun q => q.elim id (fun q => absurd q.2.2.1 c)⟩
/-- a production's rows with unions and aboves, in both orders -/
theorem mo_ua_is {g : gq_G} (hg : gq_ok g) {p but : Nat} (hp : p < gq_np g) {μ : za_M} (hub : mo_ub μ) (hvb : mo_vb μ) {r : Nat → Int32} (hr : ∀ i, i < 32 → r i = gq_nd g p i) (x y : Nat) (hx : x < 32) :
    (bt (mo_lu g p but (μ.1 40 0) (mo_la (gq_sy g p 0) (μ.1 41 0) r 6) 4 x) y = true ↔ un_E g p but (mo_U μ) (mo_V μ (gq_sy g p 0)) x y) ∧ (bt (mo_la (gq_sy g p 0) (μ.1 41 0) (mo_lu g p but (μ.1 40 0) r 4) 6 x) y = true ↔ un_E g p but (mo_U μ) (mo_V μ (gq_sy g p 0)) x y) := by
  have hs8 := gq_sy8 hg hp (Nat.zero_le _)
  have hlt : bt (gq_nd g p x) y = true → y < 32 := fun h => Classical.byContradiction fun q => by
    rw [b_big (by omega)] at h
    cases h
  rw [mo_lu_g hg hp hub _ y hx, mo_la_g hvb hs8, mo_la_g hvb hs8, mo_lu_g hg hp hub _ y hx, hr x hx]
  unfold un_E
  constructor
  · constructor
    · rintro ((h | h) | h)
      · exact ⟨hx, hlt h, Or.inl h⟩
      · exact ⟨hx, by omega, Or.inr (Or.inr h)⟩
      · exact ⟨hx, h.1, Or.inr (Or.inl h.2)⟩
    · rintro ⟨_, h2, h | h | h⟩
      · exact Or.inl (Or.inl h)
      · exact Or.inr ⟨h2, h⟩
      · exact Or.inl (Or.inr h)
  · constructor
    · rintro ((h | h) | h)
      · exact ⟨hx, hlt h, Or.inl h⟩
      · exact ⟨hx, h.1, Or.inr (Or.inl h.2)⟩
      · exact ⟨hx, by omega, Or.inr (Or.inr h)⟩
    · rintro ⟨_, h2, h | h | h⟩
      · exact Or.inl (Or.inl h)
      · exact Or.inl (Or.inr ⟨h2, h⟩)
      · exact Or.inr h
end
section
/-! the reference: growAbove -/
theorem zb_first : ∀ n, n < 31 → ∀ b, b < 32 → bt ((1 <<< (nI n &&& 31)) - 1) b = decide (b < n) := by decide +kernel
/-- what a production says of a part from above -/
def mo_R (g : gq_G) (μ : za_M) (p o a b : Nat) : Prop := b < 8 ∧ pq_T (fun _ => True) (un_E g p o (mo_U μ) (mo_V μ (gq_sy g p 0))) (8 * o + a) (8 * o + b)
theorem ct_M_isDown' {Γ : zk_G} {d s a : Nat} {w y : Int32} {μ : za_M} {g : gq_G} (hd : 1 ≤ d) (hw : w = nI s) (hy : y = nI a) (hs : s < 8) (ha : a < 32) (h32 : μ.1 32 0 s = gq_dn g s) : zk_Ct zt Γ zm_M_isDown d 0 0 [za_r 30 0, za_i w, za_i y] μ (fun r μ' => (∃ v : Int32, r = some (za_i v) ∧ (v = 0 ∨ v = 1) ∧ (v = 1 ↔ bt (gq_dn g s) a = true)) ∧ μ' = μ) (fun _ _ => False) := by
  refine zs_M_isDown (Nat.le_of_ble_eq_true rfl) hd (fun ZZ run => ?_)
  refine run [] 20 0 _ _ _ _ ?_
  have hif : (μ.1 32 0 w.toNatClampNeg >>> (y &&& 31)) &&& 1 = 1 ↔ bt (gq_dn g s) a = true := by rw [zn_c hw (by omega), h32, hy]; exact zb_t2 _ ha
  refine ⟨zn_i hw (by omega) (by decide), fun h => ?_, fun h => ?_⟩
  · exact ⟨rfl, Or.inr ⟨rfl, Or.inl rfl⟩, Nat.le_refl _, Nat.le_refl _, ⟨0, rfl, Or.inl rfl, fun q => absurd q (by decide), fun q => absurd (hif.mpr q) h⟩, rfl⟩
  · exact ⟨rfl, Or.inr ⟨rfl, Or.inr rfl⟩, Nat.le_refl _, Nat.le_refl _, ⟨1, rfl, Or.inr rfl, fun _ => hif.mp h, fun _ => rfl⟩, rfl⟩
set_option maxHeartbeats 16000000 in
theorem ct_M_growAbove {Γ : zk_G} {d p o : Nat} {x z : Int32} {μ : za_M} {g : gq_G} (hg : gq_ok g) (hM : gq_M g μ) (hub : mo_ub μ) (hvb : mo_vb μ) (hx : x = nI p) (hz : z = nI o) (ho1 : 1 ≤ o) (ho4 : o < 4) (hp : p < gq_np g) (hd : 2 ≤ d) : zk_Ct zt Γ zm_M_growAbove d 0 0 [za_r 30 0, za_i x, za_i z] μ
    (fun r μ' => (∃ v : Int32, r = some (za_i v) ∧ (v = 0 ∨ v = 1) ∧ (v = 1 ↔ (o ≤ gq_m g p ∧ ∃ a b, a < 8 ∧ mo_R g μ p o a b ∧ bt (μ.1 41 0 (8 * gq_sy g p o + a)) b = false))) ∧
      (∀ i b, i < 64 → (bt (μ'.1 41 0 i) b = true ↔ (bt (μ.1 41 0 i) b = true ∨ (o ≤ gq_m g p ∧ i / 8 = gq_sy g p o ∧ mo_R g μ p o (i % 8) b)))) ∧ zq_fr (fun b j => (b = 38 ∨ b = 41) ∧ j = 0) μ μ') (fun _ _ => False) := by
  have hp16 : p < 16 := Nat.lt_of_lt_of_le hp hg.2.1
  have hs0 : gq_sy g p 0 < 8 := gq_sy8 hg hp (Nat.zero_le _)
  obtain ⟨o1, o2⟩ := gq_occ hM hx hz hp hp16 ho4
  refine zs_M_growAbove (Nat.le_of_ble_eq_true rfl) (by omega) (fun ZZ run => ?_)
  by_cases hle : o ≤ gq_m g p
  case neg =>
    rw [if_neg hle] at o2
    refine run [] 80 0 _ _ _ _ ?_
    refine ⟨o1, fun q => absurd q (by rw [o2]; decide), fun _ => ?_⟩
    exact ⟨rfl, Or.inr ⟨rfl, Or.inl rfl⟩, Nat.le_refl _, Nat.le_refl _, ⟨0, rfl, Or.inl rfl, fun q => absurd q (by decide), fun q => absurd q.1 hle⟩, fun i b hi => ⟨Or.inl, fun q => q.elim id (fun q => absurd q.1 hle)⟩, zq_rf⟩
  rw [if_pos hle] at o2
  have hs8 : gq_sy g p o < 8 := gq_sy8 hg hp hle
  have hsn : gq_sy g p o < gq_ns g := (hg.2.2.2.2.1 p hp).2 o hle
  obtain ⟨hat6, hdb⟩ := hg.2.2.1 _ hsn
  have fr2 : ∀ {a b}, a < 8 → mo_R g μ p o a b → a < gq_at g (gq_sy g p o) ∧ bt (gq_dn g (gq_sy g p o)) a = true := fun ha h => un_from2 hg hp ho1 ha h.2
  have to2 : ∀ {a b}, mo_R g μ p o a b → b < gq_at g (gq_sy g p o) ∧ bt (gq_dn g (gq_sy g p o)) b = false := fun h => un_to2 hg hp ho1 h.1 h.2
  generalize hse : gq_sy g p o = s at hs8 hsn hat6 hdb o2 fr2 to2
  have loop := fun (R : Nat → Int32) (hR : ∀ a b, a < 32 → (bt (R a) b = true ↔ pq_T (fun _ => True) (un_E g p o (mo_U μ) (mo_V μ (gq_sy g p 0))) a b)) =>
    zn_for (σ := za_M × Int32 × Option za_V × Option za_V) (N := gq_at g s)
    (P := fun k t => ∀ w y : Int32, w = nI s → y = nI k → ZZ 43 [some (za_r 30 0), some (za_i x), some (za_i z), some (za_i w), some (za_i t.2.1), some (za_i y), t.2.2.1, t.2.2.2] [] t.1 (0, 0))
    (I := fun k t => (t.2.1 = 0 ∨ t.2.1 = 1) ∧ (t.2.1 = 1 ↔ (∃ a b, a < k ∧ mo_R g μ p o a b ∧ bt (μ.1 41 0 (8 * s + a)) b = false)) ∧ (∀ a, a < 32 → t.1.1 38 0 a = R a) ∧
      (∀ i b, i < 64 → (bt (t.1.1 41 0 i) b = true ↔ (bt (μ.1 41 0 i) b = true ∨ (i / 8 = s ∧ i % 8 < k ∧ mo_R g μ p o (i % 8) b)))) ∧ zq_fr (fun b j => (b = 38 ∨ b = 41) ∧ j = 0) μ t.1)
    (fun t h w y hw hy => by
      obtain ⟨i1, i2, i3, i5, i6⟩ := h
      have e1 : t.1.1 31 0 w.toNatClampNeg = nI (gq_at g s) := by rw [i6.1 31 0 (by decide), zn_c hw (by omega)]; exact (hM.2.2.1 s hsn).1
      refine run [43] 80 43 _ _ _ _ ?_
      refine ⟨zn_i hw (by omega) (by decide), fun _ => ?_, fun q => absurd (by rw [e1, hy]; exact Int32.le_refl _) q⟩
      refine ⟨rfl, Or.inr ⟨rfl, i1⟩, Nat.le_refl _, Nat.le_refl _, ⟨t.2.1, rfl, i1, i2.trans ?_⟩, fun i b hi => (i5 i b hi).trans ?_, i6⟩
      · rw [hse]
        exact ⟨fun ⟨a, b, q1, q2, q3⟩ => ⟨hle, a, b, by omega, q2, q3⟩, fun ⟨_, a, b, q1, q2, q3⟩ => ⟨a, b, (fr2 q1 q2).1, q2, q3⟩⟩
      · rw [hse]
        exact ⟨fun q => q.elim Or.inl (fun q => Or.inr ⟨hle, q.1, q.2.2⟩), fun q => q.elim Or.inl (fun q => Or.inr ⟨q.2.1, (fr2 (by omega) q.2.2).1, q.2.2⟩)⟩)
    (fun k t hk h ih w y hw hy => by
      obtain ⟨i1, i2, i3, i5, i6⟩ := h
      have hcw : w.toNatClampNeg = s := zn_c hw (by omega)
      have hcy : y.toNatClampNeg = k := zn_c hy (by omega)
      have e1 : t.1.1 31 0 s = nI (gq_at g s) := by rw [i6.1 31 0 (by decide)]; exact (hM.2.2.1 s hsn).1
      have e2 : t.1.1 32 0 s = gq_dn g s := by rw [i6.1 32 0 (by decide)]; exact (hM.2.2.1 s hsn).2
      have e3 : (8 : Int32) * w + y = nI (8 * s + k) := by rw [hw, hy, zn_8, nI_add]
      have hc3 : ((8 : Int32) * w + y).toNatClampNeg = 8 * s + k := zn_c e3 (by omega)
      have b3 : vp_in ((8 : Int32) * w + y) 64 := zn_i e3 (by omega) (by decide)
      have e4 : (8 : Int32) * z + y = nI (8 * o + k) := by rw [hz, hy, zn_8, nI_add]
      have hold : ∀ b, bt (t.1.1 41 0 (8 * s + k)) b = true ↔ bt (μ.1 41 0 (8 * s + k)) b = true := fun b => (i5 (8 * s + k) b (by omega)).trans ⟨fun q => q.elim id (fun q => by omega), Or.inl⟩
      have more : ∀ (u m : Int32), (∀ b, bt m b = true ↔ mo_R g μ p o k b) → ∀ (v : Int32), (v = 0 ∨ v = 1) → (v = 1 ↔ (t.2.1 = 1 ∨ ¬ m &&& (t.1.1 41 0 (8 * s + k) ^^^ (-1)) = 0)) → ZZ 43 [some (za_r 30 0), some (za_i x), some (za_i z), some (za_i w), some (za_i v), some (za_i (y + 1)), some (za_i u), some (za_i m)] [] (za_u t.1.1 41 0 ((8 : Int32) * w + y).toNatClampNeg (t.1.1 41 0 ((8 : Int32) * w + y).toNatClampNeg ||| m), t.1.2) (0, 0) := by
        intro u m hm v hv hv1
        refine ih (_, v, some (za_i u), some (za_i m)) ⟨hv, ?_, fun a ha => ?_, fun i b hi => ?_, zq_u i6 ⟨Or.inr rfl, rfl⟩⟩ w _ hw (zn_s hy)
        · rw [hv1, i2, zb_new]
          constructor
          · rintro (⟨a, b, q1, q2, q3⟩ | q)
            · exact ⟨a, b, by omega, q2, q3⟩
            · refine (Classical.byContradiction fun hn => q fun b hb => ?_)
              rw [hold]
              cases hu : bt (μ.1 41 0 (8 * s + k)) b with
              | true => rfl
              | false => exact absurd ⟨k, b, Nat.lt_succ_self k, (hm b).mp hb, hu⟩ hn
          · rintro ⟨a, b, q1, q2, q3⟩
            by_cases e : a = k
            · subst e
              refine Or.inr fun hn => ?_
              have := (hold b).mp (hn b ((hm b).mpr q2))
              rw [q3] at this
              cases this
            · exact Or.inl ⟨a, b, by omega, q2, q3⟩
        · dsimp only
          rw [za_u_b (show (38 : Nat) ≠ 41 by decide)]
          exact i3 a ha
        · dsimp only
          rw [hc3]
          by_cases e : i = 8 * s + k
          · subst e
            rw [za_u_same, b_or, Bool.or_eq_true, hold, hm, show (8 * s + k) / 8 = s by omega, show (8 * s + k) % 8 = k by omega]
            exact ⟨fun q => q.elim Or.inl (fun q => Or.inr ⟨rfl, Nat.lt_succ_self k, q⟩), fun q => q.elim Or.inl (fun q => Or.inr q.2.2)⟩
          · rw [za_u_i e, i5 i b hi]
            exact ⟨fun q => q.elim Or.inl (fun q => Or.inr ⟨q.1, by omega, q.2.2⟩), fun q => q.elim Or.inl (fun q => Or.inr ⟨q.1, by omega, q.2.2⟩)⟩
      have tail : ∀ u m : Int32, (∀ b, bt m b = true ↔ mo_R g μ p o k b) → ZZ 111 [some (za_r 30 0), some (za_i x), some (za_i z), some (za_i w), some (za_i t.2.1), some (za_i y), some (za_i u), some (za_i m)] [] t.1 (0, 0) := by
        intro u m hm
        refine run [43] 80 111 _ _ _ _ ?_
        refine ⟨fun hv => ⟨b3, b3, ?_⟩, fun hv => ⟨b3, fun hz => ⟨b3, b3, ?_⟩, fun hz => ⟨b3, b3, ?_⟩⟩⟩
        · exact more u m hm 1 (Or.inr rfl) ⟨fun _ => Or.inl (zn_or01 i1 hv), fun _ => rfl⟩
        · rw [hc3] at hz
          exact more u m hm 0 (Or.inl rfl) ⟨fun q => absurd q (by decide), fun q => q.elim (fun q => by rw [hv] at q; exact absurd q (by decide)) (fun q => absurd hz q)⟩
        · rw [hc3] at hz
          exact more u m hm 1 (Or.inr rfl) ⟨fun _ => Or.inr hz, fun _ => rfl⟩
      refine run [43, 111] 80 43 _ _ _ _ ?_
      have bw : vp_in w 8 := zn_i hw (by omega) (by decide)
      refine ⟨bw, fun q => absurd q (by rw [hcw]; exact zn_ge hy e1 hk (by omega)), fun _ => ⟨bw, bw, ?_⟩⟩
      refine ⟨d - 1, 0, 0, _, _, by omega, Nat.le_refl _, Nat.le_refl _, ct_M_isDown' (by omega) hw hy hs8 (by omega) e2, ?_, fun _ _ h => h.elim⟩
      rintro r μ5 ⟨⟨v, rfl, hv, hv1⟩, rfl⟩
      refine ⟨fun q => ?_, fun q => ⟨zn_i e4 (by omega) (by decide), ?_⟩⟩
      · refine tail _ 0 (fun b => ⟨fun q => (by rw [b_0] at q; cases q), fun h => ?_⟩)
        have := hv1.mpr (fr2 (by omega) h).2
        rw [q] at this
        exact absurd this (by decide)
      · refine tail _ _ (fun b => ?_)
        rw [zn_c e4 (by omega), hcw, e1, e2, i3 _ (by omega), show (8 : Int32) * z = nI (8 * o) by rw [hz, zn_8]]
        by_cases hb : b < 32
        · rw [b_and, b_and, b_xor, b_m1 b hb, zb_first _ (by omega) b hb, b_sshr _ (by omega) _ hb, Bool.and_eq_true, Bool.and_eq_true, decide_eq_true_eq]
          constructor
          · rintro ⟨q1, q2, q3⟩
            rw [if_pos (by omega), hR _ _ (by omega)] at q1
            exact ⟨by omega, q1⟩
          · intro q
            have d2 := to2 q
            have hb8 := q.1
            refine ⟨?_, d2.1, by rw [d2.2]; rfl⟩
            rw [if_pos (by omega), hR _ _ (by omega)]
            exact q.2
        · rw [b_big (by omega)]
          exact ⟨fun q => (by cases q), fun q => absurd q.1 (by omega)⟩)
  refine run [43] 80 0 _ _ _ _ ?_
  have f0 : zq_fr (fun b j => (b = 38 ∨ b = 41) ∧ j = 0) μ μ := zq_rf
  refine ⟨o1, fun _ => ?_, fun q => absurd (by rw [o2]; exact Int32.not_lt.mp (gq_neg _ (by omega))) q⟩
  refine ⟨d - 1, 0, 0, _, _, by omega, Nat.le_refl _, Nat.le_refl _, ct_M_takeDepends hx (by omega) hp16, ?_, fun _ _ h => h.elim⟩
  rintro r μ1 ⟨rfl, t1, t2⟩
  have f1 := zq_tr f0 (zq_up t2 (fun _ _ q => ⟨Or.inl q.1, q.2⟩))
  have hM1 : gq_M g μ1 := gq_M_fr hM f1 (by decide) (by decide) (by decide) (by decide) (by rw [f1.1 30 0 (by decide)]) (by rw [f1.1 30 0 (by decide)])
  refine ⟨d - 1, 0, 0, _, _, by omega, Nat.le_refl _, Nat.le_refl _, ct_M_addAboves hg hM1 hx hp (by omega), ?_, fun _ _ h => h.elim⟩
  rintro r μ2 ⟨rfl, a1, a2⟩
  have f2 := zq_tr f1 (zq_up a2 (fun _ _ q => ⟨Or.inl q.1, q.2⟩))
  have hM2 : gq_M g μ2 := gq_M_fr hM f2 (by decide) (by decide) (by decide) (by decide) (by rw [f2.1 30 0 (by decide)]) (by rw [f2.1 30 0 (by decide)])
  refine ⟨d - 1, 0, 0, _, _, by omega, Nat.le_refl _, Nat.le_refl _, ct_M_addUnions (but := o) hg hM2 hx hz ho4 hp (by omega), ?_, fun _ _ h => h.elim⟩
  rintro r μ3 ⟨rfl, u1, u2⟩
  have f3 := zq_tr f2 (zq_up u2 (fun _ _ q => ⟨Or.inl q.1, q.2⟩))
  refine ⟨d - 1, 0, 0, _, _, by omega, Nat.le_refl _, Nat.le_refl _, ct_M_follow (by omega), ?_, fun _ _ h => h.elim⟩
  rintro r μ4 ⟨rfl, w1, w2⟩
  have f4 := zq_tr f3 (zq_up w2 (fun _ _ q => ⟨Or.inl q.1, q.2⟩))
  have hnd : ∀ i, i < 32 → μ1.1 38 0 i = gq_nd g p i := fun i hi => by
    rw [t1 i hi, hM.2.2.2.2 p i hp16 hi, if_pos hp]
  have e40 : μ2.1 40 0 = μ.1 40 0 := by rw [f2.1 40 0 (by decide)]
  have e41 : μ1.1 41 0 = μ.1 41 0 := by rw [t2.1 41 0 (by decide)]
  have hrows : ∀ a b, a < 32 → (bt (mo_f (μ3.1 38 0) 32 a) b = true ↔ pq_T (fun _ => True) (un_E g p o (mo_U μ) (mo_V μ (gq_sy g p 0))) a b) := fun a b ha => un_closed (fun x y hx => by
    have := (mo_ua_is (but := o) hg hp hub hvb hnd x y hx).1
    rw [u1 x hx, e40]
    rw [← this, ← e41]
    unfold mo_lu
    rw [a1 x hx]) ha
  refine loop (mo_f (μ3.1 38 0) 32) hrows 0 (μ4, 0, none, none) (Nat.zero_le _) ⟨Or.inl rfl, ⟨fun q => absurd q (show ¬ (0 : Int32) = 1 by decide), fun ⟨a, b, q, _⟩ => absurd q (Nat.not_lt_zero a)⟩, fun a ha => w1 a ha, fun i b hi => ?_, f4⟩ _ 0 o2 rfl
  dsimp only
  rw [w2.1 41 0 (by decide), u2.1 41 0 (by decide), a2.1 41 0 (by decide), e41]
  exact ⟨Or.inl, fun q => q.elim id (fun q => absurd q.2.1 (Nat.not_lt_zero _))⟩
end
section
/-! the reference: relate -/
theorem mo_ga {g : gq_G} (hg : gq_ok g) {p t : Nat} (ht : t < 3) (hp : p < gq_np g) {μ μ' : za_M} (hub : mo_ub μ) (hvb : mo_vb μ) (hX : ∀ i, lf_V 520 (mo_x μ) i ↔ un_X g i) (hpa : un_pa g p) {v : Int32}
    (hv : v = 1 ↔ (t + 1 ≤ gq_m g p ∧ ∃ a b, a < 8 ∧ mo_R g μ p (t + 1) a b ∧ bt (μ.1 41 0 (8 * gq_sy g p (t + 1) + a)) b = false))
    (h41 : ∀ i b, i < 64 → (bt (μ'.1 41 0 i) b = true ↔ (bt (μ.1 41 0 i) b = true ∨ (t + 1 ≤ gq_m g p ∧ i / 8 = gq_sy g p (t + 1) ∧ mo_R g μ p (t + 1) (i % 8) b)))) :
    (∀ i, i < 512 → (mo_y μ' i = true ↔ (mo_y μ i = true ∨ un_W g (3 * p + t) (lf_V 512 (mo_y μ)) i))) ∧ (v = 1 ↔ ∃ i, un_W g (3 * p + t) (lf_V 512 (mo_y μ)) i ∧ ¬ lf_V 512 (mo_y μ) i) ∧ mo_vb μ' := by
  have q1 : (3 * p + t) / 3 = p := by omega
  have q2 : (3 * p + t) % 3 = t := by omega
  have hs0 := gq_sy8 hg hp (Nat.zero_le _)
  have hR : ∀ a b, mo_R g μ p (t + 1) a b ↔ (b < 8 ∧ pq_T (fun _ => True) (un_E g p (t + 1) (un_P (un_X g)) (un_Q (lf_V 512 (mo_y μ)) (gq_sy g p 0))) (8 * (t + 1) + a) (8 * (t + 1) + b)) := by
    intro a b
    unfold mo_R
    rw [pq_congr (fun _ => Iff.rfl) (fun x y => (mo_eU hg hp hub x y).trans (mo_eV hs0 hvb x y))]
    rw [show lf_V 520 (mo_x μ) = un_X g from funext fun i => propext (hX i)]
  have hW : ∀ i, un_W g (3 * p + t) (lf_V 512 (mo_y μ)) i ↔ (t + 1 ≤ gq_m g p ∧ ∃ a b, a < 8 ∧ i = 64 * gq_sy g p (t + 1) + 8 * a + b ∧ mo_R g μ p (t + 1) a b) := by
    intro i
    unfold un_W
    rw [q1, q2]
    constructor
    · rintro ⟨⟨h1, _⟩, a, b, h2, h3, h4, h5⟩
      exact ⟨h1, a, b, h2, h4, (hR a b).mpr ⟨h3, h5⟩⟩
    · rintro ⟨h1, a, b, h2, h4, h5⟩
      have h6 := (hR a b).mp h5
      exact ⟨⟨h1, hpa⟩, a, b, h2, h6.1, h4, h6.2⟩
  refine ⟨fun i hi => ?_, ?_, fun i y hi h => ?_⟩
  · have e1 : ∀ ν : za_M, mo_y ν i = bt (ν.1 41 0 (i / 8)) (i % 8) := fun ν => rfl
    rw [e1, e1, h41 (i / 8) (i % 8) (by omega), hW]
    constructor
    · rintro (q | ⟨z1, z2, z3⟩)
      · exact Or.inl q
      · exact Or.inr ⟨z1, i / 8 % 8, i % 8, by omega, by omega, z3⟩
    · rintro (q | ⟨z1, a, b, z2, z3, z4⟩)
      · exact Or.inl q
      · have hb := z4.1
        refine Or.inr ⟨z1, by omega, ?_⟩
        rw [show i / 8 % 8 = a by omega, show i % 8 = b by omega]
        exact z4
  · rw [hv]
    constructor
    · rintro ⟨z1, a, b, z2, z3, z4⟩
      refine ⟨64 * gq_sy g p (t + 1) + 8 * a + b, (hW _).mpr ⟨z1, a, b, z2, rfl, z3⟩, fun z => ?_⟩
      rw [mo_yu μ (gq_sy8 hg hp z1) z2 z3.1, z4] at z
      cases z
    · rintro ⟨i, z, zn⟩
      obtain ⟨z1, a, b, z2, z3, z4⟩ := (hW i).mp z
      subst z3
      rw [mo_yu μ (gq_sy8 hg hp z1) z2 z4.1] at zn
      exact ⟨z1, a, b, z2, z4, Bool.eq_false_iff.mpr zn⟩
  · rcases (h41 i y hi).mp h with q | ⟨z1, z2, z3⟩
    · exact hvb i y hi q
    · have d0 := (hg.2.2.1 _ ((hg.2.2.2.2.1 p hp).2 (t + 1) z1)).1
      have d1 := (un_from2 hg hp (by omega) (show i % 8 < 8 by omega) z3.2).1
      have d2 := (un_to2 hg hp (by omega) z3.1 z3.2).1
      omega
/-- what relate leaves -/
def mo_fin (g : gq_G) (μ : za_M) : Prop := (∀ i, lf_V 520 (mo_x μ) i ↔ un_X g i) ∧ (∀ i, lf_V 512 (mo_y μ) i ↔ un_Y g i) ∧ mo_01 μ ∧ (mo_ub μ ∧ mo_vb μ) ∧
  ((μ.1 30 0 18 = 0 ∨ μ.1 30 0 18 = 1) ∧ (μ.1 30 0 18 = 1 ↔ ¬ ∃ p, p < gq_np g ∧ un_c g p (fun _ => un_no))) ∧ ((μ.1 30 0 19 = 0 ∨ μ.1 30 0 19 = 1) ∧ (μ.1 30 0 19 = 1 ↔ ¬ ∃ p, p < gq_np g ∧ un_c g p (un_Q (un_Y g))))
/-- what it may change -/
def mo_rS (b j : Nat) : Prop := (b = 30 ∨ b = 38 ∨ b = 39 ∨ b = 40 ∨ b = 41) ∧ j = 0
def mo_rb (μ μ1 : za_M) : Prop := zq_fr mo_rS μ μ1 ∧ (∀ f, f ≠ 14 → f ≠ 18 → f ≠ 19 → μ1.1 30 0 f = μ.1 30 0 f) ∧ μ1.1 30 0 14 = 1
theorem mo_rS30 : ¬ mo_rS 31 0 ∧ ¬ mo_rS 32 0 ∧ ¬ mo_rS 33 0 ∧ ¬ mo_rS 34 0 := by unfold mo_rS; decide
theorem mo_rbM {g : gq_G} {μ μ1 : za_M} (hM : gq_M g μ) (h : mo_rb μ μ1) : gq_M g μ1 := gq_M_fr hM h.1 mo_rS30.1 mo_rS30.2.1 mo_rS30.2.2.1 mo_rS30.2.2.2 (h.2.1 1 (by decide) (by decide) (by decide)) (h.2.1 4 (by decide) (by decide) (by decide))
theorem mo_rbt {S : Nat → Nat → Prop} {μ μ1 μ2 : za_M} (h : mo_rb μ μ1) (hf : zq_fr S μ1 μ2) (hS : ∀ b j, S b j → (b = 38 ∨ b = 39 ∨ b = 40 ∨ b = 41) ∧ j = 0) : mo_rb μ μ2 := by
  have e30 : μ2.1 30 0 = μ1.1 30 0 := hf.1 30 0 (fun q => by have := (hS 30 0 q).1; omega)
  refine ⟨zq_tr h.1 (zq_up hf (fun b j q => ⟨Or.inr (hS b j q).1, (hS b j q).2⟩)), fun f a b c => ?_, ?_⟩
  · rw [e30]; exact h.2.1 f a b c
  · rw [e30]; exact h.2.2
theorem mo_rbu {μ μ1 : za_M} (h : mo_rb μ μ1) {f : Nat} (hf : f = 18 ∨ f = 19) (x : Int32) : mo_rb μ (za_u μ1.1 30 0 f x, μ1.2) := by
  refine ⟨zq_u h.1 ⟨Or.inl rfl, rfl⟩, fun f' a b c => ?_, ?_⟩
  · dsimp only
    rw [za_u_i (by omega)]
    exact h.2.1 f' a b c
  · dsimp only
    rw [za_u_i (by omega)]
    exact h.2.2
theorem zn_div8 : ∀ k, k < 64 → nI k / 8 = nI (k / 8) := by decide +kernel
theorem mo_xc {μ μ' : za_M} (h39 : μ'.1 39 0 = μ.1 39 0) (h40 : μ'.1 40 0 = μ.1 40 0) : mo_x μ' = mo_x μ := by
  funext i
  unfold mo_x
  rw [h39, h40]
theorem mo_yc {μ μ' : za_M} (h41 : μ'.1 41 0 = μ.1 41 0) : mo_y μ' = mo_y μ := by
  funext i
  unfold mo_y
  rw [h41]
/-- all parts have one -/
theorem mo_pa {g : gq_G} (hg : gq_ok g) {p : Nat} (hp : p < gq_np g) {μ : za_M} : mo_all g μ p 4 ↔ ∀ o, 1 ≤ o → o ≤ gq_m g p → lf_V 520 (mo_x μ) (gq_sy g p o) := by
  have hm3 := (hg.2.2.2.2.1 p hp).1
  exact ⟨fun h o h1 h2 => (mo_xs μ (gq_sy8 hg hp h2)).mpr (h o h1 (by omega) h2), fun h o h1 _ h2 => (mo_xs μ (gq_sy8 hg hp h2)).mp (h o h1 h2)⟩
end
section
set_option maxHeartbeats 16000000 in
theorem ct_M_relate {Γ : zk_G} {d : Nat} {μ : za_M} {g : gq_G} (hg : gq_ok g) (hM : gq_M g μ) (hk : μ.1 30 0 14 = 0 ∨ μ.1 30 0 14 = 1 ∧ mo_fin g μ) (hd : 3 ≤ d) : zk_Ct zt Γ zm_M_relate d 0 0 [za_r 30 0] μ
    (fun r μ' => r = none ∧ mo_fin g μ' ∧ mo_rb μ μ') (fun _ _ => False) := by
  refine zs_M_relate (Nat.le_of_ble_eq_true rfl) (by omega) (fun ZZ run => ?_)
  rcases hk with hk | ⟨hk, hfin⟩
  case inr =>
    refine run [] 20 0 _ _ _ _ ?_
    refine ⟨fun q => absurd (hk.symm.trans q) (by decide), fun _ => ?_⟩
    exact ⟨rfl, rfl, Nat.le_refl _, Nat.le_refl _, rfl, hfin, zq_rf, fun _ _ _ _ => rfl, hk⟩
  have hnp : gq_np g ≤ 16 := hg.2.1
  -- the third part: circles
  have ph3 : ∀ (μa : za_M) (n1 : Int32) (l2 l3 l4 : Option za_V), mo_rb μ μa → mo_ub μa → mo_vb μa → mo_01 μa → (∀ i, lf_V 520 (mo_x μa) i ↔ un_X g i) → (∀ i, lf_V 512 (mo_y μa) i ↔ un_Y g i) → ZZ 193 [some (za_r 30 0), some (za_i n1), l2, l3, l4] [] μa (0, 0) := by
    intro μa n1 l2 l3 l4 hb hub hvb h01 hX hY
    have eX : lf_V 520 (mo_x μa) = un_X g := funext fun i => propext (hX i)
    have eY : lf_V 512 (mo_y μa) = un_Y g := funext fun i => propext (hY i)
    have loop := zn_for (σ := za_M) (N := gq_np g)
      (P := fun k μ1 => ∀ y : Int32, y = nI k → ZZ 205 [some (za_r 30 0), some (za_i n1), some (za_i y), l3, l4] [] μ1 (0, 0))
      (I := fun k μ1 => mo_rb μ μ1 ∧ (μ1.1 39 0 = μa.1 39 0 ∧ μ1.1 40 0 = μa.1 40 0 ∧ μ1.1 41 0 = μa.1 41 0) ∧ ((μ1.1 30 0 18 = 0 ∨ μ1.1 30 0 18 = 1) ∧ (μ1.1 30 0 18 = 1 ↔ ¬ ∃ p, p < k ∧ un_c g p (fun _ => un_no))) ∧ ((μ1.1 30 0 19 = 0 ∨ μ1.1 30 0 19 = 1) ∧ (μ1.1 30 0 19 = 1 ↔ ¬ ∃ p, p < k ∧ un_c g p (un_Q (un_Y g)))))
      (fun μ1 h y hy => by
        obtain ⟨i1, ⟨i2, i3, i4⟩, i5, i6⟩ := h
        have hM1 := mo_rbM hM i1
        refine run [205] 80 205 _ _ _ _ ?_
        refine ⟨fun _ => ?_, fun q => absurd (by rw [hM1.2.1, hy]; exact Int32.le_refl _) q⟩
        refine ⟨rfl, rfl, Nat.le_refl _, Nat.le_refl _, rfl, ⟨?_, ?_, ?_, ⟨?_, ?_⟩, i5, i6⟩, i1⟩
        · rw [mo_xc i2 i3]; exact hX
        · rw [mo_yc i4]; exact hY
        · intro s hs; rw [i2]; exact h01 s hs
        · intro i y; rw [i3]; exact hub i y
        · intro i y; rw [i4]; exact hvb i y)
      (fun k μ1 hk h ih y hy => by
        obtain ⟨i1, ⟨i2, i3, i4⟩, i5, i6⟩ := h
        have hM1 := mo_rbM hM i1
        have h011 : mo_01 μ1 := fun s hs => by rw [i2]; exact h01 s hs
        have hub1 : mo_ub μ1 := fun i y => by rw [i3]; exact hub i y
        have hvb1 : mo_vb μ1 := fun i y => by rw [i4]; exact hvb i y
        have hk16 : k < 16 := by omega
        have hs0 := gq_sy8 hg hk (Nat.zero_le _)
        have eX1 : lf_V 520 (mo_x μ1) = un_X g := by rw [mo_xc i2 i3]; exact eX
        have eY1 : lf_V 512 (mo_y μ1) = un_Y g := by rw [mo_yc i4]; exact eY
        refine run [205, 259] 90 205 _ _ _ _ ?_
        refine ⟨fun q => absurd q (zn_ge hy hM1.2.1 hk (by omega)), fun _ => ?_⟩
        refine ⟨d - 1, 0, 0, _, _, by omega, Nat.le_refl _, Nat.le_refl _, ct_M_allHave hg hM1 h011 hy hk (by omega), ?_, fun _ _ h => h.elim⟩
        rintro r μ2 ⟨⟨v, rfl, hv, hv1⟩, rfl⟩
        have hpa : v = 1 ↔ un_pa g k := by
          rw [hv1, mo_pa hg hk, eX1]
          exact Iff.rfl
        refine ⟨fun hq => ?_, fun hq => ?_⟩
        · have hno : ¬ un_pa g k := fun z => by rw [hpa.mpr z] at hq; exact absurd hq (by decide)
          have key : ∀ V, (∃ p, p < k + 1 ∧ un_c g p V) ↔ (∃ p, p < k ∧ un_c g p V) := fun V => ⟨fun ⟨p, z1, z2⟩ => ⟨p, by
            by_cases e : p = k
            · subst e; exact absurd z2.1 hno
            · omega, z2⟩, fun ⟨p, z1, z2⟩ => ⟨p, by omega, z2⟩⟩
          refine ih _ ⟨i1, ⟨i2, i3, i4⟩, ⟨i5.1, ?_⟩, ⟨i6.1, ?_⟩⟩ _ (zn_s hy)
          · rw [key]; exact i5.2
          · rw [key]; exact i6.2
        · have hyes : un_pa g k := hpa.mp (zn_or01 hv hq)
          have key : ∀ V, (∃ p, p < k + 1 ∧ un_c g p V) ↔ ((∃ p, p < k ∧ un_c g p V) ∨ ∃ u, pq_T (fun _ => True) (un_E g k 0 (un_P (un_X g)) (V (gq_sy g k 0))) u u) := fun V => ⟨fun ⟨p, z1, z2⟩ => by
            by_cases e : p = k
            · subst e; exact Or.inr z2.2
            · exact Or.inl ⟨p, by omega, z2⟩, fun z => z.elim (fun ⟨p, z1, z2⟩ => ⟨p, by omega, z2⟩) (fun z => ⟨k, by omega, hyes, z⟩)⟩
          have sS : ∀ b j : Nat, b = 38 ∧ j = 0 → (b = 38 ∨ b = 39 ∨ b = 40 ∨ b = 41) ∧ j = 0 := fun b j q => ⟨Or.inl q.1, q.2⟩
          -- the second half, behind the first circle
          have half : ∀ (μs : za_M), mo_rb μ μs → (μs.1 39 0 = μa.1 39 0 ∧ μs.1 40 0 = μa.1 40 0 ∧ μs.1 41 0 = μa.1 41 0) → ((μs.1 30 0 18 = 0 ∨ μs.1 30 0 18 = 1) ∧ (μs.1 30 0 18 = 1 ↔ ¬ ∃ p, p < k + 1 ∧ un_c g p (fun _ => un_no))) → ((μs.1 30 0 19 = 0 ∨ μs.1 30 0 19 = 1) ∧ (μs.1 30 0 19 = 1 ↔ ¬ ∃ p, p < k ∧ un_c g p (un_Q (un_Y g)))) → ZZ 259 [some (za_r 30 0), some (za_i n1), some (za_i y), l3, l4] [] μs (0, 0) := by
            intro μs j1 ⟨j2, j3, j4⟩ j5 j6
            have hMs := mo_rbM hM j1
            have hubs : mo_ub μs := fun i y => by rw [j3]; exact hub i y
            have hvbs : mo_vb μs := fun i y => by rw [j4]; exact hvb i y
            refine run [205] 90 259 _ _ _ _ ?_
            refine ⟨d - 1, 0, 0, _, _, by omega, Nat.le_refl _, Nat.le_refl _, ct_M_takeDepends hy (by omega) hk16, ?_, fun _ _ h => h.elim⟩
            rintro r μ4 ⟨rfl, t1, t2⟩
            have b4 := mo_rbt j1 t2 sS
            refine ⟨d - 1, 0, 0, _, _, by omega, Nat.le_refl _, Nat.le_refl _, ct_M_addUnions (but := 0) hg (mo_rbM hM b4) hy rfl (by decide) hk (by omega), ?_, fun _ _ h => h.elim⟩
            rintro r μ5 ⟨rfl, u1, u2⟩
            have b5 := mo_rbt b4 u2 sS
            refine ⟨d - 1, 0, 0, _, _, by omega, Nat.le_refl _, Nat.le_refl _, ct_M_addAboves hg (mo_rbM hM b5) hy hk (by omega), ?_, fun _ _ h => h.elim⟩
            rintro r μ6 ⟨rfl, a1, a2⟩
            have b6 := mo_rbt b5 a2 sS
            refine ⟨d - 1, 0, 0, _, _, by omega, Nat.le_refl _, Nat.le_refl _, ct_M_follow (by omega), ?_, fun _ _ h => h.elim⟩
            rintro r μ7 ⟨rfl, w1, w2⟩
            have b7 := mo_rbt b6 w2 sS
            have hnd : ∀ i, i < 32 → μ4.1 38 0 i = gq_nd g k i := fun i hi => by
              rw [t1 i hi, hMs.2.2.2.2 k i hk16 hi, if_pos hk]
            have e40 : μ4.1 40 0 = μs.1 40 0 := by rw [t2.1 40 0 (by decide)]
            have e41 : μ5.1 41 0 = μs.1 41 0 := by rw [u2.1 41 0 (by decide), t2.1 41 0 (by decide)]
            have hE : ∀ x y, un_E g k 0 (mo_U μs) (mo_V μs (gq_sy g k 0)) x y ↔ un_E g k 0 (un_P (un_X g)) (un_Q (un_Y g) (gq_sy g k 0)) x y := fun x y => by
              rw [mo_eU hg hk hubs, mo_eV hs0 hvbs, mo_xc j2 j3, mo_yc j4, eX, eY]
            have hci : mo_c (μ7.1 38 0) 32 ↔ ∃ u, pq_T (fun _ => True) (un_E g k 0 (un_P (un_X g)) (un_Q (un_Y g) (gq_sy g k 0))) u u := by
              rw [← mo_c_is (r := μ6.1 38 0) un_E_lt (fun x y hx => by
                have := (mo_ua_is (but := 0) hg hk hubs hvbs hnd x y hx).2
                rw [a1 x hx, ← hE, ← this, e41, ← e40]
                unfold mo_la
                rw [u1 x hx])]
              exact ⟨fun ⟨i, z1, z2⟩ => ⟨i, z1, by rw [← w1 i z1]; exact z2⟩, fun ⟨i, z1, z2⟩ => ⟨i, z1, by rw [w1 i z1]; exact z2⟩⟩
            have c39 : μ7.1 39 0 = μa.1 39 0 ∧ μ7.1 40 0 = μa.1 40 0 ∧ μ7.1 41 0 = μa.1 41 0 := by
              rw [w2.1 39 0 (by decide), w2.1 40 0 (by decide), w2.1 41 0 (by decide), a2.1 39 0 (by decide), a2.1 40 0 (by decide), a2.1 41 0 (by decide), u2.1 39 0 (by decide), u2.1 40 0 (by decide), u2.1 41 0 (by decide), t2.1 39 0 (by decide), t2.1 40 0 (by decide), t2.1 41 0 (by decide)]
              exact ⟨j2, j3, j4⟩
            have c30 : μ7.1 30 0 = μs.1 30 0 := by
              rw [w2.1 30 0 (by decide), a2.1 30 0 (by decide), u2.1 30 0 (by decide), t2.1 30 0 (by decide)]
            have fin : ∀ w : Int32, (w = 0 ∨ w = 1) → (w = 1 ↔ (μ7.1 30 0 19 = 1 ∧ ¬ mo_c (μ7.1 38 0) 32)) → ZZ 205 [some (za_r 30 0), some (za_i n1), some (za_i (y + 1)), l3, l4] [] (za_u μ7.1 30 0 19 w, μ7.2) (0, 0) := by
              intro w hw hw1
              refine ih _ ⟨mo_rbu b7 (Or.inr rfl) w, ?_, ?_, ?_⟩ _ (zn_s hy)
              · dsimp only
                rw [za_u_b (show (39 : Nat) ≠ 30 by decide), za_u_b (show (40 : Nat) ≠ 30 by decide), za_u_b (show (41 : Nat) ≠ 30 by decide)]
                exact c39
              · dsimp only
                rw [za_u_i (show (18 : Nat) ≠ 19 by decide), c30]
                exact j5
              · dsimp only
                rw [za_u_same]
                refine ⟨hw, hw1.trans ?_⟩
                rw [key, hci, c30, j6.2]
                exact ⟨fun z q => q.elim z.1 z.2, fun z => ⟨fun q => z (Or.inl q), fun q => z (Or.inr q)⟩⟩
            refine ⟨fun hq => ?_, fun hq => ?_⟩
            · exact ⟨Or.inl rfl, fin 0 (Or.inl rfl) ⟨fun q => absurd q (by decide), fun q => absurd (q.1.symm.trans hq) (by decide)⟩⟩
            · refine ⟨d - 1, 0, 0, _, _, by omega, Nat.le_refl _, Nat.le_refl _, ct_M_hasCircle (by omega), ?_, fun _ _ h => h.elim⟩
              rintro r μ8 ⟨⟨v2, rfl, hv2, hv3⟩, rfl⟩
              have h19 : μ8.1 30 0 19 = 1 := by rw [c30] at hq ⊢; exact j6.1.resolve_left hq
              refine ⟨fun hq2 => ?_, fun hq2 => ?_⟩
              · exact ⟨Or.inl rfl, fin 0 (Or.inl rfl) ⟨fun q => absurd q (by decide), fun q => absurd (hv3.mp (zn_or01 hv2 hq2)) q.2⟩⟩
              · exact ⟨Or.inr rfl, fin 1 (Or.inr rfl) ⟨fun _ => ⟨h19, fun q => by rw [hv3.mpr q] at hq2; exact absurd hq2 (by decide)⟩, fun _ => rfl⟩⟩
          refine ⟨d - 1, 0, 0, _, _, by omega, Nat.le_refl _, Nat.le_refl _, ct_M_takeDepends hy (by omega) hk16, ?_, fun _ _ h => h.elim⟩
          rintro r μ4 ⟨rfl, t1, t2⟩
          have b4 := mo_rbt i1 t2 sS
          refine ⟨d - 1, 0, 0, _, _, by omega, Nat.le_refl _, Nat.le_refl _, ct_M_addUnions (but := 0) hg (mo_rbM hM b4) hy rfl (by decide) hk (by omega), ?_, fun _ _ h => h.elim⟩
          rintro r μ5 ⟨rfl, u1, u2⟩
          have b5 := mo_rbt b4 u2 sS
          refine ⟨d - 1, 0, 0, _, _, by omega, Nat.le_refl _, Nat.le_refl _, ct_M_follow (by omega), ?_, fun _ _ h => h.elim⟩
          rintro r μ7 ⟨rfl, w1, w2⟩
          have b7 := mo_rbt b5 w2 sS
          have hnd : ∀ i, i < 32 → μ4.1 38 0 i = gq_nd g k i := fun i hi => by
            rw [t1 i hi, hM1.2.2.2.2 k i hk16 hi, if_pos hk]
          have e40 : μ4.1 40 0 = μ2.1 40 0 := by rw [t2.1 40 0 (by decide)]
          have hci : mo_c (μ7.1 38 0) 32 ↔ ∃ u, pq_T (fun _ => True) (un_E g k 0 (un_P (un_X g)) un_no) u u := by
            rw [← mo_c_is (r := μ5.1 38 0) un_E_lt (fun x y hx => by
              have := mo_lu_is (but := 0) hg hk hub1 hnd x y hx
              rw [u1 x hx, e40, this, mo_eU hg hk hub1, eX1])]
            exact ⟨fun ⟨i, z1, z2⟩ => ⟨i, z1, by rw [← w1 i z1]; exact z2⟩, fun ⟨i, z1, z2⟩ => ⟨i, z1, by rw [w1 i z1]; exact z2⟩⟩
          have c39 : μ7.1 39 0 = μa.1 39 0 ∧ μ7.1 40 0 = μa.1 40 0 ∧ μ7.1 41 0 = μa.1 41 0 := by
            rw [w2.1 39 0 (by decide), w2.1 40 0 (by decide), w2.1 41 0 (by decide), u2.1 39 0 (by decide), u2.1 40 0 (by decide), u2.1 41 0 (by decide), t2.1 39 0 (by decide), t2.1 40 0 (by decide), t2.1 41 0 (by decide)]
            exact ⟨i2, i3, i4⟩
          have c30 : μ7.1 30 0 = μ2.1 30 0 := by
            rw [w2.1 30 0 (by decide), u2.1 30 0 (by decide), t2.1 30 0 (by decide)]
          have fin : ∀ w : Int32, (w = 0 ∨ w = 1) → (w = 1 ↔ (μ7.1 30 0 18 = 1 ∧ ¬ mo_c (μ7.1 38 0) 32)) → ZZ 259 [some (za_r 30 0), some (za_i n1), some (za_i y), l3, l4] [] (za_u μ7.1 30 0 18 w, μ7.2) (0, 0) := by
            intro w hw hw1
            refine half _ (mo_rbu b7 (Or.inl rfl) w) ?_ ?_ ?_
            · dsimp only
              rw [za_u_b (show (39 : Nat) ≠ 30 by decide), za_u_b (show (40 : Nat) ≠ 30 by decide), za_u_b (show (41 : Nat) ≠ 30 by decide)]
              exact c39
            · dsimp only
              rw [za_u_same]
              refine ⟨hw, hw1.trans ?_⟩
              rw [key, hci, c30, i5.2]
              exact ⟨fun z q => q.elim z.1 z.2, fun z => ⟨fun q => z (Or.inl q), fun q => z (Or.inr q)⟩⟩
            · dsimp only
              rw [za_u_i (show (19 : Nat) ≠ 18 by decide), c30]
              exact i6
          refine ⟨fun hq => ?_, fun hq => ?_⟩
          · exact ⟨Or.inl rfl, fin 0 (Or.inl rfl) ⟨fun q => absurd q (by decide), fun q => absurd (q.1.symm.trans hq) (by decide)⟩⟩
          · refine ⟨d - 1, 0, 0, _, _, by omega, Nat.le_refl _, Nat.le_refl _, ct_M_hasCircle (by omega), ?_, fun _ _ h => h.elim⟩
            rintro r μ8 ⟨⟨v2, rfl, hv2, hv3⟩, rfl⟩
            have h18 : μ8.1 30 0 18 = 1 := by rw [c30] at hq ⊢; exact i5.1.resolve_left hq
            refine ⟨fun hq2 => ?_, fun hq2 => ?_⟩
            · exact ⟨Or.inl rfl, fin 0 (Or.inl rfl) ⟨fun q => absurd q (by decide), fun q => absurd (hv3.mp (zn_or01 hv2 hq2)) q.2⟩⟩
            · exact ⟨Or.inr rfl, fin 1 (Or.inr rfl) ⟨fun _ => ⟨h18, fun q => by rw [hv3.mpr q] at hq2; exact absurd hq2 (by decide)⟩, fun _ => rfl⟩⟩)
    refine run [205] 80 193 _ _ _ _ ?_
    refine ⟨Or.inr rfl, Or.inr rfl, ?_⟩
    refine loop 0 _ (Nat.zero_le _) ⟨mo_rbu (mo_rbu hb (Or.inl rfl) 1) (Or.inr rfl) 1, ?_, ?_, ?_⟩ 0 rfl
    · dsimp only
      rw [za_u_b (show (39 : Nat) ≠ 30 by decide), za_u_b (show (40 : Nat) ≠ 30 by decide), za_u_b (show (41 : Nat) ≠ 30 by decide), za_u_b (show (39 : Nat) ≠ 30 by decide), za_u_b (show (40 : Nat) ≠ 30 by decide), za_u_b (show (41 : Nat) ≠ 30 by decide)]
      exact ⟨rfl, rfl, rfl⟩
    · dsimp only
      rw [za_u_i (show (18 : Nat) ≠ 19 by decide), za_u_same]
      exact ⟨Or.inr rfl, fun _ ⟨p, q, _⟩ => absurd q (Nat.not_lt_zero p), fun _ => rfl⟩
    · dsimp only
      rw [za_u_same]
      exact ⟨Or.inr rfl, fun _ ⟨p, q, _⟩ => absurd q (Nat.not_lt_zero p), fun _ => rfl⟩
  -- the second part: from above
  have ph2 : ∀ (μa : za_M) (n1 : Int32) (l2 l3 l4 : Option za_V), mo_rb μ μa → mo_ub μa → mo_vb μa → mo_01 μa → (∀ i, lf_V 520 (mo_x μa) i ↔ un_X g i) → (∀ i, ¬ lf_V 512 (mo_y μa) i) → ZZ 114 [some (za_r 30 0), some (za_i n1), l2, l3, l4] [] μa (0, 0) := by
    intro μa n1 l2 l3 l4 hb hub hvb h01 hX hY
    have wh := zn_wh (σ := za_M × Int32 × Option za_V × Option za_V × Option za_V)
      (P := fun t => ZZ 116 [some (za_r 30 0), some (za_i t.2.1), t.2.2.1, t.2.2.2.1, t.2.2.2.2] [] t.1 (0, 0))
      (I := fun t => mo_rb μ t.1 ∧ mo_ub t.1 ∧ mo_vb t.1 ∧ mo_01 t.1 ∧ (∀ i, lf_V 520 (mo_x t.1) i ↔ un_X g i) ∧ lf_H (un_W g) (3 * gq_np g) 512 (mo_y t.1) t.2.1)
      (fun t => 2 * ct_n (mo_y t.1) 512 + t.2.1.toNatClampNeg)
      (fun t0 h ihw => by
        obtain ⟨w1, w2, w3, w4, w5, w6⟩ := h
        refine run [116, 124, 193] 80 116 _ _ _ _ ?_
        refine ⟨fun hq => ?_, fun hq => ?_⟩
        · exact ph3 _ _ _ _ _ w1 w2 w3 w4 w5 (w6.2.2 hq)
        · have hq1 := zn_or01 w6.1 hq
          have loop := zn_for (σ := za_M × Int32 × Option za_V × Option za_V) (N := gq_np g)
            (P := fun k t => ∀ y : Int32, y = nI k → ZZ 124 [some (za_r 30 0), some (za_i t.2.1), some (za_i y), t.2.2.1, t.2.2.2] [] t.1 (0, 0))
            (I := fun k t => mo_rb μ t.1 ∧ mo_ub t.1 ∧ mo_vb t.1 ∧ mo_01 t.1 ∧ (∀ i, lf_V 520 (mo_x t.1) i ↔ un_X g i) ∧ lf_I (un_W g) (3 * gq_np g) 512 (mo_y t0.1) (3 * k) (mo_y t.1) t.2.1)
            (fun t h y hy => by
              obtain ⟨i1, i2, i3, i4, i5, i6⟩ := h
              have hM1 := mo_rbM hM i1
              refine run [116, 124] 80 124 _ _ _ _ ?_
              refine ⟨fun _ => ?_, fun q => absurd (by rw [hM1.2.1, hy]; exact Int32.le_refl _) q⟩
              exact ihw (t.1, t.2.1, some (za_i y), t.2.2.1, t.2.2.2) ⟨i1, i2, i3, i4, i5, lf_IH i6⟩ (lf_Im i6 hq1))
            (fun k t hk h ih y hy => by
              obtain ⟨i1, i2, i3, i4, i5, i6⟩ := h
              have hM1 := mo_rbM hM i1
              have inner := zn_for (σ := za_M × Int32 × Option za_V) (N := 4)
                (P := fun n u => 1 ≤ n → ∀ z : Int32, z = nI n → ZZ 134 [some (za_r 30 0), some (za_i u.2.1), some (za_i y), some (za_i z), u.2.2] [] u.1 (0, 0))
                (I := fun n u => mo_rb μ u.1 ∧ mo_ub u.1 ∧ mo_vb u.1 ∧ mo_01 u.1 ∧ (∀ i, lf_V 520 (mo_x u.1) i ↔ un_X g i) ∧ lf_I (un_W g) (3 * gq_np g) 512 (mo_y t0.1) (3 * k + (n - 1)) (mo_y u.1) u.2.1)
                (fun u h h1 z hz => by
                  obtain ⟨j1, j2, j3, j4, j5, j6⟩ := h
                  refine run [124, 134] 80 134 _ _ _ _ ?_
                  refine ⟨fun _ => ?_, fun q => absurd (by rw [hz]; exact nI_le (Nat.le_refl 4) (by decide)) q⟩
                  exact ih (u.1, u.2.1, some (za_i z), u.2.2) ⟨j1, j2, j3, j4, j5, j6⟩ _ (zn_s hy))
                (fun n u hn h ih2 h1 z hz => by
                  obtain ⟨j1, j2, j3, j4, j5, j6⟩ := h
                  have hM2 := mo_rbM hM j1
                  obtain ⟨t, rfl⟩ : ∃ t, n = t + 1 := ⟨n - 1, by omega⟩
                  have j6 : lf_I (un_W g) (3 * gq_np g) 512 (mo_y t0.1) (3 * k + t) (mo_y u.1) u.2.1 := j6
                  have at163 : ∀ (ν : za_M) (w : Int32), mo_rb μ ν → mo_ub ν → mo_vb ν → mo_01 ν → (∀ i, lf_V 520 (mo_x ν) i ↔ un_X g i) → (w = 0 ∨ w = 1) → (∀ v', (v' = 0 ∨ v' = 1) → (v' = 1 ↔ (u.2.1 = 1 ∨ w = 1)) → lf_I (un_W g) (3 * gq_np g) 512 (mo_y t0.1) (3 * k + t + 1) (mo_y ν) v') → ZZ 163 [some (za_r 30 0), some (za_i u.2.1), some (za_i y), some (za_i z), some (za_i w)] [] ν (0, 0) := by
                    intro ν w k1 k2 k3 k4 k5 k6 k7
                    refine run [134] 80 163 _ _ _ _ ?_
                    refine ⟨fun z1 => ?_, fun z1 => ⟨fun z2 => ?_, fun z2 => ?_⟩⟩
                    · exact ih2 (ν, 1, some (za_i w)) ⟨k1, k2, k3, k4, k5, k7 1 (Or.inr rfl) ⟨fun _ => Or.inl (zn_or01 j6.1 z1), fun _ => rfl⟩⟩ (by omega) _ (zn_s hz)
                    · exact ih2 (ν, 0, some (za_i w)) ⟨k1, k2, k3, k4, k5, k7 0 (Or.inl rfl) ⟨fun q => absurd q (by decide), fun q => q.elim (fun q => absurd (q.symm.trans z1) (by decide)) (fun q => absurd (q.symm.trans z2) (by decide))⟩⟩ (by omega) _ (zn_s hz)
                    · exact ih2 (ν, 1, some (za_i w)) ⟨k1, k2, k3, k4, k5, k7 1 (Or.inr rfl) ⟨fun _ => Or.inr (zn_or01 k6 z2), fun _ => rfl⟩⟩ (by omega) _ (zn_s hz)
                  refine run [134, 163] 80 134 _ _ _ _ ?_
                  refine ⟨fun q => absurd q (zn_ge hz rfl hn (by decide)), fun _ => ?_⟩
                  refine ⟨d - 1, 0, 0, _, _, by omega, Nat.le_refl _, Nat.le_refl _, ct_M_allHave hg hM2 j4 hy hk (by omega), ?_, fun _ _ h => h.elim⟩
                  rintro r μ2 ⟨⟨v, rfl, hv, hv1⟩, rfl⟩
                  have hpa : v = 1 ↔ un_pa g k := by
                    rw [hv1, mo_pa hg hk, show lf_V 520 (mo_x u.1) = un_X g from funext fun i => propext (j5 i)]
                    exact Iff.rfl
                  have hlt : 3 * k + t < 3 * gq_np g := by omega
                  refine ⟨fun hq => ?_, fun hq => ?_⟩
                  · have hno : ¬ un_pa g k := fun z => by rw [hpa.mpr z] at hq; exact absurd hq (by decide)
                    refine at163 _ 0 j1 j2 j3 j4 j5 (Or.inl rfl) (fun v' q1 q2 => ?_)
                    have hF : ∀ i, ¬ un_W g (3 * k + t) (lf_V 512 (mo_y u.1)) i := fun i q => hno (by
                      have := q.1.2
                      rw [show (3 * k + t) / 3 = k by omega] at this
                      exact this)
                    exact lf_Is (un_Wm g) (un_WN hg) j6 hlt (fun i _ => ⟨Or.inl, fun q => q.elim id (fun q => absurd q (hF i))⟩) q1 ⟨fun q => (q2.mp q).elim Or.inl (fun q => absurd q (by decide)), fun q => q2.mpr (q.elim Or.inl (fun ⟨i, q, _⟩ => absurd q (hF i)))⟩
                  · have hyes := hpa.mp (zn_or01 hv hq)
                    refine ⟨d - 1, 0, 0, _, _, by omega, Nat.le_refl _, Nat.le_refl _, ct_M_growAbove (o := t + 1) hg hM2 j2 j3 hy hz (by omega) hn hk (by omega), ?_, fun _ _ h => h.elim⟩
                    rintro r ν ⟨⟨v2, rfl, hv2, hv3⟩, g1, g2⟩
                    obtain ⟨m1, m2, m3⟩ := mo_ga hg (by omega) hk j2 j3 j5 hyes hv3 g1
                    have c1 : mo_rb μ ν := mo_rbt j1 g2 (fun b j q => ⟨by omega, q.2⟩)
                    have c39 : ν.1 39 0 = u.1.1 39 0 := by rw [g2.1 39 0 (by decide)]
                    have c40 : ν.1 40 0 = u.1.1 40 0 := by rw [g2.1 40 0 (by decide)]
                    have c2 : mo_ub ν := fun i y => by rw [c40]; exact j2 i y
                    have c4 : mo_01 ν := fun i => by rw [c39]; exact j4 i
                    have c5 : ∀ i, lf_V 520 (mo_x ν) i ↔ un_X g i := by rw [mo_xc c39 c40]; exact j5
                    refine ⟨fun hq2 => ?_, fun hq2 => ?_⟩
                    · refine at163 ν 0 c1 c2 m3 c4 c5 (Or.inl rfl) (fun v' q1 q2 => lf_Is (un_Wm g) (un_WN hg) j6 hlt m1 q1 (q2.trans ?_))
                      rw [← m2, hq2]
                    · refine at163 ν 1 c1 c2 m3 c4 c5 (Or.inr rfl) (fun v' q1 q2 => lf_Is (un_Wm g) (un_WN hg) j6 hlt m1 q1 (q2.trans ?_))
                      rw [← m2, zn_or01 hv2 hq2])
              refine run [124, 134] 80 124 _ _ _ _ ?_
              refine ⟨fun q => absurd q (zn_ge hy hM1.2.1 hk (by omega)), fun _ => ?_⟩
              exact inner 1 (t.1, t.2.1, t.2.2.2) (by decide) ⟨i1, i2, i3, i4, i5, i6⟩ (Nat.le_refl 1) 1 rfl)
          exact loop 0 (t0.1, 0, t0.2.2.2.1, t0.2.2.2.2) (Nat.zero_le _) ⟨w1, w2, w3, w4, w5, lf_I0 w6.2.1⟩ 0 rfl)
    refine run [116] 80 114 _ _ _ _ ?_
    exact wh (μa, 1, l2, l3, l4) ⟨hb, hub, hvb, h01, hX, Or.inr rfl, fun i q => absurd q (hY i), fun q => absurd q (show ¬ (1 : Int32) = 0 by decide)⟩
  -- the first part: unions
  have ph1 : ∀ (μa : za_M) (n1 : Int32) (l2 l3 l4 : Option za_V), mo_rb μ μa → mo_ub μa → mo_vb μa → mo_01 μa → (∀ i, ¬ lf_V 520 (mo_x μa) i) → (∀ i, ¬ lf_V 512 (mo_y μa) i) → ZZ 51 [some (za_r 30 0), some (za_i n1), l2, l3, l4] [] μa (0, 0) := by
    intro μa n1 l2 l3 l4 hb hub hvb h01 hX hY
    have wh := zn_wh (σ := za_M × Int32 × Option za_V × Option za_V)
      (P := fun t => ZZ 53 [some (za_r 30 0), some (za_i t.2.1), t.2.2.1, t.2.2.2, l4] [] t.1 (0, 0))
      (I := fun t => mo_rb μ t.1 ∧ mo_ub t.1 ∧ mo_vb t.1 ∧ mo_01 t.1 ∧ (∀ i, ¬ lf_V 512 (mo_y t.1) i) ∧ lf_H (un_F g) (gq_np g) 520 (mo_x t.1) t.2.1)
      (fun t => 2 * ct_n (mo_x t.1) 520 + t.2.1.toNatClampNeg)
      (fun t0 h ihw => by
        obtain ⟨w1, w2, w3, w4, w5, w6⟩ := h
        refine run [53, 61, 114] 80 53 _ _ _ _ ?_
        refine ⟨fun hq => ?_, fun hq => ?_⟩
        · exact ph2 _ _ _ _ _ w1 w2 w3 w4 (w6.2.2 hq) w5
        · have hq1 := zn_or01 w6.1 hq
          have loop := zn_for (σ := za_M × Int32 × Option za_V) (N := gq_np g)
            (P := fun k t => ∀ y : Int32, y = nI k → ZZ 61 [some (za_r 30 0), some (za_i t.2.1), some (za_i y), t.2.2, l4] [] t.1 (0, 0))
            (I := fun k t => mo_rb μ t.1 ∧ mo_ub t.1 ∧ mo_vb t.1 ∧ mo_01 t.1 ∧ (∀ i, ¬ lf_V 512 (mo_y t.1) i) ∧ lf_I (un_F g) (gq_np g) 520 (mo_x t0.1) k (mo_x t.1) t.2.1)
            (fun t h y hy => by
              obtain ⟨i1, i2, i3, i4, i5, i6⟩ := h
              have hM1 := mo_rbM hM i1
              refine run [53, 61] 80 61 _ _ _ _ ?_
              refine ⟨fun _ => ?_, fun q => absurd (by rw [hM1.2.1, hy]; exact Int32.le_refl _) q⟩
              exact ihw (t.1, t.2.1, some (za_i y), t.2.2) ⟨i1, i2, i3, i4, i5, lf_IH i6⟩ (lf_Im i6 hq1))
            (fun k t hk h ih y hy => by
              obtain ⟨j1, j2, j3, j4, j5, j6⟩ := h
              have hM2 := mo_rbM hM j1
              have at91 : ∀ (ν : za_M) (w : Int32), mo_rb μ ν → mo_ub ν → mo_vb ν → mo_01 ν → (∀ i, ¬ lf_V 512 (mo_y ν) i) → (w = 0 ∨ w = 1) → (∀ v', (v' = 0 ∨ v' = 1) → (v' = 1 ↔ (t.2.1 = 1 ∨ w = 1)) → lf_I (un_F g) (gq_np g) 520 (mo_x t0.1) (k + 1) (mo_x ν) v') → ZZ 91 [some (za_r 30 0), some (za_i t.2.1), some (za_i y), some (za_i w), l4] [] ν (0, 0) := by
                intro ν w k1 k2 k3 k4 k5 k6 k7
                refine run [61] 80 91 _ _ _ _ ?_
                refine ⟨fun z1 => ?_, fun z1 => ⟨fun z2 => ?_, fun z2 => ?_⟩⟩
                · exact ih (ν, 1, some (za_i w)) ⟨k1, k2, k3, k4, k5, k7 1 (Or.inr rfl) ⟨fun _ => Or.inl (zn_or01 j6.1 z1), fun _ => rfl⟩⟩ _ (zn_s hy)
                · exact ih (ν, 0, some (za_i w)) ⟨k1, k2, k3, k4, k5, k7 0 (Or.inl rfl) ⟨fun q => absurd q (by decide), fun q => q.elim (fun q => absurd (q.symm.trans z1) (by decide)) (fun q => absurd (q.symm.trans z2) (by decide))⟩⟩ _ (zn_s hy)
                · exact ih (ν, 1, some (za_i w)) ⟨k1, k2, k3, k4, k5, k7 1 (Or.inr rfl) ⟨fun _ => Or.inr (zn_or01 k6 z2), fun _ => rfl⟩⟩ _ (zn_s hy)
              refine run [61, 91] 80 61 _ _ _ _ ?_
              refine ⟨fun q => absurd q (zn_ge hy hM2.2.1 hk (by omega)), fun _ => ?_⟩
              refine ⟨d - 1, 0, 0, _, _, by omega, Nat.le_refl _, Nat.le_refl _, ct_M_allHave hg hM2 j4 hy hk (by omega), ?_, fun _ _ h => h.elim⟩
              rintro r μ2 ⟨⟨v, rfl, hv, hv1⟩, rfl⟩
              refine ⟨fun hq => ?_, fun hq => ?_⟩
              · have hno : ¬ mo_all g t.1 k 4 := fun z => by rw [hv1.mpr z] at hq; exact absurd hq (by decide)
                refine at91 _ 0 j1 j2 j3 j4 j5 (Or.inl rfl) (fun v' q1 q2 => ?_)
                have hF : ∀ i, ¬ un_F g k (lf_V 520 (mo_x t.1)) i := fun i q => hno ((mo_pa hg hk).mpr q.1)
                exact lf_Is (un_Fm g) (un_FN hg) j6 hk (fun i _ => ⟨Or.inl, fun q => q.elim id (fun q => absurd q (hF i))⟩) q1 ⟨fun q => (q2.mp q).elim Or.inl (fun q => absurd q (by decide)), fun q => q2.mpr (q.elim Or.inl (fun ⟨i, q, _⟩ => absurd q (hF i)))⟩
              · have hyes := hv1.mp (zn_or01 hv hq)
                refine ⟨d - 1, 0, 0, _, _, by omega, Nat.le_refl _, Nat.le_refl _, ct_M_growUnion hg hM2 j2 j4 hy hk (by omega), ?_, fun _ _ h => h.elim⟩
                rintro r ν ⟨⟨v2, rfl, hv2, hv3⟩, g0, g1, g2⟩
                obtain ⟨m1, m2, m3, m4⟩ := mo_gu hg hk j2 j4 hyes hv3 g0 g1
                have c1 : mo_rb μ ν := mo_rbt j1 g2 (fun b j q => ⟨by omega, q.2⟩)
                have c41 : ν.1 41 0 = t.1.1 41 0 := by rw [g2.1 41 0 (by decide)]
                have c3 : mo_vb ν := fun i y => by rw [c41]; exact j3 i y
                have c5 : ∀ i, ¬ lf_V 512 (mo_y ν) i := by rw [mo_yc c41]; exact j5
                refine ⟨fun hq2 => ?_, fun hq2 => ?_⟩
                · refine at91 ν 0 c1 m4 c3 m3 c5 (Or.inl rfl) (fun v' q1 q2 => lf_Is (un_Fm g) (un_FN hg) j6 hk m1 q1 (q2.trans ?_))
                  rw [← m2, hq2]
                · refine at91 ν 1 c1 m4 c3 m3 c5 (Or.inr rfl) (fun v' q1 q2 => lf_Is (un_Fm g) (un_FN hg) j6 hk m1 q1 (q2.trans ?_))
                  rw [← m2, zn_or01 hv2 hq2])
          exact loop 0 (t0.1, 0, t0.2.2.2) (Nat.zero_le _) ⟨w1, w2, w3, w4, w5, lf_I0 w6.2.1⟩ 0 rfl)
    refine run [53] 80 51 _ _ _ _ ?_
    exact wh (μa, 1, l2, l3) ⟨hb, hub, hvb, h01, hY, Or.inr rfl, fun i q => absurd q (hX i), fun q => absurd q (show ¬ (1 : Int32) = 0 by decide)⟩
  -- all is wiped
  have loop := zn_for (σ := za_M) (N := 64)
    (P := fun k μ1 => ∀ y : Int32, y = nI k → ZZ 15 [some (za_r 30 0), some (za_i y), none, none, none] [] μ1 (0, 0))
    (I := fun k μ1 => mo_rb μ μ1 ∧ ∀ i, i < k → μ1.1 40 0 i = 0 ∧ μ1.1 41 0 i = 0 ∧ μ1.1 39 0 (i / 8) = 0)
    (fun μ1 h y hy => by
      refine run [15, 51] 80 15 _ _ _ _ ?_
      refine ⟨fun _ => ?_, fun q => absurd (by rw [hy]; exact nI_le (Nat.le_refl 64) (by decide)) q⟩
      have z39 : ∀ s, s < 8 → μ1.1 39 0 s = 0 := fun s hs => by
        have := (h.2 (8 * s) (by omega)).2.2
        rw [show 8 * s / 8 = s by omega] at this
        exact this
      refine ph1 μ1 y none none none h.1 (fun i y hi q => ?_) (fun i y hi q => ?_) (fun s hs => Or.inl (z39 s hs)) (fun i q => ?_) (fun i q => ?_)
      · rw [(h.2 i hi).1, b_0] at q; cases q
      · rw [(h.2 i hi).2.1, b_0] at q; cases q
      · unfold lf_V mo_x at q
        by_cases c : i < 8
        · rw [if_pos c, z39 i c] at q
          exact absurd q.2 (by decide)
        · rw [if_neg c, (h.2 _ (by omega)).1, b_0] at q
          cases q.2
      · unfold lf_V mo_y at q
        rw [(h.2 _ (by omega)).2.1, b_0] at q
        cases q.2)
    (fun k μ1 hk h ih y hy => by
      have e8 : y / 8 = nI (k / 8) := by rw [hy]; exact zn_div8 k hk
      have hcy : y.toNatClampNeg = k := zn_c hy (by omega)
      have hc8 : (y / 8).toNatClampNeg = k / 8 := zn_c e8 (by omega)
      refine run [15] 80 15 _ _ _ _ ?_
      refine ⟨fun q => absurd q (zn_ge hy rfl hk (by decide)), fun _ => ?_⟩
      refine ⟨zn_i hy hk (by decide), zn_i hy hk (by decide), by decide, zn_i e8 (by omega) (by decide), Or.inl rfl, ?_⟩
      refine ih _ ⟨mo_rbt h.1 (S := fun b j => (b = 38 ∨ b = 39 ∨ b = 40 ∨ b = 41) ∧ j = 0) (zq_u (zq_u (zq_u zq_rf ⟨Or.inr (Or.inr (Or.inl rfl)), rfl⟩) ⟨Or.inr (Or.inr (Or.inr rfl)), rfl⟩) ⟨Or.inr (Or.inl rfl), rfl⟩) (fun b j q => q), fun i hi => ?_⟩ _ (zn_s hy)
      dsimp only
      rw [hcy, hc8, za_u_b (show (40 : Nat) ≠ 39 by decide), za_u_b (show (40 : Nat) ≠ 41 by decide), za_u_b (show (41 : Nat) ≠ 39 by decide)]
      by_cases e : i = k
      · subst e
        rw [za_u_same, za_u_same, za_u_same]
        exact ⟨rfl, rfl, rfl⟩
      · have h9 := h.2 i (by omega)
        rw [za_u_i e, za_u_i e, za_u_b (show (41 : Nat) ≠ 40 by decide)]
        refine ⟨h9.1, h9.2.1, ?_⟩
        by_cases e3 : i / 8 = k / 8
        · rw [e3, za_u_same]
        · rw [za_u_i e3, za_u_b (show (39 : Nat) ≠ 41 by decide), za_u_b (show (39 : Nat) ≠ 40 by decide)]
          exact h9.2.2)
  refine run [15] 80 0 _ _ _ _ ?_
  refine ⟨fun _ => ⟨Or.inr rfl, ?_⟩, fun q => absurd hk q⟩
  refine loop 0 _ (Nat.zero_le _) ⟨⟨zq_u zq_rf ⟨Or.inl rfl, rfl⟩, fun f a b c => ?_, ?_⟩, fun i hi => absurd hi (Nat.not_lt_zero i)⟩ 0 rfl
  · dsimp only
    rw [za_u_i a]
  · dsimp only
    rw [za_u_same]
end
section
/-! bits of longs -/
def bl (x : Int64) (i : Nat) : Bool := x.toBitVec.getLsbD i
theorem bl_ext {x y : Int64} (h : ∀ i, i < 64 → bl x i = bl y i) : x = y := Int64.toBitVec_inj.mp (BitVec.eq_of_getLsbD_eq (fun i hi => h i hi))
theorem bl_or (x y : Int64) (i : Nat) : bl (x ||| y) i = (bl x i || bl y i) := by unfold bl; rw [Int64.toBitVec_or, BitVec.getLsbD_or]
theorem bl_and (x y : Int64) (i : Nat) : bl (x &&& y) i = (bl x i && bl y i) := by unfold bl; rw [Int64.toBitVec_and, BitVec.getLsbD_and]
theorem bl_0 (i : Nat) : bl 0 i = false := BitVec.getLsbD_zero
theorem bl_big {x : Int64} {i : Nat} (h : 64 ≤ i) : bl x i = false := BitVec.getLsbD_of_ge _ _ h
theorem bl_c : ∀ k, k < 64 → ((nI k).toInt64 &&& 63) = lN k := by decide +kernel
theorem bl_cu : ∀ k, k < 64 → ((nI k).toInt64.toUInt64 &&& Int64.toUInt64 63) = UInt64.ofNat k := by decide +kernel
theorem bl_sm : ∀ k, k < 64 → ((BitVec.ofNat 64 k).smod 64).toNat = k := by decide +kernel
theorem bl_ushr (k : Nat) (hk : k < 64) (w : Int64) (i : Nat) : bl ((w.toUInt64 >>> ((nI k).toInt64.toUInt64 &&& Int64.toUInt64 63)).toInt64) i = bl w (k + i) := by
  rw [bl_cu k hk]
  have e : (w.toUInt64 >>> UInt64.ofNat k).toInt64.toBitVec = w.toBitVec >>> k := by
    apply BitVec.eq_of_toNat_eq
    show (w.toUInt64 >>> UInt64.ofNat k).toNat = _
    have h1 : (UInt64.ofNat k).toNat = k := by
      show (BitVec.ofNat 64 k).toNat = k
      rw [BitVec.toNat_ofNat, Nat.mod_eq_of_lt (by omega)]
    rw [UInt64.toNat_shiftRight, h1, Nat.mod_eq_of_lt hk, BitVec.toNat_ushiftRight]
    rfl
  unfold bl
  rw [e, BitVec.getLsbD_ushiftRight]
theorem bl_shl (k : Nat) (hk : k < 64) (w : Int64) {i : Nat} (hi : i < 64) : bl (w <<< ((nI k).toInt64 &&& 63)) i = (decide (k ≤ i) && bl w (i - k)) := by
  rw [bl_c k hk]
  unfold bl
  rw [Int64.toBitVec_shiftLeft, show (lN k).toBitVec = BitVec.ofNat 64 k from rfl, BitVec.shiftLeft_eq', bl_sm k hk, BitVec.getLsbD_shiftLeft, decide_eq_true hi, Bool.true_and]
  by_cases h : k ≤ i
  · rw [decide_eq_true h, show decide (i < k) = false from decide_eq_false (by omega)]; rfl
  · rw [decide_eq_false h, show decide (i < k) = true from decide_eq_true (by omega)]; rfl
theorem bl_l2i (x : Int64) {i : Nat} (hi : i < 32) : bt x.toInt32 i = bl x i := by
  unfold bt bl
  rw [Int64.toBitVec_toInt32, BitVec.getLsbD_signExtend, decide_eq_true hi, Bool.true_and, if_pos (by omega)]
theorem bl_i2l (x : Int32) {i : Nat} (hi : i < 64) : bl x.toInt64 i = if i < 32 then bt x i else bt x 31 := by
  unfold bt bl
  rw [Int32.toBitVec_toInt64, BitVec.getLsbD_signExtend, decide_eq_true hi, Bool.true_and, BitVec.msb_eq_getLsbD_last]
theorem bl_byte (x : Int32) {i : Nat} (hi : i < 64) : bl (x &&& 255).toInt64 i = (decide (i < 8) && bt x i) := by
  rw [bl_i2l _ hi]
  split
  · rw [b_and, b_255, Bool.and_comm]
  · rw [b_and, b_255, decide_eq_false (show ¬ i < 8 by omega), decide_eq_false (show ¬ 31 < 8 by decide), Bool.and_false, Bool.false_and]
theorem zn_8a (a : Nat) : (8 : Int32) * nI a = nI (8 * a) := pk_mul 8 a
/-- a row of a relation -/
theorem rw_of_bt (rel : Int64) {a b : Nat} (ha : a < 8) (hb : b < 32) : bt (rw_of rel a) b = (decide (b < 8) && bl rel (8 * a + b)) := by
  unfold rw_of
  rw [zn_8a, b_and, b_255, bl_l2i _ hb, bl_ushr (8 * a) (by omega), Bool.and_comm]
/-- a relation out of rows -/
theorem bd_rk_bl (r : Nat → Int32) {o : Nat} (ho : o < 4) : ∀ k, k ≤ 6 → ∀ j, j < 64 → bl (bd_rk r o k) j = (decide (j / 8 < k) && bt (r (8 * o + j / 8)) (8 * o + j % 8))
  | 0, _, j, hj => by rw [bd_rk, bl_0, decide_eq_false (Nat.not_lt_zero _), Bool.false_and]
  | k + 1, hk, j, hj => by
    rw [bd_rk, bl_or, bd_rk_bl r ho k (by omega) j hj, zn_8a, bl_shl (8 * k) (by omega) _ hj]
    by_cases h1 : j / 8 = k
    · rw [decide_eq_false (show ¬ j / 8 < k by omega), decide_eq_true (show j / 8 < k + 1 by omega), Bool.false_and, Bool.false_or, decide_eq_true (show 8 * k ≤ j by omega), bl_byte _ (by omega), decide_eq_true (show j - 8 * k < 8 by omega), b_ushr (8 * o) (by omega), show j - 8 * k = j % 8 by omega, h1, Bool.true_and]
    · by_cases h2 : j / 8 < k
      · rw [decide_eq_true h2, decide_eq_true (show j / 8 < k + 1 by omega), decide_eq_false (show ¬ 8 * k ≤ j by omega), Bool.false_and, Bool.or_false]
      · rw [decide_eq_false h2, decide_eq_false (show ¬ j / 8 < k + 1 by omega), Bool.false_and, Bool.false_or, decide_eq_true (show 8 * k ≤ j by omega), bl_byte _ (by omega), decide_eq_false (show ¬ j - 8 * k < 8 by omega), Bool.true_and, Bool.false_and]
/-! A BOARD: its rows hold what goes on at S, its mark tells of a circle there -/
def bd_S (μ : za_M) (J : Nat) (S : Nat → Prop) (E : Nat → Nat → Prop) : Prop := rl_is (μ.1 19 J) S E ∧ (μ.1 18 J 1 = 0 ∨ μ.1 18 J 1 = 1) ∧ (μ.1 18 J 1 = 1 ↔ rl_ci S E)
theorem bd_Sc {μ : za_M} {J : Nat} {S S' : Nat → Prop} {E E' : Nat → Nat → Prop} (h : bd_S μ J S E) (hS : ∀ v, S v ↔ S' v) (hE : ∀ a b, E a b ↔ E' a b) : bd_S μ J S' E' := ⟨rl_congr h.1 hS hE, h.2.1, h.2.2.trans (rl_ci_congr hS hE)⟩
theorem rl_isc {r r' : Nat → Int32} {S : Nat → Prop} {E : Nat → Nat → Prop} (h : rl_is r S E) (hr : ∀ i, i < 32 → r' i = r i) : rl_is r' S E := fun x y hx => by rw [hr x hx]; exact h x y hx
theorem bd_Sm {μ μ' : za_M} {J J' : Nat} {S : Nat → Prop} {E : Nat → Nat → Prop} (h : bd_S μ J S E) (h19 : ∀ i, i < 32 → μ'.1 19 J' i = μ.1 19 J i) (h18 : μ'.1 18 J' 1 = μ.1 18 J 1) : bd_S μ' J' S E := ⟨rl_isc h.1 h19, by rw [h18]; exact h.2.1, by rw [h18]; exact h.2.2⟩
/-- the production's own steps -/
def bd_N (g : gq_G) (p : Nat) (x y : Nat) : Prop := x < 32 ∧ y < 32 ∧ bt (gq_nd g p x) y = true
theorem bd_S0 {g : gq_G} {p J : Nat} {μ : za_M} (h19 : ∀ i, i < 32 → μ.1 19 J i = gq_nd g p i) (h18 : μ.1 18 J 1 = 0) : bd_S μ J (fun _ => False) (bd_N g p) := by
  refine ⟨rl_base (fun x y hx => ?_), Or.inl h18, ?_⟩
  · rw [h19 x hx]
    refine ⟨fun h => ⟨hx, Classical.byContradiction fun q => ?_, h⟩, fun h => h.2.2⟩
    rw [b_big (by omega)] at h
    cases h
  · rw [h18]
    exact ⟨fun q => absurd q (by decide), fun ⟨u, q, _⟩ => q.elim⟩
/-- a relation laid at an occurrence -/
def bd_F (o : Nat) (rel : Int64) (x y : Nat) : Prop := x / 8 = o ∧ x % 8 < 6 ∧ y / 8 = o ∧ bl rel (8 * (x % 8) + y % 8) = true
theorem bd_lay_bt {r : Nat → Int32} {o : Nat} (ho : o < 4) (rel : Int64) (x y : Nat) : bt (bd_lay r o rel x) y = true ↔ (bt (r x) y = true ∨ bd_F o rel x y) := by
  unfold bd_lay bd_F
  by_cases hy : y < 32
  · by_cases c : 8 * o ≤ x ∧ x < 8 * o + 6
    · rw [if_pos c, b_or, bt_shl8 _ ho hy, Bool.or_eq_true, Bool.and_eq_true, decide_eq_true_eq]
      constructor
      · rintro (h | ⟨h1, h2⟩)
        · exact Or.inl h
        · rw [rw_of_bt _ (by omega) (by omega), Bool.and_eq_true, decide_eq_true_eq] at h2
          refine Or.inr ⟨by omega, by omega, by omega, ?_⟩
          rw [show 8 * (x % 8) + y % 8 = 8 * (x - 8 * o) + (y - 8 * o) by omega]
          exact h2.2
      · rintro (h | ⟨h1, h2, h3, h4⟩)
        · exact Or.inl h
        · refine Or.inr ⟨by omega, ?_⟩
          rw [rw_of_bt _ (by omega) (by omega), Bool.and_eq_true, decide_eq_true_eq]
          refine ⟨by omega, ?_⟩
          rw [show 8 * (x - 8 * o) + (y - 8 * o) = 8 * (x % 8) + y % 8 by omega]
          exact h4
    · rw [if_neg c]
      exact ⟨Or.inl, fun q => q.elim id (fun q => absurd ⟨by omega, by omega⟩ c)⟩
  · rw [b_big (by omega), b_big (by omega)]
    exact ⟨fun q => (by cases q), fun q => q.elim (fun q => by cases q) (fun q => by omega)⟩
/-- laid and joined -/
theorem bd_SJ {J o : Nat} (ho : o < 4) {rel : Int64} {μ μ1 μ2 : za_M} {S : Nat → Prop} {E : Nat → Nat → Prop} (h : bd_S μ J S E) (hS : ∀ v, S v → v / 8 ≠ o)
    (h1 : ∀ i, i < 32 → μ1.1 19 J i = bd_lay (μ.1 19 J) o rel i) (h18 : μ1.1 18 J 1 = μ.1 18 J 1) (h2 : ∀ i, i < 32 → μ2.1 19 J i = bd_jk (μ1.1 19 J) o 6 i) (h3 : μ2.1 18 J 1 = bd_ck (μ1.1 19 J) o (μ1.1 18 J 1) 6) :
    bd_S μ2 J (fun v => S v ∨ (v / 8 = o ∧ v % 8 < 6)) (fun x y => E x y ∨ bd_F o rel x y) := by
  have hF : ∀ a b, bd_F o rel a b → ¬ S a ∧ ¬ S b := fun a b q => ⟨fun z => hS a z q.1, fun z => hS b z q.2.2.1⟩
  have k1 : rl_is (μ1.1 19 J) S (fun x y => E x y ∨ bd_F o rel x y) := rl_lay h.1 hF (fun x y hx => by rw [h1 x hx]; exact bd_lay_bt ho rel x y)
  have k2 : μ1.1 18 J 1 = 1 ↔ rl_ci S (fun x y => E x y ∨ bd_F o rel x y) := by rw [h18, rl_ci_lay hF]; exact h.2.2
  have k3 : μ1.1 18 J 1 = 0 ∨ μ1.1 18 J 1 = 1 := by rw [h18]; exact h.2.1
  have hset : ∀ v, (S v ∨ (8 * o ≤ v ∧ v < 8 * o + 6)) ↔ (S v ∨ (v / 8 = o ∧ v % 8 < 6)) := fun v => ⟨fun q => q.elim Or.inl (fun q => Or.inr (by omega)), fun q => q.elim Or.inl (fun q => Or.inr (by omega))⟩
  obtain ⟨c1, c2⟩ := bd_ck_is ho k1 k3 k2 6 (Nat.le_refl 6)
  refine ⟨rl_isc (rl_congr (bd_jk_is ho k1 6 (Nat.le_refl 6)) hset (fun _ _ => Iff.rfl)) h2, by rw [h3]; exact c1, ?_⟩
  rw [h3]
  exact c2.trans (rl_ci_congr hset (fun _ _ => Iff.rfl))
end
section
/-! the class: Relations, its small methods -/
theorem za_ix0 (n i : Nat) : za_ix 0 n i = i := rfl
theorem zn_lt2 {k n : Nat} {x y : Int32} (hx : x = nI k) (hy : y = nI n) (h : k < n) (hn : n < 2 ^ 31) : x < y := by rw [hx, hy]; exact Int32.not_le.mp (nI_ge h hn)
theorem zn_nl {k n : Nat} {x y : Int32} (hx : x = nI k) (hy : y = nI n) (h : n ≤ k) (hn : k < 2 ^ 31) : ¬ x < y := by rw [hx, hy]; exact Int32.not_lt.mpr (nI_le h hn)
theorem ct_B_lay' {Γ : zk_G} {d J o : Nat} {x : Int32} {rel : Int64} {μ : za_M} (hx : x = nI o) (hd : 2 ≤ d) (ho : o < 4) : zk_Ct zt Γ zm_B_lay d 0 0 [za_r 18 J, za_i x, za_l rel] μ
    (fun r μ' => r = none ∧ (∀ i, i < 32 → μ'.1 19 J i = bd_lay (μ.1 19 J) o rel i) ∧ zq_fr (fun b j => b = 19 ∧ j = J) μ μ') (fun _ _ => False) := by
  subst hx
  exact ct_B_lay hd ho
theorem ct_B_join' {Γ : zk_G} {d J o : Nat} {x : Int32} {μ : za_M} (hx : x = nI o) (hd : 2 ≤ d) (ho : o < 4) : zk_Ct zt Γ zm_B_join d 0 0 [za_r 18 J, za_i x] μ
    (fun r μ' => r = none ∧ (∀ i, i < 32 → μ'.1 19 J i = bd_jk (μ.1 19 J) o 6 i) ∧ μ'.1 18 J 1 = bd_ck (μ.1 19 J) o (μ.1 18 J 1) 6 ∧ zq_fr (fun b j => (b = 18 ∨ b = 19) ∧ j = J) μ μ') (fun _ _ => False) := by
  subst hx
  exact ct_B_join hd ho
theorem ct_B_relationAt' {Γ : zk_G} {d J o : Nat} {x : Int32} {μ : za_M} (hx : x = nI o) (hd : 1 ≤ d) (ho : o < 4) : zk_Ct zt Γ zm_B_relationAt d 0 0 [za_r 18 J, za_i x] μ
    (fun r μ' => r = some (za_l (bd_rk (μ.1 19 J) o 6)) ∧ μ' = μ) (fun _ _ => False) := by
  subst hx
  exact ct_B_relationAt hd ho
/-- the grammar, read -/
theorem gq_Cp {g : gq_G} {μ : za_M} (hg : gq_ok g) (hC : gq_C g μ) {p : Nat} {x : Int32} (hx : x = nI p) (hp : p < gq_np g) : p < 16 ∧ vp_in x 16 ∧ x.toNatClampNeg = p ∧ μ.1 4 0 x.toNatClampNeg = nI (gq_m g p) ∧ (∀ o, o ≤ gq_m g p → μ.1 6 x.toNatClampNeg o = nI (gq_sy g p o)) ∧ (∀ i, i < 32 → μ.1 8 x.toNatClampNeg i = gq_nd g p i) := by
  have h16 : p < 16 := Nat.lt_of_lt_of_le hp hg.2.1
  have e : x.toNatClampNeg = p := zn_c hx (by omega)
  rw [e]
  exact ⟨h16, zn_i hx h16 (by decide), rfl, (hC.2.2.2 p hp).1, (hC.2.2.2 p hp).2.1, (hC.2.2.2 p hp).2.2.1⟩
set_option maxHeartbeats 4000000 in
theorem ct_R_forget {Γ : zk_G} {d : Nat} {μ : za_M} (hd : 1 ≤ d) : zk_Ct zt Γ zm_R_forget d 0 0 [za_r 20 0] μ (fun r μ' => r = none ∧ (∀ s, s < 8 → μ'.1 21 0 s = 0 ∧ μ'.2 22 0 s = 0 ∧ μ'.2 23 0 s = 0) ∧ zq_fr (fun b j => (b = 21 ∨ b = 22 ∨ b = 23) ∧ j = 0) μ μ') (fun _ _ => False) := by
  refine zs_R_forget (Nat.le_of_ble_eq_true rfl) hd (fun ZZ run => ?_)
  have loop := zn_for (σ := za_M) (N := 8)
    (P := fun k μ1 => ∀ y : Int32, y = nI k → ZZ 2 [some (za_r 20 0), some (za_i y)] [] μ1 (0, 0))
    (I := fun k μ1 => (∀ s, s < k → μ1.1 21 0 s = 0 ∧ μ1.2 22 0 s = 0 ∧ μ1.2 23 0 s = 0) ∧ zq_fr (fun b j => (b = 21 ∨ b = 22 ∨ b = 23) ∧ j = 0) μ μ1)
    (fun μ1 h y hy => by
      refine run [2] 40 2 _ _ _ _ ?_
      refine ⟨fun _ => ?_, fun q => absurd (by rw [hy]; exact nI_le (Nat.le_refl 8) (by decide)) q⟩
      exact ⟨rfl, rfl, Nat.le_refl _, Nat.le_refl _, rfl, h⟩)
    (fun k μ1 hk h ih y hy => by
      have hck : y.toNatClampNeg = k := zn_c hy (by omega)
      have hb : vp_in y 8 := zn_i hy hk (by decide)
      refine run [2] 40 2 _ _ _ _ ?_
      refine ⟨fun q => absurd q (zn_ge hy rfl hk (by decide)), fun _ => ⟨hb, Or.inl rfl, hb, hb, ?_⟩⟩
      refine ih _ ⟨fun i hi => ?_, zq_uL (zq_uL (zq_u h.2 ⟨Or.inl rfl, rfl⟩) ⟨Or.inr (Or.inl rfl), rfl⟩) ⟨Or.inr (Or.inr rfl), rfl⟩⟩ _ (zn_s hy)
      dsimp only
      rw [hck, za_u_b (show (22 : Nat) ≠ 23 by decide)]
      by_cases e : i = k
      · subst e
        rw [za_u_same, za_u_same, za_u_same]
        exact ⟨rfl, rfl, rfl⟩
      · rw [za_u_i e, za_u_i e, za_u_i e, za_u_b (show (23 : Nat) ≠ 22 by decide)]
        exact h.1 i (by omega))
  refine run [2] 40 0 _ _ _ _ ?_
  exact loop 0 μ (Nat.zero_le _) ⟨fun i hi => absurd hi (Nat.not_lt_zero i), zq_rf⟩ 0 rfl
set_option maxHeartbeats 4000000 in
theorem ct_R_allPartsExist {Γ : zk_G} {d p : Nat} {x : Int32} {μ : za_M} {g : gq_G} (hg : gq_ok g) (hC : gq_C g μ) (hx : x = nI p) (hp : p < gq_np g) (hd : 1 ≤ d) : zk_Ct zt Γ zm_R_allPartsExist d 0 0 [za_r 20 0, za_r 1 0, za_i x] μ (fun r μ' => (∃ v : Int32, r = some (za_i v) ∧ (v = 0 ∨ v = 1) ∧ (v = 1 ↔ ∀ o, 1 ≤ o → o ≤ gq_m g p → ¬ μ.1 21 0 (gq_sy g p o) = 0)) ∧ μ' = μ) (fun _ _ => False) := by
  obtain ⟨c1, c2, c3, c4, c5, c6⟩ := gq_Cp hg hC hx hp
  have hm := (hg.2.2.2.2.1 p hp).1
  refine zs_R_allPartsExist (Nat.le_of_ble_eq_true rfl) hd (fun ZZ run => ?_)
  have loop := zn_for (σ := Unit) (N := gq_m g p + 1)
    (P := fun k _ => 1 ≤ k → ∀ y : Int32, y = nI k → ZZ 2 [some (za_r 20 0), some (za_r 1 0), some (za_i x), some (za_i y)] [] μ (0, 0))
    (I := fun k _ => ∀ o, 1 ≤ o → o < k → ¬ μ.1 21 0 (gq_sy g p o) = 0)
    (fun _ h h1 y hy => by
      refine run [2] 40 2 _ _ _ _ ?_
      refine ⟨c2, fun _ => ?_, fun q => absurd (zn_lt2 c4 hy (Nat.lt_succ_self _) (by omega)) q⟩
      exact ⟨rfl, Or.inr ⟨rfl, Or.inr rfl⟩, Nat.le_refl _, Nat.le_refl _, ⟨1, rfl, Or.inr rfl, fun _ o a b => h o a (by omega), fun _ => rfl⟩, rfl⟩)
    (fun k _ hk h ih h1 y hy => by
      have hle : k ≤ gq_m g p := by omega
      have hs8 := gq_sy8 hg hp hle
      have hcy : y.toNatClampNeg = k := zn_c hy (by omega)
      have e6 : μ.1 6 x.toNatClampNeg y.toNatClampNeg = nI (gq_sy g p k) := by rw [hcy]; exact c5 k hle
      refine run [2] 40 2 _ _ _ _ ?_
      refine ⟨c2, fun q => absurd q (zn_nl c4 hy hle (by omega)), fun _ => ⟨c2, zn_i hy (by omega) (by decide), zn_i e6 hs8 (by decide), fun hq => ?_, fun hq => ?_⟩⟩
      · rw [za_ix0, zn_c e6 (by omega)] at hq
        refine ih () (fun o a b => ?_) (by omega) _ (zn_s hy)
        by_cases e : o = k
        · subst e; exact hq
        · exact h o a (by omega)
      · rw [za_ix0, zn_c e6 (by omega)] at hq
        exact ⟨rfl, Or.inr ⟨rfl, Or.inl rfl⟩, Nat.le_refl _, Nat.le_refl _, ⟨0, rfl, Or.inl rfl, fun q => absurd q (by decide), fun q => absurd hq (q k h1 hle)⟩, rfl⟩)
  refine run [2] 40 0 _ _ _ _ ?_
  exact loop 1 () (by omega) (fun o a b => by omega) (Nat.le_refl 1) 1 rfl
/-- what boards may change -/
def bd_fS (J : Nat) (b j : Nat) : Prop := (b = 18 ∨ b = 19) ∧ j = J
/-- steps and places once the parts below n are joined -/
def bp_S (S0 : Nat → Prop) (g : gq_G) (p but n v : Nat) : Prop := S0 v ∨ (1 ≤ v / 8 ∧ v / 8 < n ∧ v / 8 ≤ gq_m g p ∧ v / 8 ≠ but ∧ v % 8 < 6)
def bp_E (E0 : Nat → Nat → Prop) (g : gq_G) (p but n : Nat) (U : Nat → Nat → Nat → Prop) (x y : Nat) : Prop := E0 x y ∨ (1 ≤ x / 8 ∧ x / 8 < n ∧ x / 8 ≤ gq_m g p ∧ x / 8 ≠ but ∧ y / 8 = x / 8 ∧ U (gq_sy g p (x / 8)) (x % 8) (y % 8))
def cl_U (μ : za_M) (s a b : Nat) : Prop := a < 6 ∧ bl (μ.2 22 0 s) (8 * a + b) = true
def cl_V (μ : za_M) (s a b : Nat) : Prop := a < 6 ∧ bl (μ.2 23 0 s) (8 * a + b) = true
set_option maxHeartbeats 4000000 in
theorem ct_R_joinParts {Γ : zk_G} {d p but : Nat} {x z : Int32} {μ : za_M} {g : gq_G} {S0 : Nat → Prop} {E0 : Nat → Nat → Prop} (hg : gq_ok g) (hC : gq_C g μ) (hx : x = nI p) (hz : z = nI but) (hb4 : but < 4) (hp : p < gq_np g) (hB : bd_S μ 4 S0 E0) (hS0 : ∀ v, S0 v → v < 8) (hd : 3 ≤ d) : zk_Ct zt Γ zm_R_joinParts d 0 0 [za_r 20 0, za_r 1 0, za_i x, za_i z] μ (fun r μ' => r = none ∧ bd_S μ' 4 (bp_S S0 g p but 4) (bp_E E0 g p but 4 (cl_U μ)) ∧ zq_fr (bd_fS 4) μ μ') (fun _ _ => False) := by
  obtain ⟨c1, c2, c3, c4, c5, c6⟩ := gq_Cp hg hC hx hp
  have hm := (hg.2.2.2.2.1 p hp).1
  refine zs_R_joinParts (Nat.le_of_ble_eq_true rfl) (by omega) (fun ZZ run => ?_)
  have loop := zn_for (σ := za_M) (N := gq_m g p + 1)
    (P := fun k μ1 => 1 ≤ k → ∀ y : Int32, y = nI k → ZZ 3 [some (za_r 20 0), some (za_r 1 0), some (za_i x), some (za_i z), some (za_i y)] [] μ1 (0, 0))
    (I := fun k μ1 => bd_S μ1 4 (bp_S S0 g p but k) (bp_E E0 g p but k (cl_U μ)) ∧ zq_fr (bd_fS 4) μ μ1)
    (fun μ1 h h1 y hy => by
      have e4 : μ1.1 4 0 = μ.1 4 0 := h.2.1 4 0 (by unfold bd_fS; decide)
      refine run [3] 60 3 _ _ _ _ ?_
      refine ⟨c2, fun _ => ?_, fun q => absurd (zn_lt2 (by rw [e4]; exact c4) hy (Nat.lt_succ_self _) (by omega)) q⟩
      refine ⟨rfl, rfl, Nat.le_refl _, Nat.le_refl _, rfl, bd_Sc h.1 (fun v => ?_) (fun a b => ?_), h.2⟩
      · unfold bp_S
        exact ⟨fun q => q.elim Or.inl (fun q => Or.inr (by omega)), fun q => q.elim Or.inl (fun q => Or.inr (by omega))⟩
      · unfold bp_E
        exact ⟨fun q => q.elim Or.inl (fun ⟨q1, q2, q3, q4⟩ => Or.inr ⟨q1, by omega, q3, q4⟩), fun q => q.elim Or.inl (fun ⟨q1, q2, q3, q4⟩ => Or.inr ⟨q1, by omega, q3, q4⟩)⟩)
    (fun k μ1 hk h ih h1 y hy => by
      have hle : k ≤ gq_m g p := by omega
      have hs8 := gq_sy8 hg hp hle
      have hcy : y.toNatClampNeg = k := zn_c hy (by omega)
      have e4 : μ1.1 4 0 = μ.1 4 0 := h.2.1 4 0 (by unfold bd_fS; decide)
      have e6 : μ1.1 6 x.toNatClampNeg y.toNatClampNeg = nI (gq_sy g p k) := by rw [hcy, h.2.1 6 _ (fun q => by rcases q.1 with q | q <;> exact absurd q (by decide))]; exact c5 k hle
      have e22 : μ1.2 22 0 = μ.2 22 0 := h.2.2 22 0 (by unfold bd_fS; decide)
      refine run [3] 60 3 _ _ _ _ ?_
      refine ⟨c2, fun q => absurd q (zn_nl (by rw [e4]; exact c4) hy hle (by omega)), fun _ => ⟨fun hq => ?_, fun hq => ?_⟩⟩
      · have hkb : k = but := by
          rw [hy, hz, nI_eq (by omega) (by omega)] at hq
          exact hq
        refine ih μ1 ⟨bd_Sc h.1 (fun v => ?_) (fun a b => ?_), h.2⟩ (by omega) _ (zn_s hy)
        · unfold bp_S
          exact ⟨fun q => q.elim Or.inl (fun q => Or.inr (by omega)), fun q => q.elim Or.inl (fun q => Or.inr (by omega))⟩
        · unfold bp_E
          exact ⟨fun q => q.elim Or.inl (fun ⟨q1, q2, q3, q4⟩ => Or.inr ⟨q1, by omega, q3, q4⟩), fun q => q.elim Or.inl (fun ⟨q1, q2, q3, q4, q5⟩ => Or.inr ⟨q1, by omega, q3, q4, q5⟩)⟩
      · have hkb : k ≠ but := fun e => hq (by rw [hy, hz, e])
        refine ⟨c2, zn_i hy (by omega) (by decide), zn_i e6 hs8 (by decide), ?_⟩
        refine ⟨d - 1, 0, 0, _, _, by omega, Nat.le_refl _, Nat.le_refl _, ct_B_lay' hy (by omega) (by omega), ?_, fun _ _ h => h.elim⟩
        rintro r μ2 ⟨rfl, l1, l2⟩
        have l1 : ∀ i, i < 32 → μ2.1 19 4 i = bd_lay (μ1.1 19 4) k (μ.2 22 0 (gq_sy g p k)) i := fun i hi => by
          rw [l1 i hi]
          show bd_lay _ _ (μ1.2 22 0 (μ1.1 6 x.toNatClampNeg y.toNatClampNeg).toNatClampNeg) i = _
          rw [zn_c e6 (by omega), e22]
        refine ⟨d - 1, 0, 0, _, _, by omega, Nat.le_refl _, Nat.le_refl _, ct_B_join' hy (by omega) (by omega), ?_, fun _ _ h => h.elim⟩
        rintro r μ3 ⟨rfl, j1, j2, j3⟩
        refine ih μ3 ⟨bd_Sc (bd_SJ (by omega) h.1 (fun v q => ?_) l1 (by rw [l2.1 18 4 (by decide)]) j1 j2) (fun v => ?_) (fun a b => ?_), zq_tr (zq_tr h.2 (zq_up l2 (fun _ _ q => ⟨Or.inr q.1, q.2⟩))) (zq_up j3 (fun _ _ q => q))⟩ (by omega) _ (zn_s hy)
        · rcases q with q | q
          · have := hS0 v q; omega
          · omega
        · unfold bp_S
          constructor
          · rintro ((q | q) | q)
            · exact Or.inl q
            · exact Or.inr (by omega)
            · exact Or.inr (by omega)
          · rintro (q | q)
            · exact Or.inl (Or.inl q)
            · by_cases e : v / 8 = k
              · exact Or.inr (by omega)
              · exact Or.inl (Or.inr (by omega))
        · unfold bp_E bd_F cl_U
          constructor
          · rintro ((q | ⟨q1, q2, q3, q4⟩) | ⟨q1, q2, q3, q4⟩)
            · exact Or.inl q
            · exact Or.inr ⟨q1, by omega, q3, q4⟩
            · exact Or.inr ⟨by omega, by omega, by omega, by omega, by omega, q2, by rw [q1]; exact q4⟩
          · rintro (q | ⟨q1, q2, q3, q4, q5, q6, q7⟩)
            · exact Or.inl (Or.inl q)
            · by_cases e : a / 8 = k
              · exact Or.inr ⟨e, q6, by omega, by rw [← e]; exact q7⟩
              · exact Or.inl (Or.inr ⟨q1, by omega, q3, q4, q5, q6, q7⟩))
  refine run [3] 60 0 _ _ _ _ ?_
  refine loop 1 μ (by omega) ⟨bd_Sc hB (fun v => ?_) (fun a b => ?_), zq_rf⟩ (Nat.le_refl 1) 1 rfl
  · unfold bp_S
    exact ⟨Or.inl, fun q => q.elim id (fun q => by omega)⟩
  · unfold bp_E
    exact ⟨Or.inl, fun q => q.elim id (fun ⟨q1, q2, _⟩ => by omega)⟩
set_option maxHeartbeats 4000000 in
theorem ct_R_startWithHead {Γ : zk_G} {d p : Nat} {x : Int32} {μ : za_M} {g : gq_G} (hg : gq_ok g) (hC : gq_C g μ) (hx : x = nI p) (hp : p < gq_np g) (hd : 3 ≤ d) : zk_Ct zt Γ zm_R_startWithHead d 0 0 [za_r 20 0, za_r 1 0, za_i x] μ (fun r μ' => r = none ∧ bd_S μ' 4 (fun v => v < 6) (fun x y => bd_N g p x y ∨ (x < 8 ∧ y < 8 ∧ cl_V μ (gq_sy g p 0) x y)) ∧ zq_fr (bd_fS 4) μ μ') (fun _ _ => False) := by
  obtain ⟨c1, c2, c3, c4, c5, c6⟩ := gq_Cp hg hC hx hp
  have hs8 := gq_sy8 hg hp (Nat.zero_le _)
  refine zs_R_startWithHead (Nat.le_of_ble_eq_true rfl) (by omega) (fun ZZ run => ?_)
  refine run [] 60 0 _ _ _ _ ?_
  refine ⟨c2, ?_⟩
  refine ⟨d - 1, 0, 0, _, _, by omega, Nat.le_refl _, Nat.le_refl _, ct_B_start (by omega), ?_, fun _ _ h => h.elim⟩
  rintro r μ1 ⟨rfl, s1, s2, s3⟩
  have f1 : zq_fr (bd_fS 4) μ μ1 := zq_up s3 (fun _ _ q => q)
  have e6 : μ1.1 6 x.toNatClampNeg (0 : Int32).toNatClampNeg = nI (gq_sy g p 0) := by rw [f1.1 6 _ (fun q => by rcases q.1 with q | q <;> exact absurd q (by decide)), zn_c0]; exact c5 0 (Nat.zero_le _)
  have e23 : μ1.2 23 0 = μ.2 23 0 := f1.2 23 0 (by unfold bd_fS; decide)
  refine ⟨c2, zn_i (k := 0) rfl (by decide) (by decide), zn_i e6 hs8 (by decide), ?_⟩
  refine ⟨d - 1, 0, 0, _, _, by omega, Nat.le_refl _, Nat.le_refl _, ct_B_lay' (o := 0) rfl (by omega) (by omega), ?_, fun _ _ h => h.elim⟩
  rintro r μ2 ⟨rfl, l1, l2⟩
  have l1 : ∀ i, i < 32 → μ2.1 19 4 i = bd_lay (μ1.1 19 4) 0 (μ.2 23 0 (gq_sy g p 0)) i := fun i hi => by
    rw [l1 i hi]
    show bd_lay _ _ (μ1.2 23 0 (μ1.1 6 x.toNatClampNeg (0 : Int32).toNatClampNeg).toNatClampNeg) i = _
    rw [zn_c e6 (by omega), e23]
  refine ⟨d - 1, 0, 0, _, _, by omega, Nat.le_refl _, Nat.le_refl _, ct_B_join' (o := 0) rfl (by omega) (by omega), ?_, fun _ _ h => h.elim⟩
  rintro r μ3 ⟨rfl, j1, j2, j3⟩
  have h0 : bd_S μ1 4 (fun _ => False) (bd_N g p) := bd_S0 (fun i hi => by rw [s1 i hi]; exact c6 i hi) s2
  refine ⟨rfl, rfl, Nat.le_refl _, Nat.le_refl _, rfl, bd_Sc (bd_SJ (by omega) h0 (fun v q => q.elim) l1 (by rw [l2.1 18 4 (by decide)]) j1 j2) (fun v => ?_) (fun a b => ?_), zq_tr (zq_tr f1 (zq_up l2 (fun _ _ q => ⟨Or.inr q.1, q.2⟩))) (zq_up j3 (fun _ _ q => q))⟩
  · exact ⟨fun q => q.elim False.elim (fun q => by omega), fun q => Or.inr (by omega)⟩
  · unfold bd_F cl_V
    constructor
    · rintro (q | ⟨q1, q2, q3, q4⟩)
      · exact Or.inl q
      · refine Or.inr ⟨by omega, by omega, by omega, ?_⟩
        rw [show a % 8 = a by omega, show b % 8 = b by omega] at q4
        exact q4
    · rintro (q | ⟨q1, q2, q3, q4⟩)
      · exact Or.inl q
      · refine Or.inr ⟨by omega, by omega, by omega, ?_⟩
        rw [show a % 8 = a by omega, show b % 8 = b by omega]
        exact q4
end
section
/-! the class's relations as sets of bits -/
def cl_x (μ : za_M) (i : Nat) : Bool := if i < 8 then decide (μ.1 21 0 i = 1) else bl (μ.2 22 0 ((i - 8) / 64)) ((i - 8) % 64)
def cl_y (μ : za_M) (i : Nat) : Bool := bl (μ.2 23 0 (i / 64)) (i % 64)
def cl_01 (μ : za_M) : Prop := ∀ s, s < 8 → μ.1 21 0 s = 0 ∨ μ.1 21 0 s = 1
theorem cl_xs (μ : za_M) {s : Nat} (h : s < 8) : lf_V 520 (cl_x μ) s ↔ μ.1 21 0 s = 1 := by
  unfold lf_V cl_x
  rw [if_pos h, decide_eq_true_eq]
  exact ⟨fun q => q.2, fun q => ⟨by omega, q⟩⟩
theorem cl_xu (μ : za_M) {s a b : Nat} (hs : s < 8) (ha : a < 8) (hb : b < 8) : lf_V 520 (cl_x μ) (8 + 64 * s + 8 * a + b) ↔ bl (μ.2 22 0 s) (8 * a + b) = true := by
  unfold lf_V cl_x
  rw [if_neg (by omega), show (8 + 64 * s + 8 * a + b - 8) / 64 = s by omega, show (8 + 64 * s + 8 * a + b - 8) % 64 = 8 * a + b by omega]
  exact ⟨fun q => q.2, fun q => ⟨by omega, q⟩⟩
theorem cl_yu (μ : za_M) {s a b : Nat} (hs : s < 8) (ha : a < 8) (hb : b < 8) : lf_V 512 (cl_y μ) (64 * s + 8 * a + b) ↔ bl (μ.2 23 0 s) (8 * a + b) = true := by
  unfold lf_V cl_y
  rw [show (64 * s + 8 * a + b) / 64 = s by omega, show (64 * s + 8 * a + b) % 64 = 8 * a + b by omega]
  exact ⟨fun q => q.2, fun q => ⟨by omega, q⟩⟩
theorem cl_xc {μ μ' : za_M} (h21 : μ'.1 21 0 = μ.1 21 0) (h22 : μ'.2 22 0 = μ.2 22 0) : cl_x μ' = cl_x μ := by
  funext i
  unfold cl_x
  rw [h21, h22]
theorem cl_yc {μ μ' : za_M} (h23 : μ'.2 23 0 = μ.2 23 0) : cl_y μ' = cl_y μ := by
  funext i
  unfold cl_y
  rw [h23]
/-- sets of bits of attributes alone -/
def un_b (U : Nat → Nat → Nat → Prop) : Prop := ∀ s a b, s < 8 → a < 8 → b < 8 → U s a b → a < 6 ∧ b < 6
theorem un_bX {g : gq_G} (hg : gq_ok g) {X : Nat → Prop} (h : ∀ i, X i → un_X g i) : un_b (un_P X) := by
  intro s a b hs ha hb q
  rcases un_good hg (h _ q) with z | ⟨s', a', b', z1, z2, z3, _, _, z4⟩
  · have := hg.1; omega
  · have := hg.1
    have := (hg.2.2.1 s' z1).1
    omega
theorem un_bY {g : gq_G} (hg : gq_ok g) {Y : Nat → Prop} (h : ∀ i, Y i → un_Y g i) : un_b (un_Q Y) := by
  intro s a b hs ha hb q
  obtain ⟨s', a', b', z1, z2, z3, _, _, z4⟩ := un_goodY hg (h _ q)
  have := hg.1
  have := (hg.2.2.1 s' z1).1
  omega
theorem cl_eU {g : gq_G} (hg : gq_ok g) {p but : Nat} (hp : p < gq_np g) {μ : za_M} (hso : ∀ i, lf_V 520 (cl_x μ) i → un_X g i) (x y : Nat) : bp_E (bd_N g p) g p but 4 (cl_U μ) x y ↔ un_E g p but (un_P (lf_V 520 (cl_x μ))) un_no x y := by
  have hm := (hg.2.2.2.2.1 p hp).1
  have hb := un_bX hg hso
  unfold bp_E un_E bd_N cl_U
  constructor
  · rintro (⟨h1, h2, h3⟩ | ⟨h1, h2, h3, h4, h5, h6, h7⟩)
    · exact ⟨h1, h2, Or.inl h3⟩
    · exact ⟨by omega, by omega, Or.inr (Or.inl ⟨h1, h3, h4, h5, (cl_xu μ (gq_sy8 hg hp h3) (by omega) (by omega)).mpr h7⟩)⟩
  · rintro ⟨h1, h2, h3 | ⟨h3, h4, h5, h6, h7⟩ | ⟨_, _, h⟩⟩
    · exact Or.inl ⟨h1, h2, h3⟩
    · exact Or.inr ⟨h3, by omega, h4, h5, h6, (hb _ _ _ (gq_sy8 hg hp h4) (by omega) (by omega) h7).1, (cl_xu μ (gq_sy8 hg hp h4) (by omega) (by omega)).mp h7⟩
    · exact h.elim
theorem cl_eV {g : gq_G} (hg : gq_ok g) {p but : Nat} (hp : p < gq_np g) {μ : za_M} (hso : ∀ i, lf_V 520 (cl_x μ) i → un_X g i) (hsy : ∀ i, lf_V 512 (cl_y μ) i → un_Y g i) (x y : Nat) : bp_E (fun x y => bd_N g p x y ∨ (x < 8 ∧ y < 8 ∧ cl_V μ (gq_sy g p 0) x y)) g p but 4 (cl_U μ) x y ↔ un_E g p but (un_P (lf_V 520 (cl_x μ))) (un_Q (lf_V 512 (cl_y μ)) (gq_sy g p 0)) x y := by
  have hm := (hg.2.2.2.2.1 p hp).1
  have hb := un_bX hg hso
  have hb2 := un_bY hg hsy
  have hs0 := gq_sy8 hg hp (Nat.zero_le _)
  unfold bp_E un_E bd_N cl_U cl_V
  constructor
  · rintro ((⟨h1, h2, h3⟩ | ⟨h1, h2, h3, h4⟩) | ⟨h1, h2, h3, h4, h5, h6, h7⟩)
    · exact ⟨h1, h2, Or.inl h3⟩
    · exact ⟨by omega, by omega, Or.inr (Or.inr ⟨h1, h2, (cl_yu μ hs0 h1 h2).mpr h4⟩)⟩
    · exact ⟨by omega, by omega, Or.inr (Or.inl ⟨h1, h3, h4, h5, (cl_xu μ (gq_sy8 hg hp h3) (by omega) (by omega)).mpr h7⟩)⟩
  · rintro ⟨h1, h2, h3 | ⟨h3, h4, h5, h6, h7⟩ | ⟨h3, h4, h5⟩⟩
    · exact Or.inl (Or.inl ⟨h1, h2, h3⟩)
    · exact Or.inr ⟨h3, by omega, h4, h5, h6, (hb _ _ _ (gq_sy8 hg hp h4) (by omega) (by omega) h7).1, (cl_xu μ (gq_sy8 hg hp h4) (by omega) (by omega)).mp h7⟩
    · exact Or.inl (Or.inr ⟨h3, h4, (hb2 _ _ _ hs0 h3 h4 h5).1, (cl_yu μ hs0 h3 h4).mp h5⟩)
/-- places with a step to them and a step from them are joined -/
theorem un_allU {g : gq_G} (hg : gq_ok g) {p : Nat} (hp : p < gq_np g) {U : Nat → Nat → Nat → Prop} (hU : un_b U) (v a b : Nat) (h1 : un_E g p 0 U un_no a v) (h2 : un_E g p 0 U un_no v b) : bp_S (fun _ => False) g p 0 4 v := by
  obtain ⟨_, l1, k1⟩ := h1
  obtain ⟨_, l2, k2⟩ := h2
  have hm := (hg.2.2.2.2.1 p hp).1
  have hv : 8 ≤ v := Classical.byContradiction fun hlt => by
    rcases k1 with k1 | k1 | k1
    · rcases k2 with k2 | k2 | k2
      · exact (hg.2.2.2.2.2 p a v hp (by omega) k1).2.2 (hg.2.2.2.2.2 p v b hp l1 k2).1.2
      · omega
      · exact k2.2.2
    · omega
    · exact k1.2.2
  refine Or.inr ⟨by omega, by omega, ?_⟩
  rcases k1 with k1 | ⟨q1, q2, q3, q4, q5⟩ | k1
  · obtain ⟨⟨z1, z2⟩, _⟩ := (hg.2.2.2.2.2 p a v hp (by omega) k1).2
    have := (hg.2.2.1 _ ((hg.2.2.2.2.1 p hp).2 _ z1)).1
    exact ⟨z1, by omega, by omega⟩
  · have := (hU _ _ _ (gq_sy8 hg hp q2) (by omega) (by omega) q5).2
    exact ⟨by omega, by omega, by omega⟩
  · exact k1.2.2.elim
theorem un_allV {g : gq_G} (hg : gq_ok g) {p but : Nat} (hp : p < gq_np g) {U : Nat → Nat → Nat → Prop} {V : Nat → Nat → Nat → Prop} (hU : un_b U) (hV : un_b V) (v a b : Nat) (h1 : un_E g p but U (V (gq_sy g p 0)) a v) (h2 : un_E g p but U (V (gq_sy g p 0)) v b) : bp_S (fun v => v < 6) g p but 4 v := by
  obtain ⟨_, l1, k1⟩ := h1
  obtain ⟨_, l2, k2⟩ := h2
  have hm := (hg.2.2.2.2.1 p hp).1
  by_cases hv : v < 8
  · refine Or.inl ?_
    rcases k1 with k1 | ⟨q1, q2, q3, q4, q5⟩ | ⟨q1, q2, q3⟩
    · obtain ⟨⟨z1, z2⟩, _⟩ := (hg.2.2.2.2.2 p a v hp (by omega) k1).2
      have := (hg.2.2.1 _ ((hg.2.2.2.2.1 p hp).2 _ z1)).1
      show v < 6
      omega
    · omega
    · exact (hV _ _ _ (gq_sy8 hg hp (Nat.zero_le _)) q1 q2 q3).2
  · refine Or.inr ⟨by omega, by omega, ?_⟩
    rcases k1 with k1 | ⟨q1, q2, q3, q4, q5⟩ | ⟨q1, q2, q3⟩
    · have hgv := (hg.2.2.2.2.2 p a v hp (by omega) k1).2
      have hne : v / 8 ≠ but := by
        rcases k2 with k2 | ⟨_, _, z, _⟩ | ⟨z, _⟩
        · exact absurd (hg.2.2.2.2.2 p v b hp l1 k2).1.2 hgv.2
        · exact z
        · omega
      obtain ⟨⟨z1, z2⟩, _⟩ := hgv
      have := (hg.2.2.1 _ ((hg.2.2.2.2.1 p hp).2 _ z1)).1
      exact ⟨z1, hne, by omega⟩
    · have := (hU _ _ _ (gq_sy8 hg hp q2) (by omega) (by omega) q5).2
      exact ⟨by omega, by omega, by omega⟩
    · omega
/-- a board with all parts joined -/
theorem cl_BU {g : gq_G} (hg : gq_ok g) {p : Nat} (hp : p < gq_np g) {μ μ' : za_M} (hso : ∀ i, lf_V 520 (cl_x μ) i → un_X g i) (h : bd_S μ' 4 (bp_S (fun _ => False) g p 0 4) (bp_E (bd_N g p) g p 0 4 (cl_U μ))) :
    (∀ x y, x < 32 → (bt (μ'.1 19 4 x) y = true ↔ pq_T (fun _ => True) (un_E g p 0 (un_P (lf_V 520 (cl_x μ))) un_no) x y)) ∧ (μ'.1 18 4 1 = 0 ∨ μ'.1 18 4 1 = 1) ∧ (μ'.1 18 4 1 = 1 ↔ ∃ u, pq_T (fun _ => True) (un_E g p 0 (un_P (lf_V 520 (cl_x μ))) un_no) u u) := by
  have h := bd_Sc h (fun _ => Iff.rfl) (cl_eU hg hp hso)
  have ha := un_allU hg hp (un_bX hg hso)
  exact ⟨fun x y hx => (h.1 x y hx).trans (pq_all ha x y).symm, h.2.1, h.2.2.trans (pq_circle ha).symm⟩
theorem cl_BV {g : gq_G} (hg : gq_ok g) {p but : Nat} (hp : p < gq_np g) {μ μ' : za_M} (hso : ∀ i, lf_V 520 (cl_x μ) i → un_X g i) (hsy : ∀ i, lf_V 512 (cl_y μ) i → un_Y g i) (h : bd_S μ' 4 (bp_S (fun v => v < 6) g p but 4) (bp_E (fun x y => bd_N g p x y ∨ (x < 8 ∧ y < 8 ∧ cl_V μ (gq_sy g p 0) x y)) g p but 4 (cl_U μ))) :
    (∀ x y, x < 32 → (bt (μ'.1 19 4 x) y = true ↔ pq_T (fun _ => True) (un_E g p but (un_P (lf_V 520 (cl_x μ))) (un_Q (lf_V 512 (cl_y μ)) (gq_sy g p 0))) x y)) ∧ (μ'.1 18 4 1 = 0 ∨ μ'.1 18 4 1 = 1) ∧ (μ'.1 18 4 1 = 1 ↔ ∃ u, pq_T (fun _ => True) (un_E g p but (un_P (lf_V 520 (cl_x μ))) (un_Q (lf_V 512 (cl_y μ)) (gq_sy g p 0))) u u) := by
  have h := bd_Sc h (fun _ => Iff.rfl) (cl_eV hg hp hso hsy)
  have ha := un_allV (V := un_Q (lf_V 512 (cl_y μ))) (but := but) hg hp (un_bX hg hso) (un_bY hg hsy)
  exact ⟨fun x y hx => (h.1 x y hx).trans (pq_all ha x y).symm, h.2.1, h.2.2.trans (pq_circle ha).symm⟩
/-- or is more -/
theorem bl_more (u r : Int64) : (u ||| r) = u ↔ ∀ a b, a < 8 → b < 8 → bl r (8 * a + b) = true → bl u (8 * a + b) = true := by
  constructor
  · intro h a b _ _ hr
    have := congrArg (fun z => bl z (8 * a + b)) h
    simp only [bl_or, hr, Bool.or_true] at this
    exact this.symm
  · intro h
    refine bl_ext fun j hj => ?_
    rw [bl_or]
    cases hr : bl r j with
    | false => rw [Bool.or_false]
    | true =>
      have := h (j / 8) (j % 8) (by omega) (by omega) (by rw [show 8 * (j / 8) + j % 8 = j by omega]; exact hr)
      rw [show 8 * (j / 8) + j % 8 = j by omega] at this
      rw [this]; rfl
/-- growUpwards at one production, said of the bits -/
theorem cl_gu {g : gq_G} (hg : gq_ok g) {p : Nat} (hp : p < gq_np g) {μ μ' : za_M} (h01 : cl_01 μ) (hall : ∀ o, 1 ≤ o → o ≤ gq_m g p → lf_V 520 (cl_x μ) (gq_sy g p o)) {rel : Int64}
    (hrel : ∀ a b, a < 8 → b < 8 → (bl rel (8 * a + b) = true ↔ pq_T (fun _ => True) (un_E g p 0 (un_P (lf_V 520 (cl_x μ))) un_no) a b))
    (h21 : ∀ i, μ'.1 21 0 i = if i = gq_sy g p 0 then 1 else μ.1 21 0 i) (h22 : ∀ i, μ'.2 22 0 i = if i = gq_sy g p 0 then μ.2 22 0 (gq_sy g p 0) ||| rel else μ.2 22 0 i) :
    (∀ i, i < 520 → (cl_x μ' i = true ↔ (cl_x μ i = true ∨ un_F g p (lf_V 520 (cl_x μ)) i))) ∧ ((μ.1 21 0 (gq_sy g p 0) = 0 ∨ ¬ (μ.2 22 0 (gq_sy g p 0) ||| rel) = μ.2 22 0 (gq_sy g p 0)) ↔ ∃ i, un_F g p (lf_V 520 (cl_x μ)) i ∧ ¬ lf_V 520 (cl_x μ) i) ∧ cl_01 μ' := by
  have hs8 := gq_sy8 hg hp (Nat.zero_le _)
  refine ⟨fun i hi => ?_, ?_, fun s hs => ?_⟩
  · by_cases c : i < 8
    · have e1 : ∀ ν : za_M, cl_x ν i = true ↔ ν.1 21 0 i = 1 := fun ν => by rw [cl_x, if_pos c, decide_eq_true_eq]
      rw [e1, e1, h21 i]
      by_cases e : i = gq_sy g p 0
      · rw [if_pos e]
        exact ⟨fun _ => Or.inr ⟨hall, Or.inl e⟩, fun _ => rfl⟩
      · rw [if_neg e]
        refine ⟨Or.inl, fun q => q.elim id (fun q => ?_)⟩
        rcases q.2 with q | ⟨a, b, q1, q2, q3, _⟩
        · exact absurd q e
        · omega
    · obtain ⟨j, hj⟩ : ∃ j, i = 8 + j := ⟨i - 8, by omega⟩
      have e1 : ∀ ν : za_M, cl_x ν i = bl (ν.2 22 0 (j / 64)) (j % 64) := fun ν => by rw [cl_x, if_neg c, hj, show 8 + j - 8 = j by omega]
      rw [e1, e1, h22]
      by_cases e : j / 64 = gq_sy g p 0
      · rw [if_pos e, bl_or, Bool.or_eq_true, e, show j % 64 = 8 * (j % 64 / 8) + j % 8 by omega, hrel _ _ (by omega) (by omega)]
        constructor
        · rintro (q | q)
          · exact Or.inl q
          · exact Or.inr ⟨hall, Or.inr ⟨_, _, by omega, by omega, by omega, q⟩⟩
        · rintro (q | ⟨_, q | ⟨a, b, q1, q2, q3, q4⟩⟩)
          · exact Or.inl q
          · omega
          · refine Or.inr ?_
            rw [show j % 64 / 8 = a by omega, show j % 8 = b by omega]
            exact q4
      · rw [if_neg e]
        refine ⟨Or.inl, fun q => q.elim id (fun q => ?_)⟩
        rcases q.2 with q | ⟨a, b, q1, q2, q3, _⟩
        · omega
        · omega
  · rw [bl_more]
    constructor
    · rintro (q | q)
      · refine ⟨gq_sy g p 0, ⟨hall, Or.inl rfl⟩, fun z => ?_⟩
        rw [cl_xs μ hs8, q] at z
        exact absurd z (by decide)
      · refine Classical.byContradiction fun hn => q fun a b ha hb hr => ?_
        rw [← cl_xu μ hs8 ha hb]
        exact Classical.byContradiction fun hz => hn ⟨_, ⟨hall, Or.inr ⟨a, b, ha, hb, rfl, (hrel a b ha hb).mp hr⟩⟩, hz⟩
    · rintro ⟨i, ⟨_, q | ⟨a, b, q1, q2, q3, q4⟩⟩, z⟩
      · subst q
        rw [cl_xs μ hs8] at z
        exact Or.inl ((h01 _ hs8).resolve_right z)
      · subst q3
        rw [cl_xu μ hs8 q1 q2] at z
        exact Or.inr fun hn => z (hn a b q1 q2 ((hrel a b q1 q2).mpr q4))
  · rw [h21]
    split
    · exact Or.inr rfl
    · exact h01 s hs
theorem cl_ga {g : gq_G} (hg : gq_ok g) {p t : Nat} (ht : t < 3) (hp : p < gq_np g) (hle : t + 1 ≤ gq_m g p) {μ μ' : za_M} (hX : ∀ i, lf_V 520 (cl_x μ) i ↔ un_X g i) (hpa : un_pa g p) {rel : Int64}
    (hrel : ∀ a b, a < 8 → b < 8 → (bl rel (8 * a + b) = true ↔ pq_T (fun _ => True) (un_E g p (t + 1) (un_P (lf_V 520 (cl_x μ))) (un_Q (lf_V 512 (cl_y μ)) (gq_sy g p 0))) (8 * (t + 1) + a) (8 * (t + 1) + b)))
    (h23 : ∀ i, μ'.2 23 0 i = if i = gq_sy g p (t + 1) then μ.2 23 0 (gq_sy g p (t + 1)) ||| rel else μ.2 23 0 i) :
    (∀ i, i < 512 → (cl_y μ' i = true ↔ (cl_y μ i = true ∨ un_W g (3 * p + t) (lf_V 512 (cl_y μ)) i))) ∧ (¬ (μ.2 23 0 (gq_sy g p (t + 1)) ||| rel) = μ.2 23 0 (gq_sy g p (t + 1)) ↔ ∃ i, un_W g (3 * p + t) (lf_V 512 (cl_y μ)) i ∧ ¬ lf_V 512 (cl_y μ) i) := by
  have q1 : (3 * p + t) / 3 = p := by omega
  have q2 : (3 * p + t) % 3 = t := by omega
  have hs8 := gq_sy8 hg hp hle
  rw [show lf_V 520 (cl_x μ) = un_X g from funext fun i => propext (hX i)] at hrel
  have hW : ∀ i, un_W g (3 * p + t) (lf_V 512 (cl_y μ)) i ↔ (∃ a b, a < 8 ∧ b < 8 ∧ i = 64 * gq_sy g p (t + 1) + 8 * a + b ∧ bl rel (8 * a + b) = true) := by
    intro i
    unfold un_W
    rw [q1, q2]
    constructor
    · rintro ⟨⟨h1, _⟩, a, b, h2, h3, h4, h5⟩
      exact ⟨a, b, h2, h3, h4, (hrel a b h2 h3).mpr h5⟩
    · rintro ⟨a, b, h2, h3, h4, h5⟩
      exact ⟨⟨hle, hpa⟩, a, b, h2, h3, h4, (hrel a b h2 h3).mp h5⟩
  refine ⟨fun i hi => ?_, ?_⟩
  · have e1 : ∀ ν : za_M, cl_y ν i = bl (ν.2 23 0 (i / 64)) (i % 64) := fun ν => rfl
    rw [e1, e1, h23, hW]
    by_cases e : i / 64 = gq_sy g p (t + 1)
    · rw [if_pos e, bl_or, Bool.or_eq_true, e]
      constructor
      · rintro (q | q)
        · exact Or.inl q
        · exact Or.inr ⟨i % 64 / 8, i % 8, by omega, by omega, by omega, by rw [show 8 * (i % 64 / 8) + i % 8 = i % 64 by omega]; exact q⟩
      · rintro (q | ⟨a, b, z1, z2, z3, z4⟩)
        · exact Or.inl q
        · refine Or.inr ?_
          rw [show i % 64 = 8 * a + b by omega]
          exact z4
    · rw [if_neg e]
      refine ⟨Or.inl, fun q => q.elim id (fun ⟨a, b, z1, z2, z3, _⟩ => ?_)⟩
      omega
  · rw [bl_more]
    constructor
    · intro q
      refine Classical.byContradiction fun hn => q fun a b ha hb hr => ?_
      rw [← cl_yu μ hs8 ha hb]
      exact Classical.byContradiction fun hz => hn ⟨_, (hW _).mpr ⟨a, b, ha, hb, rfl, hr⟩, hz⟩
    · rintro ⟨i, q, z⟩ hn
      obtain ⟨a, b, z1, z2, z3, z4⟩ := (hW i).mp q
      subst z3
      rw [cl_yu μ hs8 z1 z2] at z
      exact z (hn a b z1 z2 z4)
end
section
/-! the class: growUpwards, growFromAbove -/
theorem zn_o1 {v : Int32} (h : v = 0 ∨ v = 1) : v ||| 1 = 1 := by rcases h with rfl | rfl <;> rfl
theorem zn_o0 {v : Int32} (h : v = 0 ∨ v = 1) : v ||| 0 = v := by rcases h with rfl | rfl <;> rfl
/-- what Relations may change -/
def cl_rS (b j : Nat) : Prop := ((b = 18 ∨ b = 19) ∧ j = 4) ∨ ((b = 20 ∨ b = 21 ∨ b = 22 ∨ b = 23) ∧ j = 0)
theorem cl_rg {g : gq_G} {μ μ' : za_M} (hC : gq_C g μ) (hf : zq_fr cl_rS μ μ') : gq_C g μ' := gq_C_fr hC hf (fun b j h q => by rcases q with q | q <;> omega)
theorem cl_rB {μ μ' : za_M} (hf : zq_fr (bd_fS 4) μ μ') : zq_fr cl_rS μ μ' := zq_up hf (fun _ _ q => Or.inl q)
theorem cl_rk {r : Nat → Int32} {o a b : Nat} (ho : o < 4) (ha : a < 8) (hb : b < 8) : bl (bd_rk r o 6) (8 * a + b) = (decide (a < 6) && bt (r (8 * o + a)) (8 * o + b)) := by
  rw [bd_rk_bl r ho 6 (Nat.le_refl 6) _ (by omega), show (8 * a + b) / 8 = a by omega, show (8 * a + b) % 8 = b by omega]
set_option maxHeartbeats 8000000 in
theorem ct_R_growUpwards {Γ : zk_G} {d : Nat} {μ : za_M} {g : gq_G} (hg : gq_ok g) (hC : gq_C g μ) (h01 : cl_01 μ) (hso : ∀ i, lf_V 520 (cl_x μ) i → un_X g i) (hd : 4 ≤ d) : zk_Ct zt Γ zm_R_growUpwards d 0 0 [za_r 20 0, za_r 1 0] μ
    (fun r μ' => (∃ v : Int32, r = some (za_i v) ∧ lf_I (un_F g) (gq_np g) 520 (cl_x μ) (gq_np g) (cl_x μ') v) ∧ cl_01 μ' ∧ μ'.1 20 0 = μ.1 20 0 ∧ μ'.2 23 0 = μ.2 23 0 ∧ zq_fr cl_rS μ μ') (fun _ _ => False) := by
  have hnp : gq_np g ≤ 16 := hg.2.1
  refine zs_R_growUpwards (Nat.le_of_ble_eq_true rfl) (by omega) (fun ZZ run => ?_)
  have loop := zn_for (σ := za_M × Int32 × Option za_V × Option za_V) (N := gq_np g)
    (P := fun k t => ∀ y : Int32, y = nI k → ZZ 4 [some (za_r 20 0), some (za_r 1 0), some (za_i t.2.1), some (za_i y), t.2.2.1, t.2.2.2, none] [] t.1 (0, 0))
    (I := fun k t => lf_I (un_F g) (gq_np g) 520 (cl_x μ) k (cl_x t.1) t.2.1 ∧ cl_01 t.1 ∧ t.1.1 20 0 = μ.1 20 0 ∧ t.1.2 23 0 = μ.2 23 0 ∧ zq_fr cl_rS μ t.1)
    (fun t h y hy => by
      obtain ⟨i1, i2, i3, i4, i5⟩ := h
      have hC1 := cl_rg hC i5
      refine run [4] 80 4 _ _ _ _ ?_
      refine ⟨fun _ => ?_, fun q => absurd (by rw [hC1.2.1, hy]; exact Int32.le_refl _) q⟩
      exact ⟨rfl, Or.inr ⟨rfl, i1.1⟩, Nat.le_refl _, Nat.le_refl _, ⟨t.2.1, rfl, i1⟩, i2, i3, i4, i5⟩)
    (fun k t hk h ih y hy => by
      obtain ⟨i1, i2, i3, i4, i5⟩ := h
      have hC1 := cl_rg hC i5
      obtain ⟨c1, c2, c3, c4, c5, c6⟩ := gq_Cp hg hC1 hy hk
      have hs8 := gq_sy8 hg hk (Nat.zero_le _)
      have hso1 := i1.2.1
      have e6 : t.1.1 6 y.toNatClampNeg (0 : Int32).toNatClampNeg = nI (gq_sy g k 0) := by rw [zn_c0]; exact c5 0 (Nat.zero_le _)
      refine run [4] 80 4 _ _ _ _ ?_
      refine ⟨fun q => absurd q (zn_ge hy hC1.2.1 hk (by omega)), fun _ => ?_⟩
      refine ⟨d - 1, 0, 0, _, _, by omega, Nat.le_refl _, Nat.le_refl _, ct_R_allPartsExist hg hC1 hy hk (by omega), ?_, fun _ _ h => h.elim⟩
      rintro r μ2 ⟨⟨v, rfl, hv, hv1⟩, rfl⟩
      have hpa : v = 1 ↔ ∀ o, 1 ≤ o → o ≤ gq_m g k → lf_V 520 (cl_x t.1) (gq_sy g k o) := by
        rw [hv1]
        exact ⟨fun q o a b => (cl_xs t.1 (gq_sy8 hg hk b)).mpr ((i2 _ (gq_sy8 hg hk b)).resolve_left (q o a b)), fun q o a b z => by
          have := (cl_xs t.1 (gq_sy8 hg hk b)).mp (q o a b)
          rw [z] at this
          exact absurd this (by decide)⟩
      refine ⟨fun hq => ?_, fun hq => ?_⟩
      · have hall := hpa.mp (zn_or01 hv hq)
        refine ⟨c2, zn_i (k := 0) rfl (by decide) (by decide), c2, ?_⟩
        refine ⟨d - 1, 0, 0, _, _, by omega, Nat.le_refl _, Nat.le_refl _, ct_B_start (by omega), ?_, fun _ _ h => h.elim⟩
        rintro r μ3 ⟨rfl, s1, s2, s3⟩
        have f3 := cl_rB (zq_up s3 (fun _ _ q => q) : zq_fr (bd_fS 4) t.1 μ3)
        have hB : bd_S μ3 4 (fun _ => False) (bd_N g k) := bd_S0 (fun i hi => by rw [s1 i hi]; exact c6 i hi) s2
        refine ⟨d - 1, 0, 0, _, _, by omega, Nat.le_refl _, Nat.le_refl _, ct_R_joinParts (but := 0) hg (cl_rg hC1 f3) hy rfl (by decide) hk hB (fun v q => q.elim) (by omega), ?_, fun _ _ h => h.elim⟩
        rintro r μ4 ⟨rfl, j1, j2⟩
        have f4 := zq_tr f3 (cl_rB j2)
        have a21 : μ4.1 21 0 = t.1.1 21 0 := by rw [j2.1 21 0 (by unfold bd_fS; decide), s3.1 21 0 (by decide)]
        have a20 : μ4.1 20 0 = t.1.1 20 0 := by rw [j2.1 20 0 (by unfold bd_fS; decide), s3.1 20 0 (by decide)]
        have a22 : μ4.2 22 0 = t.1.2 22 0 := by rw [j2.2 22 0 (by unfold bd_fS; decide), s3.2 22 0 (by decide)]
        have a23 : μ4.2 23 0 = t.1.2 23 0 := by rw [j2.2 23 0 (by unfold bd_fS; decide), s3.2 23 0 (by decide)]
        have b22 : μ3.2 22 0 = t.1.2 22 0 := by rw [s3.2 22 0 (by decide)]
        have hcU : cl_U μ3 = cl_U t.1 := by unfold cl_U; rw [b22]
        rw [hcU] at j1
        obtain ⟨B1, B2, B3⟩ := cl_BU hg hk hso1 j1
        have hrel : ∀ a b, a < 8 → b < 8 → (bl (bd_rk (μ4.1 19 4) 0 6) (8 * a + b) = true ↔ pq_T (fun _ => True) (un_E g k 0 (un_P (lf_V 520 (cl_x t.1))) un_no) a b) := by
          intro a b ha hb
          rw [cl_rk (by decide) ha hb, Bool.and_eq_true, decide_eq_true_eq, show 8 * 0 + a = a by omega, show 8 * 0 + b = b by omega, B1 a b (by omega)]
          refine ⟨fun q => q.2, fun q => ⟨?_, q⟩⟩
          have d1 := (gq_up ha (un_from hg hk ha q)).1
          have d0 := (hg.2.2.1 _ ((hg.2.2.2.2.1 k hk).2 0 (Nat.zero_le _))).1
          omega
        have fin : ∀ (w v' : Int32), w = nI (gq_sy g k 0) → (v' = 0 ∨ v' = 1) → (v' = 1 ↔ (t.2.1 = 1 ∨ (t.1.1 21 0 (gq_sy g k 0) = 0 ∨ ¬ (t.1.2 22 0 (gq_sy g k 0) ||| bd_rk (μ4.1 19 4) 0 6) = t.1.2 22 0 (gq_sy g k 0)))) → ZZ 4 [some (za_r 20 0), some (za_r 1 0), some (za_i v'), some (za_i (y + 1)), some (za_i w), some (za_l (μ4.2 22 0 w.toNatClampNeg ||| bd_rk (μ4.1 19 4) 0 6)), none] [] (za_u μ4.1 21 0 w.toNatClampNeg 1, za_u μ4.2 22 0 w.toNatClampNeg (μ4.2 22 0 w.toNatClampNeg ||| bd_rk (μ4.1 19 4) 0 6)) (0, 0) := by
          intro w v' hw hv' hv1'
          have hcw : w.toNatClampNeg = gq_sy g k 0 := zn_c hw (by omega)
          rw [hcw]
          obtain ⟨m1, m2, m3⟩ := cl_gu (μ' := (za_u μ4.1 21 0 (gq_sy g k 0) 1, za_u μ4.2 22 0 (gq_sy g k 0) (μ4.2 22 0 (gq_sy g k 0) ||| bd_rk (μ4.1 19 4) 0 6))) hg hk i2 hall hrel (fun i => by
            dsimp only
            by_cases e : i = gq_sy g k 0
            · rw [if_pos e, e, za_u_same]
            · rw [if_neg e, za_u_i e, a21]) (fun i => by
            dsimp only
            by_cases e : i = gq_sy g k 0
            · rw [if_pos e, e, za_u_same, a22]
            · rw [if_neg e, za_u_i e, a22])
          refine ih (_, v', _, _) ⟨lf_Is (un_Fm g) (un_FN hg) i1 hk m1 hv' (by rw [hv1', m2]), m3, ?_, ?_, ?_⟩ _ (zn_s hy)
          · dsimp only
            rw [za_u_b (show (20 : Nat) ≠ 21 by decide), a20]
            exact i3
          · dsimp only
            rw [za_u_b (show (23 : Nat) ≠ 22 by decide), a23]
            exact i4
          · exact zq_uL (zq_u (zq_tr i5 f4) (Or.inr ⟨by decide, rfl⟩)) (Or.inr ⟨by decide, rfl⟩)
        have e6c : (t.1.1 6 y.toNatClampNeg (0 : Int32).toNatClampNeg).toNatClampNeg = gq_sy g k 0 := zn_c e6 (by omega)
        have hin : vp_in (t.1.1 6 y.toNatClampNeg (0 : Int32).toNatClampNeg) 8 := zn_i e6 hs8 (by decide)
        refine ⟨hin, ?_⟩
        refine ⟨d - 1, 0, 0, _, _, by omega, Nat.le_refl _, Nat.le_refl _, ct_B_relationAt' (o := 0) rfl (by omega) (by decide), ?_, fun _ _ h => h.elim⟩
        rintro r μ5 ⟨rfl, rfl⟩
        refine ⟨hin, fun hz => ⟨hin, Or.inr rfl, hin, ?_⟩, fun hz => ⟨hin, fun hc => ⟨hin, Or.inr rfl, hin, ?_⟩, fun hc => ⟨hin, Or.inr rfl, hin, ?_⟩⟩⟩
        · rw [za_ix0, e6c, a21] at hz
          exact fin _ _ e6 (by rw [zn_o1 i1.1]; exact Or.inr rfl) (by rw [zn_o1 i1.1]; exact ⟨fun _ => Or.inr (Or.inl hz), fun _ => rfl⟩)
        · rw [za_ix0, e6c, a21] at hz
          rw [za_ix0, e6c, a22, lg_cmp_eq] at hc
          exact fin _ _ e6 (by rw [zn_o0 i1.1]; exact i1.1) (by rw [zn_o0 i1.1]; exact ⟨Or.inl, fun q => q.elim id (fun q => q.elim (fun q => absurd q hz) (fun q => absurd hc q))⟩)
        · rw [za_ix0, e6c, a22, lg_cmp_eq] at hc
          exact fin _ _ e6 (by rw [zn_o1 i1.1]; exact Or.inr rfl) (by rw [zn_o1 i1.1]; exact ⟨fun _ => Or.inr (Or.inr hc), fun _ => rfl⟩)
      · have hno : ¬ ∀ o, 1 ≤ o → o ≤ gq_m g k → lf_V 520 (cl_x t.1) (gq_sy g k o) := fun z => by rw [hpa.mpr z] at hq; exact absurd hq (by decide)
        exact ih (t.1, t.2.1, t.2.2.1, t.2.2.2) ⟨lf_Ik (un_Fm g) (un_FN hg) i1 hk (fun i q => hno q.1), i2, i3, i4, i5⟩ _ (zn_s hy))
  refine run [4] 80 0 _ _ _ _ ?_
  exact loop 0 (μ, 0, none, none) (Nat.zero_le _) ⟨lf_I0 hso, h01, rfl, rfl, zq_rf⟩ 0 rfl
end
section
theorem lf_Isk {F : Nat → (Nat → Prop) → Nat → Prop} {n N : Nat} {x0 x : Nat → Bool} {v : Int32} (hm : lf_m F) (hN : ∀ p X i, p < n → F p X i → i < N) {k : Nat} (h : lf_I F n N x0 k x v) : ∀ k', k ≤ k' → k' ≤ n → (∀ q, k ≤ q → q < k' → ∀ i, ¬ F q (lf_V N x) i) → lf_I F n N x0 k' x v := by
  intro k' hkk
  induction k' with
  | zero => intro _ _; rw [show k = 0 by omega] at h; exact h
  | succ j ih =>
    intro hk' hF
    by_cases e : k = j + 1
    · rw [← e]; exact h
    · exact lf_Ik hm hN (ih (by omega) (by omega) (fun q a b => hF q a (by omega))) (by omega) (hF j (by omega) (by omega))
set_option maxHeartbeats 8000000 in
theorem ct_R_growFromAbove {Γ : zk_G} {d : Nat} {μ : za_M} {g : gq_G} (hg : gq_ok g) (hC : gq_C g μ) (h01 : cl_01 μ) (hX : ∀ i, lf_V 520 (cl_x μ) i ↔ un_X g i) (hsy : ∀ i, lf_V 512 (cl_y μ) i → un_Y g i) (hd : 4 ≤ d) : zk_Ct zt Γ zm_R_growFromAbove d 0 0 [za_r 20 0, za_r 1 0] μ
    (fun r μ' => (∃ v : Int32, r = some (za_i v) ∧ lf_I (un_W g) (3 * gq_np g) 512 (cl_y μ) (3 * gq_np g) (cl_y μ') v) ∧ μ'.1 20 0 = μ.1 20 0 ∧ μ'.1 21 0 = μ.1 21 0 ∧ μ'.2 22 0 = μ.2 22 0 ∧ zq_fr cl_rS μ μ') (fun _ _ => False) := by
  have hnp : gq_np g ≤ 16 := hg.2.1
  have hso : ∀ i, lf_V 520 (cl_x μ) i → un_X g i := fun i => (hX i).mp
  have eX : lf_V 520 (cl_x μ) = un_X g := funext fun i => propext (hX i)
  refine zs_R_growFromAbove (Nat.le_of_ble_eq_true rfl) (by omega) (fun ZZ run => ?_)
  have loop := zn_for (σ := za_M × Int32 × Option za_V × Option za_V × Option za_V) (N := gq_np g)
    (P := fun k t => ∀ y : Int32, y = nI k → ZZ 4 [some (za_r 20 0), some (za_r 1 0), some (za_i t.2.1), some (za_i y), t.2.2.1, t.2.2.2.1, t.2.2.2.2, none] [] t.1 (0, 0))
    (I := fun k t => lf_I (un_W g) (3 * gq_np g) 512 (cl_y μ) (3 * k) (cl_y t.1) t.2.1 ∧ t.1.1 20 0 = μ.1 20 0 ∧ t.1.1 21 0 = μ.1 21 0 ∧ t.1.2 22 0 = μ.2 22 0 ∧ zq_fr cl_rS μ t.1)
    (fun t h y hy => by
      obtain ⟨i1, i2, i3, i4, i5⟩ := h
      have hC1 := cl_rg hC i5
      refine run [4] 80 4 _ _ _ _ ?_
      refine ⟨fun _ => ?_, fun q => absurd (by rw [hC1.2.1, hy]; exact Int32.le_refl _) q⟩
      exact ⟨rfl, Or.inr ⟨rfl, i1.1⟩, Nat.le_refl _, Nat.le_refl _, ⟨t.2.1, rfl, i1⟩, i2, i3, i4, i5⟩)
    (fun k t hk h ih y hy => by
      obtain ⟨i1, i2, i3, i4, i5⟩ := h
      have hC1 := cl_rg hC i5
      obtain ⟨c1, c2, c3, c4, c5, c6⟩ := gq_Cp hg hC1 hy hk
      have hm := (hg.2.2.2.2.1 k hk).1
      refine run [4, 27] 80 4 _ _ _ _ ?_
      refine ⟨fun q => absurd q (zn_ge hy hC1.2.1 hk (by omega)), fun _ => ?_⟩
      refine ⟨d - 1, 0, 0, _, _, by omega, Nat.le_refl _, Nat.le_refl _, ct_R_allPartsExist hg hC1 hy hk (by omega), ?_, fun _ _ h => h.elim⟩
      rintro r μ2 ⟨⟨v, rfl, hv, hv1⟩, rfl⟩
      have hpa : v = 1 ↔ un_pa g k := by
        rw [hv1]
        unfold un_pa
        rw [← eX]
        exact ⟨fun q o a b => (cl_xs μ (gq_sy8 hg hk b)).mpr ((h01 _ (gq_sy8 hg hk b)).resolve_left (by rw [← i3]; exact q o a b)), fun q o a b z => by
          have := (cl_xs μ (gq_sy8 hg hk b)).mp (q o a b)
          rw [← i3, z] at this
          exact absurd this (by decide)⟩
      refine ⟨fun hq => ?_, fun hq => ?_⟩
      · have hyes := hpa.mp (zn_or01 hv hq)
        have inner := zn_for (σ := za_M × Int32 × Option za_V × Option za_V) (N := gq_m g k + 1)
          (P := fun n u => 1 ≤ n → ∀ z : Int32, z = nI n → ZZ 27 [some (za_r 20 0), some (za_r 1 0), some (za_i u.2.1), some (za_i y), some (za_i z), u.2.2.1, u.2.2.2, none] [] u.1 (0, 0))
          (I := fun n u => lf_I (un_W g) (3 * gq_np g) 512 (cl_y μ) (3 * k + (n - 1)) (cl_y u.1) u.2.1 ∧ u.1.1 20 0 = μ.1 20 0 ∧ u.1.1 21 0 = μ.1 21 0 ∧ u.1.2 22 0 = μ.2 22 0 ∧ zq_fr cl_rS μ u.1)
          (fun u h h1 z hz => by
            obtain ⟨j1, j2, j3, j4, j5⟩ := h
            obtain ⟨_, b2, _, b4, _, _⟩ := gq_Cp hg (cl_rg hC j5) hy hk
            refine run [4, 27] 80 27 _ _ _ _ ?_
            refine ⟨b2, fun _ => ?_, fun q => absurd (zn_lt2 b4 hz (Nat.lt_succ_self _) (by omega)) q⟩
            refine ih (u.1, u.2.1, some (za_i z), u.2.2.1, u.2.2.2) ⟨lf_Isk (un_Wm g) (un_WN hg) j1 _ (by omega) (by omega) (fun q a b i w => ?_), j2, j3, j4, j5⟩ _ (zn_s hy)
            have := w.1.1
            rw [show q / 3 = k by omega] at this
            omega)
          (fun n u hn h ih2 h1 z hz => by
            obtain ⟨j1, j2, j3, j4, j5⟩ := h
            obtain ⟨t, rfl⟩ : ∃ t, n = t + 1 := ⟨n - 1, by omega⟩
            have j1 : lf_I (un_W g) (3 * gq_np g) 512 (cl_y μ) (3 * k + t) (cl_y u.1) u.2.1 := j1
            have hle : t + 1 ≤ gq_m g k := by omega
            have hC2 := cl_rg hC j5
            obtain ⟨_, b2, _, b4, b5, _⟩ := gq_Cp hg hC2 hy hk
            have hs8 := gq_sy8 hg hk hle
            have hcz : z.toNatClampNeg = t + 1 := zn_c hz (by omega)
            have e6 : u.1.1 6 y.toNatClampNeg z.toNatClampNeg = nI (gq_sy g k (t + 1)) := by rw [hcz]; exact b5 _ hle
            have ex : cl_x u.1 = cl_x μ := cl_xc j3 j4
            have hX1 : ∀ i, lf_V 520 (cl_x u.1) i ↔ un_X g i := by rw [ex]; exact hX
            have hso1 : ∀ i, lf_V 520 (cl_x u.1) i → un_X g i := fun i => (hX1 i).mp
            refine run [27] 80 27 _ _ _ _ ?_
            refine ⟨b2, fun q => absurd q (zn_nl b4 hz hle (by omega)), fun _ => ⟨b2, zn_i hz (by omega) (by decide), ?_⟩⟩
            refine ⟨d - 1, 0, 0, _, _, by omega, Nat.le_refl _, Nat.le_refl _, ct_R_startWithHead hg hC2 hy hk (by omega), ?_, fun _ _ h => h.elim⟩
            rintro r μ3 ⟨rfl, s1, s2⟩
            have f3 := cl_rB s2
            refine ⟨d - 1, 0, 0, _, _, by omega, Nat.le_refl _, Nat.le_refl _, ct_R_joinParts (but := t + 1) hg (cl_rg hC2 f3) hy hz (by omega) hk s1 (fun v q => by omega) (by omega), ?_, fun _ _ h => h.elim⟩
            rintro r μ4 ⟨rfl, k1, k2⟩
            have f4 := zq_tr f3 (cl_rB k2)
            have a21 : μ4.1 21 0 = u.1.1 21 0 := by rw [k2.1 21 0 (by unfold bd_fS; decide), s2.1 21 0 (by unfold bd_fS; decide)]
            have a20 : μ4.1 20 0 = u.1.1 20 0 := by rw [k2.1 20 0 (by unfold bd_fS; decide), s2.1 20 0 (by unfold bd_fS; decide)]
            have a22 : μ4.2 22 0 = u.1.2 22 0 := by rw [k2.2 22 0 (by unfold bd_fS; decide), s2.2 22 0 (by unfold bd_fS; decide)]
            have a23 : μ4.2 23 0 = u.1.2 23 0 := by rw [k2.2 23 0 (by unfold bd_fS; decide), s2.2 23 0 (by unfold bd_fS; decide)]
            have hcU : cl_U μ3 = cl_U u.1 := by unfold cl_U; rw [s2.2 22 0 (by unfold bd_fS; decide)]
            rw [hcU] at k1
            obtain ⟨B1, B2, B3⟩ := cl_BV hg hk hso1 j1.2.1 k1
            have hrel : ∀ a b, a < 8 → b < 8 → (bl (bd_rk (μ4.1 19 4) (t + 1) 6) (8 * a + b) = true ↔ pq_T (fun _ => True) (un_E g k (t + 1) (un_P (lf_V 520 (cl_x u.1))) (un_Q (lf_V 512 (cl_y u.1)) (gq_sy g k 0))) (8 * (t + 1) + a) (8 * (t + 1) + b)) := by
              intro a b ha hb
              rw [cl_rk (by omega) ha hb, Bool.and_eq_true, decide_eq_true_eq, B1 _ _ (by omega)]
              refine ⟨fun q => q.2, fun q => ⟨?_, q⟩⟩
              have d1 := (un_from2 hg hk (by omega) ha q).1
              have d0 := (hg.2.2.1 _ ((hg.2.2.2.2.1 k hk).2 _ hle)).1
              omega
            have fin : ∀ (w v' : Int32), w = nI (gq_sy g k (t + 1)) → (v' = 0 ∨ v' = 1) → (v' = 1 ↔ (u.2.1 = 1 ∨ ¬ (u.1.2 23 0 (gq_sy g k (t + 1)) ||| bd_rk (μ4.1 19 4) (t + 1) 6) = u.1.2 23 0 (gq_sy g k (t + 1)))) → ZZ 27 [some (za_r 20 0), some (za_r 1 0), some (za_i v'), some (za_i y), some (za_i (z + 1)), some (za_i w), some (za_l (μ4.2 23 0 w.toNatClampNeg ||| bd_rk (μ4.1 19 4) (t + 1) 6)), none] [] (μ4.1, za_u μ4.2 23 0 w.toNatClampNeg (μ4.2 23 0 w.toNatClampNeg ||| bd_rk (μ4.1 19 4) (t + 1) 6)) (0, 0) := by
              intro w v' hw hv' hv1'
              have hcw : w.toNatClampNeg = gq_sy g k (t + 1) := zn_c hw (by omega)
              rw [hcw]
              obtain ⟨m1, m2⟩ := cl_ga (μ' := (μ4.1, za_u μ4.2 23 0 (gq_sy g k (t + 1)) (μ4.2 23 0 (gq_sy g k (t + 1)) ||| bd_rk (μ4.1 19 4) (t + 1) 6))) hg (by omega) hk hle hX1 hyes hrel (fun i => by
                dsimp only
                by_cases e : i = gq_sy g k (t + 1)
                · rw [if_pos e, e, za_u_same, a23]
                · rw [if_neg e, za_u_i e, a23])
              have hI : lf_I (un_W g) (3 * gq_np g) 512 (cl_y μ) (3 * k + t + 1) _ v' := lf_Is (un_Wm g) (un_WN hg) j1 (by omega) m1 hv' (by rw [hv1', m2])
              refine ih2 (_, v', _, _) ⟨hI, ?_, ?_, ?_, ?_⟩ (by omega) _ (zn_s hz)
              · dsimp only
                rw [a20]; exact j2
              · dsimp only
                rw [a21]; exact j3
              · dsimp only
                rw [za_u_b (show (22 : Nat) ≠ 23 by decide), a22]; exact j4
              · exact zq_uL (zq_tr j5 f4) (Or.inr ⟨by decide, rfl⟩)
            have e6c : (u.1.1 6 y.toNatClampNeg z.toNatClampNeg).toNatClampNeg = gq_sy g k (t + 1) := zn_c e6 (by omega)
            have hin : vp_in (u.1.1 6 y.toNatClampNeg z.toNatClampNeg) 8 := zn_i e6 hs8 (by decide)
            refine ⟨hin, ?_⟩
            refine ⟨d - 1, 0, 0, _, _, by omega, Nat.le_refl _, Nat.le_refl _, ct_B_relationAt' hz (by omega) (by omega), ?_, fun _ _ h => h.elim⟩
            rintro r μ5 ⟨rfl, rfl⟩
            refine ⟨hin, fun hc => ⟨hin, ?_⟩, fun hc => ⟨hin, ?_⟩⟩
            · rw [za_ix0, e6c, a23, lg_cmp_eq] at hc
              exact fin _ _ e6 (by rw [zn_o0 j1.1]; exact j1.1) (by rw [zn_o0 j1.1]; exact ⟨Or.inl, fun q => q.elim id (fun q => absurd hc q)⟩)
            · rw [za_ix0, e6c, a23, lg_cmp_eq] at hc
              exact fin _ _ e6 (by rw [zn_o1 j1.1]; exact Or.inr rfl) (by rw [zn_o1 j1.1]; exact ⟨fun _ => Or.inr hc, fun _ => rfl⟩))
        exact inner 1 (t.1, t.2.1, t.2.2.2.1, t.2.2.2.2) (by omega) ⟨i1, i2, i3, i4, i5⟩ (Nat.le_refl 1) 1 rfl
      · have hno : ¬ un_pa g k := fun z => by rw [hpa.mpr z] at hq; exact absurd hq (by decide)
        refine ih (t.1, t.2.1, t.2.2.1, t.2.2.2.1, t.2.2.2.2) ⟨lf_Isk (un_Wm g) (un_WN hg) i1 _ (by omega) (by omega) (fun q a b i w => hno ?_), i2, i3, i4, i5⟩ _ (zn_s hy)
        have := w.1.2
        rw [show q / 3 = k by omega] at this
        exact this)
  refine run [4] 80 0 _ _ _ _ ?_
  exact loop 0 (μ, 0, none, none, none) (Nat.zero_le _) ⟨lf_I0 hsy, rfl, rfl, rfl, zq_rf⟩ 0 rfl
/-! the class: lookForCircles, find -/
def cl_ci (g : gq_G) (V : Nat → Nat → Nat → Prop) (n : Nat) (c : Int32) : Prop := (c = 0 ∨ c = 1) ∧ (c = 1 ↔ ∃ p, p < n ∧ un_c g p V)
set_option maxHeartbeats 8000000 in
theorem ct_R_lookForCircles {Γ : zk_G} {d : Nat} {μ : za_M} {g : gq_G} (hg : gq_ok g) (hC : gq_C g μ) (h01 : cl_01 μ) (hX : ∀ i, lf_V 520 (cl_x μ) i ↔ un_X g i) (hY : ∀ i, lf_V 512 (cl_y μ) i ↔ un_Y g i) (hd : 4 ≤ d) : zk_Ct zt Γ zm_R_lookForCircles d 0 0 [za_r 20 0, za_r 1 0] μ
    (fun r μ' => r = none ∧ cl_ci g (fun _ => un_no) (gq_np g) (μ'.1 20 0 1) ∧ cl_ci g (un_Q (un_Y g)) (gq_np g) (μ'.1 20 0 2) ∧ μ'.1 20 0 0 = μ.1 20 0 0 ∧ μ'.1 21 0 = μ.1 21 0 ∧ μ'.2 22 0 = μ.2 22 0 ∧ μ'.2 23 0 = μ.2 23 0 ∧ zq_fr cl_rS μ μ') (fun _ _ => False) := by
  have hnp : gq_np g ≤ 16 := hg.2.1
  have eX : lf_V 520 (cl_x μ) = un_X g := funext fun i => propext (hX i)
  have eY : lf_V 512 (cl_y μ) = un_Y g := funext fun i => propext (hY i)
  refine zs_R_lookForCircles (Nat.le_of_ble_eq_true rfl) (by omega) (fun ZZ run => ?_)
  have step : ∀ {V : Nat → Nat → Nat → Prop} {k : Nat} {c e : Int32}, cl_ci g V k c → un_pa g k → (e = 0 ∨ e = 1) → (e = 1 ↔ ∃ u, pq_T (fun _ => True) (un_E g k 0 (un_P (un_X g)) (V (gq_sy g k 0))) u u) → cl_ci g V (k + 1) (c ||| e) := by
    intro V k c e h1 h2 h3 h4
    have key : (∃ p, p < k + 1 ∧ un_c g p V) ↔ ((∃ p, p < k ∧ un_c g p V) ∨ ∃ u, pq_T (fun _ => True) (un_E g k 0 (un_P (un_X g)) (V (gq_sy g k 0))) u u) := ⟨fun ⟨p, z1, z2⟩ => by
      by_cases e : p = k
      · subst e; exact Or.inr z2.2
      · exact Or.inl ⟨p, by omega, z2⟩, fun z => z.elim (fun ⟨p, z1, z2⟩ => ⟨p, by omega, z2⟩) (fun z => ⟨k, by omega, h2, z⟩)⟩
    unfold cl_ci
    rw [key, ← h4, ← h1.2]
    rcases h3 with rfl | rfl
    · rw [zn_o0 h1.1]
      exact ⟨h1.1, Or.inl, fun q => q.elim id (fun q => absurd q (by decide))⟩
    · rw [zn_o1 h1.1]
      exact ⟨Or.inr rfl, fun _ => Or.inr rfl, fun _ => rfl⟩
  have skip : ∀ {V : Nat → Nat → Nat → Prop} {k : Nat} {c : Int32}, cl_ci g V k c → ¬ un_pa g k → cl_ci g V (k + 1) c := by
    intro V k c h1 h2
    refine ⟨h1.1, h1.2.trans ⟨fun ⟨p, z1, z2⟩ => ⟨p, by omega, z2⟩, fun ⟨p, z1, z2⟩ => ⟨p, ?_, z2⟩⟩⟩
    by_cases e : p = k
    · subst e; exact absurd z2.1 h2
    · omega
  have loop := zn_for (σ := za_M) (N := gq_np g)
    (P := fun k μ1 => ∀ y : Int32, y = nI k → ZZ 12 [some (za_r 20 0), some (za_r 1 0), some (za_i y)] [] μ1 (0, 0))
    (I := fun k μ1 => cl_ci g (fun _ => un_no) k (μ1.1 20 0 1) ∧ cl_ci g (un_Q (un_Y g)) k (μ1.1 20 0 2) ∧ μ1.1 20 0 0 = μ.1 20 0 0 ∧ μ1.1 21 0 = μ.1 21 0 ∧ μ1.2 22 0 = μ.2 22 0 ∧ μ1.2 23 0 = μ.2 23 0 ∧ zq_fr cl_rS μ μ1)
    (fun μ1 h y hy => by
      have hC1 := cl_rg hC h.2.2.2.2.2.2
      refine run [12] 80 12 _ _ _ _ ?_
      refine ⟨fun _ => ?_, fun q => absurd (by rw [hC1.2.1, hy]; exact Int32.le_refl _) q⟩
      exact ⟨rfl, rfl, Nat.le_refl _, Nat.le_refl _, rfl, h⟩)
    (fun k μ1 hk h ih y hy => by
      obtain ⟨i1, i2, i3, i4, i5, i6, i7⟩ := h
      have hC1 := cl_rg hC i7
      obtain ⟨c1, c2, c3, c4, c5, c6⟩ := gq_Cp hg hC1 hy hk
      refine run [12] 80 12 _ _ _ _ ?_
      refine ⟨fun q => absurd q (zn_ge hy hC1.2.1 hk (by omega)), fun _ => ?_⟩
      refine ⟨d - 1, 0, 0, _, _, by omega, Nat.le_refl _, Nat.le_refl _, ct_R_allPartsExist hg hC1 hy hk (by omega), ?_, fun _ _ h => h.elim⟩
      rintro r μ2 ⟨⟨v, rfl, hv, hv1⟩, rfl⟩
      have hpa : v = 1 ↔ un_pa g k := by
        rw [hv1]
        unfold un_pa
        rw [← eX]
        exact ⟨fun q o a b => (cl_xs μ (gq_sy8 hg hk b)).mpr ((h01 _ (gq_sy8 hg hk b)).resolve_left (by rw [← i4]; exact q o a b)), fun q o a b z => by
          have := (cl_xs μ (gq_sy8 hg hk b)).mp (q o a b)
          rw [← i4, z] at this
          exact absurd this (by decide)⟩
      refine ⟨fun hq => ?_, fun hq => ?_⟩
      · have hyes := hpa.mp (zn_or01 hv hq)
        have hX1 : ∀ i, lf_V 520 (cl_x μ2) i ↔ un_X g i := by rw [cl_xc i4 i5]; exact hX
        have hY1 : ∀ i, lf_V 512 (cl_y μ2) i ↔ un_Y g i := by rw [cl_yc i6]; exact hY
        have eX1 : lf_V 520 (cl_x μ2) = un_X g := funext fun i => propext (hX1 i)
        refine ⟨c2, ?_⟩
        refine ⟨d - 1, 0, 0, _, _, by omega, Nat.le_refl _, Nat.le_refl _, ct_B_start (by omega), ?_, fun _ _ h => h.elim⟩
        rintro r μ3 ⟨rfl, s1, s2, s3⟩
        have f3 := cl_rB (zq_up s3 (fun _ _ q => q) : zq_fr (bd_fS 4) μ2 μ3)
        have hB : bd_S μ3 4 (fun _ => False) (bd_N g k) := bd_S0 (fun i hi => by rw [s1 i hi]; exact c6 i hi) s2
        refine ⟨d - 1, 0, 0, _, _, by omega, Nat.le_refl _, Nat.le_refl _, ct_R_joinParts (but := 0) hg (cl_rg hC1 f3) hy rfl (by decide) hk hB (fun v q => q.elim) (by omega), ?_, fun _ _ h => h.elim⟩
        rintro r μ4 ⟨rfl, j1, j2⟩
        have f4 := zq_tr f3 (cl_rB j2)
        have hcU : cl_U μ3 = cl_U μ2 := by unfold cl_U; rw [s3.2 22 0 (by decide)]
        rw [hcU] at j1
        obtain ⟨_, B2, B3⟩ := cl_BU hg hk (fun i => (hX1 i).mp) j1
        rw [eX1] at B3
        have a20 : μ4.1 20 0 = μ2.1 20 0 := by rw [j2.1 20 0 (by unfold bd_fS; decide), s3.1 20 0 (by decide)]
        have a21 : μ4.1 21 0 = μ2.1 21 0 := by rw [j2.1 21 0 (by unfold bd_fS; decide), s3.1 21 0 (by decide)]
        have a22 : μ4.2 22 0 = μ2.2 22 0 := by rw [j2.2 22 0 (by unfold bd_fS; decide), s3.2 22 0 (by decide)]
        have a23 : μ4.2 23 0 = μ2.2 23 0 := by rw [j2.2 23 0 (by unfold bd_fS; decide), s3.2 23 0 (by decide)]
        have n1 := step (c := μ4.1 20 0 1) (by rw [a20]; exact i1) hyes B2 B3
        refine ⟨n1.1, ?_⟩
        generalize hμ5 : ((za_u μ4.1 20 0 1 (μ4.1 20 0 1 ||| μ4.1 18 4 1), μ4.2) : za_M) = μ5
        have f5 : zq_fr cl_rS μ μ5 := by rw [← hμ5]; exact zq_u (zq_tr i7 f4) (Or.inr ⟨by decide, rfl⟩)
        have g1 : μ5.1 20 0 1 = μ4.1 20 0 1 ||| μ4.1 18 4 1 := by rw [← hμ5]; dsimp only; rw [za_u_same]
        have g2 : μ5.1 20 0 2 = μ2.1 20 0 2 := by rw [← hμ5]; dsimp only; rw [za_u_i (by decide), a20]
        have g0 : μ5.1 20 0 0 = μ2.1 20 0 0 := by rw [← hμ5]; dsimp only; rw [za_u_i (by decide), a20]
        have g21 : μ5.1 21 0 = μ2.1 21 0 := by rw [← hμ5]; dsimp only; rw [za_u_b (show (21 : Nat) ≠ 20 by decide), a21]
        have g22 : μ5.2 22 0 = μ2.2 22 0 := by rw [← hμ5]; exact a22
        have g23 : μ5.2 23 0 = μ2.2 23 0 := by rw [← hμ5]; exact a23
        have hC5 := cl_rg hC f5
        have hX5 : ∀ i, lf_V 520 (cl_x μ5) i ↔ un_X g i := by rw [cl_xc g21 g22]; exact hX1
        have hY5 : ∀ i, lf_V 512 (cl_y μ5) i ↔ un_Y g i := by rw [cl_yc g23]; exact hY1
        refine ⟨d - 1, 0, 0, _, _, by omega, Nat.le_refl _, Nat.le_refl _, ct_R_startWithHead hg hC5 hy hk (by omega), ?_, fun _ _ h => h.elim⟩
        rintro r μ6 ⟨rfl, s5, s6⟩
        refine ⟨d - 1, 0, 0, _, _, by omega, Nat.le_refl _, Nat.le_refl _, ct_R_joinParts (but := 0) hg (cl_rg hC5 (cl_rB s6)) hy rfl (by decide) hk s5 (fun v q => by omega) (by omega), ?_, fun _ _ h => h.elim⟩
        rintro r μ7 ⟨rfl, j5, j6⟩
        have f7 := zq_tr (zq_tr f5 (cl_rB s6)) (cl_rB j6)
        have hcU : cl_U μ6 = cl_U μ5 := by unfold cl_U; rw [s6.2 22 0 (by unfold bd_fS; decide)]
        rw [hcU] at j5
        obtain ⟨_, B5, B6⟩ := cl_BV hg hk (fun i => (hX5 i).mp) (fun i => (hY5 i).mp) j5
        rw [show lf_V 520 (cl_x μ5) = un_X g from funext fun i => propext (hX5 i), show lf_V 512 (cl_y μ5) = un_Y g from funext fun i => propext (hY5 i)] at B6
        have b20 : μ7.1 20 0 = μ5.1 20 0 := by rw [j6.1 20 0 (by unfold bd_fS; decide), s6.1 20 0 (by unfold bd_fS; decide)]
        have b21 : μ7.1 21 0 = μ5.1 21 0 := by rw [j6.1 21 0 (by unfold bd_fS; decide), s6.1 21 0 (by unfold bd_fS; decide)]
        have b22 : μ7.2 22 0 = μ5.2 22 0 := by rw [j6.2 22 0 (by unfold bd_fS; decide), s6.2 22 0 (by unfold bd_fS; decide)]
        have b23 : μ7.2 23 0 = μ5.2 23 0 := by rw [j6.2 23 0 (by unfold bd_fS; decide), s6.2 23 0 (by unfold bd_fS; decide)]
        have n2 := step (V := un_Q (un_Y g)) (c := μ7.1 20 0 2) (by rw [b20, g2]; exact i2) hyes B5 B6
        refine ⟨n2.1, ?_⟩
        refine ih _ ⟨?_, ?_, ?_, ?_, ?_, ?_, zq_u f7 (Or.inr ⟨by decide, rfl⟩)⟩ _ (zn_s hy)
        · dsimp only
          rw [za_u_i (show (1 : Nat) ≠ 2 by decide), b20, g1]
          exact n1
        · dsimp only
          rw [za_u_same]
          exact n2
        · dsimp only
          rw [za_u_i (show (0 : Nat) ≠ 2 by decide), b20, g0]
          exact i3
        · dsimp only
          rw [za_u_b (show (21 : Nat) ≠ 20 by decide), b21, g21]
          exact i4
        · dsimp only
          rw [b22, g22]
          exact i5
        · dsimp only
          rw [b23, g23]
          exact i6
      · have hno : ¬ un_pa g k := fun z => by rw [hpa.mpr z] at hq; exact absurd hq (by decide)
        exact ih _ ⟨skip i1 hno, skip i2 hno, i3, i4, i5, i6, i7⟩ _ (zn_s hy))
  refine run [12] 80 0 _ _ _ _ ?_
  refine ⟨Or.inl rfl, Or.inl rfl, ?_⟩
  refine loop 0 (za_u (za_u μ.1 20 0 1 0) 20 0 2 0, μ.2) (Nat.zero_le _) ⟨?_, ?_, ?_, ?_, rfl, rfl, zq_u (zq_u zq_rf (Or.inr ⟨by decide, rfl⟩)) (Or.inr ⟨by decide, rfl⟩)⟩ 0 rfl
  · dsimp only
    rw [za_u_i (show (1 : Nat) ≠ 2 by decide), za_u_same]
    exact ⟨Or.inl rfl, fun q => absurd q (by decide), fun ⟨p, q, _⟩ => absurd q (Nat.not_lt_zero p)⟩
  · dsimp only
    rw [za_u_same]
    exact ⟨Or.inl rfl, fun q => absurd q (by decide), fun ⟨p, q, _⟩ => absurd q (Nat.not_lt_zero p)⟩
  · dsimp only
    rw [za_u_i (show (0 : Nat) ≠ 2 by decide), za_u_i (show (0 : Nat) ≠ 1 by decide)]
  · dsimp only
    rw [za_u_b (show (21 : Nat) ≠ 20 by decide), za_u_b (show (21 : Nat) ≠ 20 by decide)]
end
section
/-- what find leaves -/
def cl_fin (g : gq_G) (μ : za_M) : Prop := (∀ i, lf_V 520 (cl_x μ) i ↔ un_X g i) ∧ (∀ i, lf_V 512 (cl_y μ) i ↔ un_Y g i) ∧ cl_01 μ ∧ cl_ci g (fun _ => un_no) (gq_np g) (μ.1 20 0 1) ∧ cl_ci g (un_Q (un_Y g)) (gq_np g) (μ.1 20 0 2)
/-- a loop by a measure that also counts -/
theorem zn_1000 {k : Nat} {y : Int32} (hy : y = nI k) (h : k ≤ 900) : ¬ (1000 : Int32) ≤ y := zn_ge hy (show (1000 : Int32) = nI 1000 from rfl) (by omega) (by decide)
set_option maxHeartbeats 8000000 in
theorem ct_R_find {Γ : zk_G} {d : Nat} {μ : za_M} {g : gq_G} (hg : gq_ok g) (hC : gq_C g μ) (hk : μ.1 20 0 0 = 0 ∨ μ.1 20 0 0 = 1 ∧ cl_fin g μ) (hd : 5 ≤ d) : zk_Ct zt Γ zm_R_find d 0 0 [za_r 20 0, za_r 1 0] μ
    (fun r μ' => r = none ∧ cl_fin g μ' ∧ μ'.1 20 0 0 = 1 ∧ zq_fr cl_rS μ μ') (fun _ _ => False) := by
  refine zs_R_find (Nat.le_of_ble_eq_true rfl) (by omega) (fun ZZ run => ?_)
  rcases hk with hk | ⟨hk, hfin⟩
  case inr =>
    refine run [] 20 0 _ _ _ _ ?_
    refine ⟨fun q => absurd (hk.symm.trans q) (by decide), fun _ => ?_⟩
    exact ⟨rfl, rfl, Nat.le_refl _, Nat.le_refl _, rfl, hfin, hk, zq_rf⟩
  -- from above
  have wh2 := zn_wh (σ := za_M × Int32 × Nat)
    (P := fun t => ∀ y : Int32, y = nI t.2.2 → ZZ 43 [some (za_r 20 0), some (za_r 1 0), some (za_i t.2.1), some (za_i y)] [] t.1 (0, 0))
    (I := fun t => (∀ i, lf_V 520 (cl_x t.1) i ↔ un_X g i) ∧ cl_01 t.1 ∧ lf_H (un_W g) (3 * gq_np g) 512 (cl_y t.1) t.2.1 ∧ (t.2.2 + ct_n (cl_y t.1) 512 ≤ 512 ∨ t.2.1 = 0) ∧ zq_fr cl_rS μ t.1)
    (fun t => 2 * ct_n (cl_y t.1) 512 + t.2.1.toNatClampNeg)
    (fun t h ih y hy => by
      obtain ⟨i1, i2, i3, i4, i5⟩ := h
      have hC1 := cl_rg hC i5
      refine run [43] 80 43 _ _ _ _ ?_
      refine ⟨fun hq => ?_, fun hq => ⟨fun hz => ?_, fun _ => ?_⟩⟩
      · refine ⟨d - 1, 0, 0, _, _, by omega, Nat.le_refl _, Nat.le_refl _, ct_R_lookForCircles hg hC1 i2 i1 (i3.2.2 hq) (by omega), ?_, fun _ _ h => h.elim⟩
        rintro r μ2 ⟨rfl, e1, e2, e3, e4, e5, e6, e7⟩
        refine ⟨Or.inr rfl, rfl, rfl, Nat.le_refl _, Nat.le_refl _, rfl, ⟨?_, ?_, ?_, ?_, ?_⟩, ?_, zq_u (zq_tr i5 e7) (Or.inr ⟨by decide, rfl⟩)⟩
        · rw [cl_xc (μ := t.1) (μ' := (za_u μ2.1 20 0 0 1, μ2.2)) (by dsimp only; rw [za_u_b (show (21 : Nat) ≠ 20 by decide), e4]) e5]
          exact i1
        · rw [cl_yc (μ := t.1) (μ' := (za_u μ2.1 20 0 0 1, μ2.2)) e6]
          exact i3.2.2 hq
        · intro s hs
          dsimp only
          rw [za_u_b (show (21 : Nat) ≠ 20 by decide), e4]
          exact i2 s hs
        · dsimp only
          rw [za_u_i (show (1 : Nat) ≠ 0 by decide)]
          exact e1
        · dsimp only
          rw [za_u_i (show (2 : Nat) ≠ 0 by decide)]
          exact e2
        · dsimp only
          rw [za_u_same]
      · exact absurd hz (zn_1000 hy (by have := i4.resolve_right hq; omega))
      · refine ⟨d - 1, 0, 0, _, _, by omega, Nat.le_refl _, Nat.le_refl _, ct_R_growFromAbove hg hC1 i2 i1 i3.2.1 (by omega), ?_, fun _ _ h => h.elim⟩
        rintro r μ2 ⟨⟨v, rfl, hI⟩, e2, e3, e4, e5⟩
        refine ih (μ2, v, t.2.2 + 1) ⟨?_, ?_, lf_IH hI, ?_, zq_tr i5 e5⟩ (lf_Im hI (zn_or01 i3.1 hq)) _ (zn_s hy)
        · rw [cl_xc (μ := t.1) e3 e4]
          exact i1
        · intro s hs
          dsimp only
          rw [e3]
          exact i2 s hs
        · rcases hI.1 with e | e
          · exact Or.inr e
          · refine Or.inl ?_
            have := hI.2.2.2.1 e
            have := i4.resolve_right hq
            dsimp only
            omega)
  -- upwards
  have wh1 := zn_wh (σ := za_M × Int32 × Nat)
    (P := fun t => ∀ y : Int32, y = nI t.2.2 → ZZ 16 [some (za_r 20 0), some (za_r 1 0), some (za_i t.2.1), some (za_i y)] [] t.1 (0, 0))
    (I := fun t => (∀ i, ¬ lf_V 512 (cl_y t.1) i) ∧ cl_01 t.1 ∧ lf_H (un_F g) (gq_np g) 520 (cl_x t.1) t.2.1 ∧ (t.2.2 + ct_n (cl_x t.1) 520 ≤ 520 ∨ t.2.1 = 0) ∧ zq_fr cl_rS μ t.1)
    (fun t => 2 * ct_n (cl_x t.1) 520 + t.2.1.toNatClampNeg)
    (fun t h ih y hy => by
      obtain ⟨i1, i2, i3, i4, i5⟩ := h
      have hC1 := cl_rg hC i5
      refine run [16, 43] 80 16 _ _ _ _ ?_
      refine ⟨fun hq => ?_, fun hq => ⟨fun hz => ?_, fun _ => ?_⟩⟩
      · refine wh2 (t.1, 1, 0) ⟨i3.2.2 hq, i2, ⟨Or.inr rfl, fun i q => absurd q (i1 i), fun q => absurd q (show ¬ (1 : Int32) = 0 by decide)⟩, Or.inl ?_, i5⟩ 0 rfl
        have := ct_n_max (cl_y t.1) 512
        dsimp only
        omega
      · exact absurd hz (zn_1000 hy (by have := i4.resolve_right hq; omega))
      · refine ⟨d - 1, 0, 0, _, _, by omega, Nat.le_refl _, Nat.le_refl _, ct_R_growUpwards hg hC1 i2 i3.2.1 (by omega), ?_, fun _ _ h => h.elim⟩
        rintro r μ2 ⟨⟨v, rfl, hI⟩, e2, e3, e4, e5⟩
        refine ih (μ2, v, t.2.2 + 1) ⟨?_, e2, lf_IH hI, ?_, zq_tr i5 e5⟩ (lf_Im hI (zn_or01 i3.1 hq)) _ (zn_s hy)
        · rw [cl_yc (μ := t.1) e4]
          exact i1
        · rcases hI.1 with e | e
          · exact Or.inr e
          · refine Or.inl ?_
            have := hI.2.2.2.1 e
            have := i4.resolve_right hq
            dsimp only
            omega)
  refine run [16] 80 0 _ _ _ _ ?_
  refine ⟨fun _ => ?_, fun q => absurd hk q⟩
  refine ⟨d - 1, 0, 0, _, _, by omega, Nat.le_refl _, Nat.le_refl _, ct_R_forget (by omega), ?_, fun _ _ h => h.elim⟩
  rintro r μ2 ⟨rfl, e1, e2⟩
  refine wh1 (μ2, 1, 0) ⟨fun i q => ?_, fun s hs => Or.inl (e1 s hs).1, ⟨Or.inr rfl, fun i q => ?_, fun q => absurd q (show ¬ (1 : Int32) = 0 by decide)⟩, Or.inl ?_, zq_up e2 (fun b j q => Or.inr ⟨by omega, q.2⟩)⟩ 0 rfl
  · unfold lf_V cl_y at q
    rw [(e1 _ (by omega)).2.2, bl_0] at q
    cases q.2
  · exfalso
    unfold lf_V cl_x at q
    by_cases c : i < 8
    · rw [if_pos c, (e1 i c).1] at q
      exact absurd q.2 (by decide)
    · rw [if_neg c, (e1 _ (by omega)).2.1, bl_0] at q
      cases q.2
  · have := ct_n_max (cl_x μ2) 520
    dsimp only
    omega
end
section
/-! GRAPHS OF TREES, said of the grammar: the least sets -/
abbrev gr_T : Type := Nat → Nat → Bool
/-- a production's steps, with a graph for each part -/
def gr_E (g : gq_G) (p : Nat) (c : Nat → gr_T) (x y : Nat) : Prop := x < 32 ∧ y < 32 ∧ (bt (gq_nd g p x) y = true ∨ (1 ≤ x / 8 ∧ x / 8 ≤ gq_m g p ∧ y / 8 = x / 8 ∧ c (x / 8) (x % 8) (y % 8) = true))
def gr_P (g : gq_G) (p : Nat) (c : Nat → gr_T) (x y : Nat) : Prop := pq_T (fun _ => True) (gr_E g p c) x y
def gr_is (g : gq_G) (p : Nat) (c : Nat → gr_T) (G : gr_T) : Prop := ∀ a b, G a b = true ↔ (a < 8 ∧ b < 8 ∧ gr_P g p c a b)
def gr_ci (g : gq_G) (p : Nat) (c : Nat → gr_T) : Prop := ∃ u, gr_P g p c u u
def gr_Lc (g : gq_G) (X : Nat → gr_T → Prop) : Prop := ∀ p, p < gq_np g → ∀ c G, (∀ o, 1 ≤ o → o ≤ gq_m g p → X (gq_sy g p o) (c o)) → gr_is g p c G → X (gq_sy g p 0) G
def gr_L (g : gq_G) (s : Nat) (G : gr_T) : Prop := ∀ X, gr_Lc g X → X s G
def gr_C (g : gq_G) : Prop := ∃ p, p < gq_np g ∧ ∃ c, (∀ o, 1 ≤ o → o ≤ gq_m g p → gr_L g (gq_sy g p o) (c o)) ∧ gr_ci g p c
/-- some symbol has more than ten -/
def gr_G (g : gq_G) : Prop := ∃ s, s < 8 ∧ ∃ f : Nat → gr_T, (∀ i j, i < 11 → j < 11 → f i = f j → i = j) ∧ ∀ i, i < 11 → gr_L g s (f i)
theorem gr_Lcl (g : gq_G) : gr_Lc g (gr_L g) := fun p hp c G h hG X hX => hX p hp c G (fun o a b => h o a b X hX) hG
theorem gr_uq {g : gq_G} {p : Nat} {c : Nat → gr_T} {G G' : gr_T} (h : gr_is g p c G) (h' : gr_is g p c G') : G = G' := by
  funext a b
  exact Bool.eq_iff_iff.mpr ((h a b).trans (h' a b).symm)
theorem gr_Ec {g : gq_G} {p : Nat} {c c' : Nat → gr_T} (h : ∀ o, 1 ≤ o → o ≤ gq_m g p → c o = c' o) (x y : Nat) : gr_E g p c x y ↔ gr_E g p c' x y := by
  unfold gr_E
  constructor
  · rintro ⟨h1, h2, h3 | ⟨a, b, d, e⟩⟩
    · exact ⟨h1, h2, Or.inl h3⟩
    · exact ⟨h1, h2, Or.inr ⟨a, b, d, by rw [← h _ a b]; exact e⟩⟩
  · rintro ⟨h1, h2, h3 | ⟨a, b, d, e⟩⟩
    · exact ⟨h1, h2, Or.inl h3⟩
    · exact ⟨h1, h2, Or.inr ⟨a, b, d, by rw [h _ a b]; exact e⟩⟩
theorem gr_Pc {g : gq_G} {p : Nat} {c c' : Nat → gr_T} (h : ∀ o, 1 ≤ o → o ≤ gq_m g p → c o = c' o) (x y : Nat) : gr_P g p c x y ↔ gr_P g p c' x y := pq_congr (fun _ => Iff.rfl) (gr_Ec h) x y
theorem gr_isc {g : gq_G} {p : Nat} {c c' : Nat → gr_T} {G : gr_T} (h : ∀ o, 1 ≤ o → o ≤ gq_m g p → c o = c' o) (hG : gr_is g p c G) : gr_is g p c' G := fun a b => (hG a b).trans ⟨fun q => ⟨q.1, q.2.1, (gr_Pc h a b).mp q.2.2⟩, fun q => ⟨q.1, q.2.1, (gr_Pc h a b).mpr q.2.2⟩⟩
theorem gr_cic {g : gq_G} {p : Nat} {c c' : Nat → gr_T} (h : ∀ o, 1 ≤ o → o ≤ gq_m g p → c o = c' o) : gr_ci g p c ↔ gr_ci g p c' := ⟨fun ⟨u, q⟩ => ⟨u, (gr_Pc h u u).mp q⟩, fun ⟨u, q⟩ => ⟨u, (gr_Pc h u u).mpr q⟩⟩
/-- the head's places -/
theorem gr_from {g : gq_G} (hg : gq_ok g) {p : Nat} (hp : p < gq_np g) {c : Nat → gr_T} {x y : Nat} (hx : x < 8) (h : gr_P g p c x y) : gq_df g p x := by
  obtain ⟨z, h1, h2, h3⟩ := pq_from h
  rcases h3 with h | ⟨a, _⟩
  · exact (hg.2.2.2.2.2 p x z hp h1 h).1
  · omega
theorem gr_to {g : gq_G} (hg : gq_ok g) {p : Nat} (hp : p < gq_np g) {c : Nat → gr_T} {x y : Nat} (hy : y < 8) (h : gr_P g p c x y) : gq_gv g p y := by
  obtain ⟨z, h1, h2, h3⟩ := pq_to h
  rcases h3 with h | ⟨a, _, d, _⟩
  · exact (hg.2.2.2.2.2 p z y hp h1 h).2
  · omega
theorem gr_b6 {g : gq_G} (hg : gq_ok g) {p : Nat} (hp : p < gq_np g) {c : Nat → gr_T} {a b : Nat} (ha : a < 8) (hb : b < 8) (h : gr_P g p c a b) : a < 6 ∧ b < 6 ∧ a < gq_at g (gq_sy g p 0) ∧ bt (gq_dn g (gq_sy g p 0)) a = false ∧ bt (gq_dn g (gq_sy g p 0)) b = true := by
  have d0 := (hg.2.2.1 _ ((hg.2.2.2.2.1 p hp).2 0 (Nat.zero_le _))).1
  have d1 := gq_up ha (gr_from hg hp ha h)
  have d2 := gq_dw hb (gr_to hg hp hb h)
  exact ⟨by omega, by omega, d1.1, d1.2, d2.2⟩
theorem gr_L6 {g : gq_G} (hg : gq_ok g) {s : Nat} {G : gr_T} (h : gr_L g s G) : s < gq_ns g ∧ ∀ a b, G a b = true → a < 6 ∧ b < 6 := by
  refine h (fun s G => s < gq_ns g ∧ ∀ a b, G a b = true → a < 6 ∧ b < 6) ?_
  intro p hp c G _ hG
  refine ⟨(hg.2.2.2.2.1 p hp).2 0 (Nat.zero_le _), fun a b q => ?_⟩
  obtain ⟨q1, q2, q3⟩ := (hG a b).mp q
  exact ⟨(gr_b6 hg hp q1 q2 q3).1, (gr_b6 hg hp q1 q2 q3).2.1⟩
/-- eleven pigeons, ten holes -/
theorem ph_le {α : Type} : ∀ (m n : Nat) (f h : Nat → α), (∀ i j, i < n → j < n → f i = f j → i = j) → (∀ i, i < n → ∃ j, j < m ∧ h j = f i) → n ≤ m
  | 0, n, f, h, _, hs => by
    cases n with
    | zero => exact Nat.le_refl _
    | succ n => obtain ⟨j, q, _⟩ := hs 0 (by omega); omega
  | m + 1, n, f, h, hi, hs => by
    cases n with
    | zero => omega
    | succ n =>
      obtain ⟨j0, q0, e0⟩ := hs n (by omega)
      have := ph_le m n f (fun j => if j = j0 then h m else h j) (fun i j a b => hi i j (by omega) (by omega)) (fun i a => by
        obtain ⟨j, q1, e1⟩ := hs i (by omega)
        have hne : j ≠ j0 := fun e => by
          subst e
          have := hi i n (by omega) (by omega) (e1.symm.trans e0)
          omega
        by_cases e : j = m
        · subst e
          exact ⟨j0, by omega, by rw [if_pos rfl]; exact e1⟩
        · exact ⟨j, by omega, by rw [if_neg hne]; exact e1⟩)
      omega
/-! TABLES: how many graphs a symbol has so far, which, whether a circle was seen -/
def tb_so (g : gq_G) (K : Nat → Nat) (T : Nat → Nat → gr_T) (C : Prop) : Prop := (∀ s i, s < 8 → i < K s → gr_L g s (T s i)) ∧ (∀ s i j, s < 8 → i < K s → j < K s → T s i = T s j → i = j) ∧ (C → gr_C g)
def tb_le (K : Nat → Nat) (T : Nat → Nat → gr_T) (C : Prop) (K' : Nat → Nat) (T' : Nat → Nat → gr_T) (C' : Prop) : Prop := (∀ s, s < 8 → K s ≤ K' s ∧ ∀ i, i < K s → T' s i = T s i) ∧ (C → C')
def tb_in (g : gq_G) (p : Nat) (idx : Nat → Nat) (K : Nat → Nat) : Prop := ∀ o, 1 ≤ o → o ≤ gq_m g p → idx o < K (gq_sy g p o)
/-- the choice that indices make -/
def tb_c (g : gq_G) (p : Nat) (idx : Nat → Nat) (T : Nat → Nat → gr_T) (o : Nat) : gr_T := T (gq_sy g p o) (idx o)
def tb_tr (g : gq_G) (p : Nat) (idx : Nat → Nat) (K : Nat → Nat) (T : Nat → Nat → gr_T) (C : Prop) : Prop := (∃ j, j < K (gq_sy g p 0) ∧ gr_is g p (tb_c g p idx T) (T (gq_sy g p 0) j)) ∧ (gr_ci g p (tb_c g p idx T) → C)
theorem tb_rf {K : Nat → Nat} {T : Nat → Nat → gr_T} {C : Prop} : tb_le K T C K T C := ⟨fun _ _ => ⟨Nat.le_refl _, fun _ _ => rfl⟩, id⟩
theorem tb_tt {K K' K'' : Nat → Nat} {T T' T'' : Nat → Nat → gr_T} {C C' C'' : Prop} (h : tb_le K T C K' T' C') (h' : tb_le K' T' C' K'' T'' C'') : tb_le K T C K'' T'' C'' :=
  ⟨fun s hs => ⟨Nat.le_trans (h.1 s hs).1 (h'.1 s hs).1, fun i hi => ((h'.1 s hs).2 i (Nat.lt_of_lt_of_le hi (h.1 s hs).1)).trans ((h.1 s hs).2 i hi)⟩, fun q => h'.2 (h.2 q)⟩
theorem tb_cc {g : gq_G} (hg : gq_ok g) {p : Nat} (hp : p < gq_np g) {idx : Nat → Nat} {K K' : Nat → Nat} {T T' : Nat → Nat → gr_T} {C C' : Prop} (hi : tb_in g p idx K) (h : tb_le K T C K' T' C') : ∀ o, 1 ≤ o → o ≤ gq_m g p → tb_c g p idx T o = tb_c g p idx T' o := fun o a b => ((h.1 _ (gq_sy8 hg hp b)).2 _ (hi o a b)).symm
theorem tb_trm {g : gq_G} (hg : gq_ok g) {p : Nat} (hp : p < gq_np g) {idx : Nat → Nat} {K K' : Nat → Nat} {T T' : Nat → Nat → gr_T} {C C' : Prop} (hi : tb_in g p idx K) (h : tb_le K T C K' T' C') (ht : tb_tr g p idx K T C) : tb_tr g p idx K' T' C' := by
  obtain ⟨⟨j, h1, h2⟩, h3⟩ := ht
  have hs := h.1 _ (gq_sy8 hg hp (Nat.zero_le _))
  have hc := tb_cc hg hp hi h
  refine ⟨⟨j, Nat.lt_of_lt_of_le h1 hs.1, ?_⟩, fun q => h.2 (h3 ((gr_cic hc).mpr q))⟩
  rw [hs.2 j h1]
  exact gr_isc hc h2
theorem tb_inm {g : gq_G} (hg : gq_ok g) {p : Nat} (hp : p < gq_np g) {idx : Nat → Nat} {K K' : Nat → Nat} {T T' : Nat → Nat → gr_T} {C C' : Prop} (hi : tb_in g p idx K) (h : tb_le K T C K' T' C') : tb_in g p idx K' := fun o a b => Nat.lt_of_lt_of_le (hi o a b) (h.1 _ (gq_sy8 hg hp b)).1
/-- all tried: all there -/
theorem tb_cl {g : gq_G} (hg : gq_ok g) {K : Nat → Nat} {T : Nat → Nat → gr_T} {C : Prop} (hs : tb_so g K T C) (hc : ∀ p, p < gq_np g → ∀ idx, tb_in g p idx K → tb_tr g p idx K T C) : (∀ s G, s < 8 → (gr_L g s G ↔ ∃ i, i < K s ∧ T s i = G)) ∧ (C ↔ gr_C g) := by
  have key : ∀ s G, gr_L g s G → ∃ i, i < K s ∧ T s i = G := by
    intro s G h
    refine h (fun s G => ∃ i, i < K s ∧ T s i = G) ?_
    intro p hp c G hX hG
    have hch : ∃ idx : Nat → Nat, ∀ o, 1 ≤ o → o ≤ gq_m g p → idx o < K (gq_sy g p o) ∧ T (gq_sy g p o) (idx o) = c o := by
      refine ⟨fun o => if h : 1 ≤ o ∧ o ≤ gq_m g p then Classical.choose (hX o h.1 h.2) else 0, fun o a b => ?_⟩
      dsimp only
      rw [dif_pos (And.intro a b)]
      exact Classical.choose_spec (hX o a b)
    obtain ⟨idx, hidx⟩ := hch
    obtain ⟨⟨j, h1, h2⟩, _⟩ := hc p hp idx (fun o a b => (hidx o a b).1)
    exact ⟨j, h1, gr_uq (gr_isc (fun o a b => (hidx o a b).2) h2) hG⟩
  refine ⟨fun s G h8 => ⟨key s G, fun ⟨i, h1, h2⟩ => h2 ▸ hs.1 s i h8 h1⟩, hs.2.2, fun ⟨p, hp, c, h1, h2⟩ => ?_⟩
  have hch : ∃ idx : Nat → Nat, ∀ o, 1 ≤ o → o ≤ gq_m g p → idx o < K (gq_sy g p o) ∧ T (gq_sy g p o) (idx o) = c o := by
    refine ⟨fun o => if h : 1 ≤ o ∧ o ≤ gq_m g p then Classical.choose (key _ _ (h1 o h.1 h.2)) else 0, fun o a b => ?_⟩
    dsimp only
    rw [dif_pos (And.intro a b)]
    exact Classical.choose_spec (key _ _ (h1 o a b))
  obtain ⟨idx, hidx⟩ := hch
  exact (hc p hp idx (fun o a b => (hidx o a b).1)).2 ((gr_cic (fun o a b => (hidx o a b).2)).mpr h2)
/-- a graph taken -/
theorem tb_tk {g : gq_G} (hg : gq_ok g) {p : Nat} (hp : p < gq_np g) {idx : Nat → Nat} {K K' : Nat → Nat} {T T' : Nat → Nat → gr_T} {C C' : Prop} {G : gr_T} (hs : tb_so g K T C) (hi : tb_in g p idx K) (hG : gr_is g p (tb_c g p idx T) G) (hC : C' ↔ (C ∨ gr_ci g p (tb_c g p idx T)))
    (hK : (∀ s, s < 8 → s ≠ gq_sy g p 0 → K' s = K s) ∧ (∀ s i, s < 8 → i < K s → T' s i = T s i) ∧ ((K' (gq_sy g p 0) = K (gq_sy g p 0) ∧ ∃ j, j < K (gq_sy g p 0) ∧ T (gq_sy g p 0) j = G) ∨ (K' (gq_sy g p 0) = K (gq_sy g p 0) + 1 ∧ T' (gq_sy g p 0) (K (gq_sy g p 0)) = G ∧ ∀ j, j < K (gq_sy g p 0) → T (gq_sy g p 0) j ≠ G))) :
    tb_so g K' T' C' ∧ tb_le K T C K' T' C' ∧ tb_tr g p idx K' T' C' := by
  have h8 := gq_sy8 hg hp (Nat.zero_le _)
  obtain ⟨k1, k2, k3⟩ := hK
  have hle : tb_le K T C K' T' C' := ⟨fun s hs8 => ⟨by
    by_cases e : s = gq_sy g p 0
    · subst e
      rcases k3 with k3 | k3 <;> omega
    · rw [k1 s hs8 e]; exact Nat.le_refl _, fun i h => k2 s i hs8 h⟩, fun q => hC.mpr (Or.inl q)⟩
  have hL : gr_L g (gq_sy g p 0) G := gr_Lcl g p hp _ G (fun o a b => hs.1 _ _ (gq_sy8 hg hp b) (hi o a b)) hG
  have hcc := tb_cc hg hp hi hle
  refine ⟨⟨fun s i h1 h2 => ?_, fun s i j h1 h2 h3 h4 => ?_, fun q => ?_⟩, hle, ?_, fun q => hC.mpr (Or.inr ((gr_cic hcc).mpr q))⟩
  · by_cases e : i < K s
    · rw [k2 s i h1 e]; exact hs.1 s i h1 e
    · by_cases e2 : s = gq_sy g p 0
      · subst e2
        rcases k3 with k3 | k3
        · omega
        · rw [show i = K (gq_sy g p 0) by omega, k3.2.1]; exact hL
      · rw [k1 s h1 e2] at h2; exact absurd h2 e
  · by_cases e2 : s = gq_sy g p 0
    · subst e2
      rcases k3 with k3 | ⟨k3, k4, k5⟩
      · rw [k3.1] at h2 h3
        rw [k2 _ i h1 h2, k2 _ j h1 h3] at h4
        exact hs.2.1 _ i j h1 h2 h3 h4
      · by_cases ei : i < K (gq_sy g p 0)
        · by_cases ej : j < K (gq_sy g p 0)
          · rw [k2 _ i h1 ei, k2 _ j h1 ej] at h4
            exact hs.2.1 _ i j h1 ei ej h4
          · rw [k2 _ i h1 ei, show j = K (gq_sy g p 0) by omega, k4] at h4
            exact absurd h4 (k5 i ei)
        · by_cases ej : j < K (gq_sy g p 0)
          · rw [k2 _ j h1 ej, show i = K (gq_sy g p 0) by omega, k4] at h4
            exact absurd h4.symm (k5 j ej)
          · omega
    · rw [k1 s h1 e2] at h2 h3
      rw [k2 _ i h1 h2, k2 _ j h1 h3] at h4
      exact hs.2.1 _ i j h1 h2 h3 h4
  · rcases hC.mp q with q | q
    · exact hs.2.2 q
    · exact ⟨p, hp, _, fun o a b => hs.1 _ _ (gq_sy8 hg hp b) (hi o a b), q⟩
  · rcases k3 with ⟨k3, j, k4, k5⟩ | ⟨k3, k4, k5⟩
    · refine ⟨j, by omega, ?_⟩
      rw [k2 _ j h8 k4, k5]
      exact gr_isc hcc hG
    · refine ⟨K (gq_sy g p 0), by omega, ?_⟩
      rw [k4]
      exact gr_isc hcc hG
/-- eleven -/
theorem tb_11 {g : gq_G} {K : Nat → Nat} {T : Nat → Nat → gr_T} {C : Prop} (hs : tb_so g K T C) {s : Nat} (h8 : s < 8) (h : 11 ≤ K s) : gr_G g := ⟨s, h8, T s, fun i j a b => hs.2.1 s i j h8 (by omega) (by omega), fun i a => hs.1 s i h8 (by omega)⟩
/-- two tables that are full have the same counts -/
theorem tb_eq {g : gq_G} {K K' : Nat → Nat} {T T' : Nat → Nat → gr_T} {C C' : Prop} (hs : tb_so g K T C) (hs' : tb_so g K' T' C') (h : ∀ s G, s < 8 → (gr_L g s G ↔ ∃ i, i < K s ∧ T s i = G)) (h' : ∀ s G, s < 8 → (gr_L g s G ↔ ∃ i, i < K' s ∧ T' s i = G)) {s : Nat} (h8 : s < 8) : K s = K' s :=
  Nat.le_antisymm (ph_le _ _ (T s) (T' s) (fun i j a b => hs.2.1 s i j h8 a b) (fun i a => (h' s _ h8).mp (hs.1 s i h8 a))) (ph_le _ _ (T' s) (T s) (fun i j a b => hs'.2.1 s i j h8 a b) (fun i a => (h s _ h8).mp (hs'.1 s i h8 a)))
theorem tb_no {g : gq_G} {K : Nat → Nat} {T : Nat → Nat → gr_T} (h : ∀ s G, s < 8 → (gr_L g s G ↔ ∃ i, i < K s ∧ T s i = G)) (h10 : ∀ s, s < 8 → K s ≤ 10) : ¬ gr_G g := by
  rintro ⟨s, h8, f, h1, h2⟩
  have := ph_le _ 11 f (T s) h1 (fun i a => (h s _ h8).mp (h2 i a))
  have := h10 s h8
  omega
end
section
/-! the reference: graphs, its small methods -/
theorem bl_sshr (k : Nat) (hk : k < 64) (w : Int64) {i : Nat} (hi : k + i < 64) : bl (w >>> ((nI k).toInt64 &&& 63)) i = bl w (k + i) := by
  rw [bl_c k hk]
  unfold bl
  rw [Int64.toBitVec_shiftRight]
  show (w.toBitVec.sshiftRight ((BitVec.ofNat 64 k).smod 64).toNat).getLsbD i = _
  rw [bl_sm k hk, BitVec.getLsbD_sshiftRight]
  simp [hi, show i < 64 by omega]
theorem bl_63 : ∀ i, i < 64 → bl 63 i = decide (i < 6) := by decide +kernel
theorem zn_6a (a : Nat) : (6 : Int32) * nI a = nI (6 * a) := pk_mul 6 a
/-- the reference's long as a graph -/
def mo_g (w : Int64) : gr_T := fun a b => decide (a < 6) && (decide (b < 6) && bl w (6 * a + b))
def mo_hz (w : Int64) : Prop := ∀ j, 36 ≤ j → bl w j = false
theorem mo_g_inj {w w' : Int64} (h : mo_hz w) (h' : mo_hz w') : mo_g w = mo_g w' ↔ w = w' := by
  refine ⟨fun e => bl_ext fun j hj => ?_, fun e => by rw [e]⟩
  by_cases c : j < 36
  · have := congrFun (congrFun e (j / 6)) (j % 6)
    unfold mo_g at this
    rw [decide_eq_true (show j / 6 < 6 by omega), decide_eq_true (show j % 6 < 6 by omega), Bool.true_and, Bool.true_and, show 6 * (j / 6) + j % 6 = j by omega] at this
    exact this
  · rw [h j (by omega), h' j (by omega)]
/-- a graph laid at an occurrence -/
def mo_ag (r : Nat → Int32) (o : Nat) (w : Int64) (n i : Nat) : Int32 := if i / 8 = o ∧ i % 8 < n then r i ||| (((w >>> ((nI (6 * (i % 8))).toInt64 &&& 63)) &&& 63).toInt32 <<< (nI (8 * o) &&& 31)) else r i
theorem mo_ag_bt {r : Nat → Int32} {o : Nat} (ho : o < 4) (w : Int64) (x y : Nat) : bt (mo_ag r o w 6 x) y = true ↔ (bt (r x) y = true ∨ (x / 8 = o ∧ y / 8 = o ∧ mo_g w (x % 8) (y % 8) = true)) := by
  unfold mo_ag mo_g
  by_cases hy : y < 32
  · by_cases c : x / 8 = o ∧ x % 8 < 6
    · rw [if_pos c, b_or, bt_shl8 _ ho hy, Bool.or_eq_true, Bool.and_eq_true, decide_eq_true_eq, decide_eq_true c.2, Bool.true_and, Bool.and_eq_true, decide_eq_true_eq]
      constructor
      · rintro (h | ⟨h1, h2⟩)
        · exact Or.inl h
        · rw [bl_l2i _ (by omega), bl_and, bl_63 _ (by omega), Bool.and_eq_true, decide_eq_true_eq, bl_sshr _ (by omega) _ (by omega)] at h2
          refine Or.inr ⟨c.1, by omega, by omega, ?_⟩
          rw [show y % 8 = y - 8 * o by omega]
          exact h2.1
      · rintro (h | ⟨h1, h2, h3, h4⟩)
        · exact Or.inl h
        · refine Or.inr ⟨by omega, ?_⟩
          rw [bl_l2i _ (by omega), bl_and, bl_63 _ (by omega), Bool.and_eq_true, decide_eq_true_eq, bl_sshr _ (by omega) _ (by omega), show y - 8 * o = y % 8 by omega]
          exact ⟨h4, h3⟩
    · rw [if_neg c]
      refine ⟨Or.inl, fun q => q.elim id (fun ⟨q1, q2, q3⟩ => absurd ⟨q1, ?_⟩ c)⟩
      rw [Bool.and_eq_true, decide_eq_true_eq] at q3
      exact q3.1
  · have hf : ∀ z : Int32, bt z y = false := fun z => b_big (by omega)
    rw [hf, hf]
    exact ⟨fun q => (by cases q), fun q => q.elim (fun q => by cases q) (fun q => by omega)⟩
set_option maxHeartbeats 4000000 in
theorem ct_M_addGraph {Γ : zk_G} {d o : Nat} {x : Int32} {w : Int64} {μ : za_M} (hx : x = nI o) (ho : o < 4) (hd : 1 ≤ d) : zk_Ct zt Γ zm_M_addGraph d 0 0 [za_r 30 0, za_i x, za_l w] μ (fun r μ' => r = none ∧ (∀ i, i < 32 → μ'.1 38 0 i = mo_ag (μ.1 38 0) o w 6 i) ∧ zq_fr (fun b j => b = 38 ∧ j = 0) μ μ') (fun _ _ => False) := by
  refine zs_M_addGraph (Nat.le_of_ble_eq_true rfl) hd (fun ZZ run => ?_)
  have loop := zn_for (σ := za_M) (N := 6)
    (P := fun k μ1 => ∀ y : Int32, y = nI k → ZZ 3 [some (za_r 30 0), some (za_i x), some (za_l w), none, some (za_i y)] [] μ1 (0, 0))
    (I := fun k μ1 => (∀ i, i < 32 → μ1.1 38 0 i = mo_ag (μ.1 38 0) o w k i) ∧ zq_fr (fun b j => b = 38 ∧ j = 0) μ μ1)
    (fun μ1 h y hy => by
      refine run [3] 60 3 _ _ _ _ ?_
      refine ⟨fun _ => ?_, fun q => absurd (by rw [hy]; exact nI_le (Nat.le_refl 6) (by decide)) q⟩
      exact ⟨rfl, rfl, Nat.le_refl _, Nat.le_refl _, rfl, h⟩)
    (fun k μ1 hk h ih y hy => by
      have e1 : (8 : Int32) * x + y = nI (8 * o + k) := by rw [hx, hy, zn_8, nI_add]
      have e2 : (8 : Int32) * x = nI (8 * o) := by rw [hx, zn_8]
      have e3 : (6 : Int32) * y = nI (6 * k) := by rw [hy, zn_6a]
      have hb : vp_in ((8 : Int32) * x + y) 32 := zn_i e1 (by omega) (by decide)
      refine run [3] 60 3 _ _ _ _ ?_
      refine ⟨fun q => absurd q (zn_ge hy rfl hk (by decide)), fun _ => ⟨hb, hb, ?_⟩⟩
      refine ih _ ⟨fun i hi => ?_, zq_u h.2 ⟨rfl, rfl⟩⟩ _ (zn_s hy)
      dsimp only
      rw [zn_c e1 (by omega), e2, e3]
      by_cases e : i = 8 * o + k
      · subst e
        rw [za_u_same, h.1 _ hi, mo_ag, if_neg (by omega), mo_ag, if_pos (by omega), show (8 * o + k) % 8 = k by omega]
        rfl
      · rw [za_u_i e, h.1 i hi, mo_ag, mo_ag]
        by_cases c : i / 8 = o ∧ i % 8 < k
        · rw [if_pos c, if_pos (by omega)]
        · rw [if_neg c, if_neg (by omega)])
  refine run [3] 60 0 _ _ _ _ ?_
  exact loop 0 μ (Nat.zero_le _) ⟨fun i hi => by rw [mo_ag, if_neg (by omega)], zq_rf⟩ 0 rfl
/-- the head's graph out of rows -/
def mo_hg (r : Nat → Int32) (dn : Int32) : Nat → Int64
  | 0 => 0
  | k + 1 => if bt dn k = true then mo_hg r dn k else mo_hg r dn k ||| ((r k &&& dn).toInt64 <<< ((nI (6 * k)).toInt64 &&& 63))
theorem mo_hg_bl (r : Nat → Int32) {dn : Int32} (hdn : ∀ b, bt dn b = true → b < 6) : ∀ k, k ≤ 6 → ∀ j, j < 64 → bl (mo_hg r dn k) j = (decide (j / 6 < k) && (!bt dn (j / 6) && (bt (r (j / 6)) (j % 6) && bt dn (j % 6))))
  | 0, _, j, hj => by rw [mo_hg, bl_0, decide_eq_false (Nat.not_lt_zero _), Bool.false_and]
  | k + 1, hk, j, hj => by
    have hnd : ∀ i, i < 64 → bl (r k &&& dn).toInt64 i = (bt (r k) i && bt dn i) := fun i hi => by
      rw [bl_i2l _ hi]
      split
      · exact b_and _ _ _
      · rw [b_and]
        cases h1 : bt dn 31 with
        | true => have := hdn _ h1; omega
        | false =>
          cases h2 : bt dn i with
          | true => have := hdn _ h2; omega
          | false => rw [Bool.and_false, Bool.and_false]
    have hge : ∀ i, 6 ≤ i → bt dn i = false := fun i hi => by
      cases h : bt dn i with
      | true => have := hdn _ h; omega
      | false => rfl
    have ih := mo_hg_bl r hdn k (by omega) j hj
    rw [mo_hg]
    by_cases h1 : j / 6 = k
    · by_cases h0 : bt dn k = true
      · rw [if_pos h0, ih, decide_eq_false (show ¬ j / 6 < k by omega), h1, h0]
        simp
      · rw [if_neg h0, bl_or, ih, bl_shl _ (by omega) _ hj, hnd _ (by omega), decide_eq_false (show ¬ j / 6 < k by omega), decide_eq_true (show 6 * k ≤ j by omega), decide_eq_true (show j / 6 < k + 1 by omega), show j - 6 * k = j % 6 by omega, h1, Bool.eq_false_iff.mpr h0]
        simp
    · have key : bl (mo_hg r dn k ||| ((r k &&& dn).toInt64 <<< ((nI (6 * k)).toInt64 &&& 63))) j = bl (mo_hg r dn k) j := by
        rw [bl_or, bl_shl _ (by omega) _ hj]
        by_cases c : 6 * k ≤ j
        · rw [hnd _ (by omega), hge (j - 6 * k) (by omega), Bool.and_false, Bool.and_false, Bool.or_false]
        · rw [decide_eq_false c, Bool.false_and, Bool.or_false]
      have hd : decide (j / 6 < k + 1) = decide (j / 6 < k) := by
        by_cases c : j / 6 < k
        · rw [decide_eq_true c, decide_eq_true (by omega)]
        · rw [decide_eq_false c, decide_eq_false (by omega)]
      rw [hd, ← ih]
      split
      · rfl
      · exact key
theorem mo_hg_hz (r : Nat → Int32) {dn : Int32} (hdn : ∀ b, bt dn b = true → b < 6) {k : Nat} (hk : k ≤ 6) : mo_hz (mo_hg r dn k) := by
  intro j hj
  by_cases c : j < 64
  · rw [mo_hg_bl r hdn k hk j c, decide_eq_false (by omega), Bool.false_and]
  · exact bl_big (by omega)
set_option maxHeartbeats 4000000 in
theorem ct_M_headGraph {Γ : zk_G} {d p : Nat} {x : Int32} {μ : za_M} {g : gq_G} (hg : gq_ok g) (hM : gq_M g μ) (hx : x = nI p) (hp : p < gq_np g) (hd : 2 ≤ d) : zk_Ct zt Γ zm_M_headGraph d 0 0 [za_r 30 0, za_i x] μ (fun r μ' => r = some (za_l (mo_hg (μ.1 38 0) (gq_dn g (gq_sy g p 0)) (gq_at g (gq_sy g p 0)))) ∧ μ' = μ) (fun _ _ => False) := by
  have hp16 : p < 16 := Nat.lt_of_lt_of_le hp hg.2.1
  have hs8 : gq_sy g p 0 < 8 := gq_sy8 hg hp (Nat.zero_le _)
  have hsn : gq_sy g p 0 < gq_ns g := (hg.2.2.2.2.1 p hp).2 0 (Nat.zero_le _)
  obtain ⟨hat6, hdb⟩ := hg.2.2.1 _ hsn
  obtain ⟨o1, o2⟩ := gq_occ0 hM hx hp hp16
  obtain ⟨e1, e2⟩ := hM.2.2.1 _ hsn
  refine zs_M_headGraph (Nat.le_of_ble_eq_true rfl) (by omega) (fun ZZ run => ?_)
  have loop := zn_for (σ := Int64) (N := gq_at g (gq_sy g p 0))
    (P := fun k v => ∀ w y : Int32, w = nI (gq_sy g p 0) → y = nI k → ZZ 14 [some (za_r 30 0), some (za_i x), some (za_i w), some (za_l v), none, some (za_i y)] [] μ (0, 0))
    (I := fun k v => v = mo_hg (μ.1 38 0) (gq_dn g (gq_sy g p 0)) k)
    (fun v h w y hw hy => by
      have hcw : w.toNatClampNeg = gq_sy g p 0 := zn_c hw (by omega)
      refine run [14] 60 14 _ _ _ _ ?_
      refine ⟨zn_i hw hs8 (by decide), fun _ => ?_, fun q => absurd (by rw [hcw, e1, hy]; exact Int32.le_refl _) q⟩
      exact ⟨rfl, rfl, Nat.le_refl _, Nat.le_refl _, by rw [h], rfl⟩)
    (fun k v hk h ih w y hw hy => by
      have hcw : w.toNatClampNeg = gq_sy g p 0 := zn_c hw (by omega)
      have hcy : y.toNatClampNeg = k := zn_c hy (by omega)
      refine run [14] 60 14 _ _ _ _ ?_
      refine ⟨zn_i hw hs8 (by decide), fun q => absurd q (by rw [hcw]; exact zn_ge hy e1 hk (by omega)), fun _ => ?_⟩
      refine ⟨d - 1, 0, 0, _, _, by omega, Nat.le_refl _, Nat.le_refl _, ct_M_isDown' (by omega) hw hy hs8 (by omega) e2, ?_, fun _ _ h => h.elim⟩
      rintro r μ5 ⟨⟨u, rfl, hu, hu1⟩, rfl⟩
      refine ⟨fun q => ⟨zn_i hy (by omega) (by decide), zn_i hw hs8 (by decide), ?_⟩, fun q => ?_⟩
      · refine ih _ ?_ w _ hw (zn_s hy)
        rw [hcy, hcw, e2, h, mo_hg, if_neg (fun z => by rw [hu1.mpr z] at q; exact absurd q (by decide)), show (6 : Int32) * y = nI (6 * k) by rw [hy, zn_6a]]
      · refine ih v ?_ w _ hw (zn_s hy)
        rw [h, mo_hg, if_pos (hu1.mp (zn_or01 hu q))])
  refine run [14] 60 0 _ _ _ _ ?_
  exact ⟨o1, loop 0 0 (Nat.zero_le _) rfl _ 0 o2 rfl⟩
end
section
/-! the reference: its table of graphs -/
def mt_K (μ : za_M) (s : Nat) : Nat := (μ.1 35 0 s).toNatClampNeg
def mt_T (μ : za_M) (s i : Nat) : gr_T := mo_g (μ.2 36 0 (11 * s + i))
def mt_C (μ : za_M) : Prop := μ.1 30 0 9 = 1
def mt_ok (μ : za_M) : Prop := (∀ s, s < 8 → μ.1 35 0 s = nI (mt_K μ s) ∧ mt_K μ s ≤ 11 ∧ ∀ i, i < mt_K μ s → mo_hz (μ.2 36 0 (11 * s + i))) ∧ (μ.1 30 0 9 = 0 ∨ μ.1 30 0 9 = 1) ∧ (μ.1 30 0 8 = 0 ∨ μ.1 30 0 8 = 1)
theorem zn_11 (s : Nat) : (11 : Int32) * nI s = nI (11 * s) := pk_mul 11 s
/-- a graph more -/
def mt_new (μ : za_M) (s : Nat) (w : Int64) : za_M := (za_u (za_u μ.1 35 0 s (nI (mt_K μ s + 1))) 30 0 8 (if mt_K μ s = 10 then 1 else 0), za_u μ.2 36 0 (11 * s + mt_K μ s) w)
set_option maxHeartbeats 8000000 in
theorem ct_M_takeGraph {Γ : zk_G} {d s : Nat} {x : Int32} {w : Int64} {μ : za_M} (hx : x = nI s) (hs : s < 8) (hok : μ.1 35 0 s = nI (mt_K μ s)) (h10 : mt_K μ s ≤ 10) (hd : 1 ≤ d) : zk_Ct zt Γ zm_M_takeGraph d 0 0 [za_r 30 0, za_i x, za_l w] μ (fun r μ' => r = none ∧ ((μ' = μ ∧ ∃ j, j < mt_K μ s ∧ μ.2 36 0 (11 * s + j) = w) ∨ (μ' = mt_new μ s w ∧ ∀ j, j < mt_K μ s → ¬ μ.2 36 0 (11 * s + j) = w))) (fun _ _ => False) := by
  have hcx : x.toNatClampNeg = s := zn_c hx (by omega)
  have hb : vp_in x 8 := zn_i hx hs (by decide)
  have ek : μ.1 35 0 x.toNatClampNeg = nI (mt_K μ s) := by rw [hcx]; exact hok
  refine zs_M_takeGraph (Nat.le_of_ble_eq_true rfl) hd (fun ZZ run => ?_)
  have loop := zn_for (σ := Int32) (N := mt_K μ s)
    (P := fun k v => ∀ y : Int32, y = nI k → ZZ 6 [some (za_r 30 0), some (za_i x), some (za_l w), none, some (za_i v), some (za_i y)] [] μ (0, 0))
    (I := fun k v => (v = 0 ∨ v = 1) ∧ (v = 1 ↔ ∃ j, j < k ∧ μ.2 36 0 (11 * s + j) = w))
    (fun v h y hy => by
      refine run [6] 60 6 _ _ _ _ ?_
      refine ⟨hb, fun _ => ?_, fun q => absurd (by rw [ek, hy]; exact Int32.le_refl _) q⟩
      refine ⟨fun hv => ?_, fun hv => ?_⟩
      · exact ⟨rfl, rfl, Nat.le_refl _, Nat.le_refl _, rfl, Or.inl ⟨rfl, h.2.mp (zn_or01 h.1 hv)⟩⟩
      · have e1 : (11 : Int32) * x + μ.1 35 0 x.toNatClampNeg = nI (11 * s + mt_K μ s) := by rw [ek, hx, zn_11, nI_add]
        have e2 : μ.1 35 0 x.toNatClampNeg + 1 = nI (mt_K μ s + 1) := by rw [ek]; exact nI_1 _
        have hno : ∀ j, j < mt_K μ s → ¬ μ.2 36 0 (11 * s + j) = w := fun j hj z => by
          have := h.2.mpr ⟨j, hj, z⟩
          rw [hv] at this
          exact absurd this (by decide)
        have e3 : za_u μ.1 35 0 x.toNatClampNeg (μ.1 35 0 x.toNatClampNeg + 1) 35 0 x.toNatClampNeg = nI (mt_K μ s + 1) := by rw [za_u_same, e2]
        refine ⟨hb, zn_i e1 (by omega) (by decide), hb, hb, hb, fun hq => ?_, fun hq => ?_⟩
        · refine ⟨Or.inl rfl, rfl, rfl, Nat.le_refl _, Nat.le_refl _, rfl, Or.inr ⟨?_, hno⟩⟩
          unfold mt_new
          have hq : nI (mt_K μ s + 1) ≤ (10 : Int32) := by rw [← e3]; exact hq
          rw [zn_c e1 (by omega), e2, hcx, if_neg (fun z => by rw [z] at hq; exact absurd hq (by decide))]
        · refine ⟨Or.inr rfl, rfl, rfl, Nat.le_refl _, Nat.le_refl _, rfl, Or.inr ⟨?_, hno⟩⟩
          unfold mt_new
          have hq : ¬ nI (mt_K μ s + 1) ≤ (10 : Int32) := by rw [← e3]; exact hq
          rw [zn_c e1 (by omega), e2, hcx, if_pos (Classical.byContradiction fun z => hq (nI_le (b := 10) (by omega) (by decide)))])
    (fun k v hk h ih y hy => by
      have e1 : (11 : Int32) * x + y = nI (11 * s + k) := by rw [hx, hy, zn_11, nI_add]
      have hc1 : ((11 : Int32) * x + y).toNatClampNeg = 11 * s + k := zn_c e1 (by omega)
      have yes : (∃ j, j < k + 1 ∧ μ.2 36 0 (11 * s + j) = w) → ZZ 6 [some (za_r 30 0), some (za_i x), some (za_l w), none, some (za_i 1), some (za_i (y + 1))] [] μ (0, 0) := fun q => ih 1 ⟨Or.inr rfl, fun _ => q, fun _ => rfl⟩ _ (zn_s hy)
      refine run [6] 60 6 _ _ _ _ ?_
      refine ⟨hb, fun q => absurd q (zn_ge hy ek hk (by omega)), fun _ => ⟨fun hv => ?_, fun hv => ⟨zn_i e1 (by omega) (by decide), fun hz => ?_, fun hz => ?_⟩⟩⟩
      · obtain ⟨j, z1, z2⟩ := h.2.mp (zn_or01 h.1 hv)
        exact yes ⟨j, by omega, z2⟩
      · rw [hc1, lg_cmp_eq] at hz
        refine ih 0 ⟨Or.inl rfl, fun q => absurd q (by decide), fun ⟨j, z1, z2⟩ => ?_⟩ _ (zn_s hy)
        by_cases e : j = k
        · subst e; exact absurd z2 hz
        · have := h.2.mpr ⟨j, by omega, z2⟩
          rw [hv] at this
          exact absurd this (by decide)
      · rw [hc1, lg_cmp_eq] at hz
        exact yes ⟨k, by omega, hz⟩)
  refine run [6] 60 0 _ _ _ _ ?_
  exact loop 0 0 (Nat.zero_le _) ⟨Or.inl rfl, fun q => absurd q (by decide), fun ⟨j, q, _⟩ => absurd q (Nat.not_lt_zero j)⟩ 0 rfl
/-- how many choices an occurrence has -/
def mt_n (g : gq_G) (p o : Nat) (K : Nat → Nat) : Nat := if o ≤ gq_m g p then K (gq_sy g p o) else 1
theorem ct_M_countOf {Γ : zk_G} {d p o : Nat} {x z : Int32} {μ : za_M} {g : gq_G} (hg : gq_ok g) (hM : gq_M g μ) (hok : mt_ok μ) (hx : x = nI p) (hz : z = nI o) (ho4 : o < 4) (hp : p < gq_np g) (hd : 1 ≤ d) : zk_Ct zt Γ zm_M_countOf d 0 0 [za_r 30 0, za_i x, za_i z] μ (fun r μ' => r = some (za_i (nI (mt_n g p o (mt_K μ)))) ∧ μ' = μ) (fun _ _ => False) := by
  have hp16 : p < 16 := Nat.lt_of_lt_of_le hp hg.2.1
  obtain ⟨o1, o2⟩ := gq_occ hM hx hz hp hp16 ho4
  refine zs_M_countOf (Nat.le_of_ble_eq_true rfl) hd (fun ZZ run => ?_)
  refine run [] 60 0 _ _ _ _ ?_
  unfold mt_n
  by_cases h : o ≤ gq_m g p
  · rw [if_pos h] at o2
    have hs8 := gq_sy8 hg hp h
    refine ⟨o1, fun _ => ⟨zn_i o2 hs8 (by decide), ?_⟩, fun q => absurd (by rw [o2]; exact Int32.not_lt.mp (gq_neg _ (by omega))) q⟩
    rw [zn_c o2 (by omega), (hok.1 _ hs8).1, if_pos h]
    exact ⟨rfl, Or.inl rfl, Nat.le_refl _, Nat.le_refl _, rfl, rfl⟩
  · rw [if_neg h] at o2
    refine ⟨o1, fun q => absurd q (by rw [o2]; decide), fun _ => ?_⟩
    rw [if_neg h]
    exact ⟨rfl, Or.inl rfl, Nat.le_refl _, Nat.le_refl _, rfl, rfl⟩
/-- steps with the graphs of the parts below n laid -/
def gr_En (g : gq_G) (p : Nat) (c : Nat → gr_T) (n x y : Nat) : Prop := x < 32 ∧ y < 32 ∧ (bt (gq_nd g p x) y = true ∨ (1 ≤ x / 8 ∧ x / 8 < n ∧ x / 8 ≤ gq_m g p ∧ y / 8 = x / 8 ∧ c (x / 8) (x % 8) (y % 8) = true))
theorem gr_En4 {g : gq_G} (hg : gq_ok g) {p : Nat} (hp : p < gq_np g) (c : Nat → gr_T) (x y : Nat) : gr_En g p c 4 x y ↔ gr_E g p c x y := by
  have hm := (hg.2.2.2.2.1 p hp).1
  unfold gr_En gr_E
  constructor
  · rintro ⟨h1, h2, h3 | ⟨a, b, d, e⟩⟩
    · exact ⟨h1, h2, Or.inl h3⟩
    · exact ⟨h1, h2, Or.inr ⟨a, d, e⟩⟩
  · rintro ⟨h1, h2, h3 | ⟨a, d, e⟩⟩
    · exact ⟨h1, h2, Or.inl h3⟩
    · exact ⟨h1, h2, Or.inr ⟨a, by omega, d, e⟩⟩
theorem gr_Ens {g : gq_G} {p o : Nat} (ho1 : 1 ≤ o) (ho : o < 4) (hle : o ≤ gq_m g p) {c : Nat → gr_T} {w : Int64} (hw : c o = mo_g w) {r r' : Nat → Int32} (hr : ∀ x y, x < 32 → (bt (r x) y = true ↔ gr_En g p c o x y)) (hr' : ∀ i, i < 32 → r' i = mo_ag r o w 6 i) (x y : Nat) (hx : x < 32) : bt (r' x) y = true ↔ gr_En g p c (o + 1) x y := by
  rw [hr' x hx, mo_ag_bt ho, hr x y hx, ← hw]
  unfold gr_En
  constructor
  · rintro (⟨h1, h2, h3 | ⟨a, b, d, e⟩⟩ | ⟨a, b, d⟩)
    · exact ⟨h1, h2, Or.inl h3⟩
    · exact ⟨h1, h2, Or.inr ⟨a, by omega, d, e⟩⟩
    · exact ⟨hx, by omega, Or.inr ⟨by omega, by omega, by omega, by omega, by rw [a]; exact d⟩⟩
  · rintro ⟨h1, h2, h3 | ⟨a, b, d, e, f⟩⟩
    · exact Or.inl ⟨h1, h2, Or.inl h3⟩
    · by_cases q : x / 8 = o
      · exact Or.inr ⟨q, by omega, by rw [← q]; exact f⟩
      · exact Or.inl ⟨h1, h2, Or.inr ⟨a, by omega, d, e, f⟩⟩
theorem gr_Enk {g : gq_G} {p o : Nat} (hle : ¬ o ≤ gq_m g p) {c : Nat → gr_T} {r : Nat → Int32} (hr : ∀ x y, x < 32 → (bt (r x) y = true ↔ gr_En g p c o x y)) (x y : Nat) (hx : x < 32) : bt (r x) y = true ↔ gr_En g p c (o + 1) x y := by
  rw [hr x y hx]
  unfold gr_En
  constructor
  · rintro ⟨h1, h2, h3 | ⟨a, b, d, e⟩⟩
    · exact ⟨h1, h2, Or.inl h3⟩
    · exact ⟨h1, h2, Or.inr ⟨a, by omega, d, e⟩⟩
  · rintro ⟨h1, h2, h3 | ⟨a, b, d, e⟩⟩
    · exact ⟨h1, h2, Or.inl h3⟩
    · exact ⟨h1, h2, Or.inr ⟨a, by omega, d, e⟩⟩
/-- the head's graph is the head's graph -/
theorem mo_hg_is {g : gq_G} (hg : gq_ok g) {p : Nat} (hp : p < gq_np g) {c : Nat → gr_T} {r : Nat → Int32} (hr : ∀ x y, x < 32 → (bt (r x) y = true ↔ gr_P g p c x y)) : gr_is g p c (mo_g (mo_hg r (gq_dn g (gq_sy g p 0)) (gq_at g (gq_sy g p 0)))) ∧ mo_hz (mo_hg r (gq_dn g (gq_sy g p 0)) (gq_at g (gq_sy g p 0))) := by
  have hsn : gq_sy g p 0 < gq_ns g := (hg.2.2.2.2.1 p hp).2 0 (Nat.zero_le _)
  obtain ⟨hat6, hdb⟩ := hg.2.2.1 _ hsn
  have hdn : ∀ b, bt (gq_dn g (gq_sy g p 0)) b = true → b < 6 := fun b q => by have := hdb b q; omega
  refine ⟨fun a b => ?_, mo_hg_hz r hdn hat6⟩
  unfold mo_g
  rw [Bool.and_eq_true, Bool.and_eq_true, decide_eq_true_eq, decide_eq_true_eq]
  constructor
  · rintro ⟨h1, h2, h3⟩
    rw [mo_hg_bl r hdn _ hat6 _ (by omega), show (6 * a + b) / 6 = a by omega, show (6 * a + b) % 6 = b by omega, Bool.and_eq_true, Bool.and_eq_true, Bool.and_eq_true] at h3
    exact ⟨by omega, by omega, (hr a b (by omega)).mp h3.2.2.1⟩
  · rintro ⟨h1, h2, h3⟩
    obtain ⟨q1, q2, q3, q4, q5⟩ := gr_b6 hg hp h1 h2 h3
    refine ⟨q1, q2, ?_⟩
    rw [mo_hg_bl r hdn _ hat6 _ (by omega), show (6 * a + b) / 6 = a by omega, show (6 * a + b) % 6 = b by omega, Bool.and_eq_true, Bool.and_eq_true, Bool.and_eq_true, decide_eq_true_eq, q4]
    exact ⟨q3, rfl, (hr a b (by omega)).mpr h3, q5⟩
end
section
/-! the reference: put -/
def mp_S (b j : Nat) : Prop := (b = 30 ∨ b = 35 ∨ b = 36 ∨ b = 37 ∨ b = 38) ∧ j = 0
def mp_b (μ μ1 : za_M) : Prop := zq_fr mp_S μ μ1 ∧ ∀ f, f ≠ 8 → f ≠ 9 → μ1.1 30 0 f = μ.1 30 0 f
theorem mp_rf {μ : za_M} : mp_b μ μ := ⟨zq_rf, fun _ _ _ => rfl⟩
theorem mp_tr {a b c : za_M} (h1 : mp_b a b) (h2 : mp_b b c) : mp_b a c := ⟨zq_tr h1.1 h2.1, fun f x y => (h2.2 f x y).trans (h1.2 f x y)⟩
theorem mp_S30 : ¬ mp_S 31 0 ∧ ¬ mp_S 32 0 ∧ ¬ mp_S 33 0 ∧ ¬ mp_S 34 0 := by unfold mp_S; decide
theorem mp_M {g : gq_G} {μ μ1 : za_M} (hM : gq_M g μ) (h : mp_b μ μ1) : gq_M g μ1 := gq_M_fr hM h.1 mp_S30.1 mp_S30.2.1 mp_S30.2.2.1 mp_S30.2.2.2 (h.2 1 (by decide) (by decide)) (h.2 4 (by decide) (by decide))
theorem mp_38 {μ μ1 : za_M} (h : zq_fr (fun b j => b = 38 ∧ j = 0) μ μ1) : mp_b μ μ1 := ⟨zq_up h (fun _ _ q => ⟨Or.inr (Or.inr (Or.inr (Or.inr q.1))), q.2⟩), fun f _ _ => by rw [h.1 30 0 (by decide)]⟩
theorem mp_u {μ μ1 : za_M} (h : mp_b μ μ1) {f : Nat} (hf : f = 8 ∨ f = 9) (x : Int32) : mp_b μ (za_u μ1.1 30 0 f x, μ1.2) := by
  refine ⟨zq_u h.1 ⟨Or.inl rfl, rfl⟩, fun f' a b => ?_⟩
  dsimp only
  rw [za_u_i (by omega)]
  exact h.2 f' a b
set_option maxHeartbeats 8000000 in
theorem ct_M_put {Γ : zk_G} {d p : Nat} {x i1 i2 i3 : Int32} {idx : Nat → Nat} {μ : za_M} {g : gq_G} (hg : gq_ok g) (hM : gq_M g μ) (hok : mt_ok μ) (hso : tb_so g (mt_K μ) (mt_T μ) (mt_C μ)) (h10 : ∀ s, s < 8 → mt_K μ s ≤ 10) (h8 : μ.1 30 0 8 = 0) (hx : x = nI p) (hi1 : i1 = nI (idx 1)) (hi2 : i2 = nI (idx 2)) (hi3 : i3 = nI (idx 3)) (hin : tb_in g p idx (mt_K μ)) (hp : p < gq_np g) (hd : 3 ≤ d) : zk_Ct zt Γ zm_M_put d 0 0 [za_r 30 0, za_i x, za_i i1, za_i i2, za_i i3] μ
    (fun r μ' => r = none ∧ mt_ok μ' ∧ tb_so g (mt_K μ') (mt_T μ') (mt_C μ') ∧ tb_le (mt_K μ) (mt_T μ) (mt_C μ) (mt_K μ') (mt_T μ') (mt_C μ') ∧ tb_tr g p idx (mt_K μ') (mt_T μ') (mt_C μ') ∧ (μ'.1 30 0 8 = 1 → gr_G g) ∧ (μ'.1 30 0 8 = 0 → ∀ s, s < 8 → mt_K μ' s ≤ 10) ∧ μ'.1 37 0 = μ.1 37 0 ∧ mp_b μ μ') (fun _ _ => False) := by
  have hp16 : p < 16 := Nat.lt_of_lt_of_le hp hg.2.1
  have hm := (hg.2.2.2.2.1 p hp).1
  have hs8 : gq_sy g p 0 < 8 := gq_sy8 hg hp (Nat.zero_le _)
  have e4 : (4 : Int32) * x = nI (4 * p) := by rw [hx]; exact pk_mul 4 p
  refine zs_M_put (Nat.le_of_ble_eq_true rfl) (by omega) (fun ZZ run => ?_)
  generalize hc : tb_c g p idx (mt_T μ) = c
  -- the head's graph is taken
  have h146 : ∀ (μ3 : za_M) (v : Int32), zq_fr (fun b j => b = 38 ∧ j = 0) μ μ3 → (∀ x y, x < 32 → (bt (μ3.1 38 0 x) y = true ↔ gr_P g p c x y)) → (v = 0 ∨ v = 1) → (v = 1 ↔ (mt_C μ ∨ gr_ci g p c)) → ZZ 146 [some (za_r 30 0), some (za_i x), some (za_i i1), some (za_i i2), some (za_i i3), some (za_i ((4 : Int32) * x))] [] (za_u μ3.1 30 0 9 v, μ3.2) (0, 0) := by
    intro μ3 v f3 hr hv hv1
    have b4 : mp_b μ (za_u μ3.1 30 0 9 v, μ3.2) := mp_u (mp_38 f3) (Or.inr rfl) v
    have hM4 := mp_M hM b4
    obtain ⟨o1, o2⟩ := gq_occ0 hM4 hx hp hp16
    refine run [] 60 146 _ _ _ _ ?_
    refine ⟨o1, ?_⟩
    refine ⟨d - 1, 0, 0, _, _, by omega, Nat.le_refl _, Nat.le_refl _, ct_M_headGraph hg hM4 hx hp (by omega), ?_, fun _ _ h => h.elim⟩
    rintro r μ5 ⟨rfl, rfl⟩
    have a38 : za_u μ3.1 30 0 9 v 38 0 = μ3.1 38 0 := za_u_b (by decide)
    have a35 : za_u μ3.1 30 0 9 v 35 0 = μ.1 35 0 := by rw [za_u_b (show (35 : Nat) ≠ 30 by decide), f3.1 35 0 (by decide)]
    have a37 : za_u μ3.1 30 0 9 v 37 0 = μ.1 37 0 := by rw [za_u_b (show (37 : Nat) ≠ 30 by decide), f3.1 37 0 (by decide)]
    have a36 : μ3.2 36 0 = μ.2 36 0 := f3.2 36 0 (by decide)
    obtain ⟨hG, hz⟩ := mo_hg_is hg hp hr
    generalize hw : mo_hg (μ3.1 38 0) (gq_dn g (gq_sy g p 0)) (gq_at g (gq_sy g p 0)) = w at hG hz
    have hK : mt_K (za_u μ3.1 30 0 9 v, μ3.2) = mt_K μ := by funext s; unfold mt_K; dsimp only; rw [a35]
    have hT : mt_T (za_u μ3.1 30 0 9 v, μ3.2) = mt_T μ := by funext s i; unfold mt_T; dsimp only; rw [a36]
    have hk10 := h10 _ hs8
    refine ⟨d - 1, 0, 0, _, _, by omega, Nat.le_refl _, Nat.le_refl _, ct_M_takeGraph (s := gq_sy g p 0) o2 hs8 (by rw [hK]; dsimp only; rw [a35]; exact (hok.1 _ hs8).1) (by rw [hK]; exact hk10) (by omega), ?_, fun _ _ h => h.elim⟩
    rintro r μ6 ⟨rfl, hor⟩
    dsimp only at hor
    rw [a38, hw, hK, a36] at hor
    rcases hor with ⟨rfl, j, hj1, hj2⟩ | ⟨rfl, hno⟩
    · have hC' : mt_C (za_u μ3.1 30 0 9 v, μ3.2) ↔ (mt_C μ ∨ gr_ci g p (tb_c g p idx (mt_T μ))) := by
        unfold mt_C
        dsimp only
        rw [za_u_same, hc]
        exact hv1
      have key := tb_tk (K' := mt_K (za_u μ3.1 30 0 9 v, μ3.2)) (T' := mt_T (za_u μ3.1 30 0 9 v, μ3.2)) hg hp hso hin (by rw [hc]; exact hG) hC' (by
        rw [hK, hT]
        refine ⟨fun _ _ _ => rfl, fun _ _ _ _ => rfl, Or.inl ⟨rfl, j, hj1, ?_⟩⟩
        unfold mt_T
        rw [hj2])
      refine ⟨rfl, rfl, Nat.le_refl _, Nat.le_refl _, rfl, ⟨?_, ?_, ?_⟩, key.1, key.2.1, key.2.2, ?_, ?_, a37, b4⟩
      · intro s hs
        rw [hK]
        dsimp only
        rw [a35, a36]
        exact hok.1 s hs
      · dsimp only
        rw [za_u_same]
        exact hv
      · dsimp only
        rw [za_u_i (show (8 : Nat) ≠ 9 by decide), f3.1 30 0 (by decide)]
        exact Or.inl h8
      · intro q
        dsimp only at q
        rw [za_u_i (show (8 : Nat) ≠ 9 by decide), f3.1 30 0 (by decide), h8] at q
        exact absurd q (by decide)
      · intro _
        rw [hK]
        exact h10
    · generalize hμ4 : ((za_u μ3.1 30 0 9 v, μ3.2) : za_M) = μ4 at hK hT b4
      have c35 : μ4.1 35 0 = μ.1 35 0 := by rw [← hμ4]; exact a35
      have c36 : μ4.2 36 0 = μ.2 36 0 := by rw [← hμ4]; exact a36
      have c37 : μ4.1 37 0 = μ.1 37 0 := by rw [← hμ4]; exact a37
      have c9 : μ4.1 30 0 9 = v := by rw [← hμ4]; dsimp only; rw [za_u_same]
      have n35 : ∀ s, (mt_new μ4 (gq_sy g p 0) w).1 35 0 s = if s = gq_sy g p 0 then nI (mt_K μ (gq_sy g p 0) + 1) else μ.1 35 0 s := fun s => by
        unfold mt_new
        dsimp only
        rw [za_u_b (show (35 : Nat) ≠ 30 by decide), hK]
        by_cases e : s = gq_sy g p 0
        · rw [if_pos e, e, za_u_same]
        · rw [if_neg e, za_u_i e, c35]
      have n36 : ∀ i, (mt_new μ4 (gq_sy g p 0) w).2 36 0 i = if i = 11 * gq_sy g p 0 + mt_K μ (gq_sy g p 0) then w else μ.2 36 0 i := fun i => by
        unfold mt_new
        dsimp only
        rw [hK]
        by_cases e : i = 11 * gq_sy g p 0 + mt_K μ (gq_sy g p 0)
        · rw [if_pos e, e, za_u_same]
        · rw [if_neg e, za_u_i e, c36]
      have n9 : (mt_new μ4 (gq_sy g p 0) w).1 30 0 9 = v := by
        unfold mt_new
        dsimp only
        rw [za_u_i (show (9 : Nat) ≠ 8 by decide), za_u_b (show (30 : Nat) ≠ 35 by decide), c9]
      have n8 : (mt_new μ4 (gq_sy g p 0) w).1 30 0 8 = if mt_K μ (gq_sy g p 0) = 10 then 1 else 0 := by
        unfold mt_new
        dsimp only
        rw [za_u_same, hK]
      have nK : ∀ s, s < 8 → mt_K (mt_new μ4 (gq_sy g p 0) w) s = if s = gq_sy g p 0 then mt_K μ (gq_sy g p 0) + 1 else mt_K μ s := fun s hs => by
        unfold mt_K
        rw [n35]
        by_cases e : s = gq_sy g p 0
        · rw [if_pos e, if_pos e, zn_cl (by omega)]; rfl
        · rw [if_neg e, if_neg e]
      have nT : ∀ s i, s < 8 → i < mt_K μ s → mt_T (mt_new μ4 (gq_sy g p 0) w) s i = mt_T μ s i := fun s i hs hi => by
        have := h10 s hs
        unfold mt_T
        rw [n36, if_neg]
        intro e
        have e2 : s = gq_sy g p 0 := by omega
        subst e2
        omega
      have hC' : mt_C (mt_new μ4 (gq_sy g p 0) w) ↔ (mt_C μ ∨ gr_ci g p (tb_c g p idx (mt_T μ))) := by
        unfold mt_C at hv1 ⊢
        rw [n9, hc]
        exact hv1
      have key := tb_tk (K' := mt_K (mt_new μ4 (gq_sy g p 0) w)) (T' := mt_T (mt_new μ4 (gq_sy g p 0) w)) hg hp hso hin (by rw [hc]; exact hG) hC' (by
        refine ⟨fun s hs e => by rw [nK s hs, if_neg e], nT, Or.inr ⟨by rw [nK _ hs8, if_pos rfl], ?_, fun j hj e => ?_⟩⟩
        · unfold mt_T
          rw [n36, if_pos rfl]
        · unfold mt_T at e
          exact hno j hj ((mo_g_inj ((hok.1 _ hs8).2.2 j hj) hz).mp e))
      refine ⟨rfl, rfl, Nat.le_refl _, Nat.le_refl _, rfl, ⟨?_, ?_, ?_⟩, key.1, key.2.1, key.2.2, ?_, ?_, ?_, ?_⟩
      · intro s hs
        rw [nK s hs, n35]
        by_cases e : s = gq_sy g p 0
        · rw [if_pos e, if_pos e]
          refine ⟨rfl, by omega, fun i hi => ?_⟩
          rw [n36]
          split
          · exact hz
          · rename_i e2
            rw [e] at e2 ⊢
            exact (hok.1 _ hs8).2.2 i (by omega)
        · rw [if_neg e, if_neg e]
          refine ⟨(hok.1 s hs).1, (hok.1 s hs).2.1, fun i hi => ?_⟩
          rw [n36]
          split
          · exact hz
          · exact (hok.1 s hs).2.2 i hi
      · rw [n9]
        exact hv
      · rw [n8]
        split
        · exact Or.inr rfl
        · exact Or.inl rfl
      · intro q
        rw [n8] at q
        by_cases e : mt_K μ (gq_sy g p 0) = 10
        · refine tb_11 key.1 hs8 ?_
          rw [nK _ hs8, if_pos rfl]
          omega
        · rw [if_neg e] at q
          exact absurd q (by decide)
      · intro q s hs
        rw [n8] at q
        rw [nK s hs]
        by_cases e : mt_K μ (gq_sy g p 0) = 10
        · rw [if_pos e] at q
          exact absurd q (by decide)
        · have := h10 s hs
          split <;> omega
      · unfold mt_new
        dsimp only
        rw [za_u_b (show (37 : Nat) ≠ 30 by decide), za_u_b (show (37 : Nat) ≠ 35 by decide), c37]
      · refine ⟨zq_uL (zq_u (zq_u b4.1 ⟨by decide, rfl⟩) ⟨by decide, rfl⟩) ⟨by decide, rfl⟩, fun f a b => ?_⟩
        unfold mt_new
        dsimp only
        rw [za_u_i a, za_u_b (show (30 : Nat) ≠ 35 by decide)]
        exact b4.2 f a b
  have h119 : ∀ (μ1 : za_M), zq_fr (fun b j => b = 38 ∧ j = 0) μ μ1 → (∀ x y, x < 32 → (bt (μ1.1 38 0 x) y = true ↔ gr_En g p c 4 x y)) → ZZ 119 [some (za_r 30 0), some (za_i x), some (za_i i1), some (za_i i2), some (za_i i3), some (za_i ((4 : Int32) * x))] [] μ1 (0, 0) := by
    intro μ1 f1 hr
    have hr : ∀ x y, x < 32 → (bt (μ1.1 38 0 x) y = true ↔ gr_E g p c x y) := fun x y hx => (hr x y hx).trans (gr_En4 hg hp c x y)
    refine run [146] 60 119 _ _ _ _ ?_
    refine ⟨d - 1, 0, 0, _, _, by omega, Nat.le_refl _, Nat.le_refl _, ct_M_follow (by omega), ?_, fun _ _ h => h.elim⟩
    rintro r μ3 ⟨rfl, w1, w2⟩
    have f3 := zq_tr f1 w2
    have hP : ∀ x y, x < 32 → (bt (μ3.1 38 0 x) y = true ↔ gr_P g p c x y) := fun x y hx => by
      rw [w1 x hx]
      exact (mo_f_is hr 32 (Nat.le_refl _) x y hx).trans (pq_all (fun v a b h1 _ => h1.2.1) x y).symm
    have hci : mo_c (μ3.1 38 0) 32 ↔ gr_ci g p c := by
      refine Iff.trans ?_ (mo_c_is (r := μ1.1 38 0) (fun a b h => ⟨h.1, h.2.1⟩) hr)
      exact ⟨fun ⟨i, z1, z2⟩ => ⟨i, z1, by rw [← w1 i z1]; exact z2⟩, fun ⟨i, z1, z2⟩ => ⟨i, z1, by rw [w1 i z1]; exact z2⟩⟩
    have e9 : μ3.1 30 0 9 = μ.1 30 0 9 := by rw [f3.1 30 0 (by decide)]
    have hC9 : mt_C μ ↔ μ3.1 30 0 9 = 1 := by rw [e9]; exact Iff.rfl
    refine ⟨fun hq => ⟨Or.inr rfl, ?_⟩, fun hq => ?_⟩
    · exact h146 μ3 1 f3 hP (Or.inr rfl) ⟨fun _ => Or.inl (hC9.mpr (zn_or01 (by rw [e9]; exact hok.2.1) hq)), fun _ => rfl⟩
    · refine ⟨d - 1, 0, 0, _, _, by omega, Nat.le_refl _, Nat.le_refl _, ct_M_hasCircle (by omega), ?_, fun _ _ h => h.elim⟩
      rintro r μ8 ⟨⟨v2, rfl, hv2, hv3⟩, rfl⟩
      refine ⟨fun hq2 => ⟨Or.inl rfl, ?_⟩, fun hq2 => ⟨Or.inr rfl, ?_⟩⟩
      · refine h146 μ8 0 f3 hP (Or.inl rfl) ⟨fun q => absurd q (by decide), fun q => q.elim (fun q => absurd ((hC9.mp q).symm.trans hq) (by decide)) (fun q => ?_)⟩
        have := hv3.mpr (hci.mpr q)
        rw [hq2] at this
        exact absurd this (by decide)
      · exact h146 μ8 1 f3 hP (Or.inr rfl) ⟨fun _ => Or.inr (hci.mp (hv3.mp (zn_or01 hv2 hq2))), fun _ => rfl⟩
  have h82 : ∀ (μ1 : za_M), zq_fr (fun b j => b = 38 ∧ j = 0) μ μ1 → (∀ x y, x < 32 → (bt (μ1.1 38 0 x) y = true ↔ gr_En g p c 3 x y)) → ZZ 82 [some (za_r 30 0), some (za_i x), some (za_i i1), some (za_i i2), some (za_i i3), some (za_i ((4 : Int32) * x))] [] μ1 (0, 0) := by
    intro μ1 f1 hr
    have hM1 := mp_M hM (mp_38 f1)
    obtain ⟨o1, o2⟩ := gq_occ hM1 hx (show (3 : Int32) = nI 3 from rfl) hp hp16 (by decide)
    refine run [119] 60 82 _ _ _ _ ?_
    by_cases hle : 3 ≤ gq_m g p
    · rw [if_pos hle] at o2
      have hsy := gq_sy8 hg hp hle
      have hix := hin 3 (by decide) hle
      have hk := h10 _ hsy
      have e1 : (11 : Int32) * μ1.1 33 0 (4 * x + 3).toNatClampNeg + i3 = nI (11 * gq_sy g p 3 + idx 3) := by rw [o2, hi3, zn_11, nI_add]
      refine ⟨o1, fun q => absurd q (by rw [o2]; exact gq_neg _ (by omega)), fun _ => ⟨o1, zn_i e1 (by omega) (by decide), ?_⟩⟩
      refine ⟨d - 1, 0, 0, _, _, by omega, Nat.le_refl _, Nat.le_refl _, ct_M_addGraph (o := 3) rfl (by decide) (by omega), ?_, fun _ _ h => h.elim⟩
      rintro r μ2 ⟨rfl, a1, a2⟩
      refine h119 μ2 (zq_tr f1 a2) (gr_Ens (by decide) (by decide) hle ?_ hr a1)
      rw [zn_c e1 (by omega), ← hc, f1.2 36 0 (by decide)]
      rfl
    · rw [if_neg hle] at o2
      exact ⟨o1, fun _ => h119 μ1 f1 (gr_Enk hle hr), fun q => absurd (by rw [o2]; decide) q⟩
  have h46 : ∀ (μ1 : za_M), zq_fr (fun b j => b = 38 ∧ j = 0) μ μ1 → (∀ x y, x < 32 → (bt (μ1.1 38 0 x) y = true ↔ gr_En g p c 2 x y)) → ZZ 46 [some (za_r 30 0), some (za_i x), some (za_i i1), some (za_i i2), some (za_i i3), some (za_i ((4 : Int32) * x))] [] μ1 (0, 0) := by
    intro μ1 f1 hr
    have hM1 := mp_M hM (mp_38 f1)
    obtain ⟨o1, o2⟩ := gq_occ hM1 hx (show (2 : Int32) = nI 2 from rfl) hp hp16 (by decide)
    refine run [82] 60 46 _ _ _ _ ?_
    by_cases hle : 2 ≤ gq_m g p
    · rw [if_pos hle] at o2
      have hsy := gq_sy8 hg hp hle
      have hix := hin 2 (by decide) hle
      have hk := h10 _ hsy
      have e1 : (11 : Int32) * μ1.1 33 0 (4 * x + 2).toNatClampNeg + i2 = nI (11 * gq_sy g p 2 + idx 2) := by rw [o2, hi2, zn_11, nI_add]
      refine ⟨o1, fun q => absurd q (by rw [o2]; exact gq_neg _ (by omega)), fun _ => ⟨o1, zn_i e1 (by omega) (by decide), ?_⟩⟩
      refine ⟨d - 1, 0, 0, _, _, by omega, Nat.le_refl _, Nat.le_refl _, ct_M_addGraph (o := 2) rfl (by decide) (by omega), ?_, fun _ _ h => h.elim⟩
      rintro r μ2 ⟨rfl, a1, a2⟩
      refine h82 μ2 (zq_tr f1 a2) (gr_Ens (by decide) (by decide) hle ?_ hr a1)
      rw [zn_c e1 (by omega), ← hc, f1.2 36 0 (by decide)]
      rfl
    · rw [if_neg hle] at o2
      exact ⟨o1, fun _ => h82 μ1 f1 (gr_Enk hle hr), fun q => absurd (by rw [o2]; decide) q⟩
  have h10a : ∀ (μ1 : za_M), zq_fr (fun b j => b = 38 ∧ j = 0) μ μ1 → (∀ x y, x < 32 → (bt (μ1.1 38 0 x) y = true ↔ gr_En g p c 1 x y)) → ZZ 10 [some (za_r 30 0), some (za_i x), some (za_i i1), some (za_i i2), some (za_i i3), some (za_i ((4 : Int32) * x))] [] μ1 (0, 0) := by
    intro μ1 f1 hr
    have hM1 := mp_M hM (mp_38 f1)
    obtain ⟨o1, o2⟩ := gq_occ hM1 hx (show (1 : Int32) = nI 1 from rfl) hp hp16 (by decide)
    refine run [46] 60 10 _ _ _ _ ?_
    by_cases hle : 1 ≤ gq_m g p
    · rw [if_pos hle] at o2
      have hsy := gq_sy8 hg hp hle
      have hix := hin 1 (by decide) hle
      have hk := h10 _ hsy
      have e1 : (11 : Int32) * μ1.1 33 0 (4 * x + 1).toNatClampNeg + i1 = nI (11 * gq_sy g p 1 + idx 1) := by rw [o2, hi1, zn_11, nI_add]
      refine ⟨o1, fun q => absurd q (by rw [o2]; exact gq_neg _ (by omega)), fun _ => ⟨o1, zn_i e1 (by omega) (by decide), ?_⟩⟩
      refine ⟨d - 1, 0, 0, _, _, by omega, Nat.le_refl _, Nat.le_refl _, ct_M_addGraph (o := 1) rfl (by decide) (by omega), ?_, fun _ _ h => h.elim⟩
      rintro r μ2 ⟨rfl, a1, a2⟩
      refine h46 μ2 (zq_tr f1 a2) (gr_Ens (by decide) (by decide) hle ?_ hr a1)
      rw [zn_c e1 (by omega), ← hc, f1.2 36 0 (by decide)]
      rfl
    · rw [if_neg hle] at o2
      exact ⟨o1, fun _ => h46 μ1 f1 (gr_Enk hle hr), fun q => absurd (by rw [o2]; decide) q⟩
  refine run [10] 60 0 _ _ _ _ ?_
  refine ⟨d - 1, 0, 0, _, _, by omega, Nat.le_refl _, Nat.le_refl _, ct_M_takeDepends hx (by omega) hp16, ?_, fun _ _ h => h.elim⟩
  rintro r μ1 ⟨rfl, t1, t2⟩
  refine h10a μ1 t2 (fun x y hx => ?_)
  rw [t1 x hx, hM.2.2.2.2 p x hp16 hx, if_pos hp]
  unfold gr_En
  refine ⟨fun q => ⟨hx, Classical.byContradiction fun z => ?_, Or.inl q⟩, fun q => q.2.2.elim id (fun q => by omega)⟩
  rw [b_big (by omega)] at q
  cases q
end
section
/-! the reference: work -/
def mt_d (μ : za_M) (i : Nat) : Nat := (μ.1 37 0 i).toNatClampNeg
def mt_dok (μ : za_M) : Prop := ∀ i, i < 48 → μ.1 37 0 i = nI (mt_d μ i) ∧ mt_d μ i ≤ 11
/-- indices of a production's three occurrences -/
def tb_ix (n : Nat → Nat) (idx : Nat → Nat) : Prop := idx 1 < n 1 ∧ idx 2 < n 2 ∧ idx 3 < n 3
theorem tb_ixin {g : gq_G} {p : Nat} {K : Nat → Nat} {idx : Nat → Nat} (hm : gq_m g p ≤ 3) (h : tb_ix (fun o => mt_n g p o K) idx) : tb_in g p idx K := by
  intro o a b
  have key : idx o < mt_n g p o K := by
    obtain ⟨h1, h2, h3⟩ := h
    rcases (show o = 1 ∨ o = 2 ∨ o = 3 by omega) with rfl | rfl | rfl
    · exact h1
    · exact h2
    · exact h3
  unfold mt_n at key
  rw [if_pos b] at key
  exact key
theorem tb_inix {g : gq_G} {p : Nat} {K : Nat → Nat} {T : Nat → Nat → gr_T} {C : Prop} {idx : Nat → Nat} (h : tb_in g p idx K) (ht : ∀ idx, tb_ix (fun o => mt_n g p o K) idx → tb_tr g p idx K T C) : tb_tr g p idx K T C := by
  have key : ∀ o, 1 ≤ o → (if o ≤ gq_m g p then idx o else 0) < mt_n g p o K := by
    intro o a
    unfold mt_n
    by_cases b : o ≤ gq_m g p
    · rw [if_pos b, if_pos b]; exact h o a b
    · rw [if_neg b, if_neg b]; exact Nat.one_pos
  have hc : ∀ o, 1 ≤ o → o ≤ gq_m g p → tb_c g p (fun o => if o ≤ gq_m g p then idx o else 0) T o = tb_c g p idx T o := by
    intro o _ b
    unfold tb_c
    dsimp only
    rw [if_pos b]
  obtain ⟨⟨j, h1, h2⟩, h3⟩ := ht (fun o => if o ≤ gq_m g p then idx o else 0) ⟨key 1 (by decide), key 2 (by decide), key 3 (by decide)⟩
  exact ⟨⟨j, h1, gr_isc hc h2⟩, fun q => h3 ((gr_cic hc).mpr q)⟩
/-- what holds while a production is worked on: B tells which indices were gone through -/
def wk_I (g : gq_G) (p : Nat) (μ : za_M) (n : Nat → Nat) (B : (Nat → Nat) → Prop) (μ1 : za_M) (v : Int32) : Prop :=
  mt_ok μ1 ∧ tb_so g (mt_K μ1) (mt_T μ1) (mt_C μ1) ∧ tb_le (mt_K μ) (mt_T μ) (mt_C μ) (mt_K μ1) (mt_T μ1) (mt_C μ1) ∧ (μ1.1 30 0 8 = 1 → gr_G g) ∧ (μ1.1 30 0 8 = 0 → ∀ s, s < 8 → mt_K μ1 s ≤ 10) ∧ μ1.1 37 0 = μ.1 37 0 ∧ mp_b μ μ1 ∧
  ((v = 0 ∨ v = 1) ∧ (v = 0 → μ1 = μ) ∧ (v = 1 → ∃ idx, tb_ix n idx ∧ (mt_d μ (3 * p) ≤ idx 1 ∨ mt_d μ (3 * p + 1) ≤ idx 2 ∨ mt_d μ (3 * p + 2) ≤ idx 3))) ∧
  (μ1.1 30 0 8 = 0 → ∀ idx, tb_ix n idx → B idx → tb_tr g p idx (mt_K μ1) (mt_T μ1) (mt_C μ1))
theorem wk_Ib {g : gq_G} {p : Nat} {μ μ1 : za_M} {n : Nat → Nat} {B B' : (Nat → Nat) → Prop} {v : Int32} (h : wk_I g p μ n B μ1 v) (hB : μ1.1 30 0 8 = 0 → ∀ idx, tb_ix n idx → B' idx → B idx) : wk_I g p μ n B' μ1 v := by
  obtain ⟨a, b, c, d, e, f, f2, i, j⟩ := h
  exact ⟨a, b, c, d, e, f, f2, i, fun q idx h1 h2 => j q idx h1 (hB q idx h1 h2)⟩
theorem zn_3 (p : Nat) : (3 : Int32) * nI p = nI (3 * p) := pk_mul 3 p
set_option maxHeartbeats 16000000 in
theorem ct_M_work {Γ : zk_G} {d p : Nat} {x : Int32} {μ : za_M} {g : gq_G} (hg : gq_ok g) (hM : gq_M g μ) (hok : mt_ok μ) (hso : tb_so g (mt_K μ) (mt_T μ) (mt_C μ)) (hdk : mt_dok μ) (h10 : ∀ s, s < 8 → mt_K μ s ≤ 10) (h8 : μ.1 30 0 8 = 0) (hx : x = nI p) (hp : p < gq_np g)
    (hdone : ∀ idx, idx 1 < mt_d μ (3 * p) → idx 2 < mt_d μ (3 * p + 1) → idx 3 < mt_d μ (3 * p + 2) → tb_ix (fun o => mt_n g p o (mt_K μ)) idx → tb_tr g p idx (mt_K μ) (mt_T μ) (mt_C μ)) (hd : 4 ≤ d) : zk_Ct zt Γ zm_M_work d 0 0 [za_r 30 0, za_i x] μ
    (fun r μ' => ∃ (v : Int32) (μ1 : za_M), r = some (za_i v) ∧ wk_I g p μ (fun o => mt_n g p o (mt_K μ)) (fun _ => True) μ1 v ∧
      μ'.2 = μ1.2 ∧ (∀ b j, ¬ b = 37 → μ'.1 b j = μ1.1 b j) ∧ (∀ j, ¬ j = 0 → μ'.1 37 j = μ1.1 37 j) ∧ (∀ i, ¬ i / 3 = p → μ'.1 37 0 i = μ1.1 37 0 i) ∧
      (∀ t, t < 3 → μ'.1 37 0 (3 * p + t) = if 0 < mt_n g p 1 (mt_K μ) ∧ 0 < mt_n g p 2 (mt_K μ) ∧ 0 < mt_n g p 3 (mt_K μ) then nI (mt_n g p (t + 1) (mt_K μ)) else 0)) (fun _ _ => False) := by
  have hp16 : p < 16 := Nat.lt_of_lt_of_le hp hg.2.1
  have hm := (hg.2.2.2.2.1 p hp).1
  have hn11 : ∀ o, mt_n g p o (mt_K μ) ≤ 10 := fun o => by
    unfold mt_n
    split
    · rename_i h; exact h10 _ (gq_sy8 hg hp h)
    · decide
  have e30 : (3 : Int32) * x = nI (3 * p) := by rw [hx, zn_3]
  have e31 : (3 : Int32) * x + 1 = nI (3 * p + 1) := by rw [e30]; exact nI_1 _
  have e32 : (3 : Int32) * x + 2 = nI (3 * p + 2) := by rw [e30, show (2 : Int32) = nI 2 from rfl, nI_add]
  have b30 : vp_in ((3 : Int32) * x) 48 := zn_i e30 (by omega) (by decide)
  have b31 : vp_in ((3 : Int32) * x + 1) 48 := zn_i e31 (by omega) (by decide)
  have b32 : vp_in ((3 : Int32) * x + 2) 48 := zn_i e32 (by omega) (by decide)
  refine zs_M_work (Nat.le_of_ble_eq_true rfl) (by omega) (fun ZZ run => ?_)
  refine run [28] 60 0 _ _ _ _ ?_
  refine ⟨d - 1, 0, 0, _, _, by omega, Nat.le_refl _, Nat.le_refl _, ct_M_countOf (o := 1) hg hM hok hx rfl (by decide) hp (by omega), ?_, fun _ _ h => h.elim⟩
  rintro r μ2 ⟨rfl, rfl⟩
  refine ⟨d - 1, 0, 0, _, _, by omega, Nat.le_refl _, Nat.le_refl _, ct_M_countOf (o := 2) hg hM hok hx rfl (by decide) hp (by omega), ?_, fun _ _ h => h.elim⟩
  rintro r μ3 ⟨rfl, rfl⟩
  refine ⟨d - 1, 0, 0, _, _, by omega, Nat.le_refl _, Nat.le_refl _, ct_M_countOf (o := 3) hg hM hok hx rfl (by decide) hp (by omega), ?_, fun _ _ h => h.elim⟩
  rintro r μ ⟨rfl, rfl⟩
  generalize hn : (fun o => mt_n g p o (mt_K μ)) = n at hdone
  have hn1 : mt_n g p 1 (mt_K μ) = n 1 := by rw [← hn]
  have hn2 : mt_n g p 2 (mt_K μ) = n 2 := by rw [← hn]
  have hn3 : mt_n g p 3 (mt_K μ) = n 3 := by rw [← hn]
  have hb1 : n 1 ≤ 10 := by rw [← hn1]; exact hn11 1
  have hb2 : n 2 ≤ 10 := by rw [← hn2]; exact hn11 2
  have hb3 : n 3 ≤ 10 := by rw [← hn3]; exact hn11 3
  have loop1 := zn_for (σ := za_M × Int32 × Option za_V × Option za_V) (N := n 1)
    (P := fun i t => ∀ a b c yi : Int32, a = nI (n 1) → b = nI (n 2) → c = nI (n 3) → yi = nI i → ZZ 28 [some (za_r 30 0), some (za_i x), some (za_i a), some (za_i b), some (za_i c), some (za_i t.2.1), some (za_i yi), t.2.2.1, t.2.2.2] [] t.1 (0, 0))
    (I := fun i t => wk_I g p μ n (fun idx => idx 1 < i) t.1 t.2.1)
    (fun t h a b c yi ha hb hc hyi => by
      have h155 : ∀ w : Int32, (w = 0 ∨ w = 1) → (w = 1 ↔ (0 < n 1 ∧ 0 < n 2 ∧ 0 < n 3)) → ZZ 155 [some (za_r 30 0), some (za_i x), some (za_i a), some (za_i b), some (za_i c), some (za_i t.2.1), some (za_i w), t.2.2.1, t.2.2.2] [] t.1 (0, 0) := by
        intro w hw hw1
        have fin : ∀ v0 v1 v2 : Int32, (∀ u, u < 3 → (if u = 0 then v0 else if u = 1 then v1 else v2) = if 0 < n 1 ∧ 0 < n 2 ∧ 0 < n 3 then nI (n (u + 1)) else 0) → ∃ (v : Int32) (μ1 : za_M), some (za_i t.2.1) = some (za_i v) ∧ wk_I g p μ n (fun _ => True) μ1 v ∧ t.1.2 = μ1.2 ∧ (∀ b j, ¬ b = 37 → za_u (za_u (za_u t.1.1 37 0 ((3 : Int32) * x).toNatClampNeg v0) 37 0 ((3 : Int32) * x + 1).toNatClampNeg v1) 37 0 ((3 : Int32) * x + 2).toNatClampNeg v2 b j = μ1.1 b j) ∧ (∀ j, ¬ j = 0 → za_u (za_u (za_u t.1.1 37 0 ((3 : Int32) * x).toNatClampNeg v0) 37 0 ((3 : Int32) * x + 1).toNatClampNeg v1) 37 0 ((3 : Int32) * x + 2).toNatClampNeg v2 37 j = μ1.1 37 j) ∧ (∀ i, ¬ i / 3 = p → za_u (za_u (za_u t.1.1 37 0 ((3 : Int32) * x).toNatClampNeg v0) 37 0 ((3 : Int32) * x + 1).toNatClampNeg v1) 37 0 ((3 : Int32) * x + 2).toNatClampNeg v2 37 0 i = μ1.1 37 0 i) ∧
            (∀ u, u < 3 → za_u (za_u (za_u t.1.1 37 0 ((3 : Int32) * x).toNatClampNeg v0) 37 0 ((3 : Int32) * x + 1).toNatClampNeg v1) 37 0 ((3 : Int32) * x + 2).toNatClampNeg v2 37 0 (3 * p + u) = if 0 < n 1 ∧ 0 < n 2 ∧ 0 < n 3 then nI (n (u + 1)) else 0) := by
          intro v0 v1 v2 hv
          rw [zn_c e30 (by omega), zn_c e31 (by omega), zn_c e32 (by omega)]
          refine ⟨t.2.1, t.1, rfl, wk_Ib h (fun _ idx q _ => q.1), rfl, fun b j q => ?_, fun j q => ?_, fun i q => ?_, fun u hu => ?_⟩
          · rw [za_u_b q, za_u_b q, za_u_b q]
          · rw [za_u_ne (fun z => q z.2), za_u_ne (fun z => q z.2), za_u_ne (fun z => q z.2)]
          · rw [za_u_i (by omega), za_u_i (by omega), za_u_i (by omega)]
          · rw [← hv u hu]
            rcases (show u = 0 ∨ u = 1 ∨ u = 2 by omega) with rfl | rfl | rfl
            · rw [za_u_i (by omega), za_u_i (by omega), Nat.add_zero, za_u_same, if_pos rfl]
            · rw [za_u_i (by omega), za_u_same, if_neg (by decide), if_pos rfl]
            · rw [za_u_same, if_neg (by decide), if_neg (by decide)]
        refine run [] 80 155 _ _ _ _ ?_
        rcases hw with rfl | rfl
        · refine ⟨fun _ => ⟨b30, fun _ => ⟨b31, fun _ => ⟨b32, ?_⟩, fun q => absurd rfl q⟩, fun q => absurd rfl q⟩, fun q => absurd rfl q⟩
          have hno : ¬ (0 < n 1 ∧ 0 < n 2 ∧ 0 < n 3) := fun z => absurd (hw1.mpr z) (by decide)
          refine ⟨rfl, Or.inr ⟨rfl, h.2.2.2.2.2.2.2.1.1⟩, Nat.le_refl _, Nat.le_refl _, ?_⟩
          rw [hn1, hn2, hn3]
          have key := fin 0 0 0 (fun u _ => by rw [if_neg hno]; split; rfl; split <;> rfl)
          rw [← hn] at key ⊢
          exact key
        · refine ⟨fun q => absurd q (by decide), fun _ => ⟨b30, fun q => absurd q (by decide), fun _ => ⟨b31, fun q => absurd q (by decide), fun _ => ⟨b32, ?_⟩⟩⟩⟩
          have hyes := hw1.mp rfl
          refine ⟨rfl, Or.inr ⟨rfl, h.2.2.2.2.2.2.2.1.1⟩, Nat.le_refl _, Nat.le_refl _, ?_⟩
          rw [hn1, hn2, hn3]
          have key := fin a b c (fun u hu => by
            rw [if_pos hyes]
            rcases (show u = 0 ∨ u = 1 ∨ u = 2 by omega) with rfl | rfl | rfl
            · rw [if_pos rfl]; exact ha
            · rw [if_neg (by decide), if_pos rfl]; exact hb
            · rw [if_neg (by decide), if_neg (by decide)]; exact hc)
          rw [← hn] at key ⊢
          exact key
      have hle0 : ∀ {k : Nat} {z : Int32}, k ≤ 10 → z = nI k → (z ≤ 0 ↔ ¬ 0 < k) := by
        intro k z hk hz
        rw [hz]
        constructor
        · intro q hk0
          exact absurd q (nI_ge hk0 (by omega))
        · intro q
          rw [show k = 0 by omega]
          exact Int32.le_refl _
      refine run [28, 155] 60 28 _ _ _ _ ?_
      refine ⟨fun _ => ?_, fun q => absurd (by rw [ha, hyi]; exact Int32.le_refl _) q⟩
      refine ⟨fun q1 => ?_, fun q1 => ⟨fun q2 => ?_, fun q2 => ⟨fun q3 => ?_, fun q3 => ?_⟩⟩⟩
      · exact h155 0 (Or.inl rfl) ⟨fun q => absurd q (by decide), fun q => absurd q.1 ((hle0 hb1 ha).mp q1)⟩
      · exact h155 0 (Or.inl rfl) ⟨fun q => absurd q (by decide), fun q => absurd q.2.1 ((hle0 hb2 hb).mp q2)⟩
      · exact h155 0 (Or.inl rfl) ⟨fun q => absurd q (by decide), fun q => absurd q.2.2 ((hle0 hb3 hc).mp q3)⟩
      · exact h155 1 (Or.inr rfl) ⟨fun _ => ⟨Classical.byContradiction fun z => q1 ((hle0 hb1 ha).mpr z), Classical.byContradiction fun z => q2 ((hle0 hb2 hb).mpr z), Classical.byContradiction fun z => q3 ((hle0 hb3 hc).mpr z)⟩, fun _ => rfl⟩)
    (fun i t hi h ih a b c yi ha hb hc hyi => by
      have loop2 := zn_for (σ := za_M × Int32 × Option za_V) (N := n 2)
        (P := fun j t => ∀ yj : Int32, yj = nI j → ZZ 37 [some (za_r 30 0), some (za_i x), some (za_i a), some (za_i b), some (za_i c), some (za_i t.2.1), some (za_i yi), some (za_i yj), t.2.2] [] t.1 (0, 0))
        (I := fun j t => wk_I g p μ n (fun idx => idx 1 < i ∨ (idx 1 = i ∧ idx 2 < j)) t.1 t.2.1)
        (fun t h yj hyj => by
          refine run [28, 37] 60 37 _ _ _ _ ?_
          refine ⟨fun _ => ?_, fun q => absurd (by rw [hb, hyj]; exact Int32.le_refl _) q⟩
          exact ih (t.1, t.2.1, some (za_i yj), t.2.2) (wk_Ib h (fun _ idx q z => by have := q.2.1; omega)) a b c _ ha hb hc (zn_s hyi))
        (fun j t hj h ih2 yj hyj => by
          have loop3 := zn_for (σ := za_M × Int32 × Unit) (N := n 3)
            (P := fun k t => ∀ yk : Int32, yk = nI k → ZZ 46 [some (za_r 30 0), some (za_i x), some (za_i a), some (za_i b), some (za_i c), some (za_i t.2.1), some (za_i yi), some (za_i yj), some (za_i yk)] [] t.1 (0, 0))
            (I := fun k t => wk_I g p μ n (fun idx => idx 1 < i ∨ (idx 1 = i ∧ (idx 2 < j ∨ (idx 2 = j ∧ idx 3 < k)))) t.1 t.2.1)
            (fun t h yk hyk => by
              refine run [37, 46] 60 46 _ _ _ _ ?_
              refine ⟨fun _ => ?_, fun q => absurd (by rw [hc, hyk]; exact Int32.le_refl _) q⟩
              exact ih2 (t.1, t.2.1, some (za_i yk)) (wk_Ib h (fun _ idx q z => by have := q.2.2; omega)) _ (zn_s hyj))
            (fun k t hk h ih3 yk hyk => by
              refine run [37, 46, 103, 117] 60 46 _ _ _ _ ?_
              refine ⟨fun q => absurd q (zn_ge hyk hc hk (by omega)), fun _ => ⟨fun h1 => ?_, fun h1 => ?_⟩⟩
              · exact ih2 (t.1, t.2.1, some (za_i yk)) (wk_Ib h (fun q => absurd q h1)) _ (zn_s hyj)
              · have hidx : tb_ix n (fun o => if o = 1 then i else if o = 2 then j else k) := ⟨hi, hj, hk⟩
                obtain ⟨j1, j2, j3, j4, j5, j6, j7, j8, j9⟩ := h
                have put : (mt_d μ (3 * p) ≤ i ∨ mt_d μ (3 * p + 1) ≤ j ∨ mt_d μ (3 * p + 2) ≤ k) → ZZ 103 [some (za_r 30 0), some (za_i x), some (za_i a), some (za_i b), some (za_i c), some (za_i t.2.1), some (za_i yi), some (za_i yj), some (za_i yk)] [] t.1 (0, 0) := by
                  intro hnew
                  have hin : tb_in g p (fun o => if o = 1 then i else if o = 2 then j else k) (mt_K t.1) := tb_inm hg hp (tb_ixin hm (by rw [hn]; exact hidx)) j3
                  refine run [46] 60 103 _ _ _ _ ?_
                  refine ⟨d - 1, 0, 0, _, _, by omega, Nat.le_refl _, Nat.le_refl _, ct_M_put (idx := fun o => if o = 1 then i else if o = 2 then j else k) hg (mp_M hM j7) j1 j2 (j5 h1) h1 hx hyi hyj hyk hin hp (by omega), ?_, fun _ _ h => h.elim⟩
                  rintro r ν ⟨rfl, p1, p2, p3, p4, p5, p6, p7, p8⟩
                  refine ih3 (ν, 1, ()) ⟨p1, p2, tb_tt j3 p3, p5, p6, p7.trans j6, mp_tr j7 p8, ⟨Or.inr rfl, fun q => absurd q (show ¬ (1 : Int32) = 0 by decide), fun _ => ⟨_, hidx, hnew⟩⟩, fun q idx q1 q2 => ?_⟩ _ (zn_s hyk)
                  by_cases e : idx 1 = i ∧ idx 2 = j ∧ idx 3 = k
                  · have hc : ∀ o, 1 ≤ o → o ≤ gq_m g p → tb_c g p (fun o => if o = 1 then i else if o = 2 then j else k) (mt_T ν) o = tb_c g p idx (mt_T ν) o := by
                      intro o oa ob
                      unfold tb_c
                      rcases (show o = 1 ∨ o = 2 ∨ o = 3 by omega) with rfl | rfl | rfl
                      · rw [e.1]; rfl
                      · rw [e.2.1]; rfl
                      · rw [e.2.2]; rfl
                    obtain ⟨⟨jj, z1, z2⟩, z3⟩ := p4
                    exact ⟨⟨jj, z1, gr_isc hc z2⟩, fun z => z3 ((gr_cic hc).mpr z)⟩
                  · exact tb_trm hg hp (tb_inm hg hp (tb_ixin hm (by rw [hn]; exact q1)) j3) p3 (j9 h1 idx q1 (by omega))
                have keep : i < mt_d μ (3 * p) → j < mt_d μ (3 * p + 1) → k < mt_d μ (3 * p + 2) → ZZ 117 [some (za_r 30 0), some (za_i x), some (za_i a), some (za_i b), some (za_i c), some (za_i t.2.1), some (za_i yi), some (za_i yj), some (za_i yk)] [] t.1 (0, 0) := by
                  intro q1 q2 q3
                  refine run [46] 60 117 _ _ _ _ ?_
                  refine ih3 (t.1, t.2.1, ()) ⟨j1, j2, j3, j4, j5, j6, j7, j8, fun q idx z1 z2 => ?_⟩ _ (zn_s hyk)
                  by_cases e : idx 1 = i ∧ idx 2 = j ∧ idx 3 = k
                  · exact tb_trm hg hp (tb_ixin hm (by rw [hn]; exact z1)) j3 (hdone idx (by omega) (by omega) (by omega) z1)
                  · exact j9 h1 idx z1 (by omega)
                have d0 : t.1.1 37 0 ((3 : Int32) * x).toNatClampNeg = nI (mt_d μ (3 * p)) := by rw [zn_c e30 (by omega), j6]; exact (hdk _ (by omega)).1
                have d1 : t.1.1 37 0 ((3 : Int32) * x + 1).toNatClampNeg = nI (mt_d μ (3 * p + 1)) := by rw [zn_c e31 (by omega), j6]; exact (hdk _ (by omega)).1
                have d2 : t.1.1 37 0 ((3 : Int32) * x + 2).toNatClampNeg = nI (mt_d μ (3 * p + 2)) := by rw [zn_c e32 (by omega), j6]; exact (hdk _ (by omega)).1
                have m0 := (hdk (3 * p) (by omega)).2
                have m1 := (hdk (3 * p + 1) (by omega)).2
                have m2 := (hdk (3 * p + 2) (by omega)).2
                refine ⟨b30, fun q => put (Or.inl ?_), fun q => ⟨b31, fun q2 => put (Or.inr (Or.inl ?_)), fun q2 => ⟨b32, fun q3 => keep ?_ ?_ ?_, fun q3 => put (Or.inr (Or.inr ?_))⟩⟩⟩
                · exact Classical.byContradiction fun z => zn_ge hyi d0 (by omega) (by omega) q
                · exact Classical.byContradiction fun z => zn_ge hyj d1 (by omega) (by omega) q2
                · exact Classical.byContradiction fun z => q (by rw [d0, hyi]; exact nI_le (by omega) (by omega))
                · exact Classical.byContradiction fun z => q2 (by rw [d1, hyj]; exact nI_le (by omega) (by omega))
                · exact Classical.byContradiction fun z => zn_nl hyk d2 (by omega) (by omega) q3
                · exact Classical.byContradiction fun z => q3 (zn_lt2 hyk d2 (by omega) (by omega)))
          refine run [37, 46] 60 37 _ _ _ _ ?_
          refine ⟨fun q => absurd q (zn_ge hyj hb hj (by omega)), fun _ => ?_⟩
          exact loop3 0 (t.1, t.2.1, ()) (Nat.zero_le _) (wk_Ib h (fun _ idx _ z => by omega)) 0 rfl)
      refine run [28, 37] 60 28 _ _ _ _ ?_
      refine ⟨fun q => absurd q (zn_ge hyi ha hi (by omega)), fun _ => ?_⟩
      exact loop2 0 (t.1, t.2.1, t.2.2.2) (Nat.zero_le _) (wk_Ib h (fun _ idx _ z => by omega)) 0 rfl)
  refine loop1 0 (μ, 0, none, none) (Nat.zero_le _) ⟨hok, hso, tb_rf, fun q => absurd (h8.symm.trans q) (by decide), fun _ => h10, rfl, mp_rf, ⟨Or.inl rfl, fun _ => rfl, fun q => absurd q (show ¬ (0 : Int32) = 1 by decide)⟩, fun _ idx _ q => absurd q (Nat.not_lt_zero _)⟩ _ _ _ 0 (by rw [hn1]) (by rw [hn2]) (by rw [hn3]) rfl
end
section
/-! the reference: findGraphs -/
def sm (f : Nat → Nat) : Nat → Nat
  | 0 => 0
  | n + 1 => sm f n + f n
theorem sm_le {f h : Nat → Nat} : ∀ n, (∀ i, i < n → f i ≤ h i) → sm f n ≤ sm h n
  | 0, _ => Nat.le_refl _
  | n + 1, q => Nat.add_le_add (sm_le n (fun i hi => q i (by omega))) (q n (by omega))
theorem sm_lt {f h : Nat → Nat} : ∀ n, (∀ i, i < n → f i ≤ h i) → (∃ i, i < n ∧ f i < h i) → sm f n < sm h n
  | 0, _, ⟨i, hi, _⟩ => by omega
  | n + 1, q, ⟨i, hi, z⟩ => by
    by_cases e : i = n
    · subst e
      exact Nat.add_lt_add_of_le_of_lt (sm_le i (fun j hj => q j (by omega))) z
    · exact Nat.add_lt_add_of_lt_of_le (sm_lt n (fun j hj => q j (by omega)) ⟨i, by omega, z⟩) (q n (by omega))
theorem sm_max {f : Nat → Nat} {c : Nat} : ∀ n, (∀ i, i < n → f i ≤ c) → sm f n ≤ c * n
  | 0, _ => Nat.zero_le _
  | n + 1, q => by
    have h1 := sm_max n (fun i hi => q i (by omega))
    have h2 := q n (by omega)
    rw [sm, Nat.mul_succ]
    omega
theorem mt_eq {μ μ' : za_M} (h35 : μ'.1 35 0 = μ.1 35 0) (h36 : μ'.2 36 0 = μ.2 36 0) (h30 : μ'.1 30 0 = μ.1 30 0) : mt_K μ' = mt_K μ ∧ mt_T μ' = mt_T μ ∧ mt_C μ' = mt_C μ ∧ (mt_ok μ → mt_ok μ') := by
  have e1 : mt_K μ' = mt_K μ := by funext s; unfold mt_K; rw [h35]
  refine ⟨e1, by funext s i; unfold mt_T; rw [h36], by unfold mt_C; rw [h30], fun h => ?_⟩
  unfold mt_ok
  rw [e1, h35, h36, h30]
  exact h
/-- closed, as the reference goes through them -/
def fg_cl (g : gq_G) (n : Nat) (μ : za_M) : Prop := ∀ q, q < n → ∀ idx, tb_ix (fun o => mt_n g q o (mt_K μ)) idx → tb_tr g q idx (mt_K μ) (mt_T μ) (mt_C μ)
def fg_I (g : gq_G) (μ μ1 : za_M) : Prop := mt_ok μ1 ∧ tb_so g (mt_K μ1) (mt_T μ1) (mt_C μ1) ∧ mt_dok μ1 ∧ (μ1.1 30 0 8 = 1 → gr_G g) ∧ (μ1.1 30 0 8 = 0 → ∀ s, s < 8 → mt_K μ1 s ≤ 10) ∧ mp_b μ μ1 ∧ μ1.1 30 0 7 = 1 ∧
  (μ1.1 30 0 8 = 0 → ∀ p, p < gq_np g → ∀ t, t < 3 → mt_d μ1 (3 * p + t) ≤ mt_n g p (t + 1) (mt_K μ1) ∧ (0 < mt_d μ1 (3 * p + t) → 0 < mt_n g p 1 (mt_K μ1) ∧ 0 < mt_n g p 2 (mt_K μ1) ∧ 0 < mt_n g p 3 (mt_K μ1))) ∧
  (μ1.1 30 0 8 = 0 → ∀ p, p < gq_np g → ∀ idx, idx 1 < mt_d μ1 (3 * p) → idx 2 < mt_d μ1 (3 * p + 1) → idx 3 < mt_d μ1 (3 * p + 2) → tb_tr g p idx (mt_K μ1) (mt_T μ1) (mt_C μ1))
def fg_R (g : gq_G) (μ μ0 : za_M) (k : Nat) (μ1 : za_M) (v : Int32) : Prop := fg_I g μ μ1 ∧ (v = 0 ∨ v = 1) ∧ (∀ i, i < 48 → mt_d μ0 i ≤ mt_d μ1 i) ∧ (v = 1 → sm (mt_d μ0) 48 < sm (mt_d μ1) 48) ∧ (v = 0 → μ1.1 30 0 8 = 0 → fg_cl g k μ1)
theorem mt_nm {g : gq_G} (hg : gq_ok g) {p : Nat} (hp : p < gq_np g) {K K' : Nat → Nat} {T T' : Nat → Nat → gr_T} {C C' : Prop} (h : tb_le K T C K' T' C') (o : Nat) : mt_n g p o K ≤ mt_n g p o K' := by
  unfold mt_n
  split
  · rename_i q; exact (h.1 _ (gq_sy8 hg hp q)).1
  · exact Nat.le_refl _
/-- a production worked on -/
theorem fg_w {g : gq_G} (hg : gq_ok g) {μ μ0 μ1 μ2 μ' : za_M} {k : Nat} {v v' w : Int32} (hk : k < gq_np g) (hI : fg_R g μ μ0 k μ1 v) (h80 : μ1.1 30 0 8 = 0) (hw : wk_I g k μ1 (fun o => mt_n g k o (mt_K μ1)) (fun _ => True) μ2 w) (h2 : μ'.2 = μ2.2) (h1 : ∀ b j, ¬ b = 37 → μ'.1 b j = μ2.1 b j) (h37j : ∀ j, ¬ j = 0 → μ'.1 37 j = μ2.1 37 j) (h37 : ∀ i, ¬ i / 3 = k → μ'.1 37 0 i = μ2.1 37 0 i)
    (h3 : ∀ t, t < 3 → μ'.1 37 0 (3 * k + t) = if 0 < mt_n g k 1 (mt_K μ1) ∧ 0 < mt_n g k 2 (mt_K μ1) ∧ 0 < mt_n g k 3 (mt_K μ1) then nI (mt_n g k (t + 1) (mt_K μ1)) else 0) (hv' : v' = 0 ∨ v' = 1) (hvw : v' = 1 ↔ (v = 1 ∨ w = 1)) : fg_R g μ μ0 (k + 1) μ' v' := by
  obtain ⟨⟨a1, a2, a3, a4, a5, a6, a7, a8, a9⟩, b1, b2, b3, b4⟩ := hI
  obtain ⟨w1, w2, w3, w4, w5, w6, w7, ⟨w8, w9, w10⟩, w11⟩ := hw
  obtain ⟨e1, e2, e3, e4⟩ := mt_eq (h1 35 0 (by decide)) (by rw [h2]) (h1 30 0 (by decide))
  have hm := (hg.2.2.2.2.1 k hk).1
  have hk16 : k < 16 := Nat.lt_of_lt_of_le hk hg.2.1
  have e8 : μ'.1 30 0 8 = μ2.1 30 0 8 := by rw [h1 30 0 (by decide)]
  have hn11 : ∀ o, mt_n g k o (mt_K μ1) ≤ 11 := fun o => by
    unfold mt_n
    split
    · rename_i h; have := a5 h80 _ (gq_sy8 hg hk h); omega
    · decide
  -- done
  have hd1 : ∀ i, i < 48 → ¬ i / 3 = k → mt_d μ' i = mt_d μ1 i := fun i _ q => by unfold mt_d; rw [h37 i q, w6]
  have hd2 : ∀ t, t < 3 → mt_d μ' (3 * k + t) = if 0 < mt_n g k 1 (mt_K μ1) ∧ 0 < mt_n g k 2 (mt_K μ1) ∧ 0 < mt_n g k 3 (mt_K μ1) then mt_n g k (t + 1) (mt_K μ1) else 0 := fun t ht => by
    unfold mt_d
    rw [h3 t ht]
    split
    · have := hn11 (t + 1); exact zn_cl (by omega)
    · rfl
  have hd3 : ∀ i, i < 48 → mt_d μ1 i ≤ mt_d μ' i := fun i hi => by
    by_cases q : i / 3 = k
    · obtain ⟨t, ht, rfl⟩ : ∃ t, t < 3 ∧ i = 3 * k + t := ⟨i % 3, by omega, by omega⟩
      have z := a8 h80 k hk t ht
      rw [hd2 t ht]
      split
      · exact z.1
      · rename_i hn
        exact Nat.le_of_not_lt (fun q => hn (z.2 q))
    · rw [hd1 i hi q]; exact Nat.le_refl _
  have hb : mp_b μ μ' := by
    refine mp_tr a6 (mp_tr w7 ⟨⟨fun b j q => ?_, fun b j q => by rw [h2]⟩, fun f _ _ => by rw [h1 30 0 (by decide)]⟩)
    by_cases e : b = 37
    · subst e
      exact h37j j (fun z => q ⟨by decide, z⟩)
    · exact h1 b j e
  have hlt : v' = 1 → sm (mt_d μ0) 48 < sm (mt_d μ') 48 := fun q => by
    rcases hvw.mp q with q | q
    · exact Nat.lt_of_lt_of_le (b3 q) (sm_le 48 hd3)
    · obtain ⟨idx, q1, q2⟩ := w10 q
      refine Nat.lt_of_le_of_lt (sm_le 48 b2) (sm_lt 48 hd3 ?_)
      have hall : 0 < mt_n g k 1 (mt_K μ1) ∧ 0 < mt_n g k 2 (mt_K μ1) ∧ 0 < mt_n g k 3 (mt_K μ1) := ⟨Nat.lt_of_le_of_lt (Nat.zero_le _) q1.1, Nat.lt_of_le_of_lt (Nat.zero_le _) q1.2.1, Nat.lt_of_le_of_lt (Nat.zero_le _) q1.2.2⟩
      obtain ⟨i1, i2, i3⟩ := q1
      dsimp only at i1 i2 i3
      rcases q2 with q2 | q2 | q2
      · refine ⟨3 * k + 0, by omega, ?_⟩
        rw [hd2 0 (by decide), if_pos hall]
        exact Nat.lt_of_le_of_lt q2 i1
      · refine ⟨3 * k + 1, by omega, ?_⟩
        rw [hd2 1 (by decide), if_pos hall]
        exact Nat.lt_of_le_of_lt q2 i2
      · refine ⟨3 * k + 2, by omega, ?_⟩
        rw [hd2 2 (by decide), if_pos hall]
        exact Nat.lt_of_le_of_lt q2 i3
  refine ⟨⟨e4 w1, by rw [e1, e2, e3]; exact w2, fun i hi => ?_, fun q => w4 (e8 ▸ q), fun q => by rw [e1]; exact w5 (e8 ▸ q), hb, ?_, fun q p hp t ht => ?_, fun q p hp idx q1 q2 q3 => ?_⟩, hv', fun i hi => Nat.le_trans (b2 i hi) (hd3 i hi), hlt, fun q0 q8 p hp idx hix => ?_⟩
  · by_cases c : i / 3 = k
    · obtain ⟨t, ht, rfl⟩ : ∃ t, t < 3 ∧ i = 3 * k + t := ⟨i % 3, by omega, by omega⟩
      rw [hd2 t ht, h3 t ht]
      have := hn11 (t + 1)
      split
      · exact ⟨rfl, this⟩
      · exact ⟨rfl, by omega⟩
    · rw [hd1 i hi c, h37 i c, w6]
      exact a3 i hi
  · rw [h1 30 0 (by decide), w7.2 7 (by decide) (by decide)]
    exact a7
  · rw [e1]
    by_cases c : p = k
    · subst c
      rw [hd2 t ht]
      split
      · rename_i hall
        exact ⟨mt_nm hg hp w3 _, fun _ => ⟨Nat.lt_of_lt_of_le hall.1 (mt_nm hg hp w3 _), Nat.lt_of_lt_of_le hall.2.1 (mt_nm hg hp w3 _), Nat.lt_of_lt_of_le hall.2.2 (mt_nm hg hp w3 _)⟩⟩
      · exact ⟨Nat.zero_le _, fun q => absurd q (Nat.lt_irrefl 0)⟩
    · have hp16 : p < 16 := Nat.lt_of_lt_of_le hp hg.2.1
      rw [hd1 _ (by omega) (by omega)]
      have z := a8 h80 p hp t ht
      exact ⟨Nat.le_trans z.1 (mt_nm hg hp w3 _), fun q => ⟨Nat.lt_of_lt_of_le (z.2 q).1 (mt_nm hg hp w3 _), Nat.lt_of_lt_of_le (z.2 q).2.1 (mt_nm hg hp w3 _), Nat.lt_of_lt_of_le (z.2 q).2.2 (mt_nm hg hp w3 _)⟩⟩
  · rw [e1, e2, e3]
    by_cases c : p = k
    · subst c
      refine w11 (e8 ▸ q) idx ?_ trivial
      have z0 := hd2 0 (by decide)
      have z1 := hd2 1 (by decide)
      have z2 := hd2 2 (by decide)
      rw [Nat.add_zero] at z0
      rw [z0] at q1
      rw [z1] at q2
      rw [z2] at q3
      by_cases hall : 0 < mt_n g p 1 (mt_K μ1) ∧ 0 < mt_n g p 2 (mt_K μ1) ∧ 0 < mt_n g p 3 (mt_K μ1)
      · rw [if_pos hall] at q1 q2 q3
        exact ⟨q1, q2, q3⟩
      · rw [if_neg hall] at q1
        exact absurd q1 (Nat.not_lt_zero _)
    · have hp16 : p < 16 := Nat.lt_of_lt_of_le hp hg.2.1
      rw [hd1 _ (by omega) (by omega)] at q1 q2 q3
      have z := a9 h80 p hp idx q1 q2 q3
      refine tb_trm hg hp (tb_ixin (hg.2.2.2.2.1 p hp).1 ⟨?_, ?_, ?_⟩) w3 z
      · exact Nat.lt_of_lt_of_le q1 (a8 h80 p hp 0 (by decide)).1
      · exact Nat.lt_of_lt_of_le q2 (a8 h80 p hp 1 (by decide)).1
      · exact Nat.lt_of_lt_of_le q3 (a8 h80 p hp 2 (by decide)).1
  · have hv0 : v = 0 := b1.resolve_right (fun z => absurd (hvw.mpr (Or.inl z)) (by rw [q0]; decide))
    have hw0 : w = 0 := w8.resolve_right (fun z => absurd (hvw.mpr (Or.inr z)) (by rw [q0]; decide))
    have hμ := w9 hw0
    rw [e1] at hix
    rw [e1, e2, e3]
    by_cases c : p = k
    · subst c
      rw [hμ] at hix
      exact w11 (e8 ▸ q8) idx hix trivial
    · rw [hμ] at hix ⊢
      exact b4 hv0 h80 p (by omega) idx hix
/-- what findGraphs leaves -/
def mt_fin (g : gq_G) (μ : za_M) : Prop := mt_ok μ ∧ tb_so g (mt_K μ) (mt_T μ) (mt_C μ) ∧ (μ.1 30 0 8 = 1 → gr_G g) ∧ (μ.1 30 0 8 = 0 → (∀ s, s < 8 → mt_K μ s ≤ 10) ∧ ∀ p, p < gq_np g → ∀ idx, tb_in g p idx (mt_K μ) → tb_tr g p idx (mt_K μ) (mt_T μ) (mt_C μ))
def mf_b (μ μ1 : za_M) : Prop := zq_fr mp_S μ μ1 ∧ ∀ f, f ≠ 7 → f ≠ 8 → f ≠ 9 → μ1.1 30 0 f = μ.1 30 0 f
set_option maxHeartbeats 8000000 in
theorem ct_M_findGraphs {Γ : zk_G} {d : Nat} {μ : za_M} {g : gq_G} (hg : gq_ok g) (hM : gq_M g μ) (hk : μ.1 30 0 7 = 0 ∨ μ.1 30 0 7 = 1 ∧ mt_fin g μ) (hd : 5 ≤ d) : zk_Ct zt Γ zm_M_findGraphs d 0 0 [za_r 30 0] μ
    (fun r μ' => r = none ∧ mt_fin g μ' ∧ μ'.1 30 0 7 = 1 ∧ mf_b μ μ') (fun _ _ => False) := by
  refine zs_M_findGraphs (Nat.le_of_ble_eq_true rfl) (by omega) (fun ZZ run => ?_)
  rcases hk with hk | ⟨hk, hfin⟩
  case inr =>
    refine run [] 20 0 _ _ _ _ ?_
    refine ⟨fun q => absurd (hk.symm.trans q) (by decide), fun _ => ?_⟩
    exact ⟨rfl, rfl, Nat.le_refl _, Nat.le_refl _, rfl, hfin, hk, zq_rf, fun _ _ _ _ => rfl⟩
  generalize hμa : ((za_u (za_u (za_u μ.1 30 0 7 1) 30 0 8 0) 30 0 9 0, μ.2) : za_M) = μa
  have f0 : mf_b μ μa := by
    rw [← hμa]
    refine ⟨zq_u (zq_u (zq_u zq_rf ⟨by decide, rfl⟩) ⟨by decide, rfl⟩) ⟨by decide, rfl⟩, fun f a b c => ?_⟩
    dsimp only
    rw [za_u_i c, za_u_i b, za_u_i a]
  have g7 : μa.1 30 0 7 = 1 := by rw [← hμa]; dsimp only; rw [za_u_i (by decide), za_u_i (by decide), za_u_same]
  have g8 : μa.1 30 0 8 = 0 := by rw [← hμa]; dsimp only; rw [za_u_i (by decide), za_u_same]
  have g9 : μa.1 30 0 9 = 0 := by rw [← hμa]; dsimp only; rw [za_u_same]
  have hMa : gq_M g μa := gq_M_fr hM f0.1 mp_S30.1 mp_S30.2.1 mp_S30.2.2.1 mp_S30.2.2.2 (f0.2 1 (by decide) (by decide) (by decide)) (f0.2 4 (by decide) (by decide) (by decide))
  have back : ∀ μ1, mp_b μa μ1 → mf_b μ μ1 := fun μ1 h => ⟨zq_tr f0.1 h.1, fun f a b c => (h.2 f b c).trans (f0.2 f a b c)⟩
  have hnp : gq_np g ≤ 16 := hg.2.1
  have wh := zn_wh (σ := za_M × Int32 × Option za_V × Option za_V)
    (P := fun t => ZZ 67 [some (za_r 30 0), some (za_i t.2.1), t.2.2.1, t.2.2.2] [] t.1 (0, 0))
    (I := fun t => fg_I g μa t.1 ∧ (t.2.1 = 0 ∨ t.2.1 = 1) ∧ (t.2.1 = 0 → t.1.1 30 0 8 = 0 → fg_cl g (gq_np g) t.1))
    (fun t => 2 * (600 - sm (mt_d t.1) 48) + t.2.1.toNatClampNeg)
    (fun t0 h ihw => by
      obtain ⟨h1, h2, h3⟩ := h
      have fin : ∀ (μ1 : za_M), fg_I g μa μ1 → (μ1.1 30 0 8 = 0 → fg_cl g (gq_np g) μ1) → (none : Option za_V) = none ∧ mt_fin g μ1 ∧ μ1.1 30 0 7 = 1 ∧ mf_b μ μ1 := by
        intro μ1 q1 q2
        refine ⟨rfl, ⟨q1.1, q1.2.1, q1.2.2.2.1, fun z => ⟨q1.2.2.2.2.1 z, fun p hp idx hin => tb_inix hin (q2 z p hp)⟩⟩, q1.2.2.2.2.2.2.1, back _ q1.2.2.2.2.2.1⟩
      refine run [67, 82] 60 67 _ _ _ _ ?_
      refine ⟨fun q => ?_, fun q => ⟨fun q2 => ?_, fun q2 => ?_⟩⟩
      · exact ⟨rfl, rfl, Nat.le_refl _, Nat.le_refl _, fin _ h1 (h3 q)⟩
      · exact ⟨rfl, rfl, Nat.le_refl _, Nat.le_refl _, fin _ h1 (fun z => absurd z q2)⟩
      · have hq1 := zn_or01 h2 q
        have loop := zn_for (σ := za_M × Int32 × Option za_V) (N := gq_np g)
          (P := fun k t => ∀ y : Int32, y = nI k → ZZ 82 [some (za_r 30 0), some (za_i t.2.1), some (za_i y), t.2.2] [] t.1 (0, 0))
          (I := fun k t => fg_R g μa t0.1 k t.1 t.2.1)
          (fun t h y hy => by
            have hM1 := mp_M hMa h.1.2.2.2.2.2.1
            refine run [67, 82] 60 82 _ _ _ _ ?_
            refine ⟨fun _ => ?_, fun q => absurd (by rw [hM1.2.1, hy]; exact Int32.le_refl _) q⟩
            refine ihw (t.1, t.2.1, some (za_i y), t.2.2) ⟨h.1, h.2.1, h.2.2.2.2⟩ ?_
            have z1 := sm_le 48 h.2.2.1
            have z2 := sm_max (c := 11) 48 (fun i hi => (h.1.2.2.1 i hi).2)
            dsimp only
            rw [hq1, show (1 : Int32).toNatClampNeg = 1 by decide]
            rcases h.2.1 with e | e
            · rw [e, zn_c0]; omega
            · have z3 := h.2.2.2.1 e
              rw [e, show (1 : Int32).toNatClampNeg = 1 by decide]
              omega)
          (fun k t hk h ih y hy => by
            have hM1 := mp_M hMa h.1.2.2.2.2.2.1
            have e8 : t.1.1 30 0 8 = 0 ∨ t.1.1 30 0 8 = 1 := h.1.1.2.2
            refine run [82] 60 82 _ _ _ _ ?_
            refine ⟨fun q => absurd q (zn_ge hy hM1.2.1 hk (by omega)), fun _ => ⟨fun z8 => ?_, fun z8 => ?_⟩⟩
            · refine ⟨fun z => ?_, fun z => ⟨fun _ => ?_, fun z2 => absurd z2 z8⟩⟩
              · exact ⟨rfl, rfl, Nat.le_refl _, Nat.le_refl _, fin _ h.1 (fun z => absurd z z8)⟩
              · exact ⟨rfl, rfl, Nat.le_refl _, Nat.le_refl _, fin _ h.1 (fun z => absurd z z8)⟩
            · refine ⟨d - 1, 0, 0, _, _, by omega, Nat.le_refl _, Nat.le_refl _, ct_M_work hg hM1 h.1.1 h.1.2.1 h.1.2.2.1 (h.1.2.2.2.2.1 z8) z8 hy hk (fun idx q1 q2 q3 _ => h.1.2.2.2.2.2.2.2.2 z8 k hk idx q1 q2 q3) (by omega), ?_, fun _ _ h => h.elim⟩
              rintro r μ' ⟨w, μ2, rfl, hw, k1, k2, k3, k4, k5⟩
              have hw01 := hw.2.2.2.2.2.2.2.1.1
              refine ⟨fun z => ?_, fun z => ⟨fun z2 => ?_, fun z2 => ?_⟩⟩
              · exact ih (μ', 1, some (za_i w)) (fg_w hg hk h z8 hw k1 k2 k3 k4 k5 (Or.inr rfl) ⟨fun _ => Or.inl (zn_or01 h.2.1 z), fun _ => rfl⟩) _ (zn_s hy)
              · exact ih (μ', 0, some (za_i w)) (fg_w hg hk h z8 hw k1 k2 k3 k4 k5 (Or.inl rfl) ⟨fun q => absurd q (show ¬ (0 : Int32) = 1 by decide), fun q => q.elim (fun q => absurd (q.symm.trans z) (by decide)) (fun q => absurd (q.symm.trans z2) (by decide))⟩) _ (zn_s hy)
              · exact ih (μ', 1, some (za_i w)) (fg_w hg hk h z8 hw k1 k2 k3 k4 k5 (Or.inr rfl) ⟨fun _ => Or.inr (zn_or01 hw01 z2), fun _ => rfl⟩) _ (zn_s hy))
        exact loop 0 (t0.1, 0, t0.2.2.2) (Nat.zero_le _) ⟨h1, Or.inl rfl, fun i _ => Nat.le_refl _, fun q => absurd q (show ¬ (0 : Int32) = 1 by decide), fun _ _ q hq => absurd hq (Nat.not_lt_zero q)⟩ 0 rfl)
  have l2 := zn_for (σ := za_M) (N := 48)
    (P := fun k μ1 => ∀ y : Int32, y = nI k → ZZ 46 [some (za_r 30 0), some (za_i y), none, none] [] μ1 (0, 0))
    (I := fun k μ1 => mp_b μa μ1 ∧ (∀ s, s < 8 → μ1.1 35 0 s = 0) ∧ μ1.1 30 0 = μa.1 30 0 ∧ ∀ i, i < k → μ1.1 37 0 i = 0)
    (fun μ1 h y hy => by
      obtain ⟨i1, i2, i3, i4⟩ := h
      have hK : ∀ s, s < 8 → mt_K μ1 s = 0 := fun s hs => by unfold mt_K; rw [i2 s hs]; rfl
      have hD : ∀ i, i < 48 → mt_d μ1 i = 0 := fun s hs => by unfold mt_d; rw [i4 s hs]; rfl
      refine run [67] 60 46 _ _ _ _ ?_
      refine ⟨fun _ => ?_, fun q => absurd (by rw [hy]; exact nI_le (Nat.le_refl 48) (by decide)) q⟩
      refine wh (μ1, 1, none, none) ⟨⟨⟨fun s hs => ?_, ?_, ?_⟩, ⟨fun s i hs hi => ?_, fun s i j hs hi => ?_, fun q => ?_⟩, fun i hi => ?_, fun q => ?_, fun _ s hs => ?_, i1, ?_, fun _ p hp t ht => ?_, fun _ p hp idx q1 => ?_⟩, Or.inr rfl, fun q => absurd q (show ¬ (1 : Int32) = 0 by decide)⟩
      · rw [hK s hs]
        exact ⟨i2 s hs, by omega, fun i hi => absurd hi (Nat.not_lt_zero i)⟩
      · dsimp only
        rw [i3, g9]; exact Or.inl rfl
      · dsimp only
        rw [i3, g8]; exact Or.inl rfl
      · rw [hK s hs] at hi; exact absurd hi (Nat.not_lt_zero i)
      · rw [hK s hs] at hi; exact absurd hi (Nat.not_lt_zero i)
      · unfold mt_C at q
        rw [i3, g9] at q
        exact absurd q (by decide)
      · rw [hD i hi]
        exact ⟨i4 i hi, by omega⟩
      · dsimp only at q
        rw [i3, g8] at q
        exact absurd q (by decide)
      · rw [hK s hs]; omega
      · dsimp only
        rw [i3, g7]
      · dsimp only
        rw [hD _ (by omega)]
        exact ⟨Nat.zero_le _, fun q => absurd q (Nat.lt_irrefl 0)⟩
      · dsimp only at q1
        rw [hD _ (by omega)] at q1
        exact absurd q1 (Nat.not_lt_zero _))
    (fun k μ1 hk h ih y hy => by
      obtain ⟨i1, i2, i3, i4⟩ := h
      have hck : y.toNatClampNeg = k := zn_c hy (by omega)
      refine run [46] 60 46 _ _ _ _ ?_
      refine ⟨fun q => absurd q (zn_ge hy rfl hk (by decide)), fun _ => ⟨zn_i hy hk (by decide), ?_⟩⟩
      refine ih _ ⟨⟨zq_u i1.1 ⟨by decide, rfl⟩, fun f a b => ?_⟩, fun s hs => ?_, ?_, fun i hi => ?_⟩ _ (zn_s hy)
      · dsimp only
        rw [za_u_b (show (30 : Nat) ≠ 37 by decide)]
        exact i1.2 f a b
      · dsimp only
        rw [za_u_b (show (35 : Nat) ≠ 37 by decide)]
        exact i2 s hs
      · dsimp only
        rw [za_u_b (show (30 : Nat) ≠ 37 by decide)]
        exact i3
      · dsimp only
        rw [hck]
        by_cases e : i = k
        · subst e; rw [za_u_same]
        · rw [za_u_i e]; exact i4 i (by omega))
  have l1 := zn_for (σ := za_M) (N := 8)
    (P := fun k μ1 => ∀ y : Int32, y = nI k → ZZ 25 [some (za_r 30 0), some (za_i y), none, none] [] μ1 (0, 0))
    (I := fun k μ1 => mp_b μa μ1 ∧ (∀ s, s < k → μ1.1 35 0 s = 0) ∧ μ1.1 30 0 = μa.1 30 0)
    (fun μ1 h y hy => by
      refine run [46] 60 25 _ _ _ _ ?_
      refine ⟨fun _ => ?_, fun q => absurd (by rw [hy]; exact nI_le (Nat.le_refl 8) (by decide)) q⟩
      exact l2 0 μ1 (Nat.zero_le _) ⟨h.1, h.2.1, h.2.2, fun i hi => absurd hi (Nat.not_lt_zero i)⟩ 0 rfl)
    (fun k μ1 hk h ih y hy => by
      obtain ⟨i1, i2, i3⟩ := h
      have hck : y.toNatClampNeg = k := zn_c hy (by omega)
      refine run [25] 60 25 _ _ _ _ ?_
      refine ⟨fun q => absurd q (zn_ge hy rfl hk (by decide)), fun _ => ⟨zn_i hy hk (by decide), ?_⟩⟩
      refine ih _ ⟨⟨zq_u i1.1 ⟨by decide, rfl⟩, fun f a b => ?_⟩, fun s hs => ?_, ?_⟩ _ (zn_s hy)
      · dsimp only
        rw [za_u_b (show (30 : Nat) ≠ 35 by decide)]
        exact i1.2 f a b
      · dsimp only
        rw [hck]
        by_cases e : s = k
        · subst e; rw [za_u_same]
        · rw [za_u_i e]; exact i2 s (by omega)
      · dsimp only
        rw [za_u_b (show (30 : Nat) ≠ 35 by decide)]
        exact i3)
  refine run [25] 60 0 _ _ _ _ ?_
  refine ⟨fun _ => ⟨Or.inr rfl, Or.inl rfl, Or.inl rfl, ?_⟩, fun q => absurd hk q⟩
  rw [← hμa] at l1
  exact l1 0 _ (Nat.zero_le _) ⟨mp_rf, fun i hi => absurd hi (Nat.not_lt_zero i), rfl⟩ 0 rfl
end
section
/-! the class: TreeGraphs, its table -/
def tg_K (μ : za_M) (s : Nat) : Nat := (μ.1 12 0 s).toNatClampNeg
def tg_g (w : Int64) : gr_T := fun a b => decide (a < 8) && (decide (b < 8) && bl w (8 * a + b))
def tg_T (μ : za_M) (s i : Nat) : gr_T := tg_g (μ.2 14 s i)
def tg_C (μ : za_M) : Prop := μ.1 11 0 2 = 1
def tg_ok (μ : za_M) : Prop := (∀ s, s < 8 → μ.1 12 0 s = nI (tg_K μ s) ∧ tg_K μ s ≤ 10) ∧ (μ.1 11 0 2 = 0 ∨ μ.1 11 0 2 = 1) ∧ (μ.1 11 0 1 = 0 ∨ μ.1 11 0 1 = 1)
def tg_so (g : gq_G) (μ : za_M) : Prop := tb_so g (tg_K μ) (tg_T μ) (tg_C μ)
def tg_le (μ μ' : za_M) : Prop := tb_le (tg_K μ) (tg_T μ) (tg_C μ) (tg_K μ') (tg_T μ') (tg_C μ')
def tg_tr (g : gq_G) (p : Nat) (idx : Nat → Nat) (μ : za_M) : Prop := tb_tr g p idx (tg_K μ) (tg_T μ) (tg_C μ)
def tg_I (g : gq_G) (μ : za_M) : Prop := tg_ok μ ∧ tg_so g μ ∧ (μ.1 11 0 1 = 1 → gr_G g)
theorem tg_g_inj {w w' : Int64} : tg_g w = tg_g w' ↔ w = w' := by
  refine ⟨fun e => bl_ext fun j hj => ?_, fun e => by rw [e]⟩
  have := congrFun (congrFun e (j / 8)) (j % 8)
  unfold tg_g at this
  rw [decide_eq_true (show j / 8 < 8 by omega), decide_eq_true (show j % 8 < 8 by omega), Bool.true_and, Bool.true_and, show 8 * (j / 8) + j % 8 = j by omega] at this
  exact this
theorem tg_rk {g : gq_G} (hg : gq_ok g) {p : Nat} (hp : p < gq_np g) {c : Nat → gr_T} {r : Nat → Int32} (hr : ∀ x y, x < 32 → (bt (r x) y = true ↔ gr_P g p c x y)) : gr_is g p c (tg_g (bd_rk r 0 6)) := by
  intro a b
  unfold tg_g
  rw [Bool.and_eq_true, Bool.and_eq_true, decide_eq_true_eq, decide_eq_true_eq]
  constructor
  · rintro ⟨h1, h2, h3⟩
    rw [cl_rk (by decide) h1 h2, Bool.and_eq_true, show 8 * 0 + a = a by omega, show 8 * 0 + b = b by omega] at h3
    exact ⟨h1, h2, (hr a b (by omega)).mp h3.2⟩
  · rintro ⟨h1, h2, h3⟩
    refine ⟨h1, h2, ?_⟩
    rw [cl_rk (by decide) h1 h2, Bool.and_eq_true, decide_eq_true_eq, show 8 * 0 + a = a by omega, show 8 * 0 + b = b by omega]
    exact ⟨(gr_b6 hg hp h1 h2 h3).1, (hr a b (by omega)).mpr h3⟩
def tk_S (b j : Nat) : Prop := ((b = 11 ∨ b = 12) ∧ j = 0) ∨ b = 14
set_option maxHeartbeats 8000000 in
theorem ct_T_keep {Γ : zk_G} {d p J : Nat} {x : Int32} {idx : Nat → Nat} {μ : za_M} {g : gq_G} (hg : gq_ok g) (hI : tg_I g μ) (h1 : μ.1 11 0 1 = 0) (hx : x = nI (gq_sy g p 0)) (hp : p < gq_np g) (hin : tb_in g p idx (tg_K μ)) (hr : ∀ x y, x < 32 → (bt (μ.1 19 J x) y = true ↔ gr_P g p (tb_c g p idx (tg_T μ)) x y)) (hc01 : μ.1 18 J 1 = 0 ∨ μ.1 18 J 1 = 1) (hci : μ.1 18 J 1 = 1 ↔ gr_ci g p (tb_c g p idx (tg_T μ))) (hd : 2 ≤ d) : zk_Ct zt Γ zm_T_keep d 0 0 [za_r 11 0, za_i x, za_r 18 J] μ
    (fun r μ' => r = none ∧ tg_I g μ' ∧ tg_le μ μ' ∧ (μ'.1 11 0 1 = 0 → tg_tr g p idx μ') ∧ zq_fr tk_S μ μ' ∧ μ'.1 11 0 0 = μ.1 11 0 0) (fun _ _ => False) := by
  obtain ⟨⟨k1, k2, k3⟩, hso, hGG⟩ := hI
  have hs8 : gq_sy g p 0 < 8 := gq_sy8 hg hp (Nat.zero_le _)
  have hcx : x.toNatClampNeg = gq_sy g p 0 := zn_c hx (by omega)
  have hb : vp_in x 8 := zn_i hx hs8 (by decide)
  have hk10 := (k1 _ hs8).2
  have hG := tg_rk hg hp hr
  refine zs_T_keep (Nat.le_of_ble_eq_true rfl) (by omega) (fun ZZ run => ?_)
  have hc' : μ.1 11 0 2 ||| μ.1 18 J 1 = 0 ∨ μ.1 11 0 2 ||| μ.1 18 J 1 = 1 := by
    rcases hc01 with e | e
    · rw [e, zn_o0 k2]; exact k2
    · rw [e, zn_o1 k2]; exact Or.inr rfl
  have hC1 : μ.1 11 0 2 ||| μ.1 18 J 1 = 1 ↔ (tg_C μ ∨ gr_ci g p (tb_c g p idx (tg_T μ))) := by
    rw [← hci]
    unfold tg_C
    rcases hc01 with e | e
    · rw [e, zn_o0 k2]
      exact ⟨Or.inl, fun q => q.elim id (fun q => absurd q (by decide))⟩
    · rw [e, zn_o1 k2]
      exact ⟨fun _ => Or.inr rfl, fun _ => rfl⟩
  generalize hμ1 : ((za_u μ.1 11 0 2 (μ.1 11 0 2 ||| μ.1 18 J 1), μ.2) : za_M) = μ1
  have f1 : zq_fr tk_S μ μ1 := by rw [← hμ1]; exact zq_u zq_rf (Or.inl ⟨Or.inl rfl, rfl⟩)
  have a12 : μ1.1 12 0 = μ.1 12 0 := by rw [← hμ1]; dsimp only; rw [za_u_b (by decide)]
  have a2 : μ1.1 11 0 2 = μ.1 11 0 2 ||| μ.1 18 J 1 := by rw [← hμ1]; dsimp only; rw [za_u_same]
  have a1 : μ1.1 11 0 1 = 0 := by rw [← hμ1]; dsimp only; rw [za_u_i (by decide), h1]
  have a0 : μ1.1 11 0 0 = μ.1 11 0 0 := by rw [← hμ1]; dsimp only; rw [za_u_i (by decide)]
  have a14 : ∀ s, μ1.2 14 s = μ.2 14 s := fun s => by rw [← hμ1]
  have a19 : μ1.1 19 J = μ.1 19 J := by rw [← hμ1]; dsimp only; rw [za_u_b (by decide)]
  have hK1 : tg_K μ1 = tg_K μ := by funext s; unfold tg_K; rw [a12]
  have hT1 : tg_T μ1 = tg_T μ := by funext s i; unfold tg_T; rw [a14]
  have hCC : tg_C μ1 ↔ (tg_C μ ∨ gr_ci g p (tb_c g p idx (tg_T μ))) := by
    rw [← hC1]
    unfold tg_C
    rw [a2]
  have ek : μ1.1 12 0 x.toNatClampNeg = nI (tg_K μ (gq_sy g p 0)) := by rw [hcx, a12]; exact (k1 _ hs8).1
  have loop := zn_for (σ := Unit) (N := tg_K μ (gq_sy g p 0))
    (P := fun k _ => ∀ y : Int32, y = nI k → ZZ 22 [some (za_r 11 0), some (za_i x), some (za_r 18 J), some (za_l (bd_rk (μ.1 19 J) 0 6)), none, some (za_i y)] [] μ1 (0, 0))
    (I := fun k _ => ∀ j, j < k → ¬ μ.2 14 (gq_sy g p 0) j = bd_rk (μ.1 19 J) 0 6)
    (fun _ h y hy => by
      refine run [22] 60 22 _ _ _ _ ?_
      refine ⟨hb, fun _ => ⟨hb, fun hq => ?_, fun hq => ?_⟩, fun q => absurd (by rw [ek, hy]; exact Int32.le_refl _) q⟩
      · -- there is room
        have hlt : tg_K μ (gq_sy g p 0) < 10 := Classical.byContradiction fun z => by
          rw [ek, show tg_K μ (gq_sy g p 0) = 10 by omega] at hq
          exact absurd hq (by decide)
        refine ⟨hb, hb, zn_i ek hlt (by decide), hb, hb, rfl, rfl, Nat.le_refl _, Nat.le_refl _, rfl, ?_⟩
        suffices post : ∀ μ2 : za_M, (za_u μ1.1 12 0 x.toNatClampNeg (μ1.1 12 0 x.toNatClampNeg + 1), za_u μ1.2 14 x.toNatClampNeg (μ1.1 12 0 x.toNatClampNeg).toNatClampNeg (bd_rk (μ.1 19 J) 0 6)) = μ2 → tg_I g μ2 ∧ tg_le μ μ2 ∧ (μ2.1 11 0 1 = 0 → tg_tr g p idx μ2) ∧ zq_fr tk_S μ μ2 ∧ μ2.1 11 0 0 = μ.1 11 0 0 from post _ rfl
        intro μ2 hμ2
        have e1 : μ1.1 12 0 x.toNatClampNeg + 1 = nI (tg_K μ (gq_sy g p 0) + 1) := by rw [ek]; exact nI_1 _
        rw [e1, zn_c ek (by omega), hcx] at hμ2
        have n12 : ∀ s, μ2.1 12 0 s = if s = gq_sy g p 0 then nI (tg_K μ (gq_sy g p 0) + 1) else μ.1 12 0 s := fun s => by
          rw [← hμ2]
          dsimp only
          by_cases e : s = gq_sy g p 0
          · rw [if_pos e, e, za_u_same]
          · rw [if_neg e, za_u_i e, a12]
        have n14 : ∀ s i, μ2.2 14 s i = if s = gq_sy g p 0 ∧ i = tg_K μ (gq_sy g p 0) then bd_rk (μ.1 19 J) 0 6 else μ.2 14 s i := fun s i => by
          rw [← hμ2]
          dsimp only
          by_cases e : s = gq_sy g p 0
          · subst e
            by_cases e2 : i = tg_K μ (gq_sy g p 0)
            · rw [if_pos ⟨rfl, e2⟩, e2, za_u_same]
            · rw [if_neg (fun z => e2 z.2), za_u_i e2, a14]
          · rw [if_neg (fun z => e z.1), za_u_ne (fun z => e z.2), a14]
        have n11 : μ2.1 11 0 = μ1.1 11 0 := by rw [← hμ2]; dsimp only; rw [za_u_b (by decide)]
        have nK : ∀ s, s < 8 → tg_K μ2 s = if s = gq_sy g p 0 then tg_K μ (gq_sy g p 0) + 1 else tg_K μ s := fun s hs => by
          unfold tg_K
          rw [n12]
          by_cases e : s = gq_sy g p 0
          · rw [if_pos e, if_pos e, zn_cl (by omega)]; rfl
          · rw [if_neg e, if_neg e]
        have nT : ∀ s i, s < 8 → i < tg_K μ s → tg_T μ2 s i = tg_T μ s i := fun s i hs hi => by
          unfold tg_T
          rw [n14, if_neg]
          rintro ⟨z1, z2⟩
          subst z1
          omega
        have hC2 : tg_C μ2 ↔ (tg_C μ ∨ gr_ci g p (tb_c g p idx (tg_T μ))) := by
          rw [← hCC]
          unfold tg_C
          rw [n11]
        have key := tb_tk (K' := tg_K μ2) (T' := tg_T μ2) hg hp hso hin hG hC2 (by
          refine ⟨fun s hs e => by rw [nK s hs, if_neg e], nT, Or.inr ⟨by rw [nK _ hs8, if_pos rfl], ?_, fun j hj e => ?_⟩⟩
          · unfold tg_T
            rw [n14, if_pos ⟨rfl, rfl⟩]
          · unfold tg_T at e
            exact h j hj (tg_g_inj.mp e))
        refine ⟨⟨⟨fun s hs => ?_, ?_, ?_⟩, key.1, fun q => ?_⟩, key.2.1, fun _ => key.2.2, ?_, ?_⟩
        · rw [nK s hs, n12]
          by_cases e : s = gq_sy g p 0
          · rw [if_pos e, if_pos e]
            exact ⟨rfl, by omega⟩
          · rw [if_neg e, if_neg e]
            exact k1 s hs
        · rw [n11, a2]; exact hc'
        · rw [n11, a1]; exact Or.inl rfl
        · rw [n11, a1] at q; exact absurd q (by decide)
        · rw [← hμ2]
          exact zq_uL (zq_u f1 (Or.inl ⟨Or.inr rfl, rfl⟩)) (Or.inr rfl)
        · rw [n11, a0]
      · -- too many
        have h10 : tg_K μ (gq_sy g p 0) = 10 := Classical.byContradiction fun z => hq (zn_lt2 ek (show (10 : Int32) = nI 10 from rfl) (by omega) (by decide))
        refine ⟨Or.inr rfl, rfl, rfl, Nat.le_refl _, Nat.le_refl _, rfl, ?_⟩
        generalize hμ2 : ((za_u μ1.1 11 0 1 1, μ1.2) : za_M) = μ2
        have n12 : μ2.1 12 0 = μ.1 12 0 := by rw [← hμ2]; dsimp only; rw [za_u_b (by decide), a12]
        have n14 : ∀ s, μ2.2 14 s = μ.2 14 s := fun s => by rw [← hμ2]; dsimp only; rw [a14]
        have n2 : μ2.1 11 0 2 = μ.1 11 0 2 ||| μ.1 18 J 1 := by rw [← hμ2]; dsimp only; rw [za_u_i (by decide), a2]
        have n1 : μ2.1 11 0 1 = 1 := by rw [← hμ2]; dsimp only; rw [za_u_same]
        have n0 : μ2.1 11 0 0 = μ.1 11 0 0 := by rw [← hμ2]; dsimp only; rw [za_u_i (by decide), a0]
        have hK2 : tg_K μ2 = tg_K μ := by funext s; unfold tg_K; rw [n12]
        have hT2 : tg_T μ2 = tg_T μ := by funext s i; unfold tg_T; rw [n14]
        have hL : gr_L g (gq_sy g p 0) (tg_g (bd_rk (μ.1 19 J) 0 6)) := gr_Lcl g p hp _ _ (fun o a b => hso.1 _ _ (gq_sy8 hg hp b) (hin o a b)) hG
        refine ⟨⟨⟨fun s hs => ?_, ?_, ?_⟩, ?_, fun _ => ⟨gq_sy g p 0, hs8, fun i => if i < 10 then tg_T μ (gq_sy g p 0) i else tg_g (bd_rk (μ.1 19 J) 0 6), fun i j hi hj e => ?_, fun i hi => ?_⟩⟩, ?_, fun q => absurd (n1.symm.trans q) (by decide), ?_, n0⟩
        · rw [hK2, n12]; exact k1 s hs
        · rw [n2]; exact hc'
        · rw [n1]; exact Or.inr rfl
        · unfold tg_so
          rw [hK2, hT2]
          refine ⟨hso.1, hso.2.1, fun q => ?_⟩
          unfold tg_C at q
          rw [n2, hC1] at q
          rcases q with q | q
          · exact hso.2.2 q
          · exact ⟨p, hp, _, fun o a b => hso.1 _ _ (gq_sy8 hg hp b) (hin o a b), q⟩
        · dsimp only at e
          by_cases ei : i < 10
          · rw [if_pos ei] at e
            by_cases ej : j < 10
            · rw [if_pos ej] at e
              exact hso.2.1 _ i j hs8 (by omega) (by omega) e
            · rw [if_neg ej] at e
              exact absurd (tg_g_inj.mp e) (h i (by omega))
          · rw [if_neg ei] at e
            by_cases ej : j < 10
            · rw [if_pos ej] at e
              exact absurd (tg_g_inj.mp e.symm) (h j (by omega))
            · omega
        · dsimp only
          split
          · exact hso.1 _ i hs8 (by omega)
          · exact hL
        · unfold tg_le
          rw [hK2, hT2]
          refine ⟨fun s _ => ⟨Nat.le_refl _, fun _ _ => rfl⟩, fun q => ?_⟩
          unfold tg_C
          rw [n2, hC1]
          exact Or.inl q
        · rw [← hμ2]
          exact zq_u f1 (Or.inl ⟨Or.inl rfl, rfl⟩))
    (fun k _ hk h ih y hy => by
      have hcy : y.toNatClampNeg = k := zn_c hy (by omega)
      refine run [22] 60 22 _ _ _ _ ?_
      refine ⟨hb, fun q => absurd q (zn_ge hy ek hk (by omega)), fun _ => ⟨hb, zn_i hy (by omega) (by decide), fun hz => ?_, fun hz => ?_⟩⟩
      · rw [za_ix0, hcx, hcy, a14, lg_cmp_eq] at hz
        refine ih () (fun j hj => ?_) _ (zn_s hy)
        by_cases e : j = k
        · subst e; exact hz
        · exact h j (by omega)
      · rw [za_ix0, hcx, hcy, a14, lg_cmp_eq] at hz
        have key := tb_tk (K' := tg_K μ1) (T' := tg_T μ1) hg hp hso hin hG hCC (by
          rw [hK1, hT1]
          refine ⟨fun _ _ _ => rfl, fun _ _ _ _ => rfl, Or.inl ⟨rfl, k, hk, ?_⟩⟩
          unfold tg_T
          rw [hz])
        refine ⟨rfl, rfl, Nat.le_refl _, Nat.le_refl _, rfl, ⟨⟨fun s hs => ?_, ?_, ?_⟩, key.1, fun q => ?_⟩, key.2.1, fun _ => key.2.2, f1, a0⟩
        · rw [hK1, a12]; exact k1 s hs
        · rw [a2]; exact hc'
        · rw [a1]; exact Or.inl rfl
        · rw [a1] at q; exact absurd q (by decide))
  refine run [22] 60 0 _ _ _ _ ?_
  refine ⟨hc', ?_⟩
  refine ⟨d - 1, 0, 0, _, _, by omega, Nat.le_refl _, Nat.le_refl _, ct_B_relationAt' (o := 0) rfl (by omega) (by decide), ?_, fun _ _ h => h.elim⟩
  rintro r μ5 ⟨rfl, rfl⟩
  have l0 := loop 0 () (Nat.zero_le _) (fun j hj => absurd hj (Nat.not_lt_zero j)) 0 rfl
  rw [← a19, ← hμ1] at l0
  exact l0
end
section
/-! the class: combine -/
theorem nI_s1 (h : Nat) : nI (h + 1) - 1 = nI h := by rw [← nI_1, Int32.add_sub_cancel]
theorem ct_B_startFrom' {Γ : zk_G} {d J J' j j' : Nat} {μ : za_M} (hj : j = J) (hj' : j' = J') (hd : 1 ≤ d) (hc : μ.1 18 J' 1 = 0 ∨ μ.1 18 J' 1 = 1) (hne : J ≠ J') : zk_Ct zt Γ zm_B_startFrom d 0 0 [za_r 18 j, za_r 18 j'] μ
    (fun r μ' => r = none ∧ (∀ i, i < 32 → μ'.1 19 J i = μ.1 19 J' i) ∧ μ'.1 18 J 1 = μ.1 18 J' 1 ∧ zq_fr (fun b j => (b = 18 ∨ b = 19) ∧ j = J) μ μ') (fun _ _ => False) := by
  subst hj hj'
  exact ct_B_startFrom hd hc hne
theorem ct_B_lay'' {Γ : zk_G} {d J j o : Nat} {x : Int32} {rel : Int64} {μ : za_M} (hj : j = J) (hx : x = nI o) (hd : 2 ≤ d) (ho : o < 4) : zk_Ct zt Γ zm_B_lay d 0 0 [za_r 18 j, za_i x, za_l rel] μ
    (fun r μ' => r = none ∧ (∀ i, i < 32 → μ'.1 19 J i = bd_lay (μ.1 19 J) o rel i) ∧ zq_fr (fun b j => b = 19 ∧ j = J) μ μ') (fun _ _ => False) := by
  subst hj
  exact ct_B_lay' hx hd ho
theorem ct_B_join'' {Γ : zk_G} {d J j o : Nat} {x : Int32} {μ : za_M} (hj : j = J) (hx : x = nI o) (hd : 2 ≤ d) (ho : o < 4) : zk_Ct zt Γ zm_B_join d 0 0 [za_r 18 j, za_i x] μ
    (fun r μ' => r = none ∧ (∀ i, i < 32 → μ'.1 19 J i = bd_jk (μ.1 19 J) o 6 i) ∧ μ'.1 18 J 1 = bd_ck (μ.1 19 J) o (μ.1 18 J 1) 6 ∧ zq_fr (fun b j => (b = 18 ∨ b = 19) ∧ j = J) μ μ') (fun _ _ => False) := by
  subst hj
  exact ct_B_join' hx hd ho
def tg_S (k b j : Nat) : Prop := ((b = 11 ∨ b = 12) ∧ j = 0) ∨ b = 14 ∨ ((b = 18 ∨ b = 19) ∧ k ≤ j)
def tg_N (μ : za_M) (N Bf : Nat → Nat) : Prop := ∀ s, s < 8 → μ.1 15 0 s = nI (N s) ∧ μ.1 16 0 s = nI (Bf s) ∧ Bf s ≤ N s ∧ N s ≤ tg_K μ s
/-- fresh: a graph of the last round is among the first parts -/
def tg_fr (g : gq_G) (p : Nat) (Bf idx : Nat → Nat) (k : Nat) (F0 : Prop) : Prop := F0 ∨ ∃ o, 1 ≤ o ∧ o < k ∧ o ≤ gq_m g p ∧ Bf (gq_sy g p o) ≤ idx o
def tg_post (g : gq_G) (p : Nat) (N Bf : Nat → Nat) (F0 : Prop) (k : Nat) (idx : Nat → Nat) (μ μ' : za_M) : Prop := tg_I g μ' ∧ tg_le μ μ' ∧ (μ'.1 11 0 1 = 0 → ∀ idx', (∀ o, 1 ≤ o → o < k → idx' o = idx o) → tb_in g p idx' N → tg_fr g p Bf idx' 4 F0 → tg_tr g p idx' μ') ∧ (μ.1 11 0 1 = 1 → μ'.1 11 0 1 = 1) ∧ zq_fr (tg_S k) μ μ' ∧ μ'.1 11 0 0 = μ.1 11 0 0
theorem tg_Cg {g : gq_G} {k : Nat} {μ μ' : za_M} (hC : gq_C g μ) (hf : zq_fr (tg_S k) μ μ') : gq_C g μ' := gq_C_fr hC hf (fun b j h q => by rcases q with q | q | q <;> omega)
theorem tg_Nm {k : Nat} {μ μ' : za_M} {N Bf : Nat → Nat} (h : tg_N μ N Bf) (hl : tg_le μ μ') (hf : zq_fr (tg_S k) μ μ') : tg_N μ' N Bf := by
  intro s hs
  obtain ⟨h1, h2, h3, h4⟩ := h s hs
  rw [hf.1 15 0 (fun q => by rcases q with q | q | q <;> omega), hf.1 16 0 (fun q => by rcases q with q | q | q <;> omega)]
  exact ⟨h1, h2, h3, Nat.le_trans h4 (hl.1 s hs).1⟩
/-- nothing but boards has changed -/
theorem tg_same {g : gq_G} {μ μ' : za_M} (h : zq_fr (fun b _ => b = 18 ∨ b = 19) μ μ') : tg_K μ' = tg_K μ ∧ tg_T μ' = tg_T μ ∧ tg_C μ' = tg_C μ ∧ (tg_I g μ → tg_I g μ') ∧ μ'.1 11 0 = μ.1 11 0 := by
  have e12 : μ'.1 12 0 = μ.1 12 0 := h.1 12 0 (by decide)
  have e11 : μ'.1 11 0 = μ.1 11 0 := h.1 11 0 (by decide)
  have e14 : ∀ s, μ'.2 14 s = μ.2 14 s := fun s => h.2 14 s (fun q => absurd q (show ¬ ((14 : Nat) = 18 ∨ (14 : Nat) = 19) by decide))
  have eK : tg_K μ' = tg_K μ := by funext s; unfold tg_K; rw [e12]
  have eT : tg_T μ' = tg_T μ := by funext s i; unfold tg_T; rw [e14]
  have eC : tg_C μ' = tg_C μ := by unfold tg_C; rw [e11]
  refine ⟨eK, eT, eC, fun hI => ?_, e11⟩
  unfold tg_I tg_ok tg_so at hI ⊢
  rw [eK, eT, eC, e11, e12]
  exact hI
/-- places with a step to them and a step from them -/
theorem gr_all {g : gq_G} (hg : gq_ok g) {p : Nat} (hp : p < gq_np g) {c : Nat → gr_T} (hc : ∀ o, 1 ≤ o → o ≤ gq_m g p → ∀ a b, c o a b = true → a < 6 ∧ b < 6) (v a b : Nat) (h1 : gr_E g p c a v) (h2 : gr_E g p c v b) : bp_S (fun _ => False) g p 0 (gq_m g p + 1) v := by
  obtain ⟨_, l1, k1⟩ := h1
  obtain ⟨_, l2, k2⟩ := h2
  have hv : 8 ≤ v := Classical.byContradiction fun hlt => by
    rcases k1 with k1 | k1
    · rcases k2 with k2 | k2
      · exact (hg.2.2.2.2.2 p a v hp (by omega) k1).2.2 (hg.2.2.2.2.2 p v b hp l1 k2).1.2
      · omega
    · omega
  refine Or.inr ?_
  rcases k1 with k1 | ⟨q1, q2, q3, q4⟩
  · obtain ⟨⟨z1, z2⟩, _⟩ := (hg.2.2.2.2.2 p a v hp (by omega) k1).2
    have := (hg.2.2.1 _ ((hg.2.2.2.2.1 p hp).2 _ z1)).1
    exact ⟨by omega, by omega, z1, by omega, by omega⟩
  · have := (hc _ q1 q2 _ _ q4).2
    exact ⟨by omega, by omega, by omega, by omega, this⟩
theorem gr_Enm {g : gq_G} {p : Nat} (hm : gq_m g p ≤ 3) (c : Nat → gr_T) (x y : Nat) : gr_En g p c (gq_m g p + 1) x y ↔ gr_E g p c x y := by
  unfold gr_En gr_E
  constructor
  · rintro ⟨h1, h2, h3 | ⟨a, b, d, e⟩⟩
    · exact ⟨h1, h2, Or.inl h3⟩
    · exact ⟨h1, h2, Or.inr ⟨a, d, e⟩⟩
  · rintro ⟨h1, h2, h3 | ⟨a, d, e⟩⟩
    · exact ⟨h1, h2, Or.inl h3⟩
    · exact ⟨h1, h2, Or.inr ⟨a, by omega, d, e⟩⟩
theorem tg_bd {g : gq_G} (hg : gq_ok g) {p : Nat} (hp : p < gq_np g) {c : Nat → gr_T} (hc : ∀ o, 1 ≤ o → o ≤ gq_m g p → ∀ a b, c o a b = true → a < 6 ∧ b < 6) {μ : za_M} {J : Nat} (h : bd_S μ J (bp_S (fun _ => False) g p 0 (gq_m g p + 1)) (gr_En g p c (gq_m g p + 1))) :
    (∀ x y, x < 32 → (bt (μ.1 19 J x) y = true ↔ gr_P g p c x y)) ∧ (μ.1 18 J 1 = 0 ∨ μ.1 18 J 1 = 1) ∧ (μ.1 18 J 1 = 1 ↔ gr_ci g p c) := by
  have h := bd_Sc h (fun _ => Iff.rfl) (gr_Enm (hg.2.2.2.2.1 p hp).1 c)
  have ha := gr_all hg hp hc
  exact ⟨fun x y hx => (h.1 x y hx).trans (pq_all ha x y).symm, h.2.1, h.2.2.trans (pq_circle ha).symm⟩
theorem tg_trc {g : gq_G} {p : Nat} {idx idx' : Nat → Nat} {μ : za_M} (h : ∀ o, 1 ≤ o → o ≤ gq_m g p → idx' o = idx o) (ht : tg_tr g p idx μ) : tg_tr g p idx' μ := by
  have hc : ∀ o, 1 ≤ o → o ≤ gq_m g p → tb_c g p idx (tg_T μ) o = tb_c g p idx' (tg_T μ) o := fun o a b => by unfold tb_c; rw [h o a b]
  obtain ⟨⟨j, h1, h2⟩, h3⟩ := ht
  exact ⟨⟨j, h1, gr_isc hc h2⟩, fun q => h3 ((gr_cic hc).mpr q)⟩
set_option maxHeartbeats 16000000 in
theorem ct_T_combine : ∀ (n : Nat) {Γ : zk_G} {d p h : Nat} {x z f : Int32} {idx N Bf : Nat → Nat} {F0 : Prop} {μ : za_M} {g : gq_G}, gq_ok g → gq_C g μ → tg_I g μ → tg_N μ N Bf → x = nI p → z = nI (h + 1) → h + n = gq_m g p → p < gq_np g → (f = 0 ∨ f = 1) → (f = 1 ↔ tg_fr g p Bf idx (h + 1) F0) → (∀ o, 1 ≤ o → o < h + 1 → idx o < N (gq_sy g p o)) → bd_S μ h (bp_S (fun _ => False) g p 0 (h + 1)) (gr_En g p (tb_c g p idx (tg_T μ)) (h + 1)) → n + 4 ≤ d →
    zk_Ct zt Γ zm_T_combine d 0 0 [za_r 11 0, za_r 1 0, za_i x, za_i z, za_i f] μ (fun r μ' => r = none ∧ tg_post g p N Bf F0 (h + 1) idx μ μ') (fun _ _ => False) := by
  intro n
  induction n with
  | zero =>
    intro Γ d p h x z f idx N Bf F0 μ g hg hC hI hN hx hz hm0 hp hf hf1 hidx hB hd
    have hm : h = gq_m g p := by omega
    subst hm
    have hm3 := (hg.2.2.2.2.1 p hp).1
    have hs8 := gq_sy8 hg hp (Nat.zero_le _)
    obtain ⟨c1, c2, c3, c4, c5, c6⟩ := gq_Cp hg hC hx hp
    have hz1 : z - 1 = nI (gq_m g p) := by rw [hz, nI_s1]
    have hin : tb_in g p idx (tg_K μ) := fun o a b => Nat.lt_of_lt_of_le (hidx o a (by omega)) (hN _ (gq_sy8 hg hp b)).2.2.2
    refine zs_T_combine (Nat.le_of_ble_eq_true rfl) (by omega) (fun ZZ run => ?_)
    refine run [] 60 0 _ _ _ _ ?_
    have stay : (¬ μ.1 11 0 1 = 0 ∨ f = 0) → (none : Option za_V) = none ∧ tg_post g p N Bf F0 (gq_m g p + 1) idx μ μ := by
      intro q
      refine ⟨rfl, hI, tb_rf, fun q1 idx' z1 z2 z3 => ?_, id, zq_rf, rfl⟩
      rcases q with q | q
      · exact absurd q1 q
      · refine absurd (hf1.mpr ?_) (by rw [q]; decide)
        rcases z3 with z3 | ⟨o, a, b, c, e⟩
        · exact Or.inl z3
        · exact Or.inr ⟨o, a, by omega, c, by rw [← z1 o a (by omega)]; exact e⟩
    refine ⟨fun h10 => ⟨c2, fun _ => ⟨fun hq => ?_, fun hq => ?_⟩, fun q => absurd (zn_lt2 c4 hz (Nat.lt_succ_self _) (by omega)) q⟩, fun h10 => ?_⟩
    · exact ⟨rfl, rfl, Nat.le_refl _, Nat.le_refl _, stay (Or.inr hq)⟩
    · have e6 : μ.1 6 x.toNatClampNeg (0 : Int32).toNatClampNeg = nI (gq_sy g p 0) := by rw [zn_c0]; exact c5 0 (Nat.zero_le _)
      have hcb : ∀ o, 1 ≤ o → o ≤ gq_m g p → ∀ a b, tb_c g p idx (tg_T μ) o a b = true → a < 6 ∧ b < 6 := fun o oa ob => (gr_L6 hg (hI.2.1.1 _ _ (gq_sy8 hg hp ob) (hin o oa ob))).2
      obtain ⟨B1, B2, B3⟩ := tg_bd hg hp hcb hB
      have hcz : (z - 1).toNatClampNeg = gq_m g p := zn_c hz1 (by omega)
      rw [← hcz] at B1 B2 B3
      refine ⟨c2, zn_i (k := 0) rfl (by decide) (by decide), zn_i hz1 (by omega) (by decide), ?_⟩
      refine ⟨d - 1, 0, 0, _, _, by omega, Nat.le_refl _, Nat.le_refl _, ct_T_keep (idx := idx) hg hI h10 e6 hp hin B1 B2 B3 (by omega), ?_, fun _ _ h => h.elim⟩
      rintro r μ2 ⟨rfl, k1, k2, k3, k4, k5⟩
      refine ⟨rfl, rfl, Nat.le_refl _, Nat.le_refl _, rfl, k1, k2, fun q idx' z1 z2 z3 => tg_trc (fun o a b => z1 o a (by omega)) (k3 q), fun q => absurd (h10.symm.trans q) (by decide), zq_up k4 (fun b j q => q.elim Or.inl (fun q => Or.inr (Or.inl q))), k5⟩
    · exact ⟨rfl, rfl, Nat.le_refl _, Nat.le_refl _, stay (Or.inl h10)⟩
  | succ n IH =>
    intro Γ d p h x z f idx N Bf F0 μ g hg hC hI hN hx hz hm0 hp hf hf1 hidx hB hd
    have hm3 := (hg.2.2.2.2.1 p hp).1
    have hle : h + 1 ≤ gq_m g p := by omega
    have hs8 := gq_sy8 hg hp hle
    obtain ⟨c1, c2, c3, c4, c5, c6⟩ := gq_Cp hg hC hx hp
    have hcz : z.toNatClampNeg = h + 1 := zn_c hz (by omega)
    have hz1 : z - 1 = nI h := by rw [hz, nI_s1]
    have hcz1 : (z - 1).toNatClampNeg = h := zn_c hz1 (by omega)
    have e6 : μ.1 6 x.toNatClampNeg z.toNatClampNeg = nI (gq_sy g p (h + 1)) := by rw [hcz]; exact c5 _ hle
    obtain ⟨n1, n2, n3, n4⟩ := hN _ hs8
    have hk10 := (hI.1.1 _ hs8).2
    refine zs_T_combine (Nat.le_of_ble_eq_true rfl) (by omega) (fun ZZ run => ?_)
    have loop := zn_for (σ := za_M) (N := N (gq_sy g p (h + 1)))
      (P := fun i μ1 => ∀ (w y l6 l7 : Int32), w = nI (gq_sy g p (h + 1)) → y = nI i → ZZ 103 [some (za_r 11 0), some (za_r 1 0), some (za_i x), some (za_i z), some (za_i f), some (za_i w), some (za_i l6), some (za_i l7), some (za_i y)] [] μ1 (0, 0))
      (I := fun i μ1 => tg_I g μ1 ∧ tg_le μ μ1 ∧ (μ1.1 11 0 1 = 0 → ∀ idx', (∀ o, 1 ≤ o → o < h + 1 → idx' o = idx o) → tb_in g p idx' N → tg_fr g p Bf idx' 4 F0 → idx' (h + 1) < i → tg_tr g p idx' μ1) ∧ (μ.1 11 0 1 = 1 → μ1.1 11 0 1 = 1) ∧ zq_fr (tg_S (h + 1)) μ μ1 ∧ μ1.1 11 0 0 = μ.1 11 0 0)
      (fun μ1 hh w y l6 l7 hw hy => by
        obtain ⟨i1, i2, i3, i4, i5, i6⟩ := hh
        have hN1 := tg_Nm hN i2 i5
        have hcw : w.toNatClampNeg = gq_sy g p (h + 1) := zn_c hw (by omega)
        have e15 : μ1.1 15 0 w.toNatClampNeg = nI (N (gq_sy g p (h + 1))) := by rw [hcw]; exact (hN1 _ hs8).1
        refine run [103] 100 103 _ _ _ _ ?_
        refine ⟨zn_i hw hs8 (by decide), fun _ => ?_, fun q => absurd (by rw [e15, hy]; exact Int32.le_refl _) q⟩
        exact ⟨rfl, rfl, Nat.le_refl _, Nat.le_refl _, rfl, i1, i2, fun q idx' z1 z2 z3 => i3 q idx' z1 z2 z3 (z2 (h + 1) (by omega) hle), i4, i5, i6⟩)
      (fun i μ1 hi hh ih w y l6 l7 hw hy => by
        obtain ⟨i1, i2, i3, i4, i5, i6⟩ := hh
        have hN1 := tg_Nm hN i2 i5
        have hC1 := tg_Cg hC i5
        have hcw : w.toNatClampNeg = gq_sy g p (h + 1) := zn_c hw (by omega)
        have hcy : y.toNatClampNeg = i := zn_c hy (by omega)
        have bw : vp_in w 8 := zn_i hw hs8 (by decide)
        have bz : vp_in z 4 := zn_i hz (by omega) (by decide)
        have e15 : μ1.1 15 0 w.toNatClampNeg = nI (N (gq_sy g p (h + 1))) := by rw [hcw]; exact (hN1 _ hs8).1
        have hBh : bd_S μ1 h (bp_S (fun _ => False) g p 0 (h + 1)) (gr_En g p (tb_c g p idx (tg_T μ)) (h + 1)) := bd_Sm hB (fun j _ => by rw [i5.1 19 h (fun q => by rcases q with q | q | q <;> omega)]) (by rw [i5.1 18 h (fun q => by rcases q with q | q | q <;> omega)])
        refine run [103] 100 103 _ _ _ _ ?_
        refine ⟨bw, fun q => absurd q (zn_ge hy e15 hi (by omega)), fun _ => ⟨bz, zn_i hz1 (by omega) (by decide), ?_⟩⟩
        refine ⟨d - 1, 0, 0, _, _, by omega, Nat.le_refl _, Nat.le_refl _, ct_B_startFrom' (J := h + 1) (J' := h) hcz hcz1 (by omega) hBh.2.1 (by omega), ?_, fun _ _ h => h.elim⟩
        rintro r μ2 ⟨rfl, s1, s2, s3⟩
        have hB2 : bd_S μ2 (h + 1) _ _ := bd_Sm hBh s1 s2
        have a14 : μ2.2 14 (gq_sy g p (h + 1)) i = μ1.2 14 (gq_sy g p (h + 1)) i := by rw [s3.2 14 _ (fun q => absurd q.1 (by decide))]
        refine ⟨bz, bw, zn_i hy (by omega) (by decide), ?_⟩
        refine ⟨d - 1, 0, 0, _, _, by omega, Nat.le_refl _, Nat.le_refl _, ct_B_lay'' (J := h + 1) hcz hz (by omega) (by omega), ?_, fun _ _ h => h.elim⟩
        rintro r μ3 ⟨rfl, l1, l2⟩
        have l1 : ∀ j, j < 32 → μ3.1 19 (h + 1) j = bd_lay (μ2.1 19 (h + 1)) (h + 1) (μ1.2 14 (gq_sy g p (h + 1)) i) j := fun j hj => by
          rw [l1 j hj]
          show bd_lay _ _ (μ2.2 14 w.toNatClampNeg y.toNatClampNeg) j = _
          rw [hcw, hcy, a14]
        refine ⟨bz, ?_⟩
        refine ⟨d - 1, 0, 0, _, _, by omega, Nat.le_refl _, Nat.le_refl _, ct_B_join'' (J := h + 1) hcz hz (by omega) (by omega), ?_, fun _ _ h => h.elim⟩
        rintro r μ4 ⟨rfl, j1, j2, j3⟩
        have hfr : zq_fr (fun b j => (b = 18 ∨ b = 19) ∧ j = h + 1) μ1 μ4 := zq_tr (zq_tr s3 (zq_up l2 (fun _ _ q => ⟨Or.inr q.1, q.2⟩))) j3
        obtain ⟨eK, eT, eC, eI, e11⟩ := tg_same (g := g) (zq_up hfr (fun _ _ q => q.1) : zq_fr (fun b _ => b = 18 ∨ b = 19) μ1 μ4)
        have f4 : zq_fr (tg_S (h + 1)) μ μ4 := zq_tr i5 (zq_up hfr (fun b j q => Or.inr (Or.inr ⟨q.1, by omega⟩)))
        have g14 : tg_le μ1 μ4 := by unfold tg_le; rw [eK, eT, eC]; exact tb_rf
        have g04 : tg_le μ μ4 := tb_tt i2 g14
        have hN4 := tg_Nm hN g04 f4
        have hI4 := eI i1
        have hL : gr_L g (gq_sy g p (h + 1)) (tg_T μ1 (gq_sy g p (h + 1)) i) := i1.2.1.1 _ _ hs8 (Nat.lt_of_lt_of_le hi (hN1 _ hs8).2.2.2)
        have hL6 := (gr_L6 hg hL).2
        -- the board of this part
        have hB4 : bd_S μ4 (h + 1) (bp_S (fun _ => False) g p 0 (h + 1 + 1)) (gr_En g p (tb_c g p (fun o => if o = h + 1 then i else idx o) (tg_T μ4)) (h + 1 + 1)) := by
          refine bd_Sc (bd_SJ (by omega) hB2 (fun v q => ?_) l1 (by rw [l2.1 18 (h + 1) (fun q => absurd q.1 (by decide))]) j1 j2) (fun v => ?_) (fun a b => ?_)
          · rcases q with q | q
            · exact q.elim
            · omega
          · unfold bp_S
            constructor
            · rintro ((q | q) | q)
              · exact Or.inl q
              · exact Or.inr (by omega)
              · exact Or.inr (by omega)
            · rintro (q | q)
              · exact Or.inl (Or.inl q)
              · by_cases e : v / 8 = h + 1
                · exact Or.inr (by omega)
                · exact Or.inl (Or.inr (by omega))
          · have hold : ∀ o, 1 ≤ o → o < h + 1 → o ≤ gq_m g p → tb_c g p idx (tg_T μ) o = tb_c g p (fun o => if o = h + 1 then i else idx o) (tg_T μ4) o := fun o oa ob oc => by
              unfold tb_c
              dsimp only
              rw [if_neg (by omega), eT]
              exact ((i2.1 _ (gq_sy8 hg hp oc)).2 _ (Nat.lt_of_lt_of_le (hidx o oa ob) (hN _ (gq_sy8 hg hp oc)).2.2.2)).symm
            have hnew : tb_c g p (fun o => if o = h + 1 then i else idx o) (tg_T μ4) (h + 1) = tg_g (μ1.2 14 (gq_sy g p (h + 1)) i) := by
              unfold tb_c
              dsimp only
              rw [if_pos rfl, eT]
              rfl
            have hgb : ∀ u v, u < 8 → v < 8 → (tg_g (μ1.2 14 (gq_sy g p (h + 1)) i) u v = true ↔ (u < 6 ∧ bl (μ1.2 14 (gq_sy g p (h + 1)) i) (8 * u + v) = true)) := fun u v hu hv => by
              constructor
              · intro q
                refine ⟨(hL6 u v q).1, ?_⟩
                unfold tg_g at q
                rw [Bool.and_eq_true, Bool.and_eq_true] at q
                exact q.2.2
              · rintro ⟨q1, q2⟩
                unfold tg_g
                rw [decide_eq_true hu, decide_eq_true hv, Bool.true_and, Bool.true_and]
                exact q2
            unfold gr_En bd_F
            constructor
            · rintro (⟨q1, q2, q3 | ⟨q3, q4, q5, q6, q7⟩⟩ | ⟨q1, q2, q3, q4⟩)
              · exact ⟨q1, q2, Or.inl q3⟩
              · exact ⟨q1, q2, Or.inr ⟨q3, by omega, q5, q6, by rw [← hold _ q3 q4 q5]; exact q7⟩⟩
              · refine ⟨by omega, by omega, Or.inr ⟨by omega, by omega, by omega, by omega, ?_⟩⟩
                rw [q1, hnew, hgb _ _ (by omega) (by omega)]
                exact ⟨q2, q4⟩
            · rintro ⟨q1, q2, q3 | ⟨q3, q4, q5, q6, q7⟩⟩
              · exact Or.inl ⟨q1, q2, Or.inl q3⟩
              · by_cases e : a / 8 = h + 1
                · rw [e, hnew, hgb _ _ (by omega) (by omega)] at q7
                  exact Or.inr ⟨e, q7.1, by omega, q7.2⟩
                · exact Or.inl ⟨q1, q2, Or.inr ⟨q3, by omega, q5, q6, by rw [hold _ q3 (by omega) q5]; exact q7⟩⟩
        have hfr1 : ∀ f' : Int32, (f' = 1 ↔ (f = 1 ∨ Bf (gq_sy g p (h + 1)) ≤ i)) → (f' = 1 ↔ tg_fr g p Bf (fun o => if o = h + 1 then i else idx o) (h + 1 + 1) F0) := by
          intro f' q
          rw [q, hf1]
          unfold tg_fr
          constructor
          · rintro ((q | ⟨o, a, b, c, e⟩) | q)
            · exact Or.inl q
            · exact Or.inr ⟨o, a, by omega, c, by dsimp only; rw [if_neg (by omega)]; exact e⟩
            · exact Or.inr ⟨h + 1, by omega, by omega, hle, by dsimp only; rw [if_pos rfl]; exact q⟩
          · rintro (q | ⟨o, a, b, c, e⟩)
            · exact Or.inl (Or.inl q)
            · by_cases eo : o = h + 1
              · subst eo
                dsimp only at e
                rw [if_pos rfl] at e
                exact Or.inr e
              · dsimp only at e
                rw [if_neg eo] at e
                exact Or.inl (Or.inr ⟨o, a, by omega, c, e⟩)
        have hidx1 : ∀ o, 1 ≤ o → o < h + 1 + 1 → (fun o => if o = h + 1 then i else idx o) o < N (gq_sy g p o) := fun o a b => by
          dsimp only
          by_cases e : o = h + 1
          · rw [if_pos e, e]; exact hi
          · rw [if_neg e]; exact hidx o a (by omega)
        have call : ∀ f' : Int32, (f' = 0 ∨ f' = 1) → (f' = 1 ↔ (f = 1 ∨ Bf (gq_sy g p (h + 1)) ≤ i)) → zk_Ct zt Γ zm_T_combine (d - 1) 0 0 [za_r 11 0, za_r 1 0, za_i x, za_i (z + 1), za_i f'] μ4 (fun r μ' => r = none ∧ tg_post g p N Bf F0 (h + 1 + 1) (fun o => if o = h + 1 then i else idx o) μ4 μ') (fun _ _ => False) := fun f' q1 q2 => IH hg (tg_Cg hC f4) hI4 hN4 hx (zn_s hz) (by omega) hp q1 (hfr1 f' q2) hidx1 hB4 (by omega)
        have next : ∀ μ', tg_post g p N Bf F0 (h + 1 + 1) (fun o => if o = h + 1 then i else idx o) μ4 μ' → ZZ 103 [some (za_r 11 0), some (za_r 1 0), some (za_i x), some (za_i z), some (za_i f), some (za_i w), some (za_i l6), some (za_i l7), some (za_i (y + 1))] [] μ' (0, 0) := by
          rintro μ' ⟨p1, p2, p3, p4, p5, p6⟩
          refine ih μ' ⟨p1, tb_tt g04 p2, fun q idx' z1 z2 z3 z4 => ?_, fun q => p4 (by rw [e11]; exact i4 q), zq_tr f4 (zq_up p5 (fun b j q => q.elim Or.inl (fun q => Or.inr (q.elim Or.inl (fun q => Or.inr ⟨q.1, by omega⟩))))), ?_⟩ w _ l6 l7 hw (zn_s hy)
          · by_cases e : idx' (h + 1) = i
            · refine p3 q idx' (fun o a b => ?_) z2 z3
              dsimp only
              by_cases eo : o = h + 1
              · rw [if_pos eo, eo]; exact e
              · rw [if_neg eo]; exact z1 o a (by omega)
            · have h01 : μ1.1 11 0 1 = 0 := i1.1.2.2.resolve_right (fun z => absurd ((p4 (by rw [e11]; exact z)).symm.trans q) (by decide))
              have hin' : tb_in g p idx' (tg_K μ1) := fun o a b => Nat.lt_of_lt_of_le (z2 o a b) (hN1 _ (gq_sy8 hg hp b)).2.2.2
              exact tb_trm hg hp hin' (tb_tt g14 p2) (i3 h01 idx' z1 z2 z3 (by omega))
          · rw [p6, e11]; exact i6
        have e16 : μ4.1 16 0 w.toNatClampNeg = nI (Bf (gq_sy g p (h + 1))) := by rw [hcw]; exact (hN4 _ hs8).2.1
        refine ⟨fun hq => ?_, fun hq => ⟨bw, fun hq2 => ?_, fun hq2 => ?_⟩⟩
        · refine ⟨d - 1, 0, 0, _, _, by omega, Nat.le_refl _, Nat.le_refl _, call 1 (Or.inr rfl) ⟨fun _ => Or.inl (zn_or01 hf hq), fun _ => rfl⟩, ?_, fun _ _ h => h.elim⟩
          rintro r μ' ⟨rfl, hpost⟩
          exact next μ' hpost
        · refine ⟨d - 1, 0, 0, _, _, by omega, Nat.le_refl _, Nat.le_refl _, call 0 (Or.inl rfl) ⟨fun q => absurd q (by decide), fun q => q.elim (fun q => absurd (q.symm.trans hq) (by decide)) (fun q => absurd hq2 (zn_nl hy e16 q (by omega)))⟩, ?_, fun _ _ h => h.elim⟩
          rintro r μ' ⟨rfl, hpost⟩
          exact next μ' hpost
        · refine ⟨d - 1, 0, 0, _, _, by omega, Nat.le_refl _, Nat.le_refl _, call 1 (Or.inr rfl) ⟨fun _ => Or.inr (Classical.byContradiction fun q => hq2 (zn_lt2 hy e16 (by omega) (by omega))), fun _ => rfl⟩, ?_, fun _ _ h => h.elim⟩
          rintro r μ' ⟨rfl, hpost⟩
          exact next μ' hpost)
    have start : ∀ (i : Nat), i ≤ N (gq_sy g p (h + 1)) → (∀ idx', (∀ o, 1 ≤ o → o < h + 1 → idx' o = idx o) → tb_in g p idx' N → tg_fr g p Bf idx' 4 F0 → ¬ idx' (h + 1) < i) → ∀ (w y l6 l7 : Int32), w = nI (gq_sy g p (h + 1)) → y = nI i → ZZ 103 [some (za_r 11 0), some (za_r 1 0), some (za_i x), some (za_i z), some (za_i f), some (za_i w), some (za_i l6), some (za_i l7), some (za_i y)] [] μ (0, 0) := fun i hi hv => loop i μ hi ⟨hI, tb_rf, fun _ idx' z1 z2 z3 z4 => absurd z4 (hv idx' z1 z2 z3), id, zq_rf, rfl⟩
    refine run [103] 100 0 _ _ _ _ ?_
    refine ⟨fun h10 => ?_, fun h10 => ?_⟩
    · refine ⟨c2, fun q => absurd q (zn_nl c4 hz hle (by omega)), fun _ => ⟨fun _ => ?_, fun q => absurd (by rw [hz]; exact nI_le (b := 3) (by omega) (by decide)) q⟩⟩
      refine ⟨c2, zn_i hz (by omega) (by decide), c2, ?_⟩
      have zero : ∀ (w l6 l7 : Int32), w = nI (gq_sy g p (h + 1)) → ZZ 103 [some (za_r 11 0), some (za_r 1 0), some (za_i x), some (za_i z), some (za_i f), some (za_i w), some (za_i l6), some (za_i l7), some (za_i 0)] [] μ (0, 0) := fun w l6 l7 hw => start 0 (Nat.zero_le _) (fun _ _ _ _ q => absurd q (Nat.not_lt_zero _)) w 0 l6 l7 hw rfl
      refine ⟨fun _ => ⟨fun _ => zero _ _ _ e6, fun q => absurd rfl q⟩, fun hq => ⟨fun _ => ⟨fun _ => zero _ _ _ e6, fun q => absurd rfl q⟩, fun hq2 => ⟨fun q => absurd q (by decide), fun _ => ⟨zn_i e6 hs8 (by decide), ?_⟩⟩⟩⟩
      have e16 : μ.1 16 0 (μ.1 6 x.toNatClampNeg z.toNatClampNeg).toNatClampNeg = nI (Bf (gq_sy g p (h + 1))) := by rw [zn_c e6 (by omega)]; exact n2
      refine start (Bf (gq_sy g p (h + 1))) n3 (fun idx' z1 z2 z3 z4 => ?_) _ _ _ _ e6 e16
      have hmk : h + 1 = gq_m g p := by
        rw [c4, hz, nI_eq (by omega) (by omega)] at hq
        exact hq
      refine absurd (hf1.mpr ?_) (by rw [hq2]; decide)
      rcases z3 with z3 | ⟨o, a, b, c, e⟩
      · exact Or.inl z3
      · by_cases eo : o = h + 1
        · subst eo; omega
        · exact Or.inr ⟨o, a, by omega, c, by rw [← z1 o a (by omega)]; exact e⟩
    · exact ⟨rfl, rfl, Nat.le_refl _, Nat.le_refl _, rfl, hI, tb_rf, fun q => absurd q h10, id, zq_rf, rfl⟩
end
section
/-! the class: TreeGraphs, find -/
def tf_S (b j : Nat) : Prop := ((b = 11 ∨ b = 12 ∨ b = 15 ∨ b = 16) ∧ j = 0) ∨ b = 14 ∨ b = 18 ∨ b = 19
theorem tf_Cg {g : gq_G} {μ μ' : za_M} (hC : gq_C g μ) (hf : zq_fr tf_S μ μ') : gq_C g μ' := gq_C_fr hC hf (fun b j h q => by rcases q with q | q <;> omega)
set_option maxHeartbeats 4000000 in
theorem ct_T_forget {Γ : zk_G} {d : Nat} {μ : za_M} (hd : 1 ≤ d) : zk_Ct zt Γ zm_T_forget d 0 0 [za_r 11 0] μ (fun r μ' => r = none ∧ (∀ s, s < 8 → μ'.1 12 0 s = 0 ∧ μ'.1 15 0 s = 0 ∧ μ'.1 16 0 s = 0) ∧ μ'.1 11 0 1 = 0 ∧ μ'.1 11 0 2 = 0 ∧ zq_fr tf_S μ μ') (fun _ _ => False) := by
  refine zs_T_forget (Nat.le_of_ble_eq_true rfl) hd (fun ZZ run => ?_)
  have loop := zn_for (σ := za_M) (N := 8)
    (P := fun k μ1 => ∀ y : Int32, y = nI k → ZZ 12 [some (za_r 11 0), some (za_i y)] [] μ1 (0, 0))
    (I := fun k μ1 => (∀ s, s < k → μ1.1 12 0 s = 0 ∧ μ1.1 15 0 s = 0 ∧ μ1.1 16 0 s = 0) ∧ μ1.1 11 0 1 = 0 ∧ μ1.1 11 0 2 = 0 ∧ zq_fr tf_S μ μ1)
    (fun μ1 h y hy => by
      refine run [12] 40 12 _ _ _ _ ?_
      refine ⟨fun _ => ?_, fun q => absurd (by rw [hy]; exact nI_le (Nat.le_refl 8) (by decide)) q⟩
      exact ⟨rfl, rfl, Nat.le_refl _, Nat.le_refl _, rfl, h⟩)
    (fun k μ1 hk h ih y hy => by
      have hck : y.toNatClampNeg = k := zn_c hy (by omega)
      have hb : vp_in y 8 := zn_i hy hk (by decide)
      refine run [12] 40 12 _ _ _ _ ?_
      refine ⟨fun q => absurd q (zn_ge hy rfl hk (by decide)), fun _ => ⟨hb, hb, hb, ?_⟩⟩
      refine ih _ ⟨fun i hi => ?_, ?_, ?_, zq_u (zq_u (zq_u h.2.2.2 (Or.inl ⟨by decide, rfl⟩)) (Or.inl ⟨by decide, rfl⟩)) (Or.inl ⟨by decide, rfl⟩)⟩ _ (zn_s hy)
      · dsimp only
        rw [hck, za_u_b (show (12 : Nat) ≠ 16 by decide), za_u_b (show (12 : Nat) ≠ 15 by decide), za_u_b (show (15 : Nat) ≠ 16 by decide)]
        by_cases e : i = k
        · subst e
          rw [za_u_same, za_u_same, za_u_same]
          exact ⟨rfl, rfl, rfl⟩
        · rw [za_u_i e, za_u_i e, za_u_i e, za_u_b (show (15 : Nat) ≠ 12 by decide), za_u_b (show (16 : Nat) ≠ 15 by decide), za_u_b (show (16 : Nat) ≠ 12 by decide)]
          exact h.1 i (by omega)
      · dsimp only
        rw [za_u_b (show (11 : Nat) ≠ 16 by decide), za_u_b (show (11 : Nat) ≠ 15 by decide), za_u_b (show (11 : Nat) ≠ 12 by decide)]
        exact h.2.1
      · dsimp only
        rw [za_u_b (show (11 : Nat) ≠ 16 by decide), za_u_b (show (11 : Nat) ≠ 15 by decide), za_u_b (show (11 : Nat) ≠ 12 by decide)]
        exact h.2.2.1)
  refine run [12] 40 0 _ _ _ _ ?_
  refine ⟨Or.inl rfl, Or.inl rfl, ?_⟩
  refine loop 0 _ (Nat.zero_le _) ⟨fun i hi => absurd hi (Nat.not_lt_zero i), ?_, ?_, zq_u (zq_u zq_rf (Or.inl ⟨by decide, rfl⟩)) (Or.inl ⟨by decide, rfl⟩)⟩ 0 rfl
  · dsimp only
    rw [za_u_i (show (1 : Nat) ≠ 2 by decide), za_u_same]
  · dsimp only
    rw [za_u_same]
set_option maxHeartbeats 4000000 in
theorem ct_T_beginRound {Γ : zk_G} {d : Nat} {N K : Nat → Nat} {μ : za_M} (h15 : ∀ s, s < 8 → μ.1 15 0 s = nI (N s) ∧ N s ≤ 10) (h12 : ∀ s, s < 8 → μ.1 12 0 s = nI (K s) ∧ K s ≤ 10) (hd : 1 ≤ d) : zk_Ct zt Γ zm_T_beginRound d 0 0 [za_r 11 0] μ (fun r μ' => (∃ v : Int32, r = some (za_i v) ∧ (v = 0 ∨ v = 1) ∧ (v = 1 ↔ ∃ s, s < 8 ∧ N s < K s)) ∧ (∀ s, s < 8 → μ'.1 15 0 s = nI (K s) ∧ μ'.1 16 0 s = nI (N s)) ∧ zq_fr (fun b j => (b = 15 ∨ b = 16) ∧ j = 0) μ μ') (fun _ _ => False) := by
  refine zs_T_beginRound (Nat.le_of_ble_eq_true rfl) hd (fun ZZ run => ?_)
  have loop := zn_for (σ := za_M × Int32) (N := 8)
    (P := fun k t => ∀ y : Int32, y = nI k → ZZ 4 [some (za_r 11 0), some (za_i t.2), some (za_i y)] [] t.1 (0, 0))
    (I := fun k t => (t.2 = 0 ∨ t.2 = 1) ∧ (t.2 = 1 ↔ ∃ s, s < k ∧ N s < K s) ∧ (∀ s, s < 8 → t.1.1 15 0 s = (if s < k then nI (K s) else nI (N s)) ∧ (s < k → t.1.1 16 0 s = nI (N s))) ∧ zq_fr (fun b j => (b = 15 ∨ b = 16) ∧ j = 0) μ t.1)
    (fun t h y hy => by
      refine run [4] 60 4 _ _ _ _ ?_
      refine ⟨fun _ => ?_, fun q => absurd (by rw [hy]; exact nI_le (Nat.le_refl 8) (by decide)) q⟩
      refine ⟨rfl, Or.inr ⟨rfl, h.1⟩, Nat.le_refl _, Nat.le_refl _, ⟨t.2, rfl, h.1, h.2.1⟩, fun s hs => ⟨?_, (h.2.2.1 s hs).2 hs⟩, h.2.2.2⟩
      rw [(h.2.2.1 s hs).1, if_pos hs])
    (fun k t hk h ih y hy => by
      obtain ⟨i1, i2, i3, i4⟩ := h
      have hck : y.toNatClampNeg = k := zn_c hy (by omega)
      have hb : vp_in y 8 := zn_i hy hk (by decide)
      have e15 : t.1.1 15 0 y.toNatClampNeg = nI (N k) := by rw [hck, (i3 k hk).1, if_neg (Nat.lt_irrefl k)]
      have e12 : t.1.1 12 0 y.toNatClampNeg = nI (K k) := by rw [hck, i4.1 12 0 (by decide)]; exact (h12 k hk).1
      have hNk := (h15 k hk).2
      have hKk := (h12 k hk).2
      have fin : ∀ v' : Int32, (v' = 0 ∨ v' = 1) → (v' = 1 ↔ (t.2 = 1 ∨ N k < K k)) → ZZ 4 [some (za_r 11 0), some (za_i v'), some (za_i (y + 1))] [] (za_u (za_u t.1.1 16 0 y.toNatClampNeg (t.1.1 15 0 y.toNatClampNeg)) 15 0 y.toNatClampNeg (t.1.1 12 0 y.toNatClampNeg), t.1.2) (0, 0) := by
        intro v' q1 q2
        rw [e15, e12, hck]
        refine ih (_, v') ⟨q1, q2.trans ?_, fun s hs => ⟨?_, fun z => ?_⟩, zq_u (zq_u i4 ⟨by decide, rfl⟩) ⟨by decide, rfl⟩⟩ _ (zn_s hy)
        · rw [i2]
          constructor
          · rintro (⟨s, z1, z2⟩ | z)
            · exact ⟨s, by omega, z2⟩
            · exact ⟨k, by omega, z⟩
          · rintro ⟨s, z1, z2⟩
            by_cases e : s = k
            · subst e; exact Or.inr z2
            · exact Or.inl ⟨s, by omega, z2⟩
        · dsimp only
          by_cases e : s = k
          · subst e
            rw [za_u_same, if_pos (Nat.lt_succ_self s)]
          · rw [za_u_i e, za_u_b (show (15 : Nat) ≠ 16 by decide), (i3 s hs).1]
            by_cases e2 : s < k
            · rw [if_pos e2, if_pos (by omega)]
            · rw [if_neg e2, if_neg (by omega)]
        · dsimp only
          rw [za_u_b (show (16 : Nat) ≠ 15 by decide)]
          by_cases e : s = k
          · subst e; rw [za_u_same]
          · rw [za_u_i e]; exact (i3 s hs).2 (by omega)
      have f15 : za_u (za_u t.1.1 16 0 y.toNatClampNeg (t.1.1 15 0 y.toNatClampNeg)) 15 0 y.toNatClampNeg (t.1.1 12 0 y.toNatClampNeg) 15 0 y.toNatClampNeg = nI (K k) := by rw [za_u_same, e12]
      have f16 : za_u (za_u t.1.1 16 0 y.toNatClampNeg (t.1.1 15 0 y.toNatClampNeg)) 15 0 y.toNatClampNeg (t.1.1 12 0 y.toNatClampNeg) 16 0 y.toNatClampNeg = nI (N k) := by rw [za_u_b (show (16 : Nat) ≠ 15 by decide), za_u_same, e15]
      have e12' : za_u t.1.1 16 0 y.toNatClampNeg (t.1.1 15 0 y.toNatClampNeg) 12 0 y.toNatClampNeg = t.1.1 12 0 y.toNatClampNeg := by rw [za_u_b (show (12 : Nat) ≠ 16 by decide)]
      refine run [4] 60 4 _ _ _ _ ?_
      refine ⟨fun q => absurd q (zn_ge hy rfl hk (by decide)), fun _ => ⟨hb, hb, hb, hb, hb, hb, fun hq => ?_, fun hq => ?_⟩⟩
      · have hq : ¬ N k < K k := fun z => by
          have hq : za_u (za_u t.1.1 16 0 y.toNatClampNeg (t.1.1 15 0 y.toNatClampNeg)) 15 0 y.toNatClampNeg (t.1.1 12 0 y.toNatClampNeg) 15 0 y.toNatClampNeg ≤ za_u (za_u t.1.1 16 0 y.toNatClampNeg (t.1.1 15 0 y.toNatClampNeg)) 15 0 y.toNatClampNeg (t.1.1 12 0 y.toNatClampNeg) 16 0 y.toNatClampNeg := hq
          rw [f15, f16] at hq
          exact absurd hq (nI_ge z (by omega))
        exact fin _ (by rw [zn_o0 i1]; exact i1) (by rw [zn_o0 i1]; exact ⟨Or.inl, fun q => q.elim id (fun q => absurd q hq)⟩)
      · have hq : N k < K k := Classical.byContradiction fun z => hq (by
          show za_u (za_u t.1.1 16 0 y.toNatClampNeg (t.1.1 15 0 y.toNatClampNeg)) 15 0 y.toNatClampNeg (t.1.1 12 0 y.toNatClampNeg) 15 0 y.toNatClampNeg ≤ za_u (za_u t.1.1 16 0 y.toNatClampNeg (t.1.1 15 0 y.toNatClampNeg)) 15 0 y.toNatClampNeg (t.1.1 12 0 y.toNatClampNeg) 16 0 y.toNatClampNeg
          rw [f15, f16]
          exact nI_le (by omega) (by omega))
        exact fin _ (by rw [zn_o1 i1]; exact Or.inr rfl) (by rw [zn_o1 i1]; exact ⟨fun _ => Or.inr hq, fun _ => rfl⟩))
  refine run [4] 60 0 _ _ _ _ ?_
  exact loop 0 (μ, 0) (Nat.zero_le _) ⟨Or.inl rfl, ⟨fun q => absurd q (show ¬ (0 : Int32) = 1 by decide), fun ⟨s, q, _⟩ => absurd q (Nat.not_lt_zero s)⟩, fun s hs => ⟨by rw [if_neg (Nat.not_lt_zero s)]; exact (h15 s hs).1, fun q => absurd q (Nat.not_lt_zero s)⟩, zq_rf⟩ 0 rfl
/-- what find leaves -/
def tg_cl (g : gq_G) (N : Nat → Nat) (μ : za_M) : Prop := ∀ p, p < gq_np g → ∀ idx, tb_in g p idx N → tg_tr g p idx μ
def tg_fin (g : gq_G) (μ : za_M) : Prop := tg_I g μ ∧ (μ.1 11 0 1 = 0 → tg_cl g (tg_K μ) μ)
set_option maxHeartbeats 16000000 in
theorem ct_T_find {Γ : zk_G} {d : Nat} {μ : za_M} {g : gq_G} (hg : gq_ok g) (hC : gq_C g μ) (hk : μ.1 11 0 0 = 0 ∨ μ.1 11 0 0 = 1 ∧ tg_fin g μ) (hd : 8 ≤ d) : zk_Ct zt Γ zm_T_find d 0 0 [za_r 11 0, za_r 1 0] μ
    (fun r μ' => r = none ∧ tg_fin g μ' ∧ μ'.1 11 0 0 = 1 ∧ zq_fr tf_S μ μ') (fun _ _ => False) := by
  refine zs_T_find (Nat.le_of_ble_eq_true rfl) (by omega) (fun ZZ run => ?_)
  rcases hk with hk | ⟨hk, hfin⟩
  case inr =>
    refine run [] 20 0 _ _ _ _ ?_
    refine ⟨fun q => absurd (hk.symm.trans q) (by decide), fun _ => ?_⟩
    exact ⟨rfl, rfl, Nat.le_refl _, Nat.le_refl _, rfl, hfin, hk, zq_rf⟩
  have hnp : gq_np g ≤ 16 := hg.2.1
  have wh := zn_wh (σ := (za_M × (Nat → Nat) × (Nat → Nat)) × Int32 × Nat × Option za_V)
    (P := fun t => ∀ y : Int32, y = nI t.2.2.1 → ZZ 16 [some (za_r 11 0), some (za_r 1 0), some (za_i t.2.1), some (za_i y), t.2.2.2] [] t.1.1 (0, 0))
    (I := fun t => tg_I g t.1.1 ∧ tg_N t.1.1 t.1.2.1 t.1.2.2 ∧ (∀ s, s < 8 → t.1.2.1 s = tg_K t.1.1 s) ∧ (t.2.1 = 0 ∨ t.2.1 = 1) ∧ (¬ t.2.2.1 = 0 → t.1.1.1 11 0 1 = 0 → tg_cl g t.1.2.2 t.1.1) ∧ (t.2.1 = 0 → t.1.1.1 11 0 1 = 0 → tg_cl g (tg_K t.1.1) t.1.1) ∧ (t.2.1 = 1 → t.2.2.1 ≤ sm t.1.2.1 8) ∧ zq_fr tf_S μ t.1.1)
    (fun t => 2 * (100 - sm t.1.2.1 8) + t.2.1.toNatClampNeg)
    (fun t0 h ihw y hy => by
      obtain ⟨i1, i2, i3, i4, i5, i6, i7, i8⟩ := h
      have hC0 := tf_Cg hC i8
      have hN10 : ∀ s, s < 8 → t0.1.2.1 s ≤ 10 := fun s hs => by rw [i3 s hs]; exact (i1.1.1 s hs).2
      have hsm := sm_max (f := t0.1.2.1) (c := 10) 8 hN10
      have stop : (t0.1.1.1 11 0 1 = 0 → tg_cl g (tg_K t0.1.1) t0.1.1) → ZZ 96 [some (za_r 11 0), some (za_r 1 0), some (za_i t0.2.1), some (za_i y), t0.2.2.2] [] t0.1.1 (0, 0) := by
        intro q
        refine run [] 20 96 _ _ _ _ ?_
        refine ⟨Or.inr rfl, rfl, rfl, Nat.le_refl _, Nat.le_refl _, rfl, ?_⟩
        suffices post : ∀ μ2 : za_M, (za_u t0.1.1.1 11 0 0 1, t0.1.1.2) = μ2 → tg_fin g μ2 ∧ μ2.1 11 0 0 = 1 ∧ zq_fr tf_S μ μ2 from post _ rfl
        intro μ2 hμ2
        have n12 : μ2.1 12 0 = t0.1.1.1 12 0 := by rw [← hμ2]; dsimp only; rw [za_u_b (by decide)]
        have n1 : μ2.1 11 0 1 = t0.1.1.1 11 0 1 := by rw [← hμ2]; dsimp only; rw [za_u_i (by decide)]
        have n2 : μ2.1 11 0 2 = t0.1.1.1 11 0 2 := by rw [← hμ2]; dsimp only; rw [za_u_i (by decide)]
        have n14 : ∀ s, μ2.2 14 s = t0.1.1.2 14 s := fun s => by rw [← hμ2]
        have eK : tg_K μ2 = tg_K t0.1.1 := by funext s; unfold tg_K; rw [n12]
        have eT : tg_T μ2 = tg_T t0.1.1 := by funext s i; unfold tg_T; rw [n14]
        have eC : tg_C μ2 = tg_C t0.1.1 := by unfold tg_C; rw [n2]
        refine ⟨⟨?_, ?_⟩, ?_, ?_⟩
        · unfold tg_I tg_ok tg_so at i1 ⊢
          rw [eK, eT, eC, n12, n1, n2]
          exact i1
        · unfold tg_cl tg_tr at q ⊢
          rw [eK, eT, eC, n1]
          exact q
        · rw [← hμ2]; dsimp only; rw [za_u_same]
        · rw [← hμ2]; exact zq_u i8 (Or.inl ⟨by decide, rfl⟩)
      refine run [16, 37, 96] 60 16 _ _ _ _ ?_
      refine ⟨fun hq => stop (i6 hq), fun hq => ⟨fun h1 => stop (fun z => absurd z h1), fun h1 => ⟨fun hz => ?_, fun _ => ?_⟩⟩⟩
      · exact absurd hz (zn_1000 hy (by have := i7 (zn_or01 i4 hq); omega))
      · have hq1 := zn_or01 i4 hq
        have loop := zn_for (σ := za_M) (N := gq_np g)
          (P := fun k μ1 => ∀ x : Int32, x = nI k → ZZ 37 [some (za_r 11 0), some (za_r 1 0), some (za_i t0.2.1), some (za_i y), some (za_i x)] [] μ1 (0, 0))
          (I := fun k μ1 => tg_I g μ1 ∧ tg_le t0.1.1 μ1 ∧ tg_N μ1 t0.1.2.1 t0.1.2.2 ∧ (μ1.1 11 0 1 = 0 → ∀ q, q < k → ∀ idx, tb_in g q idx t0.1.2.1 → tg_fr g q t0.1.2.2 idx 4 (t0.2.2.1 = 0) → tg_tr g q idx μ1) ∧ zq_fr tf_S μ μ1)
          (fun μ1 h x hx => by
            obtain ⟨j1, j2, j3, j4, j5⟩ := h
            have hC1 := tf_Cg hC j5
            refine run [16, 37] 60 37 _ _ _ _ ?_
            refine ⟨fun _ => ?_, fun q => absurd (by rw [hC1.2.1, hx]; exact Int32.le_refl _) q⟩
            refine ⟨d - 1, 0, 0, _, _, by omega, Nat.le_refl _, Nat.le_refl _, ct_T_beginRound (N := t0.1.2.1) (K := tg_K μ1) (fun s hs => ⟨(j3 s hs).1, hN10 s hs⟩) (fun s hs => j1.1.1 s hs) (by omega), ?_, fun _ _ h => h.elim⟩
            rintro r μ2 ⟨⟨v, rfl, hv, hv1⟩, b1, b2⟩
            have n12 : μ2.1 12 0 = μ1.1 12 0 := b2.1 12 0 (by decide)
            have n11 : μ2.1 11 0 = μ1.1 11 0 := b2.1 11 0 (by decide)
            have n14 : ∀ s, μ2.2 14 s = μ1.2 14 s := fun s => b2.2 14 s (fun q => absurd q.1 (by decide))
            have eK : tg_K μ2 = tg_K μ1 := by funext s; unfold tg_K; rw [n12]
            have eT : tg_T μ2 = tg_T μ1 := by funext s i; unfold tg_T; rw [n14]
            have eC : tg_C μ2 = tg_C μ1 := by unfold tg_C; rw [n11]
            have hall : μ1.1 11 0 1 = 0 → tg_cl g t0.1.2.1 μ2 := by
              intro q p hp idx hin
              unfold tg_tr
              rw [eK, eT, eC]
              by_cases hf : tg_fr g p t0.1.2.2 idx 4 (t0.2.2.1 = 0)
              · exact j4 q p hp idx hin hf
              · have h0 : ¬ t0.2.2.1 = 0 := fun z => hf (Or.inl z)
                have hm3 := (hg.2.2.2.2.1 p hp).1
                have hin0 : tb_in g p idx t0.1.2.2 := fun o a b => Classical.byContradiction fun z => hf (Or.inr ⟨o, a, by omega, b, by omega⟩)
                have h01 : t0.1.1.1 11 0 1 = 0 := h1
                exact tb_trm hg hp (fun o a b => Nat.lt_of_lt_of_le (hin0 o a b) (Nat.le_trans (i2 _ (gq_sy8 hg hp b)).2.2.1 (i2 _ (gq_sy8 hg hp b)).2.2.2)) j2 (i5 h0 h01 p hp idx hin0)
            have hNle : ∀ s, s < 8 → t0.1.2.1 s ≤ tg_K μ1 s := fun s hs => (j3 s hs).2.2.2
            refine ihw ((μ2, tg_K μ1, t0.1.2.1), v, t0.2.2.1 + 1, some (za_i x)) ⟨?_, fun s hs => ⟨(b1 s hs).1, (b1 s hs).2, hNle s hs, by rw [eK]; exact Nat.le_refl _⟩, fun s hs => by rw [eK], hv, fun _ q => hall (by rw [← n11]; exact q), fun q0 q => ?_, fun q => ?_, zq_tr j5 (zq_up b2 (fun b j q => Or.inl ⟨by omega, q.2⟩))⟩ ?_ _ (zn_s hy)
            · unfold tg_I tg_ok tg_so at j1 ⊢
              dsimp only
              rw [eK, eT, eC, n11, n12]
              exact j1
            · intro p hp idx hin
              refine hall (by rw [← n11]; exact q) p hp idx (fun o a b => ?_)
              have h8 := gq_sy8 hg hp b
              have := hin o a b
              dsimp only at this
              rw [eK] at this
              have hno : ¬ t0.1.2.1 (gq_sy g p o) < tg_K μ1 (gq_sy g p o) := fun z => absurd (hv1.mpr ⟨_, h8, z⟩) (by rw [show v = 0 from q0]; decide)
              omega
            · have hlt := sm_lt 8 hNle (hv1.mp q)
              have := i7 hq1
              dsimp only
              omega
            · have hle := sm_le 8 hNle
              have hmx := sm_max (f := tg_K μ1) (c := 10) 8 (fun s hs => (j1.1.1 s hs).2)
              dsimp only
              rw [hq1, show (1 : Int32).toNatClampNeg = 1 by decide]
              rcases hv with e | e
              · rw [e, zn_c0]; omega
              · have hlt := sm_lt 8 hNle (hv1.mp e)
                rw [e, show (1 : Int32).toNatClampNeg = 1 by decide]
                omega)
          (fun k μ1 hk h ih x hx => by
            obtain ⟨j1, j2, j3, j4, j5⟩ := h
            have hC1 := tf_Cg hC j5
            obtain ⟨c1, c2, c3, c4, c5, c6⟩ := gq_Cp hg hC1 hx hk
            have hm3 := (hg.2.2.2.2.1 k hk).1
            refine run [37] 60 37 _ _ _ _ ?_
            refine ⟨fun q => absurd q (zn_ge hx hC1.2.1 hk (by omega)), fun _ => ⟨zn_i (k := 0) rfl (by decide) (by decide), c2, ?_⟩⟩
            refine ⟨d - 1, 0, 0, _, _, by omega, Nat.le_refl _, Nat.le_refl _, ct_B_start (J := 0) (by omega), ?_, fun _ _ h => h.elim⟩
            rintro r μ2 ⟨rfl, s1, s2, s3⟩
            obtain ⟨eK, eT, eC, eI, e11⟩ := tg_same (g := g) (zq_up s3 (fun _ _ q => q.1) : zq_fr (fun b _ => b = 18 ∨ b = 19) μ1 μ2)
            have f2 : zq_fr (tg_S 0) μ1 μ2 := zq_up s3 (fun b j q => Or.inr (Or.inr ⟨q.1, Nat.zero_le _⟩))
            have g12 : tg_le μ1 μ2 := by unfold tg_le; rw [eK, eT, eC]; exact tb_rf
            have hB : bd_S μ2 0 (bp_S (fun _ => False) g k 0 1) (gr_En g k (tb_c g k (fun _ => 0) (tg_T μ2)) 1) := by
              refine bd_Sc (bd_S0 (fun i hi => by rw [s1 i hi]; exact c6 i hi) s2) (fun v => ?_) (fun a b => ?_)
              · unfold bp_S
                exact ⟨False.elim, fun q => q.elim id (fun q => by omega)⟩
              · unfold bd_N gr_En
                exact ⟨fun q => ⟨q.1, q.2.1, Or.inl q.2.2⟩, fun q => ⟨q.1, q.2.1, q.2.2.elim id (fun q => by omega)⟩⟩
            have call : ∀ f' : Int32, (f' = 0 ∨ f' = 1) → (f' = 1 ↔ t0.2.2.1 = 0) → zk_Ct zt Γ zm_T_combine (d - 1) 0 0 [za_r 11 0, za_r 1 0, za_i x, za_i 1, za_i f'] μ2 (fun r μ' => r = none ∧ tg_post g k t0.1.2.1 t0.1.2.2 (t0.2.2.1 = 0) 1 (fun _ => 0) μ2 μ') (fun _ _ => False) := fun f' q1 q2 =>
              ct_T_combine (gq_m g k) (h := 0) hg (tg_Cg hC1 f2) (eI j1) (tg_Nm j3 g12 f2) hx rfl (by omega) hk q1 (q2.trans ⟨Or.inl, fun q => q.elim id (fun ⟨o, a, b, _⟩ => by omega)⟩) (fun o a b => by omega) hB (by omega)
            have next : ∀ μ', tg_post g k t0.1.2.1 t0.1.2.2 (t0.2.2.1 = 0) 1 (fun _ => 0) μ2 μ' → ZZ 37 [some (za_r 11 0), some (za_r 1 0), some (za_i t0.2.1), some (za_i y), some (za_i (x + 1))] [] μ' (0, 0) := by
              rintro μ' ⟨p1, p2, p3, p4, p5, p6⟩
              refine ih μ' ⟨p1, tb_tt j2 (tb_tt g12 p2), tg_Nm (tg_Nm j3 g12 f2) p2 p5, fun q r hr idx hin hfr => ?_, zq_tr (zq_tr j5 (zq_up f2 (fun b j q => ?_))) (zq_up p5 (fun b j q => ?_))⟩ _ (zn_s hx)
              · by_cases e : r = k
                · subst e
                  exact p3 q idx (fun o a b => by omega) hin hfr
                · have h01 : μ1.1 11 0 1 = 0 := j1.1.2.2.resolve_right (fun z => absurd ((p4 (by rw [e11]; exact z)).symm.trans q) (by decide))
                  have hr' : r < gq_np g := by omega
                  exact tb_trm hg hr' (fun o a b => Nat.lt_of_lt_of_le (hin o a b) (j3 _ (gq_sy8 hg hr' b)).2.2.2) (tb_tt g12 p2) (j4 h01 r (by omega) idx hin hfr)
              · rcases q with q | q | q
                · exact Or.inl ⟨by omega, q.2⟩
                · exact Or.inr (Or.inl q)
                · exact Or.inr (Or.inr q.1)
              · rcases q with q | q | q
                · exact Or.inl ⟨by omega, q.2⟩
                · exact Or.inr (Or.inl q)
                · exact Or.inr (Or.inr q.1)
            have hr0 : y = 0 ↔ t0.2.2.1 = 0 := by
              rw [hy, show (0 : Int32) = nI 0 from rfl, nI_eq (by have := i7 hq1; omega) (by decide)]
            refine ⟨fun hq => ?_, fun hq => ?_⟩
            · refine ⟨d - 1, 0, 0, _, _, by omega, Nat.le_refl _, Nat.le_refl _, call 0 (Or.inl rfl) ⟨fun q => absurd q (by decide), fun q => absurd (hr0.mpr q) hq⟩, ?_, fun _ _ h => h.elim⟩
              rintro r μ' ⟨rfl, hpost⟩
              exact next μ' hpost
            · refine ⟨d - 1, 0, 0, _, _, by omega, Nat.le_refl _, Nat.le_refl _, call 1 (Or.inr rfl) ⟨fun _ => hr0.mp hq, fun _ => rfl⟩, ?_, fun _ _ h => h.elim⟩
              rintro r μ' ⟨rfl, hpost⟩
              exact next μ' hpost)
        exact loop 0 t0.1.1 (Nat.zero_le _) ⟨i1, tb_rf, i2, fun _ q hq => absurd hq (Nat.not_lt_zero q), i8⟩ 0 rfl)
  refine run [16] 60 0 _ _ _ _ ?_
  refine ⟨fun _ => ?_, fun q => absurd hk q⟩
  refine ⟨d - 1, 0, 0, _, _, by omega, Nat.le_refl _, Nat.le_refl _, ct_T_forget (by omega), ?_, fun _ _ h => h.elim⟩
  rintro r μ2 ⟨rfl, e1, e2, e3, e4⟩
  have hK : ∀ s, s < 8 → tg_K μ2 s = 0 := fun s hs => by unfold tg_K; rw [(e1 s hs).1]; rfl
  refine wh ((μ2, (fun _ => 0), (fun _ => 0)), 1, 0, none) ⟨⟨⟨fun s hs => ?_, Or.inl e3, Or.inl e2⟩, ⟨fun s i hs hi => ?_, fun s i j hs hi => ?_, fun q => ?_⟩, fun q => ?_⟩, fun s hs => ⟨(e1 s hs).2.1, (e1 s hs).2.2, Nat.le_refl _, Nat.zero_le _⟩, fun s hs => (hK s hs).symm, Or.inr rfl, fun q => absurd rfl q, fun q => absurd q (show ¬ (1 : Int32) = 0 by decide), fun _ => Nat.zero_le _, e4⟩ 0 rfl
  · rw [hK s hs]
    exact ⟨(e1 s hs).1, by omega⟩
  · rw [hK s hs] at hi; exact absurd hi (Nat.not_lt_zero i)
  · rw [hK s hs] at hi; exact absurd hi (Nat.not_lt_zero i)
  · unfold tg_C at q
    rw [e3] at q
    exact absurd q (by decide)
  · dsimp only at q
    rw [e2] at q
    exact absurd q (by decide)
end
section
/-! PASSES, said of the grammar -/
def ps_left (tb : Bool) (n : Nat) : Bool := !tb || n % 2 == 1
def ps_sd (left : Bool) (x y : Nat) : Prop := x / 8 = 0 ∨ y < 8 ∨ (if left = true then y / 8 < x / 8 else x / 8 < y / 8)
def ps_ix (g : gq_G) (p x : Nat) : Nat := 8 * gq_sy g p (x / 8) + x % 8
/-- what must be left out: by the place q % 32 of the production q / 32, when D is left out -/
def ps_F (g : gq_G) (nb : Nat → Nat) (left : Bool) (q : Nat) (D : Nat → Prop) (i : Nat) : Prop := i = ps_ix g (q / 32) (q % 32) ∧ nb i = 0 ∧ ∃ y, bt (gq_nd g (q / 32) (q % 32)) y = true ∧ nb (ps_ix g (q / 32) y) = 0 ∧ (¬ ps_sd left (q % 32) y ∨ D (ps_ix g (q / 32) y))
theorem ps_Fm (g : gq_G) (nb : Nat → Nat) (left : Bool) : lf_m (ps_F g nb left) := fun _ _ _ h _ ⟨h1, h2, y, h3, h4, h5⟩ => ⟨h1, h2, y, h3, h4, h5.elim Or.inl (fun q => Or.inr (h _ q))⟩
def ps_at (g : gq_G) (i : Nat) : Prop := i / 8 < gq_ns g ∧ i % 8 < gq_at g (i / 8)
theorem ps_th {g : gq_G} (hg : gq_ok g) {p x : Nat} (hp : p < gq_np g) (h : gq_th g p x) : ps_at g (ps_ix g p x) ∧ ps_ix g p x < 64 := by
  have hs := (hg.2.2.2.2.1 p hp).2 _ h.1
  have h8 := gq_sy8 hg hp h.1
  unfold ps_at ps_ix
  rw [show (8 * gq_sy g p (x / 8) + x % 8) / 8 = gq_sy g p (x / 8) by omega, show (8 * gq_sy g p (x / 8) + x % 8) % 8 = x % 8 by omega]
  exact ⟨⟨hs, h.2⟩, by omega⟩
theorem ps_FN {g : gq_G} (hg : gq_ok g) (nb : Nat → Nat) (left : Bool) : ∀ q X i, q < 32 * gq_np g → ps_F g nb left q X i → i < 64 := by
  rintro q X i hq ⟨rfl, _, y, h, _⟩
  exact (ps_th hg (by omega) (hg.2.2.2.2.2 _ _ y (by omega) (by omega) h).1.1).2
/-- by productions -/
def ps_G (g : gq_G) (nb : Nat → Nat) (left : Bool) (p : Nat) (D : Nat → Prop) (i : Nat) : Prop := ∃ x, x < 32 ∧ ps_F g nb left (32 * p + x) D i
theorem ps_Gm (g : gq_G) (nb : Nat → Nat) (left : Bool) : lf_m (ps_G g nb left) := fun _ _ _ h _ ⟨x, h1, h2⟩ => ⟨x, h1, ps_Fm g nb left _ _ _ h _ h2⟩
theorem ps_GN {g : gq_G} (hg : gq_ok g) (nb : Nat → Nat) (left : Bool) : ∀ p X i, p < gq_np g → ps_G g nb left p X i → i < 64 := by
  rintro p X i hp ⟨x, h1, h2⟩
  exact ps_FN hg nb left _ X i (by omega) h2
theorem ps_GL (g : gq_G) (nb : Nat → Nat) (left : Bool) (i : Nat) : lf_L (ps_G g nb left) (gq_np g) i ↔ lf_L (ps_F g nb left) (32 * gq_np g) i := by
  have h : ∀ X, lf_C (ps_G g nb left) (gq_np g) X ↔ lf_C (ps_F g nb left) (32 * gq_np g) X := fun X =>
    ⟨fun h q hq i hi => h (q / 32) (by omega) i ⟨q % 32, by omega, by rw [show 32 * (q / 32) + q % 32 = q by omega]; exact hi⟩, fun h p hp i ⟨x, h1, h2⟩ => h _ (by omega) i h2⟩
  exact ⟨fun q X hX => q X ((h X).mpr hX), fun q X hX => q X ((h X).mp hX)⟩
/-- in the pass's set -/
def ps_in (g : gq_G) (nb : Nat → Nat) (left : Bool) (i : Nat) : Prop := ps_at g i ∧ nb i = 0 ∧ ¬ lf_L (ps_F g nb left) (32 * gq_np g) i
noncomputable def ps_if (P : Prop) (a b : Nat) : Nat := @ite Nat P (Classical.propDecidable P) a b
theorem ps_ip {P : Prop} (h : P) (a b : Nat) : ps_if P a b = a := by unfold ps_if; exact if_pos h
theorem ps_in' {P : Prop} (h : ¬ P) (a b : Nat) : ps_if P a b = b := by unfold ps_if; exact if_neg h
noncomputable def ps_nx (g : gq_G) (left : Bool) (n : Nat) (nb : Nat → Nat) (i : Nat) : Nat := ps_if (ps_in g nb left i) n (nb i)
noncomputable def ps_nb (g : gq_G) (tb : Bool) : Nat → Nat → Nat
  | 0 => fun _ => 0
  | n + 1 => ps_nx g (ps_left tb (n + 1)) (n + 1) (ps_nb g tb n)
/-- some attribute is given the number n + 1 -/
def ps_any (g : gq_G) (tb : Bool) (n : Nat) : Prop := ∃ i, i < 64 ∧ ps_in g (ps_nb g tb n) (ps_left tb (n + 1)) i
noncomputable def ps_id (g : gq_G) (tb : Bool) : Nat → Nat
  | 0 => 0
  | n + 1 => ps_if (ps_any g tb n) 0 (ps_id g tb n + 1)
noncomputable def ps_la (g : gq_G) (tb : Bool) : Nat → Nat
  | 0 => 0
  | n + 1 => ps_if (ps_any g tb n) (n + 1) (ps_la g tb n)
def ps_mo (tb : Bool) : Nat := if tb = true then 2 else 1
/-- the passes are over -/
def ps_end (g : gq_G) (tb : Bool) (n : Nat) : Prop := ps_mo tb ≤ ps_id g tb n ∧ ∀ j, j < n → ps_id g tb j < ps_mo tb
theorem ps_uq {g : gq_G} {tb : Bool} {n n' : Nat} (h : ps_end g tb n) (h' : ps_end g tb n') : n = n' := by
  rcases Nat.lt_trichotomy n n' with q | q | q
  · have := h'.2 n q; have := h.1; omega
  · exact q
  · have := h.2 n' q; have := h'.1; omega
theorem ps_nb_le (g : gq_G) (tb : Bool) : ∀ n i, ps_nb g tb n i ≤ n
  | 0, _ => Nat.le_refl _
  | n + 1, i => by
    unfold ps_nb ps_nx
    by_cases h : ps_in g (ps_nb g tb n) (ps_left tb (n + 1)) i
    · rw [ps_ip h]; exact Nat.le_refl _
    · rw [ps_in' h]; exact Nat.le_succ_of_le (ps_nb_le g tb n i)
/-- how far it can go -/
noncomputable def ps_me (g : gq_G) (tb : Bool) (n : Nat) : Nat := 3 * ct_n (fun i => decide (ps_nb g tb n i ≠ 0)) 64 + (2 - ps_id g tb n)
theorem ps_me_lt {g : gq_G} {tb : Bool} {n : Nat} (h : ps_id g tb n < 2) : ps_me g tb (n + 1) < ps_me g tb n := by
  unfold ps_me
  have hmono : ∀ i, i < 64 → decide (ps_nb g tb n i ≠ 0) = true → decide (ps_nb g tb (n + 1) i ≠ 0) = true := by
    intro i _ q
    rw [decide_eq_true_eq] at q ⊢
    unfold ps_nb ps_nx
    by_cases h : ps_in g (ps_nb g tb n) (ps_left tb (n + 1)) i
    · rw [ps_ip h]; omega
    · rw [ps_in' h]; exact q
  by_cases q : ps_any g tb n
  · obtain ⟨i, hi, hin⟩ := q
    have hlt := ct_n_lt hmono ⟨i, hi, by rw [decide_eq_false_iff_not]; exact fun z => z hin.2.1, by
      rw [decide_eq_true_eq]
      unfold ps_nb ps_nx
      rw [ps_ip hin]
      omega⟩
    omega
  · have hle := ct_n_le (N := 64) hmono
    have : ps_id g tb (n + 1) = ps_id g tb n + 1 := by
      rw [ps_id, ps_in' q]
    omega
theorem ps_me0 (g : gq_G) (tb : Bool) : ps_me g tb 0 ≤ 194 := by
  unfold ps_me
  have := ct_n_max (fun i => decide (ps_nb g tb 0 i ≠ 0)) 64
  omega
/-- what is left out so far -/
def ps_d (g : gq_G) (nb : Nat → Nat) (set : Nat → Bool) (i : Nat) : Bool := decide (i / 8 < gq_ns g ∧ i % 8 < gq_at g (i / 8) ∧ nb i = 0) && !set i
theorem ps_d_iff {g : gq_G} {nb : Nat → Nat} {set : Nat → Bool} {i : Nat} : ps_d g nb set i = true ↔ (ps_at g i ∧ nb i = 0 ∧ set i = false) := by
  unfold ps_d ps_at
  rw [Bool.and_eq_true, decide_eq_true_eq, Bool.not_eq_true']
  exact ⟨fun q => ⟨⟨q.1.1, q.1.2.1⟩, q.1.2.2, q.2⟩, fun q => ⟨⟨q.1.1, q.1.2, q.2.1⟩, q.2.2⟩⟩
/-- when all is left out that must be -/
theorem ps_done {g : gq_G} {nb : Nat → Nat} {left : Bool} {set : Nat → Bool} (hs : ∀ i, i < 64 → set i = true → ps_at g i ∧ nb i = 0) (h : ∀ i, lf_V 64 (ps_d g nb set) i ↔ lf_L (ps_F g nb left) (32 * gq_np g) i) {i : Nat} (hi : i < 64) : set i = true ↔ ps_in g nb left i := by
  constructor
  · intro q
    refine ⟨(hs i hi q).1, (hs i hi q).2, fun z => ?_⟩
    have := (ps_d_iff.mp ((h i).mpr z).2).2.2
    rw [q] at this
    cases this
  · rintro ⟨q1, q2, q3⟩
    cases hq : set i with
    | true => rfl
    | false => exact absurd ((h i).mp ⟨hi, ps_d_iff.mpr ⟨q1, q2, hq⟩⟩) q3
end
section
/-! the reference: places, sets -/
theorem zn_div {k : Nat} (h : k < 2 ^ 31) : nI k / 8 = nI (k / 8) := pk_div h (by decide) (by decide)
theorem zn_rem {k : Nat} (h : k < 2 ^ 31) : nI k - nI k / 8 * 8 = nI (k % 8) := pk_rem h (by decide) (by decide)
theorem ct_M_symbolOf' {Γ : zk_G} {d p k : Nat} {x o : Int32} {μ : za_M} {g : gq_G} (hg : gq_ok g) (hM : gq_M g μ) (hx : x = nI p) (ho : o = nI k) (hk : k < 2 ^ 31) (hp : p < gq_np g) (hd : 2 ≤ d) : zk_Ct zt Γ zm_M_symbolOf d 0 0 [za_r 30 0, za_i x, za_i o] μ (fun r μ' => (∃ s : Int32, r = some (za_i s) ∧ s = if k ≤ gq_m g p then nI (gq_sy g p k) else -1) ∧ μ' = μ) (fun _ _ => False) := by
  have hp16 : p < 16 := Nat.lt_of_lt_of_le hp hg.2.1
  have hm := (hg.2.2.2.2.1 p hp).1
  refine zs_M_symbolOf (Nat.le_of_ble_eq_true rfl) (by omega) (fun ZZ run => ?_)
  refine run [] 20 0 _ _ _ _ ?_
  refine ⟨d - 1, 0, 0, _, _, by omega, Nat.le_refl _, Nat.le_refl _, ct_M_in (by omega), ?_, fun _ _ h => h.elim⟩
  rintro r μ1 ⟨rfl, rfl⟩
  by_cases h : k < 4
  · have hn : ¬ (o < 0 ∨ 3 < o) := by
      rintro (q | q)
      · rw [ho] at q; exact gq_neg k hk q
      · exact absurd q (zn_nl (show (3 : Int32) = nI 3 from rfl) ho (by omega) (by decide))
    obtain ⟨o1, o2⟩ := gq_occ hM hx ho hp hp16 h
    rw [if_neg hn]
    exact ⟨fun q => absurd q (by decide), fun _ => ⟨o1, rfl, Or.inl rfl, Nat.le_refl _, Nat.le_refl _, ⟨_, rfl, o2⟩, rfl⟩⟩
  · have hn : o < 0 ∨ 3 < o := Or.inr (zn_lt2 (show (3 : Int32) = nI 3 from rfl) ho (by omega) hk)
    rw [if_pos hn]
    exact ⟨fun _ => ⟨rfl, Or.inl rfl, Nat.le_refl _, Nat.le_refl _, ⟨-1, rfl, by rw [if_neg (by omega)]⟩, rfl⟩, fun q => absurd rfl q⟩
theorem ct_M_isThere {Γ : zk_G} {d p : Nat} {x z : Int32} {μ : za_M} {g : gq_G} (hg : gq_ok g) (hM : gq_M g μ) (hx : x = nI p) (hp : p < gq_np g) (hd : 3 ≤ d) : zk_Ct zt Γ zm_M_isThere d 0 0 [za_r 30 0, za_i x, za_i z] μ (fun r μ' => (∃ v : Int32, r = some (za_i v) ∧ (v = 0 ∨ v = 1) ∧ (v = 1 ↔ ∃ k, k < 32 ∧ z = nI k ∧ gq_th g p k)) ∧ μ' = μ) (fun _ _ => False) := by
  have hm := (hg.2.2.2.2.1 p hp).1
  refine zs_M_isThere (Nat.le_of_ble_eq_true rfl) (by omega) (fun ZZ run => ?_)
  refine run [] 40 0 _ _ _ _ ?_
  refine ⟨fun hz => ?_, fun hz => ?_⟩
  · obtain ⟨k, hk, rfl⟩ := nI_of (Int32.not_lt.mpr hz)
    refine ⟨by decide, ?_⟩
    refine ⟨d - 1, 0, 0, _, _, by omega, Nat.le_refl _, Nat.le_refl _, ct_M_symbolOf' (k := k / 8) hg hM hx (zn_div hk) (by omega) hp (by omega), ?_, fun _ _ h => h.elim⟩
    rintro r μ1 ⟨⟨s, rfl, hs⟩, rfl⟩
    by_cases h : k / 8 ≤ gq_m g p
    · rw [if_pos h] at hs
      have hs8 := gq_sy8 hg hp h
      have hsn := (hg.2.2.2.2.1 p hp).2 _ h
      have e31 : μ1.1 31 0 s.toNatClampNeg = nI (gq_at g (gq_sy g p (k / 8))) := by rw [zn_c hs (by omega)]; exact (hM.2.2.1 _ hsn).1
      have hat := (hg.2.2.1 _ hsn).1
      refine ⟨fun q => absurd q (by rw [hs]; exact gq_neg _ (by omega)), fun _ => ⟨by decide, zn_i hs hs8 (by decide), fun q => ?_, fun q => ?_⟩⟩
      · refine ⟨rfl, Or.inr ⟨rfl, Or.inl rfl⟩, Nat.le_refl _, Nat.le_refl _, ⟨0, rfl, Or.inl rfl, fun q => absurd q (by decide), fun ⟨k', q1, q2, q3, q4⟩ => ?_⟩, rfl⟩
        have e : k = k' := (nI_eq (by omega) (by omega)).mp q2
        subst e
        exact absurd q (zn_ge (zn_rem hk) e31 q4 (by omega))
      · refine ⟨rfl, Or.inr ⟨rfl, Or.inr rfl⟩, Nat.le_refl _, Nat.le_refl _, ⟨1, rfl, Or.inr rfl, fun _ => ⟨k, by omega, rfl, h, ?_⟩, fun _ => rfl⟩, rfl⟩
        exact Classical.byContradiction fun z => q (by rw [e31, zn_rem hk]; exact nI_le (by omega) (by omega))
    · rw [if_neg h] at hs
      refine ⟨fun _ => ⟨rfl, Or.inr ⟨rfl, Or.inl rfl⟩, Nat.le_refl _, Nat.le_refl _, ⟨0, rfl, Or.inl rfl, fun q => absurd q (by decide), fun ⟨k', q1, q2, q3, q4⟩ => ?_⟩, rfl⟩, fun q => absurd (by rw [hs]; decide) q⟩
      have e : k = k' := (nI_eq (by omega) (by omega)).mp q2
      subst e
      exact absurd q3 h
  · refine ⟨fun _ => ⟨rfl, Or.inr ⟨rfl, Or.inl rfl⟩, Nat.le_refl _, Nat.le_refl _, ⟨0, rfl, Or.inl rfl, fun q => absurd q (by decide), fun ⟨k', q1, q2, q3⟩ => ?_⟩, rfl⟩, fun q => absurd (by decide) q⟩
    exact absurd (by rw [q2]; exact Int32.not_lt.mp (gq_neg k' (by omega))) hz
theorem ct_M_defines {Γ : zk_G} {d p : Nat} {x z : Int32} {μ : za_M} {g : gq_G} (hg : gq_ok g) (hM : gq_M g μ) (hx : x = nI p) (hp : p < gq_np g) (hd : 4 ≤ d) : zk_Ct zt Γ zm_M_defines d 0 0 [za_r 30 0, za_i x, za_i z] μ (fun r μ' => (∃ v : Int32, r = some (za_i v) ∧ (v = 0 ∨ v = 1) ∧ (v = 1 ↔ ∃ k, k < 32 ∧ z = nI k ∧ gq_df g p k)) ∧ μ' = μ) (fun _ _ => False) := by
  refine zs_M_defines (Nat.le_of_ble_eq_true rfl) (by omega) (fun ZZ run => ?_)
  refine run [] 60 0 _ _ _ _ ?_
  refine ⟨d - 1, 0, 0, _, _, by omega, Nat.le_refl _, Nat.le_refl _, ct_M_isThere hg hM hx hp (by omega), ?_, fun _ _ h => h.elim⟩
  rintro r μ1 ⟨⟨v, rfl, hv, hv1⟩, rfl⟩
  refine ⟨fun q => ?_, fun q => ?_⟩
  · refine ⟨rfl, Or.inr ⟨rfl, Or.inl rfl⟩, Nat.le_refl _, Nat.le_refl _, ⟨0, rfl, Or.inl rfl, fun q => absurd q (by decide), fun ⟨k, q1, q2, q3⟩ => ?_⟩, rfl⟩
    have := hv1.mpr ⟨k, q1, q2, q3.1⟩
    rw [q] at this
    exact absurd this (by decide)
  · obtain ⟨k, hk, rfl, hth⟩ := hv1.mp (zn_or01 hv q)
    refine ⟨by decide, ?_⟩
    refine ⟨d - 1, 0, 0, _, _, by omega, Nat.le_refl _, Nat.le_refl _, ct_M_symbolOf' (k := k / 8) hg hM hx (zn_div (by omega)) (by omega) hp (by omega), ?_, fun _ _ h => h.elim⟩
    rintro r μ2 ⟨⟨s, rfl, hs⟩, rfl⟩
    rw [if_pos hth.1] at hs
    have hs8 := gq_sy8 hg hp hth.1
    have hsn := (hg.2.2.2.2.1 p hp).2 _ hth.1
    refine ⟨by decide, ?_⟩
    refine ⟨d - 1, 0, 0, _, _, by omega, Nat.le_refl _, Nat.le_refl _, ct_M_isDown' (a := k % 8) (by omega) hs (zn_rem (by omega)) hs8 (by omega) (hM.2.2.1 _ hsn).2, ?_, fun _ _ h => h.elim⟩
    rintro r μ3 ⟨⟨w, rfl, hw, hw1⟩, rfl⟩
    have yes : (w = 1 ↔ 7 < k) → ∃ k', k' < 32 ∧ nI k = nI k' ∧ gq_df g p k' := fun z => ⟨k, hk, rfl, hth, hw1.symm.trans z⟩
    have no : ¬ (w = 1 ↔ 7 < k) → ¬ ∃ k', k' < 32 ∧ nI k = nI k' ∧ gq_df g p k' := fun z ⟨k', q1, q2, q3⟩ => z (by
      have e : k = k' := (nI_eq (by omega) (by omega)).mp q2
      subst e
      exact hw1.trans q3.2)
    refine ⟨fun h7 => ⟨fun he => ?_, fun he => ?_⟩, fun h7 => ⟨fun he => ?_, fun he => ?_⟩⟩
    · have h7 : ¬ 7 < k := fun z => absurd h7 (nI_ge (a := 7) z (by omega))
      exact ⟨rfl, Or.inr ⟨rfl, Or.inl rfl⟩, Nat.le_refl _, Nat.le_refl _, ⟨0, rfl, Or.inl rfl, fun q => absurd q (by decide), fun q => absurd q (no (fun z => he (hw.resolve_right (fun y => h7 (z.mp y)))))⟩, rfl⟩
    · have h7 : ¬ 7 < k := fun z => absurd h7 (nI_ge (a := 7) z (by omega))
      exact ⟨rfl, Or.inr ⟨rfl, Or.inr rfl⟩, Nat.le_refl _, Nat.le_refl _, ⟨1, rfl, Or.inr rfl, fun _ => yes ⟨fun z => absurd (z.symm.trans he) (by decide), fun z => absurd z h7⟩, fun _ => rfl⟩, rfl⟩
    · have h7 : 7 < k := Classical.byContradiction fun z => h7 (nI_le (b := 7) (by omega) (by decide))
      exact ⟨rfl, Or.inr ⟨rfl, Or.inl rfl⟩, Nat.le_refl _, Nat.le_refl _, ⟨0, rfl, Or.inl rfl, fun q => absurd q (by decide), fun q => absurd q (no (fun z => he (z.mpr h7)))⟩, rfl⟩
    · have h7 : 7 < k := Classical.byContradiction fun z => h7 (nI_le (b := 7) (by omega) (by decide))
      exact ⟨rfl, Or.inr ⟨rfl, Or.inr rfl⟩, Nat.le_refl _, Nat.le_refl _, ⟨1, rfl, Or.inr rfl, fun _ => yes ⟨fun _ => h7, fun _ => he⟩, fun _ => rfl⟩, rfl⟩
theorem ct_M_inSet {Γ : zk_G} {d p k : Nat} {x z : Int32} {μ : za_M} {g : gq_G} (hg : gq_ok g) (hM : gq_M g μ) (h01 : ∀ i, i < 64 → μ.1 43 0 i = 0 ∨ μ.1 43 0 i = 1) (hx : x = nI p) (hz : z = nI k) (hk : k < 32) (hth : gq_th g p k) (hp : p < gq_np g) (hd : 3 ≤ d) : zk_Ct zt Γ zm_M_inSet d 0 0 [za_r 30 0, za_i x, za_i z] μ (fun r μ' => r = some (za_i (μ.1 43 0 (ps_ix g p k))) ∧ μ' = μ) (fun _ _ => False) := by
  have hs8 := gq_sy8 hg hp hth.1
  refine zs_M_inSet (Nat.le_of_ble_eq_true rfl) (by omega) (fun ZZ run => ?_)
  refine run [] 40 0 _ _ _ _ ?_
  refine ⟨by decide, ?_⟩
  refine ⟨d - 1, 0, 0, _, _, by omega, Nat.le_refl _, Nat.le_refl _, ct_M_symbolOf' (k := k / 8) hg hM hx (by rw [hz]; exact zn_div (by omega)) (by omega) hp (by omega), ?_, fun _ _ h => h.elim⟩
  rintro r μ1 ⟨⟨s, rfl, hs⟩, rfl⟩
  rw [if_pos hth.1] at hs
  have e : (8 : Int32) * s + (z - z / 8 * 8) = nI (ps_ix g p k) := by
    rw [hs, hz, zn_rem (by omega), zn_8, nI_add]
    rfl
  have hlt : ps_ix g p k < 64 := (ps_th hg hp hth).2
  refine ⟨by decide, zn_i e hlt (by decide), ?_⟩
  rw [zn_c e (by omega)]
  exact ⟨rfl, Or.inr ⟨rfl, h01 _ hlt⟩, Nat.le_refl _, Nat.le_refl _, rfl, rfl⟩
end
section
/-! the reference: what must be left out -/
theorem zb_t20 (x : Int32) {l : Nat} (hl : l < 32) : (x >>> (nI l &&& 31)) &&& 1 = 0 ↔ bt x l = false := by
  have h := zb_t2 x hl
  have h1 : ∀ y : Int32, y &&& 1 = 0 ∨ y &&& 1 = 1 := by
    intro y
    by_cases q : bt y 0 = true
    · exact Or.inr ((zb_and1 y).mpr q)
    · refine Or.inl (b_ext fun i hi => ?_)
      rw [b_and, zb_b1 i hi, b_0]
      by_cases e : i = 0
      · subst e
        rw [Bool.not_eq_true] at q
        rw [q]
        rfl
      · rw [decide_eq_false e, Bool.and_false]
  constructor
  · intro q
    cases hb : bt x l with
    | false => rfl
    | true =>
      rw [h.mpr hb] at q
      exact absurd q (by decide)
  · intro q
    rcases h1 (x >>> (nI l &&& 31)) with z | z
    · exact z
    · rw [h.mp z] at q
      cases q
theorem lf_In {F : Nat → (Nat → Prop) → Nat → Prop} {n N : Nat} {x0 x : Nat → Bool} {k : Nat} {v : Int32} (hm : lf_m F) (hN : ∀ p X i, p < n → F p X i → i < N) (h : lf_I F n N x0 k x v) (hk : k < n) (hF : ∀ i, F k (lf_V N x) i → lf_V N x i) : lf_I F n N x0 (k + 1) x v :=
  lf_Is hm hN h hk (fun i _ => ⟨Or.inl, fun q => q.elim id (fun q => (hF i q).2)⟩) h.1 ⟨Or.inl, fun q => q.elim id (fun ⟨i, q, q2⟩ => absurd (hF i q) q2)⟩
def ps_st (g : gq_G) (nb : Nat → Nat) (set : Nat → Bool) (L : Bool) (p k y : Nat) : Prop := 0 < nb (ps_ix g p y) ∨ (set (ps_ix g p y) = true ∧ ps_sd L k y)
/-- the set in memory -/
def ps_ms (μ : za_M) (i : Nat) : Bool := decide (μ.1 43 0 i = 1)
set_option maxHeartbeats 8000000 in
theorem ct_M_mayStay {Γ : zk_G} {d p k : Nat} {x z l : Int32} {L : Bool} {μ : za_M} {g : gq_G} {nb : Nat → Nat} (hg : gq_ok g) (hM : gq_M g μ) (h42 : ∀ i, i < 64 → μ.1 42 0 i = nI (nb i) ∧ nb i < 2 ^ 31) (h01 : ∀ i, i < 64 → μ.1 43 0 i = 0 ∨ μ.1 43 0 i = 1) (hx : x = nI p) (hz : z = nI k) (hk : k < 32) (hp : p < gq_np g) (hl : l = if L = true then 1 else 0) (hd : 5 ≤ d) : zk_Ct zt Γ zm_M_mayStay d 0 0 [za_r 30 0, za_i x, za_i z, za_i l] μ (fun r μ' => (∃ v : Int32, r = some (za_i v) ∧ (v = 0 ∨ v = 1) ∧ (v = 1 ↔ ∀ y, bt (gq_nd g p k) y = true → ps_st g nb (ps_ms μ) L p k y)) ∧ μ' = μ) (fun _ _ => False) := by
  have hp16 : p < 16 := Nat.lt_of_lt_of_le hp hg.2.1
  refine zs_M_mayStay (Nat.le_of_ble_eq_true rfl) (by omega) (fun ZZ run => ?_)
  have hpart : z / 8 = nI (k / 8) := by rw [hz]; exact zn_div (by omega)
  have loop := zn_for (σ := Int32 × Option za_V × Option za_V) (N := 32)
    (P := fun n t => ∀ y : Int32, y = nI n → ZZ 12 [some (za_r 30 0), some (za_i x), some (za_i z), some (za_i l), some (za_i t.1), some (za_i (z / 8)), some (za_i y), t.2.1, t.2.2] [] μ (0, 0))
    (I := fun n t => (t.1 = 0 ∨ t.1 = 1) ∧ (t.1 = 1 ↔ ∀ y, y < n → bt (gq_nd g p k) y = true → ps_st g nb (ps_ms μ) L p k y))
    (fun t h y hy => by
      refine run [12, 111, 145] 60 12 _ _ _ _ ?_
      refine ⟨fun _ => ?_, fun q => absurd (by rw [hy]; exact nI_le (Nat.le_refl 32) (by decide)) q⟩
      refine ⟨rfl, Or.inr ⟨rfl, h.1⟩, Nat.le_refl _, Nat.le_refl _, ⟨t.1, rfl, h.1, h.2.trans ⟨fun q y hy => ?_, fun q y _ hy => q y hy⟩⟩, rfl⟩
      by_cases e : y < 32
      · exact q y e hy
      · rw [b_big (by omega)] at hy; cases hy)
    (fun n t hn h ih y hy => by
      have hi : (32 : Int32) * x + z = nI (32 * p + k) := by rw [hx, hz, show (32 : Int32) * nI p = nI (32 * p) from pk_mul 32 p, nI_add]
      have hc : ((32 : Int32) * x + z).toNatClampNeg = 32 * p + k := zn_c hi (by omega)
      have end145 : ∀ (v : Int32) (a b : Option za_V), (v = 0 ∨ v = 1) → (v = 1 ↔ (t.1 = 1 ∧ (bt (gq_nd g p k) n = true → ps_st g nb (ps_ms μ) L p k n))) → ZZ 145 [some (za_r 30 0), some (za_i x), some (za_i z), some (za_i l), some (za_i v), some (za_i (z / 8)), some (za_i y), a, b] [] μ (0, 0) := by
        intro v a b hv hv1
        refine run [12] 60 145 _ _ _ _ ?_
        refine ih (v, a, b) ⟨hv, hv1.trans ⟨fun q y hy hb => ?_, fun q => ⟨h.2.mpr (fun y hy => q y (by omega)), q n (Nat.lt_succ_self n)⟩⟩⟩ _ (zn_s hy)
        by_cases e : y = n
        · subst e; exact q.2 hb
        · exact h.2.mp q.1 y (by omega) hb
      refine run [12, 111, 145] 60 12 _ _ _ _ ?_
      refine ⟨fun q => absurd q (zn_ge hy rfl hn (by decide)), fun _ => ⟨zn_i hi (by omega) (by decide), fun hb => ?_, fun hb => ?_⟩⟩
      case refine_2 =>
        rw [hc, hM.2.2.2.2 p k hp16 hk, if_pos hp, hy, zb_t20 _ hn] at hb
        exact end145 _ _ _ h.1 ⟨fun q => ⟨q, fun q2 => by rw [hb] at q2; cases q2⟩, fun q => q.1⟩
      have hbt : bt (gq_nd g p k) n = true := by
        rw [hc, hM.2.2.2.2 p k hp16 hk, if_pos hp, hy, zb_t20 _ hn, Bool.not_eq_false] at hb
        exact hb
      have hth := (hg.2.2.2.2.2 p k n hp hk hbt).2.1
      have hlt : ps_ix g p n < 64 := (ps_th hg hp hth).2
      refine ⟨by decide, ?_⟩
      refine ⟨d - 1, 0, 0, _, _, by omega, Nat.le_refl _, Nat.le_refl _, ct_M_symbolOf' (k := n / 8) hg hM hx (by rw [hy]; exact zn_div (by omega)) (by omega) hp (by omega), ?_, fun _ _ h => h.elim⟩
      rintro r μ1 ⟨⟨s, rfl, hs⟩, rfl⟩
      rw [if_pos hth.1] at hs
      have e : (8 : Int32) * s + (y - y / 8 * 8) = nI (ps_ix g p n) := by
        rw [hs, hy, zn_rem (by omega), zn_8, nI_add]
        rfl
      have hnum : μ1.1 42 0 ((8 : Int32) * s + (y - y / 8 * 8)).toNatClampNeg = nI (nb (ps_ix g p n)) := by rw [zn_c e (by omega)]; exact (h42 _ hlt).1
      have hnl := (h42 _ hlt).2
      have c111 : ∀ (v : Int32), (v = 0 ∨ v = 1) → (v = 1 ↔ ps_sd L k n) → ZZ 111 [some (za_r 30 0), some (za_i x), some (za_i z), some (za_i l), some (za_i t.1), some (za_i (z / 8)), some (za_i y), some (za_i (μ1.1 42 0 ((8 : Int32) * s + (y - y / 8 * 8)).toNatClampNeg)), t.2.2] [za_i v] μ1 (0, 0) := by
        intro v hv hv1
        refine run [12, 145] 60 111 _ _ _ _ ?_
        have no : (t.1 = 0 ∨ ¬ ps_st g nb (ps_ms μ1) L p k n) → ZZ 145 [some (za_r 30 0), some (za_i x), some (za_i z), some (za_i l), some (za_i 0), some (za_i (z / 8)), some (za_i y), some (za_i (μ1.1 42 0 ((8 : Int32) * s + (y - y / 8 * 8)).toNatClampNeg)), some (za_i v)] [] μ1 (0, 0) := fun q => end145 0 _ _ (Or.inl rfl) ⟨fun z => absurd z (by decide), fun z => q.elim (fun w => absurd (w.symm.trans z.1) (by decide)) (fun w => absurd (z.2 hbt) w)⟩
        have yes : ¬ t.1 = 0 → ps_st g nb (ps_ms μ1) L p k n → ZZ 145 [some (za_r 30 0), some (za_i x), some (za_i z), some (za_i l), some (za_i 1), some (za_i (z / 8)), some (za_i y), some (za_i (μ1.1 42 0 ((8 : Int32) * s + (y - y / 8 * 8)).toNatClampNeg)), some (za_i v)] [] μ1 (0, 0) := fun q1 q2 => end145 1 _ _ (Or.inr rfl) ⟨fun _ => ⟨zn_or01 h.1 q1, fun _ => q2⟩, fun _ => rfl⟩
        refine ⟨fun ht => no (Or.inl ht), fun ht => ⟨fun hn0 => ?_, fun hn0 => ?_⟩⟩
        · rw [hnum] at hn0
          refine yes ht (Or.inl ?_)
          refine Classical.byContradiction fun w => ?_
          rw [show nb (ps_ix g p n) = 0 by omega] at hn0
          exact absurd hn0 (by decide)
        · have hz0 : nb (ps_ix g p n) = 0 := by
            refine Classical.byContradiction fun w => hn0 ?_
            rw [hnum]
            exact zn_lt2 (show (0 : Int32) = nI 0 from rfl) rfl (by omega) hnl
          refine ⟨d - 1, 0, 0, _, _, by omega, Nat.le_refl _, Nat.le_refl _, ct_M_inSet hg hM h01 hx hy hn hth hp (by omega), ?_, fun _ _ h => h.elim⟩
          rintro r μ2 ⟨rfl, rfl⟩
          have hs01 := h01 _ hlt
          refine ⟨fun hq => no (Or.inr ?_), fun hq => ⟨fun hv0 => no (Or.inr ?_), fun hv0 => yes ht (Or.inr ⟨decide_eq_true (zn_or01 hs01 hq), hv1.mp (zn_or01 hv hv0)⟩)⟩⟩
          · rintro (w | ⟨w, _⟩)
            · omega
            · have w := of_decide_eq_true w
              exact absurd (hq.symm.trans w) (by decide)
          · rintro (w | ⟨_, w⟩)
            · omega
            · exact absurd (hv0.symm.trans (hv1.mpr w)) (by decide)
      have hny : y / 8 = nI (n / 8) := by rw [hy]; exact zn_div (by omega)
      have y1 : ps_sd L k n → ZZ 111 [some (za_r 30 0), some (za_i x), some (za_i z), some (za_i l), some (za_i t.1), some (za_i (z / 8)), some (za_i y), some (za_i (μ1.1 42 0 ((8 : Int32) * s + (y - y / 8 * 8)).toNatClampNeg)), t.2.2] [za_i 1] μ1 (0, 0) := fun q => c111 1 (Or.inr rfl) ⟨fun _ => q, fun _ => rfl⟩
      have y0 : ¬ ps_sd L k n → ZZ 111 [some (za_r 30 0), some (za_i x), some (za_i z), some (za_i l), some (za_i t.1), some (za_i (z / 8)), some (za_i y), some (za_i (μ1.1 42 0 ((8 : Int32) * s + (y - y / 8 * 8)).toNatClampNeg)), t.2.2] [za_i 0] μ1 (0, 0) := fun q => c111 0 (Or.inl rfl) ⟨fun w => absurd w (by decide), fun w => absurd w q⟩
      refine ⟨by decide, zn_i e hlt (by decide), fun h0 => y1 (Or.inl ?_), fun h0 => ⟨fun h8 => y1 (Or.inr (Or.inl ?_)), fun h8 => ⟨fun hL => ⟨by decide, fun hs => y0 ?_, fun hs => y1 ?_⟩, fun hL => ⟨by decide, fun hs => y0 ?_, fun hs => y1 ?_⟩⟩⟩⟩
      · rw [hpart] at h0
        exact (nI_eq (b := 0) (by omega) (by decide)).mp h0
      · exact Classical.byContradiction fun w => absurd h8 (zn_nl hy (show (8 : Int32) = nI 8 from rfl) (by omega) (by omega))
      all_goals
        have h0 : ¬ k / 8 = 0 := fun w => h0 (by rw [hpart, w]; rfl)
        have h8 : ¬ n < 8 := fun w => h8 (zn_lt2 hy (show (8 : Int32) = nI 8 from rfl) w (by decide))
        rw [hny, hpart] at hs
      · have hLf : L = false := by
          cases hq : L with
          | false => rfl
          | true => rw [hl, hq] at hL; exact absurd hL (by decide)
        rintro (w | w | w)
        · exact h0 w
        · exact h8 w
        · rw [hLf] at w
          exact absurd hs (nI_ge w (by omega))
      · have hLf : L = false := by
          cases hq : L with
          | false => rfl
          | true => rw [hl, hq] at hL; exact absurd hL (by decide)
        refine Or.inr (Or.inr ?_)
        rw [hLf]
        exact Classical.byContradiction fun w => hs (nI_le (show n / 8 ≤ k / 8 from Nat.le_of_not_lt w) (by omega))
      · have hLt : L = true := by
          cases hq : L with
          | true => rfl
          | false => rw [hl, hq] at hL; exact absurd rfl hL
        rintro (w | w | w)
        · exact h0 w
        · exact h8 w
        · rw [hLt] at w
          exact absurd hs (nI_ge w (by omega))
      · have hLt : L = true := by
          cases hq : L with
          | true => rfl
          | false => rw [hl, hq] at hL; exact absurd rfl hL
        refine Or.inr (Or.inr ?_)
        rw [hLt]
        exact Classical.byContradiction fun w => hs (nI_le (show k / 8 ≤ n / 8 from Nat.le_of_not_lt w) (by omega)))
  refine run [12] 60 0 _ _ _ _ ?_
  refine ⟨by decide, ?_⟩
  exact loop 0 (1, none, none) (Nat.zero_le _) ⟨Or.inr rfl, fun _ y hy => absurd hy (Nat.not_lt_zero y), fun _ => rfl⟩ 0 rfl
end
section
/-! the reference: one pass -/
theorem ps_may {g : gq_G} (hg : gq_ok g) {nb : Nat → Nat} {set : Nat → Bool} {L : Bool} {p k : Nat} (hp : p < gq_np g) (hk : k < 32) : (∃ y, bt (gq_nd g p k) y = true ∧ nb (ps_ix g p y) = 0 ∧ (¬ ps_sd L k y ∨ lf_V 64 (ps_d g nb set) (ps_ix g p y))) ↔ ¬ ∀ y, bt (gq_nd g p k) y = true → ps_st g nb set L p k y := by
  constructor
  · rintro ⟨y, h1, h2, h3⟩ q
    rcases q y h1 with w | ⟨w1, w2⟩
    · omega
    · rcases h3 with h3 | h3
      · exact h3 w2
      · have := (ps_d_iff.mp h3.2).2.2
        rw [w1] at this
        cases this
  · intro q
    refine Classical.byContradiction fun w => q fun y hy => ?_
    refine Classical.byContradiction fun w2 => w ⟨y, hy, ?_, ?_⟩
    · exact Classical.byContradiction fun w3 => w2 (Or.inl (by omega))
    · by_cases e : ps_sd L k y
      · refine Or.inr ?_
        have hth := (hg.2.2.2.2.2 p k y hp hk hy).2.1
        have hat := ps_th hg hp hth
        refine ⟨hat.2, ps_d_iff.mpr ⟨hat.1, ?_, ?_⟩⟩
        · exact Classical.byContradiction fun w3 => w2 (Or.inl (by omega))
        · cases hs : set (ps_ix g p y) with
          | false => rfl
          | true => exact absurd (Or.inr ⟨hs, e⟩) w2
      · exact Or.inl e
/-- the pass's set so far -/
def ps_so (g : gq_G) (nb : Nat → Nat) (μ : za_M) : Prop := (∀ i, i < 64 → μ.1 43 0 i = 0 ∨ μ.1 43 0 i = 1) ∧ ∀ i, i < 64 → ps_ms μ i = true → ps_at g i ∧ nb i = 0
set_option maxHeartbeats 8000000 in
theorem ct_M_leaveOut {Γ : zk_G} {d : Nat} {l : Int32} {L : Bool} {μ : za_M} {g : gq_G} {nb : Nat → Nat} (hg : gq_ok g) (hM : gq_M g μ) (h42 : ∀ i, i < 64 → μ.1 42 0 i = nI (nb i) ∧ nb i < 2 ^ 31) (hso : ps_so g nb μ) (hL : ∀ i, lf_V 64 (ps_d g nb (ps_ms μ)) i → lf_L (ps_F g nb L) (32 * gq_np g) i) (hl : l = if L = true then 1 else 0) (hd : 6 ≤ d) : zk_Ct zt Γ zm_M_leaveOut d 0 0 [za_r 30 0, za_i l] μ (fun r μ' => (∃ v : Int32, r = some (za_i v) ∧ lf_I (ps_F g nb L) (32 * gq_np g) 64 (ps_d g nb (ps_ms μ)) (32 * gq_np g) (ps_d g nb (ps_ms μ')) v) ∧ ps_so g nb μ' ∧ zq_fr (fun b j => b = 43 ∧ j = 0) μ μ') (fun _ _ => False) := by
  have hnp : gq_np g ≤ 16 := hg.2.1
  refine zs_M_leaveOut (Nat.le_of_ble_eq_true rfl) (by omega) (fun ZZ run => ?_)
  have loop := zn_for (σ := (za_M × Int32) × Option za_V) (N := gq_np g)
    (P := fun p t => ∀ x : Int32, x = nI p → ZZ 4 [some (za_r 30 0), some (za_i l), some (za_i t.1.2), some (za_i x), t.2] [] t.1.1 (0, 0))
    (I := fun p t => lf_I (ps_F g nb L) (32 * gq_np g) 64 (ps_d g nb (ps_ms μ)) (32 * p) (ps_d g nb (ps_ms t.1.1)) t.1.2 ∧ ps_so g nb t.1.1 ∧ zq_fr (fun b j => b = 43 ∧ j = 0) μ t.1.1)
    (fun t h x hx => by
      have e4 : t.1.1.1 30 0 4 = nI (gq_np g) := by rw [h.2.2.1 30 0 (by decide)]; exact hM.2.1
      refine run [4, 15, 80] 60 4 _ _ _ _ ?_
      refine ⟨fun _ => ?_, fun q => absurd (by rw [hx, e4]; exact nI_le (Nat.le_refl _) (by omega)) q⟩
      exact ⟨rfl, Or.inr ⟨rfl, h.1.1⟩, Nat.le_refl _, Nat.le_refl _, ⟨t.1.2, rfl, h.1⟩, h.2.1, h.2.2⟩)
    (fun p t hp h ih x hx => by
      have e4 : t.1.1.1 30 0 4 = nI (gq_np g) := by rw [h.2.2.1 30 0 (by decide)]; exact hM.2.1
      have inner := zn_for (σ := za_M × Int32) (N := 32)
        (P := fun k u => ∀ z : Int32, z = nI k → ZZ 15 [some (za_r 30 0), some (za_i l), some (za_i u.2), some (za_i x), some (za_i z)] [] u.1 (0, 0))
        (I := fun k u => lf_I (ps_F g nb L) (32 * gq_np g) 64 (ps_d g nb (ps_ms μ)) (32 * p + k) (ps_d g nb (ps_ms u.1)) u.2 ∧ ps_so g nb u.1 ∧ zq_fr (fun b j => b = 43 ∧ j = 0) μ u.1)
        (fun u q z hz => by
          refine run [4, 15, 80] 60 15 _ _ _ _ ?_
          refine ⟨fun _ => ?_, fun w => absurd (by rw [hz]; exact nI_le (Nat.le_refl 32) (by decide)) w⟩
          exact ih (u, some (za_i z)) q _ (zn_s hx))
        (fun k u hk q ih2 z hz => by
          obtain ⟨q1, q2, q3⟩ := q
          have hMu : gq_M g u.1 := gq_M_fr hM q3 (by decide) (by decide) (by decide) (by decide) (by rw [q3.1 30 0 (by decide)]) (by rw [q3.1 30 0 (by decide)])
          have h42u : ∀ i, i < 64 → u.1.1 42 0 i = nI (nb i) ∧ nb i < 2 ^ 31 := by rw [q3.1 42 0 (by decide)]; exact h42
          have hdv : (32 * p + k) / 32 = p := by omega
          have hmd : (32 * p + k) % 32 = k := by omega
          have stay : (∀ i, ps_F g nb L (32 * p + k) (lf_V 64 (ps_d g nb (ps_ms u.1))) i → lf_V 64 (ps_d g nb (ps_ms u.1)) i) → ZZ 80 [some (za_r 30 0), some (za_i l), some (za_i u.2), some (za_i x), some (za_i z)] [] u.1 (0, 0) := by
            intro w
            refine run [15] 60 80 _ _ _ _ ?_
            exact ih2 u ⟨lf_In (k := 32 * p + k) (ps_Fm g nb L) (ps_FN hg nb L) q1 (by omega) w, q2, q3⟩ _ (zn_s hz)
          refine run [4, 15, 80] 60 15 _ _ _ _ ?_
          refine ⟨fun w => absurd w (zn_ge hz rfl hk (by decide)), fun _ => ?_⟩
          refine ⟨d - 1, 0, 0, _, _, by omega, Nat.le_refl _, Nat.le_refl _, ct_M_defines hg hMu hx hp (by omega), ?_, fun _ _ h => h.elim⟩
          rintro r μ1 ⟨⟨v, rfl, hv, hv1⟩, hμ1⟩
          subst hμ1
          have dk : v = 1 ↔ gq_df g p k := hv1.trans ⟨fun ⟨k', w1, w2, w3⟩ => by
            have e : k = k' := (nI_eq (by omega) (by omega)).mp (hz.symm.trans w2)
            subst e
            exact w3, fun w => ⟨k, hk, hz, w⟩⟩
          refine ⟨fun hv0 => stay ?_, fun hv0 => ?_⟩
          · rintro i ⟨_, _, y, w, _⟩
            rw [hdv, hmd] at w
            exact absurd (hv0.symm.trans (dk.mpr (hg.2.2.2.2.2 p k y hp hk w).1)) (by decide)
          have hdf := dk.mp (zn_or01 hv hv0)
          have hat := ps_th hg hp hdf.1
          refine ⟨d - 1, 0, 0, _, _, by omega, Nat.le_refl _, Nat.le_refl _, ct_M_inSet hg hMu q2.1 hx hz hk hdf.1 hp (by omega), ?_, fun _ _ h => h.elim⟩
          rintro r μ1 ⟨rfl, hμ1⟩
          subst hμ1
          refine ⟨fun hs0 => stay ?_, fun hs0 => ?_⟩
          · rintro i ⟨w1, w2, _⟩
            rw [hdv, hmd] at w1
            subst w1
            refine ⟨hat.2, ps_d_iff.mpr ⟨hat.1, w2, ?_⟩⟩
            unfold ps_ms
            rw [hs0]
            rfl
          have hs1 := zn_or01 (q2.1 _ hat.2) hs0
          refine ⟨d - 1, 0, 0, _, _, by omega, Nat.le_refl _, Nat.le_refl _, ct_M_mayStay hg hMu h42u q2.1 hx hz hk hp hl (by omega), ?_, fun _ _ h => h.elim⟩
          rintro r μ1 ⟨⟨m, rfl, hm, hm1⟩, hμ1⟩
          subst hμ1
          refine ⟨fun hm0 => stay ?_, fun hm0 => ?_⟩
          · rintro i ⟨_, _, w⟩
            rw [hdv, hmd] at w
            exact absurd (hm1.mp (zn_or01 hm hm0)) ((ps_may hg hp hk).mp w)
          have hex := (ps_may (L := L) (nb := nb) hg hp hk).mpr (fun w => absurd (hm0.symm.trans (hm1.mpr w)) (by decide))
          refine ⟨by decide, ?_⟩
          refine ⟨d - 1, 0, 0, _, _, by omega, Nat.le_refl _, Nat.le_refl _, ct_M_symbolOf' (k := k / 8) hg hMu hx (by rw [hz]; exact zn_div (by omega)) (by omega) hp (by omega), ?_, fun _ _ h => h.elim⟩
          rintro r μ1 ⟨⟨s, rfl, hs⟩, hμ1⟩
          subst hμ1
          rw [if_pos hdf.1.1] at hs
          have e : (8 : Int32) * s + (z - z / 8 * 8) = nI (ps_ix g p k) := by
            rw [hs, hz, zn_rem (by omega), zn_8, nI_add]
            rfl
          have h64 := hat.2
          refine ⟨by decide, zn_i e hat.2 (by decide), Or.inl rfl, ?_⟩
          suffices post : ∀ μ2 : za_M, (za_u u.1.1 43 0 ((8 : Int32) * s + (z - z / 8 * 8)).toNatClampNeg 0, u.1.2) = μ2 → ZZ 80 [some (za_r 30 0), some (za_i l), some (za_i 1), some (za_i x), some (za_i z)] [] μ2 (0, 0) from post _ rfl
          intro μ2 hμ2
          have n0 : μ2.1 43 0 (ps_ix g p k) = 0 := by rw [← hμ2]; dsimp only; rw [zn_c e (by omega), za_u_same]
          have n1 : ∀ i, i ≠ ps_ix g p k → μ2.1 43 0 i = u.1.1 43 0 i := fun i hi => by rw [← hμ2]; dsimp only; rw [zn_c e (by omega), za_u_i hi]
          have nf : zq_fr (fun b j => b = 43 ∧ j = 0) μ μ2 := by rw [← hμ2]; exact zq_u q3 ⟨rfl, rfl⟩
          have m0 : ps_ms μ2 (ps_ix g p k) = false := by unfold ps_ms; rw [n0]; rfl
          have m1 : ∀ i, i ≠ ps_ix g p k → ps_ms μ2 i = ps_ms u.1 i := fun i hi => by unfold ps_ms; rw [n1 i hi]
          have s1 : ps_ms u.1 (ps_ix g p k) = true := decide_eq_true hs1
          have hnb := (q2.2 _ hat.2 s1)
          have hF : ps_F g nb L (32 * p + k) (lf_V 64 (ps_d g nb (ps_ms u.1))) (ps_ix g p k) := ⟨by rw [hdv, hmd], hnb.2, by rw [hdv, hmd]; exact hex⟩
          refine run [15] 60 80 _ _ _ _ ?_
          refine ih2 (μ2, 1) ⟨lf_Is (k := 32 * p + k) (ps_Fm g nb L) (ps_FN hg nb L) q1 (by omega) (fun i hi => ?_) (Or.inr rfl) ⟨fun _ => Or.inr ⟨_, hF, fun w => ?_⟩, fun _ => rfl⟩, ⟨fun i hi => ?_, fun i hi w => ?_⟩, nf⟩ _ (zn_s hz)
          · by_cases ei : i = ps_ix g p k
            · subst ei
              exact ⟨fun _ => Or.inr hF, fun _ => ps_d_iff.mpr ⟨hnb.1, hnb.2, m0⟩⟩
            · rw [ps_d_iff, ps_d_iff, m1 i ei]
              refine ⟨Or.inl, fun w => w.elim id (fun w => ?_)⟩
              have := w.1
              rw [hdv, hmd] at this
              exact absurd this ei
          · have := (ps_d_iff.mp w.2).2.2
            rw [s1] at this
            cases this
          · by_cases ei : i = ps_ix g p k
            · rw [ei]; exact Or.inl n0
            · show μ2.1 43 0 i = 0 ∨ μ2.1 43 0 i = 1
              rw [n1 i ei]; exact q2.1 i hi
          · by_cases ei : i = ps_ix g p k
            · have w : ps_ms μ2 i = true := w
              rw [ei, m0] at w; cases w
            · have w : ps_ms μ2 i = true := w
              rw [m1 i ei] at w; exact q2.2 i hi w)
      refine run [4, 15, 80] 60 4 _ _ _ _ ?_
      refine ⟨fun q => absurd q (zn_ge hx e4 hp (by omega)), fun _ => ?_⟩
      exact inner 0 t.1 (Nat.zero_le _) h 0 rfl)
  refine run [4, 15, 80] 60 0 _ _ _ _ ?_
  exact loop 0 ((μ, 0), none) (Nat.zero_le _) ⟨lf_I0 hL, hso, zq_rf⟩ 0 rfl
end
section
/-! the reference: a pass, all passes -/
set_option maxHeartbeats 8000000 in
theorem ct_M_onePass {Γ : zk_G} {d n : Nat} {x l : Int32} {L : Bool} {μ : za_M} {g : gq_G} {nb : Nat → Nat} (hg : gq_ok g) (hM : gq_M g μ) (h42 : ∀ i, i < 64 → μ.1 42 0 i = nI (nb i) ∧ nb i < 2 ^ 31) (hx : x = nI n) (hl : l = if L = true then 1 else 0) (hd : 7 ≤ d) : zk_Ct zt Γ zm_M_onePass d 0 0 [za_r 30 0, za_i x, za_i l] μ (fun r μ' => (∃ c : Nat, r = some (za_i (nI c)) ∧ c ≤ 64 ∧ (0 < c ↔ ∃ i, i < 64 ∧ ps_in g nb L i)) ∧ (∀ i, i < 64 → μ'.1 42 0 i = nI (ps_nx g L n nb i)) ∧ zq_fr (fun b j => (b = 42 ∨ b = 43) ∧ j = 0) μ μ') (fun _ _ => False) := by
  have hns : gq_ns g ≤ 8 := hg.1
  refine zs_M_onePass (Nat.le_of_ble_eq_true rfl) (by omega) (fun ZZ run => ?_)
  -- the last loop
  have loop2 : ∀ μs : za_M, zq_fr (fun b j => b = 43 ∧ j = 0) μ μs → (∀ i, i < 64 → μs.1 43 0 i = 0 ∨ μs.1 43 0 i = 1) → (∀ i, i < 64 → (ps_ms μs i = true ↔ ps_in g nb L i)) → ∀ w : Int32, ZZ 82 [some (za_r 30 0), some (za_i x), some (za_i l), some (za_i w), some (za_i 0), some (za_i 0)] [] μs (0, 0) := by
    intro μs hfs h01 hin w
    have loop := zn_for (σ := za_M × Nat) (N := 64)
      (P := fun k t => ∀ y m : Int32, y = nI k → m = nI t.2 → ZZ 82 [some (za_r 30 0), some (za_i x), some (za_i l), some (za_i w), some (za_i m), some (za_i y)] [] t.1 (0, 0))
      (I := fun k t => (∀ i, i < 64 → t.1.1 42 0 i = if i < k then nI (ps_nx g L n nb i) else nI (nb i)) ∧ t.2 ≤ k ∧ (0 < t.2 ↔ ∃ i, i < k ∧ ps_in g nb L i) ∧ zq_fr (fun b j => b = 42 ∧ j = 0) μs t.1)
      (fun t h y m hy hm => by
        refine run [82, 116] 60 82 _ _ _ _ ?_
        refine ⟨fun _ => ?_, fun q => absurd (by rw [hy]; exact nI_le (Nat.le_refl 64) (by decide)) q⟩
        refine ⟨rfl, Or.inl rfl, Nat.le_refl _, Nat.le_refl _, ⟨t.2, by rw [hm], h.2.1, h.2.2.1⟩, fun i hi => by rw [h.1 i hi, if_pos hi], zq_tr (zq_up hfs (fun b j q => ⟨Or.inr q.1, q.2⟩)) (zq_up h.2.2.2 (fun b j q => ⟨Or.inl q.1, q.2⟩))⟩)
      (fun k t hk h ih y m hy hm => by
        obtain ⟨i1, i2, i3, i4⟩ := h
        have hck : y.toNatClampNeg = k := zn_c hy (by omega)
        have hb : vp_in y 64 := zn_i hy hk (by decide)
        have e43 : t.1.1 43 0 y.toNatClampNeg = μs.1 43 0 k := by rw [hck, i4.1 43 0 (by decide)]
        have next : ∀ v : Int32, v = nI (ps_nx g L n nb k) → ZZ 116 [some (za_r 30 0), some (za_i x), some (za_i l), some (za_i w), some (za_i m), some (za_i y)] [za_i v, za_i y, za_r 42 0] t.1 (0, 0) := by
          intro v hv
          refine run [82] 60 116 _ _ _ _ ?_
          refine ⟨hb, hb, ?_⟩
          suffices post : ∀ μ2 : za_M, (za_u t.1.1 42 0 y.toNatClampNeg v, t.1.2) = μ2 → ((μ2.1 43 0 y.toNatClampNeg = 0 → ZZ 82 [some (za_r 30 0), some (za_i x), some (za_i l), some (za_i w), some (za_i m), some (za_i (y + 1))] [] μ2 (0, 0)) ∧ (¬ μ2.1 43 0 y.toNatClampNeg = 0 → ZZ 82 [some (za_r 30 0), some (za_i x), some (za_i l), some (za_i w), some (za_i (m + 1)), some (za_i (y + 1))] [] μ2 (0, 0))) from post _ rfl
          intro μ2 hμ2
          have n43 : μ2.1 43 0 y.toNatClampNeg = μs.1 43 0 k := by rw [← hμ2]; dsimp only; rw [za_u_b (show (43 : Nat) ≠ 42 by decide), e43]
          have n42 : ∀ i, i < 64 → μ2.1 42 0 i = if i < k + 1 then nI (ps_nx g L n nb i) else nI (nb i) := by
            intro i hi
            rw [← hμ2]
            dsimp only
            rw [hck]
            by_cases e : i = k
            · subst e
              rw [za_u_same, if_pos (Nat.lt_succ_self i), hv]
            · rw [za_u_i e, i1 i hi]
              by_cases e2 : i < k
              · rw [if_pos e2, if_pos (by omega)]
              · rw [if_neg e2, if_neg (by omega)]
          have nf : zq_fr (fun b j => b = 42 ∧ j = 0) μs μ2 := by rw [← hμ2]; exact zq_u i4 ⟨rfl, rfl⟩
          rw [n43]
          refine ⟨fun h0 => ih (μ2, t.2) ⟨n42, by omega, i3.trans ⟨fun ⟨i, q1, q2⟩ => ⟨i, by omega, q2⟩, fun ⟨i, q1, q2⟩ => ⟨i, ?_, q2⟩⟩, nf⟩ _ _ (zn_s hy) hm, fun h0 => ih (μ2, t.2 + 1) ⟨n42, by omega, ⟨fun _ => ⟨k, Nat.lt_succ_self k, (hin k hk).mp (decide_eq_true (zn_or01 (h01 k hk) h0))⟩, fun _ => Nat.succ_pos _⟩, nf⟩ _ _ (zn_s hy) (zn_s hm)⟩
          refine Classical.byContradiction fun e => ?_
          have e : i = k := by omega
          subst e
          have := of_decide_eq_true ((hin i hk).mpr q2)
          rw [h0] at this
          exact absurd this (by decide)
        refine run [82, 116] 60 82 _ _ _ _ ?_
        refine ⟨fun q => absurd q (zn_ge hy rfl hk (by decide)), fun _ => ⟨hb, fun h0 => ⟨hb, ?_⟩, fun h0 => ?_⟩⟩
        · rw [e43] at h0
          refine next _ ?_
          rw [hck, i1 k hk, if_neg (Nat.lt_irrefl k), ps_nx, ps_in']
          intro q
          have := of_decide_eq_true ((hin k hk).mpr q)
          rw [h0] at this
          exact absurd this (by decide)
        · rw [e43] at h0
          refine next _ ?_
          rw [hx, ps_nx, ps_ip]
          exact (hin k hk).mp (decide_eq_true (zn_or01 (h01 k hk) h0)))
    refine loop 0 (μs, 0) (Nat.zero_le _) ⟨fun i hi => ?_, Nat.le_refl _, ⟨fun q => absurd q (Nat.lt_irrefl 0), fun ⟨i, q, _⟩ => absurd q (Nat.not_lt_zero i)⟩, zq_rf⟩ 0 0 rfl rfl
    rw [if_neg (Nat.not_lt_zero i)]
    show μs.1 42 0 i = nI (nb i)
    rw [hfs.1 42 0 (by decide)]
    exact (h42 i hi).1
  -- while something must be left out
  have wh := zn_wh (σ := za_M × Int32)
    (P := fun t => ZZ 63 [some (za_r 30 0), some (za_i x), some (za_i l), some (za_i t.2), none, none] [] t.1 (0, 0))
    (I := fun t => lf_H (ps_F g nb L) (32 * gq_np g) 64 (ps_d g nb (ps_ms t.1)) t.2 ∧ ps_so g nb t.1 ∧ zq_fr (fun b j => b = 43 ∧ j = 0) μ t.1)
    (fun t => 2 * ct_n (ps_d g nb (ps_ms t.1)) 64 + t.2.toNatClampNeg)
    (fun t h ih => by
      obtain ⟨h1, h2, h3⟩ := h
      have hMu : gq_M g t.1 := gq_M_fr hM h3 (by decide) (by decide) (by decide) (by decide) (by rw [h3.1 30 0 (by decide)]) (by rw [h3.1 30 0 (by decide)])
      have h42u : ∀ i, i < 64 → t.1.1 42 0 i = nI (nb i) ∧ nb i < 2 ^ 31 := by rw [h3.1 42 0 (by decide)]; exact h42
      refine run [63, 82] 60 63 _ _ _ _ ?_
      refine ⟨fun h0 => ?_, fun h0 => ?_⟩
      · exact loop2 t.1 h3 h2.1 (fun i hi => ps_done h2.2 (h1.2.2 h0) hi) _
      · refine ⟨d - 1, 0, 0, _, _, by omega, Nat.le_refl _, Nat.le_refl _, ct_M_leaveOut hg hMu h42u h2 h1.2.1 hl (by omega), ?_, fun _ _ h => h.elim⟩
        rintro r μ1 ⟨⟨v, rfl, hv⟩, hso, hf⟩
        exact ih (μ1, v) ⟨lf_IH hv, hso, zq_tr h3 hf⟩ (lf_Im hv (zn_or01 h1.1 h0)))
  -- the set of all that have no number yet
  have loop := zn_for (σ := za_M) (N := 64)
    (P := fun k μ1 => ∀ y : Int32, y = nI k → ZZ 2 [some (za_r 30 0), some (za_i x), some (za_i l), some (za_i y), none, none] [] μ1 (0, 0))
    (I := fun k μ1 => (∀ i, i < k → (μ1.1 43 0 i = 0 ∨ μ1.1 43 0 i = 1) ∧ (μ1.1 43 0 i = 1 ↔ (ps_at g i ∧ nb i = 0))) ∧ zq_fr (fun b j => b = 43 ∧ j = 0) μ μ1)
    (fun μ1 h y hy => by
      refine run [2, 63] 60 2 _ _ _ _ ?_
      refine ⟨fun _ => ?_, fun q => absurd (by rw [hy]; exact nI_le (Nat.le_refl 64) (by decide)) q⟩
      refine wh (μ1, 1) ⟨⟨Or.inr rfl, fun i q => ?_, fun q => absurd q (show ¬ (1 : Int32) = 0 by decide)⟩, ⟨fun i hi => (h.1 i hi).1, fun i hi q => (h.1 i hi).2.mp (of_decide_eq_true q)⟩, h.2⟩
      obtain ⟨q1, q2, q3⟩ := ps_d_iff.mp q.2
      have := of_decide_eq_false q3
      exact absurd ((h.1 i q.1).2.mpr ⟨q1, q2⟩) this)
    (fun k μ1 hk h ih y hy => by
      have hck : y.toNatClampNeg = k := zn_c hy (by omega)
      have hb : vp_in y 64 := zn_i hy hk (by decide)
      have hdv : y / 8 = nI (k / 8) := by rw [hy]; exact zn_div (by omega)
      have hrm : y - y / 8 * 8 = nI (k % 8) := by rw [hy]; exact zn_rem (by omega)
      have e1 : μ1.1 30 0 1 = nI (gq_ns g) := by rw [h.2.1 30 0 (by decide)]; exact hM.1
      have e42 : μ1.1 42 0 y.toNatClampNeg = nI (nb k) := by rw [hck, h.2.1 42 0 (by decide)]; exact (h42 k hk).1
      have next : ∀ v : Int32, (v = 0 ∨ v = 1) → (v = 1 ↔ (ps_at g k ∧ nb k = 0)) → ZZ 54 [some (za_r 30 0), some (za_i x), some (za_i l), some (za_i y), none, none] [za_i v, za_i y, za_r 43 0] μ1 (0, 0) := by
        intro v hv hv1
        refine run [2] 60 54 _ _ _ _ ?_
        refine ⟨hb, hv, ?_⟩
        refine ih _ ⟨fun i hi => ?_, zq_u h.2 ⟨rfl, rfl⟩⟩ _ (zn_s hy)
        dsimp only
        rw [hck]
        by_cases e : i = k
        · subst e
          rw [za_u_same]
          exact ⟨hv, hv1⟩
        · rw [za_u_i e]
          exact h.1 i (by omega)
      have no : ¬ (ps_at g k ∧ nb k = 0) → ZZ 54 [some (za_r 30 0), some (za_i x), some (za_i l), some (za_i y), none, none] [za_i 0, za_i y, za_r 43 0] μ1 (0, 0) := fun q => next 0 (Or.inl rfl) ⟨fun z => absurd z (by decide), fun z => absurd z q⟩
      refine run [2, 54] 60 2 _ _ _ _ ?_
      refine ⟨fun q => absurd q (zn_ge hy rfl hk (by decide)), fun _ => ⟨by decide, fun hs => no ?_, fun hs => ?_⟩⟩
      · rintro ⟨q, _⟩
        rw [hdv, e1] at hs
        exact absurd hs (nI_ge q.1 (by omega))
      · have hs : k / 8 < gq_ns g := Classical.byContradiction fun w => hs (by rw [hdv, e1]; exact nI_le (by omega) (by omega))
        have hat6 := (hg.2.2.1 _ hs).1
        have e31 : μ1.1 31 0 (y / 8).toNatClampNeg = nI (gq_at g (k / 8)) := by rw [zn_c hdv (by omega), h.2.1 31 0 (by decide)]; exact (hM.2.2.1 _ hs).1
        refine ⟨by decide, by decide, zn_i hdv (by omega) (by decide), fun ha => no ?_, fun ha => ⟨hb, fun h0 => no ?_, fun h0 => next 1 (Or.inr rfl) ⟨fun _ => ⟨⟨hs, ?_⟩, ?_⟩, fun _ => rfl⟩⟩⟩
        · rintro ⟨q, _⟩
          rw [hrm, e31] at ha
          exact absurd ha (nI_ge q.2 (by omega))
        · rintro ⟨_, q⟩
          rw [e42, q] at h0
          exact h0 rfl
        · exact Classical.byContradiction fun w => ha (by rw [hrm, e31]; exact nI_le (by omega) (by omega))
        · rw [e42] at h0
          exact (nI_eq (b := 0) (h42 k hk).2 (by decide)).mp h0)
  refine run [2] 60 0 _ _ _ _ ?_
  exact loop 0 μ (Nat.zero_le _) ⟨fun i hi => absurd hi (Nat.not_lt_zero i), zq_rf⟩ 0 rfl
theorem ps_id_le (g : gq_G) (tb : Bool) : ∀ n, ps_id g tb n ≤ n
  | 0 => Nat.le_refl _
  | n + 1 => by
    rw [ps_id]
    by_cases h : ps_any g tb n
    · rw [ps_ip h]; omega
    · rw [ps_in' h]; have := ps_id_le g tb n; omega
theorem ps_la_le (g : gq_G) (tb : Bool) : ∀ n, ps_la g tb n ≤ n
  | 0 => Nat.le_refl _
  | n + 1 => by
    rw [ps_la]
    by_cases h : ps_any g tb n
    · rw [ps_ip h]; omega
    · rw [ps_in' h]; have := ps_la_le g tb n; omega
/-- what findPasses leaves -/
def ps_M (g : gq_G) (tb : Bool) (μ : za_M) : Prop := ∃ n, ps_end g tb n ∧ n ≤ 200 ∧ (∀ i, i < 64 → μ.1 42 0 i = nI (ps_nb g tb n i)) ∧ μ.1 30 0 22 = nI (ps_la g tb n)
def pf_S (b j : Nat) : Prop := (b = 42 ∨ b = 43 ∨ b = 30) ∧ j = 0
set_option maxHeartbeats 8000000 in
theorem ct_M_findPasses {Γ : zk_G} {d : Nat} {l : Int32} {tb : Bool} {μ : za_M} {g : gq_G} (hg : gq_ok g) (hM : gq_M g μ) (hl : l = if tb = true then 1 else 0) (hd : 8 ≤ d) : zk_Ct zt Γ zm_M_findPasses d 0 0 [za_r 30 0, za_i l] μ (fun r μ' => r = none ∧ ps_M g tb μ' ∧ (∀ i, i ≠ 22 → μ'.1 30 0 i = μ.1 30 0 i) ∧ zq_fr pf_S μ μ') (fun _ _ => False) := by
  refine zs_M_findPasses (Nat.le_of_ble_eq_true rfl) (by omega) (fun ZZ run => ?_)
  have hl0 : l = 0 → tb = false := fun q => by
    cases tb with
    | false => rfl
    | true => rw [hl] at q; exact absurd q (by decide)
  have hl1 : ¬ l = 0 → tb = true := fun q => by
    cases tb with
    | true => rfl
    | false => rw [hl] at q; exact absurd rfl q
  have wh := zn_wh (σ := za_M × Nat × Option za_V)
    (P := fun t => ∀ y m : Int32, y = nI (t.2.1 + 1) → m = nI (ps_id g tb t.2.1) → ZZ 30 [some (za_r 30 0), some (za_i l), some (za_i m), some (za_i y), t.2.2] [] t.1 (0, 0))
    (I := fun t => (∀ i, i < 64 → t.1.1 42 0 i = nI (ps_nb g tb t.2.1 i)) ∧ t.1.1 30 0 22 = nI (ps_la g tb t.2.1) ∧ (∀ j, j < t.2.1 → ps_id g tb j < ps_mo tb) ∧ t.2.1 + ps_me g tb t.2.1 ≤ 194 ∧ (∀ i, i ≠ 22 → t.1.1 30 0 i = μ.1 30 0 i) ∧ zq_fr pf_S μ t.1)
    (fun t => ps_me g tb t.2.1)
    (fun t h ih y m hy hm => by
      obtain ⟨i1, i2, i3, i4, i5, i6⟩ := h
      have hid := ps_id_le g tb t.2.1
      have hMt : gq_M g t.1 := gq_M_fr hM i6 (by unfold pf_S; decide) (by unfold pf_S; decide) (by unfold pf_S; decide) (by unfold pf_S; decide) (i5 1 (by decide)) (i5 4 (by decide))
      have h42t : ∀ i, i < 64 → t.1.1 42 0 i = nI (ps_nb g tb t.2.1 i) ∧ ps_nb g tb t.2.1 i < 2 ^ 31 := fun i hi => ⟨i1 i hi, by have := ps_nb_le g tb t.2.1 i; omega⟩
      have c61 : ps_id g tb t.2.1 < ps_mo tb → ∀ v : Int32, v = (if ps_left tb (t.2.1 + 1) = true then 1 else 0) → ZZ 61 [some (za_r 30 0), some (za_i l), some (za_i m), some (za_i y), t.2.2] [za_i v, za_i y, za_r 30 0] t.1 (0, 0) := by
        intro hlt v hv
        refine run [30] 60 61 _ _ _ _ ?_
        refine ⟨d - 1, 0, 0, _, _, by omega, Nat.le_refl _, Nat.le_refl _, ct_M_onePass (n := t.2.1 + 1) hg hMt h42t hy hv (by omega), ?_, fun _ _ h => h.elim⟩
        rintro r μ1 ⟨⟨c, rfl, hc, hc0⟩, q42, qf⟩
        have hany : 0 < c ↔ ps_any g tb t.2.1 := hc0
        have hmo : ps_mo tb ≤ 2 := by unfold ps_mo; split <;> omega
        have hme := ps_me_lt (g := g) (tb := tb) (n := t.2.1) (by omega)
        have e30 : μ1.1 30 0 = t.1.1 30 0 := qf.1 30 0 (by decide)
        have fin : ∀ (v : Int32) (m' : Int32), v = nI (ps_la g tb (t.2.1 + 1)) → m' = nI (ps_id g tb (t.2.1 + 1)) → ZZ 30 [some (za_r 30 0), some (za_i l), some (za_i m'), some (za_i (y + 1)), some (za_i (nI c))] [] (za_u μ1.1 30 0 22 v, μ1.2) (0, 0) := by
          intro v m' hv hm'
          refine ih (_, t.2.1 + 1, _) ⟨fun i hi => ?_, ?_, fun j hj => ?_, ?_, fun i hi => ?_, zq_u (zq_tr i6 (zq_up qf (fun b j q => ⟨by rcases q.1 with z | z <;> simp [z], q.2⟩))) ⟨Or.inr (Or.inr rfl), rfl⟩⟩ hme _ _ (zn_s hy) hm'
          · dsimp only
            rw [za_u_b (show (42 : Nat) ≠ 30 by decide)]
            exact q42 i hi
          · dsimp only
            rw [za_u_same, hv]
          · by_cases e : j = t.2.1
            · subst e; exact hlt
            · have hj : j < t.2.1 + 1 := hj
              exact i3 j (by omega)
          · show t.2.1 + 1 + ps_me g tb (t.2.1 + 1) ≤ 194
            omega
          · dsimp only
            rw [za_u_i hi, e30]
            exact i5 i hi
        have pos : ¬ nI c ≤ 0 → 0 < c := fun q => Nat.pos_of_ne_zero (fun z => q (by rw [z]; decide))
        have neg : nI c ≤ 0 → ¬ 0 < c := fun q z => absurd q (nI_ge (a := 0) z (by omega))
        refine ⟨fun h0 => ⟨fun _ => ?_, fun h1 => absurd h0 h1⟩, fun h0 => ⟨fun h1 => absurd h1 h0, fun _ => ?_⟩⟩
        · have hno : ¬ ps_any g tb t.2.1 := fun q => neg h0 (hany.mpr q)
          refine fin _ _ ?_ ?_
          · rw [e30, i2, ps_la, ps_in' hno]
          · rw [ps_id, ps_in' hno]
            exact zn_s hm
        · have hyes := hany.mp (pos h0)
          refine fin _ _ ?_ ?_
          · rw [ps_la, ps_ip hyes]
            exact hy
          · rw [ps_id, ps_ip hyes]
            rfl
      have c40 : ∀ v : Int32, v = nI (ps_mo tb) → ZZ 40 [some (za_r 30 0), some (za_i l), some (za_i m), some (za_i y), t.2.2] [za_i v, za_i m] t.1 (0, 0) := by
        intro v hv
        have hmo : ps_mo tb ≤ 2 := by unfold ps_mo; split <;> omega
        refine run [30, 61] 60 40 _ _ _ _ ?_
        refine ⟨fun h0 => ?_, fun h0 => ?_⟩
        · refine ⟨rfl, rfl, Nat.le_refl _, Nat.le_refl _, rfl, ⟨t.2.1, ⟨?_, i3⟩, by omega, i1, i2⟩, i5, i6⟩
          exact Classical.byContradiction fun w => absurd h0 (zn_ge hm hv (by omega) (by omega))
        · have hlt : ps_id g tb t.2.1 < ps_mo tb := Classical.byContradiction fun w => h0 (by rw [hm, hv]; exact nI_le (by omega) (by omega))
          have hrem : y - y / 2 * 2 = nI ((t.2.1 + 1) % 2) := by rw [hy]; exact pk_rem (by omega) (by decide) (by decide)
          refine ⟨fun hq => c61 hlt _ ?_, fun hq => ⟨by decide, fun h2 => c61 hlt _ ?_, fun h2 => c61 hlt _ ?_⟩⟩
          · rw [hl0 hq]; rfl
          · rw [hrem] at h2
            rw [hl1 hq]
            have : ¬ (t.2.1 + 1) % 2 = 1 := fun w => h2 (by rw [w]; rfl)
            unfold ps_left
            rw [show ((t.2.1 + 1) % 2 == 1) = false by simpa using this]
            rfl
          · rw [hrem] at h2
            rw [hl1 hq]
            have : (t.2.1 + 1) % 2 = 1 := (nI_eq (b := 1) (by omega) (by decide)).mp h2
            unfold ps_left
            rw [this]
            rfl
      refine run [30, 40] 60 30 _ _ _ _ ?_
      refine ⟨fun h0 => c40 _ (by rw [hl0 h0]; rfl), fun h0 => c40 _ (by rw [hl1 h0]; rfl)⟩)
  have loop := zn_for (σ := za_M) (N := 64)
    (P := fun k μ1 => ∀ y : Int32, y = nI k → ZZ 2 [some (za_r 30 0), some (za_i l), some (za_i y), none, none] [] μ1 (0, 0))
    (I := fun k μ1 => (∀ i, i < k → μ1.1 42 0 i = 0) ∧ zq_fr (fun b j => b = 42 ∧ j = 0) μ μ1)
    (fun μ1 h y hy => by
      refine run [2, 30] 60 2 _ _ _ _ ?_
      refine ⟨fun _ => ?_, fun q => absurd (by rw [hy]; exact nI_le (Nat.le_refl 64) (by decide)) q⟩
      refine wh (_, 0, none) ⟨fun i hi => ?_, ?_, fun j hj => absurd hj (Nat.not_lt_zero j), ?_, fun i hi => ?_, zq_u (zq_up h.2 (fun b j q => ⟨Or.inl q.1, q.2⟩)) ⟨Or.inr (Or.inr rfl), rfl⟩⟩ 1 0 rfl rfl
      · dsimp only
        rw [za_u_b (show (42 : Nat) ≠ 30 by decide)]
        exact h.1 i hi
      · dsimp only
        rw [za_u_same]
        rfl
      · have := ps_me0 g tb
        show 0 + ps_me g tb 0 ≤ 194
        omega
      · dsimp only
        rw [za_u_i hi, h.2.1 30 0 (by decide)])
    (fun k μ1 hk h ih y hy => by
      have hck : y.toNatClampNeg = k := zn_c hy (by omega)
      refine run [2, 30] 60 2 _ _ _ _ ?_
      refine ⟨fun q => absurd q (zn_ge hy rfl hk (by decide)), fun _ => ⟨zn_i hy hk (by decide), ?_⟩⟩
      refine ih _ ⟨fun i hi => ?_, zq_u h.2 ⟨rfl, rfl⟩⟩ _ (zn_s hy)
      dsimp only
      rw [hck]
      by_cases e : i = k
      · subst e; rw [za_u_same]
      · rw [za_u_i e]; exact h.1 i (by omega))
  refine run [2] 60 0 _ _ _ _ ?_
  exact loop 0 μ (Nat.zero_le _) ⟨fun i hi => absurd hi (Nat.not_lt_zero i), zq_rf⟩ 0 rfl
end
section
/-! the class: Numbering, small methods -/
theorem za_ix8 (J i : Nat) : za_ix J 8 i = 8 * J + i := by
  cases J with
  | zero => show i = 8 * 0 + i; omega
  | succ j => rfl
theorem fb_bt : ∀ n, n < 32 → ∀ i, i < 32 → bt ((1 <<< (nI n &&& 31)) - 1) i = decide (i < n) := by decide +kernel
theorem pb_bt : ∀ o, o < 4 → ∀ y, y < 32 → bt (255 ||| (((-1 : Int32) <<< ((8 * nI o) &&& 31)) <<< ((8 : Int32) &&& 31))) y = decide (y < 8 ∨ o < y / 8) := by decide +kernel
set_option maxHeartbeats 4000000 in
theorem ct_G_placesOf27 {Γ : zk_G} {d p J : Nat} {x : Int32} {μ : za_M} {g : gq_G} (hg : gq_ok g) (hC : gq_C g μ) (hx : x = nI p) (hp : p < gq_np g) (h8 : ∀ s, s < gq_ns g → ∀ a, bt (μ.1 27 J s) a = true → a < 8) (hd : 1 ≤ d) : zk_Ct zt Γ zm_G_placesOf d 0 0 [za_r 1 0, za_i x, za_r 27 J] μ (fun r μ' => (∃ w : Int32, r = some (za_i w) ∧ ∀ z, bt w z = true ↔ (z < 32 ∧ z / 8 ≤ gq_m g p ∧ bt (μ.1 27 J (gq_sy g p (z / 8))) (z % 8) = true)) ∧ μ' = μ) (fun _ _ => False) := by
  obtain ⟨c1, c2, c3, c4, c5, c6⟩ := gq_Cp hg hC hx hp
  have hm := (hg.2.2.2.2.1 p hp).1
  refine zs_G_placesOf (Nat.le_of_ble_eq_true rfl) hd (fun ZZ run => ?_)
  have loop := zn_for (σ := Int32) (N := gq_m g p + 1)
    (P := fun k w => ∀ y : Int32, y = nI k → ZZ 5 [some (za_r 1 0), some (za_i x), some (za_r 27 J), some (za_i w), some (za_i y)] [] μ (0, 0))
    (I := fun k w => ∀ z, bt w z = true ↔ (z < 32 ∧ z / 8 < k ∧ bt (μ.1 27 J (gq_sy g p (z / 8))) (z % 8) = true))
    (fun w h y hy => by
      refine run [5] 40 5 _ _ _ _ ?_
      refine ⟨c2, fun _ => ?_, fun q => absurd (zn_lt2 c4 hy (Nat.lt_succ_self _) (by omega)) q⟩
      refine ⟨rfl, Or.inl rfl, Nat.le_refl _, Nat.le_refl _, ⟨w, rfl, fun z => (h z).trans ⟨fun q => ⟨q.1, by omega, q.2.2⟩, fun q => ⟨q.1, by omega, q.2.2⟩⟩⟩, rfl⟩)
    (fun k w hk h ih y hy => by
      have hck : y.toNatClampNeg = k := zn_c hy (by omega)
      have hs : μ.1 6 x.toNatClampNeg y.toNatClampNeg = nI (gq_sy g p k) := by rw [hck]; exact c5 k (by omega)
      have hs8 := gq_sy8 hg hp (show k ≤ gq_m g p by omega)
      have hsn := (hg.2.2.2.2.1 p hp).2 k (by omega)
      refine run [5] 40 5 _ _ _ _ ?_
      refine ⟨c2, fun q => absurd q (zn_nl c4 hy (by omega) (by omega)), fun _ => ⟨c2, zn_i hy (by omega) (by decide), zn_i hs hs8 (by decide), ?_⟩⟩
      refine ih _ (fun z => ?_) _ (zn_s hy)
      have e3 : (8 : Int32) * y = nI (8 * k) := by rw [hy, zn_8]
      show bt (w ||| (μ.1 27 J (μ.1 6 x.toNatClampNeg y.toNatClampNeg).toNatClampNeg <<< ((8 : Int32) * y &&& 31))) z = true ↔ _
      rw [zn_c hs (by omega), e3, b_or, Bool.or_eq_true, h z]
      by_cases hz : z < 32
      · rw [bt_shl8 _ (by omega) hz, Bool.and_eq_true, decide_eq_true_eq]
        constructor
        · rintro (⟨q1, q2, q3⟩ | ⟨q1, q2⟩)
          · exact ⟨q1, by omega, q3⟩
          · have := h8 _ hsn _ q2
            have e : z / 8 = k := by omega
            refine ⟨hz, by omega, ?_⟩
            rw [e, show z % 8 = z - 8 * k by omega]
            exact q2
        · rintro ⟨q1, q2, q3⟩
          by_cases e : z / 8 = k
          · refine Or.inr ⟨by omega, ?_⟩
            rw [e] at q3
            rw [show z - 8 * k = z % 8 by omega]
            exact q3
          · exact Or.inl ⟨q1, by omega, q3⟩
      · constructor
        · rintro (q | q)
          · omega
          · rw [b_big (Nat.le_of_not_lt hz)] at q
            cases q
        · intro q; omega)
  refine run [5] 40 0 _ _ _ _ ?_
  exact loop 0 0 (Nat.zero_le _) (fun z => ⟨fun q => (by rw [b_0] at q; cases q), fun q => absurd q.2.1 (Nat.not_lt_zero _)⟩) 0 rfl
set_option maxHeartbeats 4000000 in
theorem ct_G_placesOf28 {Γ : zk_G} {d p J : Nat} {x : Int32} {μ : za_M} {g : gq_G} (hg : gq_ok g) (hC : gq_C g μ) (hx : x = nI p) (hp : p < gq_np g) (h8 : ∀ s, s < gq_ns g → ∀ a, bt (μ.1 28 J s) a = true → a < 8) (hd : 1 ≤ d) : zk_Ct zt Γ zm_G_placesOf d 0 0 [za_r 1 0, za_i x, za_r 28 J] μ (fun r μ' => (∃ w : Int32, r = some (za_i w) ∧ ∀ z, bt w z = true ↔ (z < 32 ∧ z / 8 ≤ gq_m g p ∧ bt (μ.1 28 J (gq_sy g p (z / 8))) (z % 8) = true)) ∧ μ' = μ) (fun _ _ => False) := by
  obtain ⟨c1, c2, c3, c4, c5, c6⟩ := gq_Cp hg hC hx hp
  have hm := (hg.2.2.2.2.1 p hp).1
  refine zs_G_placesOf (Nat.le_of_ble_eq_true rfl) hd (fun ZZ run => ?_)
  have loop := zn_for (σ := Int32) (N := gq_m g p + 1)
    (P := fun k w => ∀ y : Int32, y = nI k → ZZ 5 [some (za_r 1 0), some (za_i x), some (za_r 28 J), some (za_i w), some (za_i y)] [] μ (0, 0))
    (I := fun k w => ∀ z, bt w z = true ↔ (z < 32 ∧ z / 8 < k ∧ bt (μ.1 28 J (gq_sy g p (z / 8))) (z % 8) = true))
    (fun w h y hy => by
      refine run [5] 40 5 _ _ _ _ ?_
      refine ⟨c2, fun _ => ?_, fun q => absurd (zn_lt2 c4 hy (Nat.lt_succ_self _) (by omega)) q⟩
      refine ⟨rfl, Or.inl rfl, Nat.le_refl _, Nat.le_refl _, ⟨w, rfl, fun z => (h z).trans ⟨fun q => ⟨q.1, by omega, q.2.2⟩, fun q => ⟨q.1, by omega, q.2.2⟩⟩⟩, rfl⟩)
    (fun k w hk h ih y hy => by
      have hck : y.toNatClampNeg = k := zn_c hy (by omega)
      have hs : μ.1 6 x.toNatClampNeg y.toNatClampNeg = nI (gq_sy g p k) := by rw [hck]; exact c5 k (by omega)
      have hs8 := gq_sy8 hg hp (show k ≤ gq_m g p by omega)
      have hsn := (hg.2.2.2.2.1 p hp).2 k (by omega)
      refine run [5] 40 5 _ _ _ _ ?_
      refine ⟨c2, fun q => absurd q (zn_nl c4 hy (by omega) (by omega)), fun _ => ⟨c2, zn_i hy (by omega) (by decide), zn_i hs hs8 (by decide), ?_⟩⟩
      refine ih _ (fun z => ?_) _ (zn_s hy)
      have e3 : (8 : Int32) * y = nI (8 * k) := by rw [hy, zn_8]
      show bt (w ||| (μ.1 28 J (μ.1 6 x.toNatClampNeg y.toNatClampNeg).toNatClampNeg <<< ((8 : Int32) * y &&& 31))) z = true ↔ _
      rw [zn_c hs (by omega), e3, b_or, Bool.or_eq_true, h z]
      by_cases hz : z < 32
      · rw [bt_shl8 _ (by omega) hz, Bool.and_eq_true, decide_eq_true_eq]
        constructor
        · rintro (⟨q1, q2, q3⟩ | ⟨q1, q2⟩)
          · exact ⟨q1, by omega, q3⟩
          · have := h8 _ hsn _ q2
            have e : z / 8 = k := by omega
            refine ⟨hz, by omega, ?_⟩
            rw [e, show z % 8 = z - 8 * k by omega]
            exact q2
        · rintro ⟨q1, q2, q3⟩
          by_cases e : z / 8 = k
          · refine Or.inr ⟨by omega, ?_⟩
            rw [e] at q3
            rw [show z - 8 * k = z % 8 by omega]
            exact q3
          · exact Or.inl ⟨q1, by omega, q3⟩
      · constructor
        · rintro (q | q)
          · omega
          · rw [b_big (Nat.le_of_not_lt hz)] at q
            cases q
        · intro q; omega)
  refine run [5] 40 0 _ _ _ _ ?_
  exact loop 0 0 (Nat.zero_le _) (fun z => ⟨fun q => (by rw [b_0] at q; cases q), fun q => absurd q.2.1 (Nat.not_lt_zero _)⟩) 0 rfl
theorem ct_N_placesBefore {Γ : zk_G} {d o : Nat} {x l : Int32} {L : Bool} {μ : za_M} (hx : x = nI o) (ho : o < 4) (hl : l = if L = true then 0 else 1) (hd : 2 ≤ d) : zk_Ct zt Γ zm_N_placesBefore d 0 0 [za_i x, za_i l] μ (fun r μ' => (∃ w : Int32, r = some (za_i w) ∧ ∀ a y, a < 8 → y < 32 → (bt w y = true ↔ ps_sd L (8 * o + a) y)) ∧ μ' = μ) (fun _ _ => False) := by
  refine zs_N_placesBefore (Nat.le_of_ble_eq_true rfl) (by omega) (fun ZZ run => ?_)
  refine run [] 40 0 _ _ _ _ ?_
  refine ⟨fun h0 => ⟨fun hq => ?_, fun hq => ?_⟩, fun h0 => ?_⟩
  · have hL : L = true := by
      cases hq2 : L with
      | true => rfl
      | false => rw [hl, hq2] at hq; exact absurd hq (by decide)
    refine ⟨d - 1, 0, 0, _, _, by omega, Nat.le_refl _, Nat.le_refl _, ct_A_firstBits (by omega), ?_, fun _ _ h => h.elim⟩
    rintro r μ1 ⟨rfl, rfl⟩
    refine ⟨rfl, Or.inl rfl, Nat.le_refl _, Nat.le_refl _, ⟨_, rfl, fun a y ha hy => ?_⟩, rfl⟩
    have h1 : ¬ o = 0 := fun w => h0 (by rw [hx, w]; rfl)
    rw [hx, zn_8, fb_bt (8 * o) (by omega) y hy, decide_eq_true_eq, hL]
    unfold ps_sd
    rw [if_pos rfl]
    omega
  · have hL : L = false := by
      cases hq2 : L with
      | false => rfl
      | true => rw [hl, hq2] at hq; exact absurd rfl hq
    refine ⟨rfl, Or.inl rfl, Nat.le_refl _, Nat.le_refl _, ⟨_, rfl, fun a y ha hy => ?_⟩, rfl⟩
    have h1 : ¬ o = 0 := fun w => h0 (by rw [hx, w]; rfl)
    rw [hx, pb_bt o ho y hy, decide_eq_true_eq, hL]
    unfold ps_sd
    rw [if_neg (by decide)]
    omega
  · have h1 : o = 0 := by rw [hx] at h0; exact (nI_eq (b := 0) (by omega) (by decide)).mp h0
    refine ⟨rfl, Or.inl rfl, Nat.le_refl _, Nat.le_refl _, ⟨_, rfl, fun a y ha hy => ⟨fun _ => Or.inl (by omega), fun _ => b_m1 y hy⟩⟩, rfl⟩
def nu_S (J b j : Nat) : Prop := ((b = 24 ∨ b = 27 ∨ b = 28) ∧ j = J) ∨ (b = 26 ∧ j / 8 = J)
set_option maxHeartbeats 4000000 in
theorem ct_N_forget {Γ : zk_G} {d J : Nat} {μ : za_M} (hd : 1 ≤ d) : zk_Ct zt Γ zm_N_forget d 0 0 [za_r 24 J] μ (fun r μ' => r = none ∧ (∀ s, s < 8 → μ'.1 27 J s = 0 ∧ ∀ a, a < 6 → μ'.1 26 (8 * J + s) a = -1) ∧ μ'.1 24 J 2 = 0 ∧ (∀ i, i ≠ 2 → μ'.1 24 J i = μ.1 24 J i) ∧ zq_fr (nu_S J) μ μ') (fun _ _ => False) := by
  refine zs_N_forget (Nat.le_of_ble_eq_true rfl) hd (fun ZZ run => ?_)
  have loop := zn_for (σ := za_M × Option za_V) (N := 8)
    (P := fun k t => ∀ y : Int32, y = nI k → ZZ 7 [some (za_r 24 J), some (za_i y), t.2] [] t.1 (0, 0))
    (I := fun k t => (∀ s, s < k → t.1.1 27 J s = 0 ∧ ∀ a, a < 6 → t.1.1 26 (8 * J + s) a = -1) ∧ t.1.1 24 J 2 = 0 ∧ (∀ i, i ≠ 2 → t.1.1 24 J i = μ.1 24 J i) ∧ zq_fr (nu_S J) μ t.1)
    (fun t h y hy => by
      refine run [7, 22] 40 7 _ _ _ _ ?_
      refine ⟨fun _ => ?_, fun q => absurd (by rw [hy]; exact nI_le (Nat.le_refl 8) (by decide)) q⟩
      exact ⟨rfl, rfl, Nat.le_refl _, Nat.le_refl _, rfl, h⟩)
    (fun k t hk h ih y hy => by
      have hck : y.toNatClampNeg = k := zn_c hy (by omega)
      have hb : vp_in y 8 := zn_i hy hk (by decide)
      have inner := zn_for (σ := za_M) (N := 6)
        (P := fun n μ1 => ∀ z : Int32, z = nI n → ZZ 22 [some (za_r 24 J), some (za_i y), some (za_i z)] [] μ1 (0, 0))
        (I := fun n μ1 => (∀ s, s < k → μ1.1 27 J s = 0 ∧ ∀ a, a < 6 → μ1.1 26 (8 * J + s) a = -1) ∧ μ1.1 27 J k = 0 ∧ (∀ a, a < n → μ1.1 26 (8 * J + k) a = -1) ∧ μ1.1 24 J 2 = 0 ∧ (∀ i, i ≠ 2 → μ1.1 24 J i = μ.1 24 J i) ∧ zq_fr (nu_S J) μ μ1)
        (fun μ1 q z hz => by
          refine run [7, 22] 40 22 _ _ _ _ ?_
          refine ⟨fun _ => ?_, fun w => absurd (by rw [hz]; exact nI_le (Nat.le_refl 6) (by decide)) w⟩
          refine ih (μ1, some (za_i z)) ⟨fun s hs => ?_, q.2.2.2⟩ _ (zn_s hy)
          by_cases e : s = k
          · subst e; exact ⟨q.2.1, q.2.2.1⟩
          · exact q.1 s (by omega))
        (fun n μ1 hn q ih2 z hz => by
          have hcn : z.toNatClampNeg = n := zn_c hz (by omega)
          refine run [7, 22] 40 22 _ _ _ _ ?_
          refine ⟨fun w => absurd w (zn_ge hz rfl hn (by decide)), fun _ => ⟨hb, zn_i hz hn (by decide), ?_⟩⟩
          suffices post : ∀ μ2 : za_M, (za_u μ1.1 26 (za_ix J 8 y.toNatClampNeg) z.toNatClampNeg (-1), μ1.2) = μ2 → ZZ 22 [some (za_r 24 J), some (za_i y), some (za_i (z + 1))] [] μ2 (0, 0) from post _ rfl
          intro μ2 hμ2
          rw [za_ix8, hck, hcn] at hμ2
          have n27 : μ2.1 27 = μ1.1 27 := by rw [← hμ2]; funext j; show za_u μ1.1 26 (8 * J + k) n (-1) 27 j = μ1.1 27 j; rw [za_u_b (show (27 : Nat) ≠ 26 by decide)]
          have n24 : μ2.1 24 = μ1.1 24 := by rw [← hμ2]; funext j; show za_u μ1.1 26 (8 * J + k) n (-1) 24 j = μ1.1 24 j; rw [za_u_b (show (24 : Nat) ≠ 26 by decide)]
          have n26 : ∀ s a, (s ≠ k ∨ a ≠ n) → μ2.1 26 (8 * J + s) a = μ1.1 26 (8 * J + s) a := by
            intro s a w
            rw [← hμ2]
            show za_u μ1.1 26 (8 * J + k) n (-1) 26 (8 * J + s) a = _
            unfold za_u
            rw [if_neg (by omega)]
          refine ih2 μ2 ⟨fun s hs => ⟨by rw [n27]; exact (q.1 s hs).1, fun a ha => by rw [n26 s a (Or.inl (by omega))]; exact (q.1 s hs).2 a ha⟩, by rw [n27]; exact q.2.1, fun a ha => ?_, by rw [n24]; exact q.2.2.2.1, by rw [n24]; exact q.2.2.2.2.1, ?_⟩ _ (zn_s hz)
          · by_cases e : a = n
            · subst e
              rw [← hμ2]
              exact za_u_same _ _ _ _ _
            · rw [n26 k a (Or.inr e)]
              exact q.2.2.1 a (by omega)
          · rw [← hμ2]
            exact zq_u q.2.2.2.2.2 (Or.inr ⟨rfl, by omega⟩))
      refine run [7, 22] 40 7 _ _ _ _ ?_
      refine ⟨fun q => absurd q (zn_ge hy rfl hk (by decide)), fun _ => ⟨hb, ?_⟩⟩
      refine inner 0 _ (Nat.zero_le _) ⟨fun s hs => ?_, ?_, fun a ha => absurd ha (Nat.not_lt_zero a), ?_, fun i hi => ?_, zq_u h.2.2.2 (Or.inl ⟨Or.inr (Or.inl rfl), rfl⟩)⟩ 0 rfl
      · dsimp only
        rw [hck, za_u_i (show s ≠ k by omega), za_u_b (show (26 : Nat) ≠ 27 by decide)]
        exact h.1 s hs
      · dsimp only
        rw [hck, za_u_same]
      · dsimp only
        rw [za_u_b (show (24 : Nat) ≠ 27 by decide)]
        exact h.2.1
      · dsimp only
        rw [za_u_b (show (24 : Nat) ≠ 27 by decide)]
        exact h.2.2.1 i hi)
  refine run [7] 40 0 _ _ _ _ ?_
  refine loop 0 (_, none) (Nat.zero_le _) ⟨fun i hi => absurd hi (Nat.not_lt_zero i), ?_, fun i hi => ?_, zq_u zq_rf (Or.inl ⟨Or.inl rfl, rfl⟩)⟩ 0 rfl
  · dsimp only
    rw [za_u_same]
  · dsimp only
    rw [za_u_i hi]
end
section
/-! the class: Numbering, what one production drops -/
def nu_ms (g : gq_G) (J : Nat) (μ : za_M) (i : Nat) : Bool := decide (i / 8 < gq_ns g) && bt (μ.1 28 J (i / 8)) (i % 8)
def nu_so (g : gq_G) (J : Nat) (nb : Nat → Nat) (μ : za_M) : Prop := ∀ s, s < gq_ns g → ∀ a, bt (μ.1 28 J s) a = true → a < gq_at g s ∧ nb (8 * s + a) = 0
def nu_D (g : gq_G) (J : Nat) (nb : Nat → Nat) (μ : za_M) (i : Nat) : Prop := lf_V 64 (ps_d g nb (nu_ms g J μ)) i
def nu_K (g : gq_G) (nb : Nat → Nat) (L : Bool) (p x : Nat) (D : Nat → Prop) : Prop := ∃ y, bt (gq_nd g p x) y = true ∧ nb (ps_ix g p y) = 0 ∧ (¬ ps_sd L x y ∨ D (ps_ix g p y))
theorem nu_F {g : gq_G} {nb : Nat → Nat} {L : Bool} {p x : Nat} {D : Nat → Prop} {i : Nat} (hx : x < 32) : ps_F g nb L (32 * p + x) D i ↔ (i = ps_ix g p x ∧ nb i = 0 ∧ nu_K g nb L p x D) := by
  unfold ps_F nu_K
  rw [show (32 * p + x) / 32 = p by omega, show (32 * p + x) % 32 = x by omega]
theorem zb_cl (c : Int32) {a : Nat} (ha : a < 32) (b : Nat) : bt (c &&& ((1 <<< (nI a &&& 31)) ^^^ (-1))) b = (bt c b && decide (b ≠ a)) := by
  by_cases hb : b < 32
  · rw [b_and, b_xor, b_m1 b hb, b_shl a ha 1 hb, zb_b1 (b - a) (by omega)]
    by_cases e : b = a
    · subst e
      simp
    · have : (decide (a ≤ b) && decide (b - a = 0)) = false := by
        rw [Bool.and_eq_false_iff]
        by_cases q : a ≤ b
        · exact Or.inr (decide_eq_false (by omega))
        · exact Or.inl (decide_eq_false q)
      rw [this, decide_eq_true e]
      simp
  · rw [b_big (Nat.le_of_not_lt hb), b_big (Nat.le_of_not_lt hb)]
    rfl
theorem nu_ms_ix {g : gq_G} (hg : gq_ok g) {p y J : Nat} (hp : p < gq_np g) (hth : gq_th g p y) (μ : za_M) : nu_ms g J μ (ps_ix g p y) = bt (μ.1 28 J (gq_sy g p (y / 8))) (y % 8) := by
  have hat := (ps_th hg hp hth).1.1
  unfold nu_ms
  rw [decide_eq_true hat, Bool.true_and]
  unfold ps_ix
  rw [show (8 * gq_sy g p (y / 8) + y % 8) / 8 = gq_sy g p (y / 8) by omega, show (8 * gq_sy g p (y / 8) + y % 8) % 8 = y % 8 by omega]
theorem nu_rd {g : gq_G} (hg : gq_ok g) {p J o a : Nat} {L : Bool} {nb : Nat → Nat} {μ : za_M} {e w b : Int32} (hp : p < gq_np g) (ho : o < 4) (ha : a < 8)
    (h27 : ∀ s, s < 8 → ∀ a, bt (μ.1 27 J s) a = true ↔ (a < 8 ∧ nb (8 * s + a) ≠ 0))
    (he : ∀ z, bt e z = true ↔ (z < 32 ∧ z / 8 ≤ gq_m g p ∧ bt (μ.1 27 J (gq_sy g p (z / 8))) (z % 8) = true))
    (hw : ∀ z, bt w z = true ↔ (z < 32 ∧ z / 8 ≤ gq_m g p ∧ bt (μ.1 28 J (gq_sy g p (z / 8))) (z % 8) = true))
    (hb : ∀ a y, a < 8 → y < 32 → (bt b y = true ↔ ps_sd L (8 * o + a) y)) : gq_nd g p (8 * o + a) &&& ((e ||| (w &&& b)) ^^^ (-1)) = 0 ↔ ¬ nu_K g nb L p (8 * o + a) (nu_D g J nb μ) := by
  rw [zb_new]
  have key : ∀ y, bt (gq_nd g p (8 * o + a)) y = true → (bt (e ||| (w &&& b)) y = true ↔ ¬ (nb (ps_ix g p y) = 0 ∧ (¬ ps_sd L (8 * o + a) y ∨ nu_D g J nb μ (ps_ix g p y)))) := by
    intro y hy
    have hy32 : y < 32 := Classical.byContradiction fun q => by
      rw [b_big (Nat.le_of_not_lt q)] at hy
      cases hy
    have hth := (hg.2.2.2.2.2 p _ y hp (by omega) hy).2.1
    have hat := ps_th hg hp hth
    have hs8 := gq_sy8 hg hp hth.1
    have e1 : bt e y = true ↔ nb (ps_ix g p y) ≠ 0 := (he y).trans ⟨fun q => ((h27 _ hs8 _).mp q.2.2).2, fun q => ⟨hy32, hth.1, (h27 _ hs8 _).mpr ⟨Nat.mod_lt _ (by decide), q⟩⟩⟩
    have e2 : bt w y = true ↔ nu_ms g J μ (ps_ix g p y) = true := by
      rw [nu_ms_ix hg hp hth]
      exact (hw y).trans ⟨fun q => q.2.2, fun q => ⟨hy32, hth.1, q⟩⟩
    have e3 : nu_D g J nb μ (ps_ix g p y) ↔ (nb (ps_ix g p y) = 0 ∧ nu_ms g J μ (ps_ix g p y) = false) := ⟨fun q => (ps_d_iff.mp q.2).2, fun q => ⟨hat.2, ps_d_iff.mpr ⟨hat.1, q⟩⟩⟩
    rw [b_or, b_and, Bool.or_eq_true, Bool.and_eq_true, e1, e2, hb a y ha hy32, e3]
    cases hq : nu_ms g J μ (ps_ix g p y) with
    | true =>
      constructor
      · rintro (q | ⟨_, q⟩) ⟨z1, z2⟩
        · exact q z1
        · rcases z2 with z2 | z2
          · exact z2 q
          · exact absurd z2.2 (by decide)
      · intro q
        by_cases z : nb (ps_ix g p y) = 0
        · exact Or.inr ⟨rfl, Classical.byContradiction fun z2 => q ⟨z, Or.inl z2⟩⟩
        · exact Or.inl z
    | false =>
      constructor
      · rintro (q | ⟨q, _⟩) ⟨z1, z2⟩
        · exact q z1
        · cases q
      · intro q
        refine Or.inl fun z => q ⟨z, Or.inr ⟨z, rfl⟩⟩
  constructor
  · rintro h ⟨y, h1, h2, h3⟩
    exact (key y h1).mp (h y h1) ⟨h2, h3⟩
  · intro h y hy
    exact (key y hy).mpr (fun q => h ⟨y, hy, q.1, q.2⟩)
/-- the n first places gone through -/
def nu_A (g : gq_G) (J : Nat) (nb : Nat → Nat) (L : Bool) (p : Nat) (μ : za_M) (n : Nat) (μ1 : za_M) (v : Int32) : Prop :=
  (v = 0 ∨ v = 1) ∧ (v = 1 ↔ ∃ x, x < n ∧ ∃ i, ps_F g nb L (32 * p + x) (nu_D g J nb μ) i ∧ ¬ nu_D g J nb μ i) ∧ (∀ s a, s < gq_ns g → (bt (μ1.1 28 J s) a = true ↔ (bt (μ.1 28 J s) a = true ∧ ¬ ∃ x, x < n ∧ ps_F g nb L (32 * p + x) (nu_D g J nb μ) (8 * s + a)))) ∧ zq_fr (fun b j => b = 28 ∧ j = J) μ μ1
/-- a place that does nothing -/
theorem nu_A0 {g : gq_G} {J : Nat} {nb : Nat → Nat} {L : Bool} {p : Nat} {μ : za_M} {n : Nat} {μ1 : za_M} {v : Int32} (h : nu_A g J nb L p μ n μ1 v) (hn : ∀ i, ¬ ps_F g nb L (32 * p + n) (nu_D g J nb μ) i) : nu_A g J nb L p μ (n + 1) μ1 v := by
  have e : ∀ x i, (x < n + 1 ∧ ps_F g nb L (32 * p + x) (nu_D g J nb μ) i) ↔ (x < n ∧ ps_F g nb L (32 * p + x) (nu_D g J nb μ) i) := fun x i => ⟨fun ⟨q1, q2⟩ => ⟨Classical.byContradiction fun z => by
    have z : x = n := by omega
    subst z
    exact hn i q2, q2⟩, fun ⟨q1, q2⟩ => ⟨by omega, q2⟩⟩
  refine ⟨h.1, h.2.1.trans ⟨fun ⟨x, q1, i, q2⟩ => ⟨x, by omega, i, q2⟩, fun ⟨x, q1, i, q2, q3⟩ => ⟨x, ((e x i).mp ⟨q1, q2⟩).1, i, q2, q3⟩⟩, fun s a hs => ?_, h.2.2.2⟩
  rw [h.2.2.1 s a hs]
  exact ⟨fun q => ⟨q.1, fun ⟨x, z⟩ => q.2 ⟨x, (e x _).mp z⟩⟩, fun q => ⟨q.1, fun ⟨x, z⟩ => q.2 ⟨x, (e x _).mpr z⟩⟩⟩
theorem nu_Ak {g : gq_G} {J : Nat} {nb : Nat → Nat} {L : Bool} {p : Nat} {μ : za_M} {μ1 : za_M} {v : Int32} : ∀ (k n : Nat), nu_A g J nb L p μ n μ1 v → (∀ x i, n ≤ x → x < n + k → ¬ ps_F g nb L (32 * p + x) (nu_D g J nb μ) i) → nu_A g J nb L p μ (n + k) μ1 v
  | 0, _, h, _ => h
  | k + 1, n, h, hn => nu_A0 (nu_Ak k n h (fun x i q1 q2 => hn x i q1 (by omega))) (fun i => hn (n + k) i (by omega) (by omega))
/-- places that are not there do nothing -/
theorem nu_no {g : gq_G} (hg : gq_ok g) {J : Nat} {nb : Nat → Nat} {L : Bool} {p x : Nat} {μ : za_M} (hp : p < gq_np g) (hx : x < 32) (h : ¬ gq_th g p x) (i : Nat) : ¬ ps_F g nb L (32 * p + x) (nu_D g J nb μ) i := fun q => by
  obtain ⟨_, _, y, z, _⟩ := (nu_F hx).mp q
  exact h (hg.2.2.2.2.2 p x y hp hx z).1.1
set_option maxHeartbeats 16000000 in
theorem ct_N_drop {Γ : zk_G} {d p J : Nat} {x l : Int32} {L : Bool} {μ : za_M} {g : gq_G} {nb : Nat → Nat} (hg : gq_ok g) (hC : gq_C g μ) (hx : x = nI p) (hp : p < gq_np g)
    (h27 : ∀ s, s < 8 → ∀ a, bt (μ.1 27 J s) a = true ↔ (a < 8 ∧ nb (8 * s + a) ≠ 0)) (hso : nu_so g J nb μ) (hl : l = if L = true then 0 else 1) (hd : 3 ≤ d) : zk_Ct zt Γ zm_N_drop d 0 0 [za_r 24 J, za_r 1 0, za_i x, za_i l] μ
    (fun r μ' => (∃ v : Int32, r = some (za_i v) ∧ nu_A g J nb L p μ 32 μ' v)) (fun _ _ => False) := by
  obtain ⟨c1, c2, c3, c4, c5, c6⟩ := gq_Cp hg hC hx hp
  have hm := (hg.2.2.2.2.1 p hp).1
  have hns : gq_ns g ≤ 8 := hg.1
  refine zs_N_drop (Nat.le_of_ble_eq_true rfl) (by omega) (fun ZZ run => ?_)
  refine run [28] 60 0 _ _ _ _ ?_
  refine ⟨d - 1, 0, 0, _, _, by omega, Nat.le_refl _, Nat.le_refl _, ct_G_placesOf27 hg hC hx hp (fun s hs a q => ((h27 s (by omega) a).mp q).1) (by omega), ?_, fun _ _ h => h.elim⟩
  rintro r μ0 ⟨⟨e, rfl, he⟩, hμ0⟩
  have hμ0 := hμ0.symm
  subst hμ0
  refine ⟨d - 1, 0, 0, _, _, by omega, Nat.le_refl _, Nat.le_refl _, ct_G_placesOf28 hg hC hx hp (fun s hs a q => Nat.lt_of_lt_of_le (hso s hs a q).1 (Nat.le_trans (hg.2.2.1 s hs).1 (by decide))) (by omega), ?_, fun _ _ h => h.elim⟩
  rintro r μ0 ⟨⟨w, rfl, hw⟩, hμ0⟩
  have hμ0 := hμ0.symm
  subst hμ0
  have loop := zn_for (σ := (za_M × Int32) × Option za_V × Option za_V × Option za_V × Option za_V) (N := gq_m g p + 1)
    (P := fun o t => ∀ y : Int32, y = nI o → ZZ 28 [some (za_r 24 J), some (za_r 1 0), some (za_i x), some (za_i l), some (za_i e), some (za_i w), some (za_i t.1.2), some (za_i y), t.2.1, t.2.2.1, t.2.2.2.1, t.2.2.2.2] [] t.1.1 (0, 0))
    (I := fun o t => nu_A g J nb L p μ (8 * o) t.1.1 t.1.2)
    (fun t h y hy => by
      have n4 : t.1.1.1 4 0 x.toNatClampNeg = nI (gq_m g p) := by rw [h.2.2.2.1 4 0 (fun q => absurd q.1 (by decide))]; exact c4
      refine run [28, 67, 135] 60 28 _ _ _ _ ?_
      refine ⟨c2, fun _ => ?_, fun q => absurd (zn_lt2 n4 hy (Nat.lt_succ_self _) (by omega)) q⟩
      refine ⟨rfl, Or.inr ⟨rfl, h.1⟩, Nat.le_refl _, Nat.le_refl _, ⟨t.1.2, rfl, ?_⟩⟩
      have := nu_Ak (32 - 8 * (gq_m g p + 1)) (8 * (gq_m g p + 1)) h (fun x i q1 q2 => nu_no hg hp (by omega) (fun z => by have := z.1; omega) i)
      rw [show 8 * (gq_m g p + 1) + (32 - 8 * (gq_m g p + 1)) = 32 by omega] at this
      exact this)
    (fun o t ho h ih y hy => by
      have n4 : t.1.1.1 4 0 x.toNatClampNeg = nI (gq_m g p) := by rw [h.2.2.2.1 4 0 (fun q => absurd q.1 (by decide))]; exact c4
      have hco : y.toNatClampNeg = o := zn_c hy (by omega)
      have hs0 : t.1.1.1 6 x.toNatClampNeg y.toNatClampNeg = nI (gq_sy g p o) := by rw [h.2.2.2.1 6 x.toNatClampNeg (fun q => absurd q.1 (by decide)), hco]; exact c5 o (by omega)
      have hs8 := gq_sy8 hg hp (show o ≤ gq_m g p by omega)
      have hsn := (hg.2.2.2.2.1 p hp).2 o (by omega)
      have hat := (hg.2.2.1 _ hsn).1
      refine run [28, 67, 135] 60 28 _ _ _ _ ?_
      refine ⟨c2, fun q => absurd q (zn_nl n4 hy (by omega) (by omega)), fun _ => ⟨c2, zn_i hy (by omega) (by decide), ?_⟩⟩
      refine ⟨d - 1, 0, 0, _, _, by omega, Nat.le_refl _, Nat.le_refl _, ct_N_placesBefore hy (by omega) hl (by omega), ?_, fun _ _ h => h.elim⟩
      rintro r μ0 ⟨⟨b, rfl, hb⟩, hμ0⟩
      subst hμ0
      have inner := zn_for (σ := (za_M × Int32) × Option za_V) (N := 6)
        (P := fun a u => ∀ z : Int32, z = nI a → ZZ 67 [some (za_r 24 J), some (za_r 1 0), some (za_i x), some (za_i l), some (za_i e), some (za_i w), some (za_i u.1.2), some (za_i y), some (za_i (t.1.1.1 6 x.toNatClampNeg y.toNatClampNeg)), some (za_i (e ||| (w &&& b))), some (za_i z), u.2] [] u.1.1 (0, 0))
        (I := fun a u => nu_A g J nb L p μ (8 * o + a) u.1.1 u.1.2)
        (fun u q z hz => by
          refine run [28, 67, 135] 60 67 _ _ _ _ ?_
          refine ⟨fun _ => ?_, fun w => absurd (by rw [hz]; exact nI_le (Nat.le_refl 6) (by decide)) w⟩
          refine ih (u.1, some _, some _, some _, u.2) ?_ _ (zn_s hy)
          have := nu_Ak 2 (8 * o + 6) q (fun x i q1 q2 => nu_no hg hp (by omega) (fun z => by
            have z2 := z.2
            rw [show x / 8 = o by omega] at z2
            omega) i)
          exact this)
        (fun a u ha q ih2 z hz => by
          have hca : z.toNatClampNeg = a := zn_c hz (by omega)
          have e8 : (8 : Int32) * y + z = nI (8 * o + a) := by rw [hy, hz, zn_8, nI_add]
          have n8 : u.1.1.1 8 x.toNatClampNeg ((8 : Int32) * y + z).toNatClampNeg = gq_nd g p (8 * o + a) := by rw [q.2.2.2.1 8 x.toNatClampNeg (fun q => absurd q.1 (by decide)), zn_c e8 (by omega)]; exact c6 _ (by omega)
          have hrd := nu_rd hg (nb := nb) hp (show o < 4 by omega) (show a < 8 by omega) h27 he hw hb
          have hix : ps_ix g p (8 * o + a) = 8 * gq_sy g p o + a := by
            unfold ps_ix
            rw [show (8 * o + a) / 8 = o by omega, show (8 * o + a) % 8 = a by omega]
          have c135 : ∀ (μ2 : za_M) (v : Int32), nu_A g J nb L p μ (8 * o + a + 1) μ2 v → ZZ 135 [some (za_r 24 J), some (za_r 1 0), some (za_i x), some (za_i l), some (za_i e), some (za_i w), some (za_i v), some (za_i y), some (za_i (t.1.1.1 6 x.toNatClampNeg y.toNatClampNeg)), some (za_i (e ||| (w &&& b))), some (za_i z), some (za_i (u.1.1.1 8 x.toNatClampNeg ((8 : Int32) * y + z).toNatClampNeg))] [] μ2 (0, 0) := by
            intro μ2 v h2
            refine run [67] 60 135 _ _ _ _ ?_
            exact ih2 ((μ2, v), some _) h2 _ (zn_s hz)
          refine run [28, 67, 135] 60 67 _ _ _ _ ?_
          refine ⟨fun w => absurd w (zn_ge hz rfl ha (by decide)), fun _ => ⟨c2, zn_i e8 (by omega) (by decide), fun h0 => ?_, fun h0 => ?_⟩⟩
          · have h0 : u.1.1.1 8 x.toNatClampNeg ((8 : Int32) * y + z).toNatClampNeg &&& ((e ||| (w &&& b)) ^^^ (-1)) = 0 := h0
            rw [n8] at h0
            have hK := hrd.mp h0
            exact c135 _ _ (nu_A0 q (fun i z => hK ((nu_F (by omega)).mp z).2.2))
          · have h0 : ¬ u.1.1.1 8 x.toNatClampNeg ((8 : Int32) * y + z).toNatClampNeg &&& ((e ||| (w &&& b)) ^^^ (-1)) = 0 := h0
            rw [n8] at h0
            have hK : nu_K g nb L p (8 * o + a) (nu_D g J nb μ) := Classical.byContradiction fun w => h0 (hrd.mpr w)
            refine ⟨zn_i hs0 hs8 (by decide), ?_⟩
            refine ⟨d - 1, 0, 0, _, _, by omega, Nat.le_refl _, Nat.le_refl _, ct_A_hasBit (by omega), ?_, fun _ _ h => h.elim⟩
            rintro r μ0 ⟨rfl, hμ0⟩
            subst hμ0
            have hcs : (t.1.1.1 6 x.toNatClampNeg y.toNatClampNeg).toNatClampNeg = gq_sy g p o := zn_c hs0 (by omega)
            have hF : ∀ i, ps_F g nb L (32 * p + (8 * o + a)) (nu_D g J nb μ) i ↔ (i = 8 * gq_sy g p o + a ∧ nb i = 0) := fun i => (nu_F (by omega)).trans ⟨fun q => ⟨by rw [← hix]; exact q.1, q.2.1⟩, fun q => ⟨by rw [hix]; exact q.1, q.2, hK⟩⟩
            have hth : gq_th g p (8 * o + a) := by
              obtain ⟨y, w1, _⟩ := hK
              exact (hg.2.2.2.2.2 p _ y hp (by omega) w1).1.1
            have hpat := ps_th hg hp hth
            have hD : ¬ nu_D g J nb μ (8 * gq_sy g p o + a) → nb (8 * gq_sy g p o + a) = 0 → bt (μ.1 28 J (gq_sy g p o)) a = true := by
              intro w1 w2
              cases hq : bt (μ.1 28 J (gq_sy g p o)) a with
              | true => rfl
              | false =>
                refine absurd ?_ w1
                rw [← hix]
                refine ⟨hpat.2, ps_d_iff.mpr ⟨hpat.1, by rw [hix]; exact w2, ?_⟩⟩
                rw [nu_ms_ix hg hp hth, show (8 * o + a) / 8 = o by omega, show (8 * o + a) % 8 = a by omega]
                exact hq
            have hD2 : bt (μ.1 28 J (gq_sy g p o)) a = true → ¬ nu_D g J nb μ (8 * gq_sy g p o + a) := by
              intro w1 w2
              rw [← hix] at w2
              have := (ps_d_iff.mp w2.2).2.2
              rw [nu_ms_ix hg hp hth, show (8 * o + a) / 8 = o by omega, show (8 * o + a) % 8 = a by omega, w1] at this
              cases this
            by_cases hbit : bt (u.1.1.1 28 J (gq_sy g p o)) a = true
            · have hne : ¬ ((u.1.1.1 28 J (t.1.1.1 6 x.toNatClampNeg y.toNatClampNeg).toNatClampNeg).toUInt32 >>> (z.toUInt32 &&& Int32.toUInt32 31)).toInt32 &&& 1 = 0 := by
                rw [hcs, hz, zb_t3 _ (show a < 32 by omega), hbit]
                decide
              rw [if_neg hne]
              have hor := (q.2.2.1 _ a hsn).mp hbit
              have hnb0 := (hso _ hsn a hor.1).2
              refine ⟨fun w => absurd w (by decide), fun _ => ⟨zn_i hs0 hs8 (by decide), zn_i hs0 hs8 (by decide), ?_⟩⟩
              suffices post : ∀ μ2 : za_M, (za_u u.1.1.1 28 J (t.1.1.1 6 x.toNatClampNeg y.toNatClampNeg).toNatClampNeg (u.1.1.1 28 J (t.1.1.1 6 x.toNatClampNeg y.toNatClampNeg).toNatClampNeg &&& ((1 <<< (z &&& 31)) ^^^ (-1))), u.1.1.2) = μ2 → nu_A g J nb L p μ (8 * o + a + 1) μ2 1 from c135 _ 1 (post _ rfl)
              intro μ2 hμ2
              rw [hcs, hz] at hμ2
              refine ⟨Or.inr rfl, ⟨fun _ => ⟨8 * o + a, Nat.lt_succ_self _, _, (hF _).mpr ⟨rfl, hnb0⟩, hD2 hor.1⟩, fun _ => rfl⟩, fun s a' hs => ?_, by rw [← hμ2]; exact zq_u q.2.2.2 ⟨rfl, rfl⟩⟩
              by_cases es : s = gq_sy g p o
              · subst es
                have e1 : μ2.1 28 J (gq_sy g p o) = u.1.1.1 28 J (gq_sy g p o) &&& ((1 <<< (nI a &&& 31)) ^^^ (-1)) := by rw [← hμ2]; exact za_u_same _ _ _ _ _
                rw [e1, zb_cl _ (show a < 32 by omega), Bool.and_eq_true, q.2.2.1 _ a' hs, decide_eq_true_eq]
                constructor
                · rintro ⟨⟨w1, w2⟩, w3⟩
                  refine ⟨w1, fun ⟨x', w4, w5⟩ => ?_⟩
                  by_cases ex : x' = 8 * o + a
                  · subst ex
                    have := ((hF _).mp w5).1
                    omega
                  · exact w2 ⟨x', by omega, w5⟩
                · rintro ⟨w1, w2⟩
                  refine ⟨⟨w1, fun ⟨x', w4, w5⟩ => w2 ⟨x', by omega, w5⟩⟩, fun w3 => w2 ⟨8 * o + a, Nat.lt_succ_self _, (hF _).mpr ⟨by rw [w3], ?_⟩⟩⟩
                  rw [w3]
                  exact hnb0
              · have e1 : μ2.1 28 J s = u.1.1.1 28 J s := by
                  rw [← hμ2]
                  exact za_u_i es
                rw [e1, q.2.2.1 s a' hs]
                refine and_congr_right fun w1 => not_congr ⟨fun ⟨x', w4, w5⟩ => ⟨x', by omega, w5⟩, fun ⟨x', w4, w5⟩ => ⟨x', ?_, w5⟩⟩
                refine Classical.byContradiction fun w6 => ?_
                have ex : x' = 8 * o + a := by omega
                subst ex
                have h1 := ((hF _).mp w5).1
                have h2 := (hso s hs a' w1).1
                have h3 := (hg.2.2.1 s hs).1
                omega
            · have hbf : bt (u.1.1.1 28 J (gq_sy g p o)) a = false := by rw [Bool.not_eq_true] at hbit; exact hbit
              have hze : ((u.1.1.1 28 J (t.1.1.1 6 x.toNatClampNeg y.toNatClampNeg).toNatClampNeg).toUInt32 >>> (z.toUInt32 &&& Int32.toUInt32 31)).toInt32 &&& 1 = 0 := by
                rw [hcs, hz, zb_t3 _ (show a < 32 by omega)]
                exact hbf
              rw [if_pos hze]
              refine ⟨fun _ => c135 _ _ ?_, fun w => absurd rfl w⟩
              -- the bit was dropped before, or never there
              have hprev : bt (μ.1 28 J (gq_sy g p o)) a = true → ∃ x', x' < 8 * o + a ∧ ps_F g nb L (32 * p + x') (nu_D g J nb μ) (8 * gq_sy g p o + a) := by
                intro w1
                exact Classical.byContradiction fun w2 => hbit ((q.2.2.1 _ a hsn).mpr ⟨w1, w2⟩)
              refine ⟨q.1, q.2.1.trans ⟨fun ⟨x', w1, i, w2⟩ => ⟨x', by omega, i, w2⟩, fun ⟨x', w1, i, w2, w3⟩ => ?_⟩, fun s a' hs => ?_, q.2.2.2⟩
              · by_cases ex : x' = 8 * o + a
                · subst ex
                  obtain ⟨rfl, w4⟩ := (hF _).mp w2
                  obtain ⟨x2, w5, w6⟩ := hprev (hD w3 w4)
                  exact ⟨x2, w5, _, w6, w3⟩
                · exact ⟨x', by omega, i, w2, w3⟩
              · rw [q.2.2.1 s a' hs]
                refine and_congr_right fun w1 => not_congr ⟨fun ⟨x', w4, w5⟩ => ⟨x', by omega, w5⟩, fun ⟨x', w4, w5⟩ => ?_⟩
                by_cases ex : x' = 8 * o + a
                · subst ex
                  have h1 := ((hF _).mp w5).1
                  have h2 := (hso s hs a' w1).1
                  have h3 := (hg.2.2.1 s hs).1
                  have es : s = gq_sy g p o := by omega
                  have ea : a' = a := by omega
                  rw [es, ea] at w1 ⊢
                  exact hprev w1
                · exact ⟨x', by omega, w5⟩)
      exact inner 0 (t.1, t.2.2.2.2) (Nat.zero_le _) h 0 rfl)
  refine loop 0 ((μ, 0), none, none, none, none) (Nat.zero_le _) ⟨Or.inl rfl, ⟨fun q => absurd q (show ¬ (0 : Int32) = 1 by decide), fun ⟨x, q, _⟩ => absurd q (Nat.not_lt_zero x)⟩, fun s a hs => ⟨fun q => ⟨q, fun ⟨x, z, _⟩ => absurd z (Nat.not_lt_zero x)⟩, fun q => q.1⟩, zq_rf⟩ 0 rfl
end
