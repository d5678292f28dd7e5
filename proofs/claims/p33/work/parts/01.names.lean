-- ===== PART A: goes FIRST, ahead of the names: the tables' words, and 'selects' of the private methods out of them =====
/-- a private method of a class that the tables say can be made, by its rows of tables_1 -/
def lw_okq (q : MethodName × Nat) : Prop := (q.1.cls ≠ "java/lang/invoke/MethodHandle" ∧ q.1.cls ≠ "java/lang/invoke/VarHandle") ∧ Cond.instantiable q.1.cls q.2 ∈ tables_1 ∧ Cond.privateMethod q.1 ∈ tables_1 ∧ Cond.instanceMethod q.1 ∈ tables_1
theorem lw_p0 : lw_okq (⟨"FoldedInHalf", "shelfAt", "(I)LFoldedInHalf$Shelf;"⟩, 13) := ⟨⟨by decide +kernel, by decide +kernel⟩, List.mem_of_getElem? (i := 24) (by decide +kernel), List.mem_of_getElem? (i := 166) (by decide +kernel), List.mem_of_getElem? (i := 167) (by decide +kernel)⟩
theorem lw_p1 : lw_okq (⟨"FoldedInHalf", "refuse", "(I)I"⟩, 13) := ⟨⟨by decide +kernel, by decide +kernel⟩, List.mem_of_getElem? (i := 24) (by decide +kernel), List.mem_of_getElem? (i := 170) (by decide +kernel), List.mem_of_getElem? (i := 171) (by decide +kernel)⟩
theorem lw_p2 : lw_okq (⟨"FoldedInHalf$Shelf", "holdRow", "(II)V"⟩, 4) := ⟨⟨by decide +kernel, by decide +kernel⟩, List.mem_of_getElem? (i := 97) (by decide +kernel), List.mem_of_getElem? (i := 174) (by decide +kernel), List.mem_of_getElem? (i := 175) (by decide +kernel)⟩
theorem lw_p3 : lw_okq (⟨"FoldedInHalf$Shelf", "put", "(IJ)V"⟩, 4) := ⟨⟨by decide +kernel, by decide +kernel⟩, List.mem_of_getElem? (i := 97) (by decide +kernel), List.mem_of_getElem? (i := 188) (by decide +kernel), List.mem_of_getElem? (i := 189) (by decide +kernel)⟩
theorem lw_p4 : lw_okq (⟨"FoldedInHalf$Shelf", "narrowed", "(J)J"⟩, 4) := ⟨⟨by decide +kernel, by decide +kernel⟩, List.mem_of_getElem? (i := 97) (by decide +kernel), List.mem_of_getElem? (i := 192) (by decide +kernel), List.mem_of_getElem? (i := 193) (by decide +kernel)⟩
theorem lw_p5 : lw_okq (⟨"FoldedInHalf$Shelf", "hasPiece", "(II)Z"⟩, 4) := ⟨⟨by decide +kernel, by decide +kernel⟩, List.mem_of_getElem? (i := 97) (by decide +kernel), List.mem_of_getElem? (i := 200) (by decide +kernel), List.mem_of_getElem? (i := 201) (by decide +kernel)⟩
theorem lw_p6 : lw_okq (⟨"FoldedInHalf$Shelf", "at", "(I)J"⟩, 4) := ⟨⟨by decide +kernel, by decide +kernel⟩, List.mem_of_getElem? (i := 97) (by decide +kernel), List.mem_of_getElem? (i := 211) (by decide +kernel), List.mem_of_getElem? (i := 212) (by decide +kernel)⟩
theorem lw_p7 : lw_okq (⟨"FoldedInHalf", "stripAt", "(I)LFoldedInHalf$Strip;"⟩, 13) := ⟨⟨by decide +kernel, by decide +kernel⟩, List.mem_of_getElem? (i := 24) (by decide +kernel), List.mem_of_getElem? (i := 219) (by decide +kernel), List.mem_of_getElem? (i := 220) (by decide +kernel)⟩
theorem lw_p8 : lw_okq (⟨"FoldedInHalf$Shelf", "holdStrip", "(I)V"⟩, 4) := ⟨⟨by decide +kernel, by decide +kernel⟩, List.mem_of_getElem? (i := 97) (by decide +kernel), List.mem_of_getElem? (i := 223) (by decide +kernel), List.mem_of_getElem? (i := 224) (by decide +kernel)⟩
theorem lw_p9 : lw_okq (⟨"FoldedInHalf$Shelf", "number", "(I)I"⟩, 4) := ⟨⟨by decide +kernel, by decide +kernel⟩, List.mem_of_getElem? (i := 97) (by decide +kernel), List.mem_of_getElem? (i := 379) (by decide +kernel), List.mem_of_getElem? (i := 380) (by decide +kernel)⟩
theorem lw_p10 : lw_okq (⟨"FoldedInHalf", "putStrip", "(ILFoldedInHalf$Strip;)V"⟩, 13) := ⟨⟨by decide +kernel, by decide +kernel⟩, List.mem_of_getElem? (i := 24) (by decide +kernel), List.mem_of_getElem? (i := 481) (by decide +kernel), List.mem_of_getElem? (i := 482) (by decide +kernel)⟩
theorem lw_p11 : lw_okq (⟨"FoldedInHalf$Reader", "tell", "(LFoldedInHalf$Shelf;)V"⟩, 7) := ⟨⟨by decide +kernel, by decide +kernel⟩, List.mem_of_getElem? (i := 36) (by decide +kernel), List.mem_of_getElem? (i := 546) (by decide +kernel), List.mem_of_getElem? (i := 547) (by decide +kernel)⟩
theorem lw_p12 : lw_okq (⟨"FoldedInHalf$Reader", "stands", "(I)Z"⟩, 7) := ⟨⟨by decide +kernel, by decide +kernel⟩, List.mem_of_getElem? (i := 36) (by decide +kernel), List.mem_of_getElem? (i := 550) (by decide +kernel), List.mem_of_getElem? (i := 551) (by decide +kernel)⟩
theorem lw_p13 : lw_okq (⟨"FoldedInHalf$Reader", "tellStrip", "()V"⟩, 7) := ⟨⟨by decide +kernel, by decide +kernel⟩, List.mem_of_getElem? (i := 36) (by decide +kernel), List.mem_of_getElem? (i := 555) (by decide +kernel), List.mem_of_getElem? (i := 556) (by decide +kernel)⟩
theorem lw_p14 : lw_okq (⟨"FoldedInHalf$Reader", "expectAll", "(Ljava/lang/String;)V"⟩, 7) := ⟨⟨by decide +kernel, by decide +kernel⟩, List.mem_of_getElem? (i := 36) (by decide +kernel), List.mem_of_getElem? (i := 560) (by decide +kernel), List.mem_of_getElem? (i := 561) (by decide +kernel)⟩
theorem lw_p15 : lw_okq (⟨"FoldedInHalf$Reader", "expect", "(C)V"⟩, 7) := ⟨⟨by decide +kernel, by decide +kernel⟩, List.mem_of_getElem? (i := 36) (by decide +kernel), List.mem_of_getElem? (i := 612) (by decide +kernel), List.mem_of_getElem? (i := 613) (by decide +kernel)⟩
def lw_privs_1 : List (MethodName × Nat) := [(⟨"FoldedInHalf", "shelfAt", "(I)LFoldedInHalf$Shelf;"⟩, 13), (⟨"FoldedInHalf", "refuse", "(I)I"⟩, 13), (⟨"FoldedInHalf$Shelf", "holdRow", "(II)V"⟩, 4), (⟨"FoldedInHalf$Shelf", "put", "(IJ)V"⟩, 4), (⟨"FoldedInHalf$Shelf", "narrowed", "(J)J"⟩, 4), (⟨"FoldedInHalf$Shelf", "hasPiece", "(II)Z"⟩, 4), (⟨"FoldedInHalf$Shelf", "at", "(I)J"⟩, 4), (⟨"FoldedInHalf", "stripAt", "(I)LFoldedInHalf$Strip;"⟩, 13), (⟨"FoldedInHalf$Shelf", "holdStrip", "(I)V"⟩, 4), (⟨"FoldedInHalf$Shelf", "number", "(I)I"⟩, 4), (⟨"FoldedInHalf", "putStrip", "(ILFoldedInHalf$Strip;)V"⟩, 13), (⟨"FoldedInHalf$Reader", "tell", "(LFoldedInHalf$Shelf;)V"⟩, 7), (⟨"FoldedInHalf$Reader", "stands", "(I)Z"⟩, 7), (⟨"FoldedInHalf$Reader", "tellStrip", "()V"⟩, 7), (⟨"FoldedInHalf$Reader", "expectAll", "(Ljava/lang/String;)V"⟩, 7), (⟨"FoldedInHalf$Reader", "expect", "(C)V"⟩, 7)]
theorem lw_r1 : ∀ q ∈ lw_privs_1, lw_okq q := List.forall_mem_cons.mpr ⟨lw_p0, List.forall_mem_cons.mpr ⟨lw_p1, List.forall_mem_cons.mpr ⟨lw_p2, List.forall_mem_cons.mpr ⟨lw_p3, List.forall_mem_cons.mpr ⟨lw_p4, List.forall_mem_cons.mpr ⟨lw_p5, List.forall_mem_cons.mpr ⟨lw_p6, List.forall_mem_cons.mpr ⟨lw_p7, List.forall_mem_cons.mpr ⟨lw_p8, List.forall_mem_cons.mpr ⟨lw_p9, List.forall_mem_cons.mpr ⟨lw_p10, List.forall_mem_cons.mpr ⟨lw_p11, List.forall_mem_cons.mpr ⟨lw_p12, List.forall_mem_cons.mpr ⟨lw_p13, List.forall_mem_cons.mpr ⟨lw_p14, List.forall_mem_cons.mpr ⟨lw_p15, fun _ h => absurd h List.not_mem_nil⟩⟩⟩⟩⟩⟩⟩⟩⟩⟩⟩⟩⟩⟩⟩⟩
theorem lw_p16 : lw_okq (⟨"FoldedInHalf$Reader", "tellBelow", "(I)I"⟩, 7) := ⟨⟨by decide +kernel, by decide +kernel⟩, List.mem_of_getElem? (i := 36) (by decide +kernel), List.mem_of_getElem? (i := 616) (by decide +kernel), List.mem_of_getElem? (i := 617) (by decide +kernel)⟩
theorem lw_p17 : lw_okq (⟨"FoldedInHalf$Reader", "tellNumber", "(I)I"⟩, 7) := ⟨⟨by decide +kernel, by decide +kernel⟩, List.mem_of_getElem? (i := 36) (by decide +kernel), List.mem_of_getElem? (i := 620) (by decide +kernel), List.mem_of_getElem? (i := 621) (by decide +kernel)⟩
theorem lw_p18 : lw_okq (⟨"FoldedInHalf$Reader", "standsDigit", "()Z"⟩, 7) := ⟨⟨by decide +kernel, by decide +kernel⟩, List.mem_of_getElem? (i := 36) (by decide +kernel), List.mem_of_getElem? (i := 624) (by decide +kernel), List.mem_of_getElem? (i := 625) (by decide +kernel)⟩
theorem lw_p19 : lw_okq (⟨"FoldedInHalf$Reader", "tellWord", "(I)J"⟩, 7) := ⟨⟨by decide +kernel, by decide +kernel⟩, List.mem_of_getElem? (i := 36) (by decide +kernel), List.mem_of_getElem? (i := 636) (by decide +kernel), List.mem_of_getElem? (i := 637) (by decide +kernel)⟩
theorem lw_p20 : lw_okq (⟨"FoldedInHalf$Reader", "putDraft", "(ILFoldedInHalf$Strip;)V"⟩, 7) := ⟨⟨by decide +kernel, by decide +kernel⟩, List.mem_of_getElem? (i := 36) (by decide +kernel), List.mem_of_getElem? (i := 641) (by decide +kernel), List.mem_of_getElem? (i := 642) (by decide +kernel)⟩
theorem lw_p21 : lw_okq (⟨"FoldedInHalf$Reader", "tellTurn", "()V"⟩, 7) := ⟨⟨by decide +kernel, by decide +kernel⟩, List.mem_of_getElem? (i := 36) (by decide +kernel), List.mem_of_getElem? (i := 645) (by decide +kernel), List.mem_of_getElem? (i := 646) (by decide +kernel)⟩
theorem lw_p22 : lw_okq (⟨"FoldedInHalf$Reader", "draftAt", "(I)LFoldedInHalf$Strip;"⟩, 7) := ⟨⟨by decide +kernel, by decide +kernel⟩, List.mem_of_getElem? (i := 36) (by decide +kernel), List.mem_of_getElem? (i := 650) (by decide +kernel), List.mem_of_getElem? (i := 651) (by decide +kernel)⟩
theorem lw_p23 : lw_okq (⟨"FoldedInHalf$Reader", "tellLess", "()V"⟩, 7) := ⟨⟨by decide +kernel, by decide +kernel⟩, List.mem_of_getElem? (i := 36) (by decide +kernel), List.mem_of_getElem? (i := 656) (by decide +kernel), List.mem_of_getElem? (i := 657) (by decide +kernel)⟩
theorem lw_p24 : lw_okq (⟨"FoldedInHalf", "clearShelvesOfNobody", "()V"⟩, 13) := ⟨⟨by decide +kernel, by decide +kernel⟩, List.mem_of_getElem? (i := 24) (by decide +kernel), List.mem_of_getElem? (i := 681) (by decide +kernel), List.mem_of_getElem? (i := 682) (by decide +kernel)⟩
theorem lw_p25 : lw_okq (⟨"FoldedInHalf$Walk", "spread", "(II)V"⟩, 6) := ⟨⟨by decide +kernel, by decide +kernel⟩, List.mem_of_getElem? (i := 733) (by decide +kernel), List.mem_of_getElem? (i := 766) (by decide +kernel), List.mem_of_getElem? (i := 767) (by decide +kernel)⟩
theorem lw_p26 : lw_okq (⟨"FoldedInHalf$Walk", "move", "()V"⟩, 6) := ⟨⟨by decide +kernel, by decide +kernel⟩, List.mem_of_getElem? (i := 733) (by decide +kernel), List.mem_of_getElem? (i := 770) (by decide +kernel), List.mem_of_getElem? (i := 771) (by decide +kernel)⟩
theorem lw_p27 : lw_okq (⟨"FoldedInHalf$Back", "backAlong", "(J)I"⟩, 4) := ⟨⟨by decide +kernel, by decide +kernel⟩, List.mem_of_getElem? (i := 444) (by decide +kernel), List.mem_of_getElem? (i := 778) (by decide +kernel), List.mem_of_getElem? (i := 779) (by decide +kernel)⟩
theorem lw_p28 : lw_okq (⟨"FoldedInHalf$Walk", "seeFrom", "(LFoldedInHalf$Walk;)V"⟩, 6) := ⟨⟨by decide +kernel, by decide +kernel⟩, List.mem_of_getElem? (i := 733) (by decide +kernel), List.mem_of_getElem? (i := 782) (by decide +kernel), List.mem_of_getElem? (i := 783) (by decide +kernel)⟩
theorem lw_p29 : lw_okq (⟨"FoldedInHalf$Walk", "step", "()V"⟩, 6) := ⟨⟨by decide +kernel, by decide +kernel⟩, List.mem_of_getElem? (i := 733) (by decide +kernel), List.mem_of_getElem? (i := 805) (by decide +kernel), List.mem_of_getElem? (i := 806) (by decide +kernel)⟩
theorem lw_p30 : lw_okq (⟨"FoldedInHalf$Walk", "isAt", "(II)Z"⟩, 6) := ⟨⟨by decide +kernel, by decide +kernel⟩, List.mem_of_getElem? (i := 733) (by decide +kernel), List.mem_of_getElem? (i := 840) (by decide +kernel), List.mem_of_getElem? (i := 841) (by decide +kernel)⟩
theorem lw_p31 : lw_okq (⟨"FoldedInHalf", "forget", "()V"⟩, 13) := ⟨⟨by decide +kernel, by decide +kernel⟩, List.mem_of_getElem? (i := 24) (by decide +kernel), List.mem_of_getElem? (i := 849) (by decide +kernel), List.mem_of_getElem? (i := 850) (by decide +kernel)⟩
def lw_privs_2 : List (MethodName × Nat) := [(⟨"FoldedInHalf$Reader", "tellBelow", "(I)I"⟩, 7), (⟨"FoldedInHalf$Reader", "tellNumber", "(I)I"⟩, 7), (⟨"FoldedInHalf$Reader", "standsDigit", "()Z"⟩, 7), (⟨"FoldedInHalf$Reader", "tellWord", "(I)J"⟩, 7), (⟨"FoldedInHalf$Reader", "putDraft", "(ILFoldedInHalf$Strip;)V"⟩, 7), (⟨"FoldedInHalf$Reader", "tellTurn", "()V"⟩, 7), (⟨"FoldedInHalf$Reader", "draftAt", "(I)LFoldedInHalf$Strip;"⟩, 7), (⟨"FoldedInHalf$Reader", "tellLess", "()V"⟩, 7), (⟨"FoldedInHalf", "clearShelvesOfNobody", "()V"⟩, 13), (⟨"FoldedInHalf$Walk", "spread", "(II)V"⟩, 6), (⟨"FoldedInHalf$Walk", "move", "()V"⟩, 6), (⟨"FoldedInHalf$Back", "backAlong", "(J)I"⟩, 4), (⟨"FoldedInHalf$Walk", "seeFrom", "(LFoldedInHalf$Walk;)V"⟩, 6), (⟨"FoldedInHalf$Walk", "step", "()V"⟩, 6), (⟨"FoldedInHalf$Walk", "isAt", "(II)Z"⟩, 6), (⟨"FoldedInHalf", "forget", "()V"⟩, 13)]
theorem lw_r2 : ∀ q ∈ lw_privs_2, lw_okq q := List.forall_mem_cons.mpr ⟨lw_p16, List.forall_mem_cons.mpr ⟨lw_p17, List.forall_mem_cons.mpr ⟨lw_p18, List.forall_mem_cons.mpr ⟨lw_p19, List.forall_mem_cons.mpr ⟨lw_p20, List.forall_mem_cons.mpr ⟨lw_p21, List.forall_mem_cons.mpr ⟨lw_p22, List.forall_mem_cons.mpr ⟨lw_p23, List.forall_mem_cons.mpr ⟨lw_p24, List.forall_mem_cons.mpr ⟨lw_p25, List.forall_mem_cons.mpr ⟨lw_p26, List.forall_mem_cons.mpr ⟨lw_p27, List.forall_mem_cons.mpr ⟨lw_p28, List.forall_mem_cons.mpr ⟨lw_p29, List.forall_mem_cons.mpr ⟨lw_p30, List.forall_mem_cons.mpr ⟨lw_p31, fun _ h => absurd h List.not_mem_nil⟩⟩⟩⟩⟩⟩⟩⟩⟩⟩⟩⟩⟩⟩⟩⟩
theorem lw_p32 : lw_okq (⟨"FoldedInHalf", "tallyPlace", "(LFoldedInHalf$Walk;)I"⟩, 13) := ⟨⟨by decide +kernel, by decide +kernel⟩, List.mem_of_getElem? (i := 24) (by decide +kernel), List.mem_of_getElem? (i := 856) (by decide +kernel), List.mem_of_getElem? (i := 857) (by decide +kernel)⟩
theorem lw_p33 : lw_okq (⟨"FoldedInHalf", "tally", "(II)I"⟩, 13) := ⟨⟨by decide +kernel, by decide +kernel⟩, List.mem_of_getElem? (i := 24) (by decide +kernel), List.mem_of_getElem? (i := 860) (by decide +kernel), List.mem_of_getElem? (i := 861) (by decide +kernel)⟩
theorem lw_p34 : lw_okq (⟨"FoldedInHalf$Walk", "middleX", "()I"⟩, 6) := ⟨⟨by decide +kernel, by decide +kernel⟩, List.mem_of_getElem? (i := 733) (by decide +kernel), List.mem_of_getElem? (i := 870) (by decide +kernel), List.mem_of_getElem? (i := 871) (by decide +kernel)⟩
theorem lw_p35 : lw_okq (⟨"FoldedInHalf$Walk", "middleY", "()I"⟩, 6) := ⟨⟨by decide +kernel, by decide +kernel⟩, List.mem_of_getElem? (i := 733) (by decide +kernel), List.mem_of_getElem? (i := 875) (by decide +kernel), List.mem_of_getElem? (i := 876) (by decide +kernel)⟩
theorem lw_p36 : lw_okq (⟨"FoldedInHalf", "refuseTens", "(I)I"⟩, 13) := ⟨⟨by decide +kernel, by decide +kernel⟩, List.mem_of_getElem? (i := 24) (by decide +kernel), List.mem_of_getElem? (i := 887) (by decide +kernel), List.mem_of_getElem? (i := 888) (by decide +kernel)⟩
theorem lw_p37 : lw_okq (⟨"FoldedInHalf", "tallyFour", "(III)I"⟩, 13) := ⟨⟨by decide +kernel, by decide +kernel⟩, List.mem_of_getElem? (i := 24) (by decide +kernel), List.mem_of_getElem? (i := 906) (by decide +kernel), List.mem_of_getElem? (i := 907) (by decide +kernel)⟩
theorem lw_p38 : lw_okq (⟨"FoldedInHalf$Leaves", "clear", "(I)V"⟩, 7) := ⟨⟨by decide +kernel, by decide +kernel⟩, List.mem_of_getElem? (i := 70) (by decide +kernel), List.mem_of_getElem? (i := 972) (by decide +kernel), List.mem_of_getElem? (i := 973) (by decide +kernel)⟩
theorem lw_p39 : lw_okq (⟨"FoldedInHalf$Leaves", "fits", "(II)Z"⟩, 7) := ⟨⟨by decide +kernel, by decide +kernel⟩, List.mem_of_getElem? (i := 70) (by decide +kernel), List.mem_of_getElem? (i := 977) (by decide +kernel), List.mem_of_getElem? (i := 978) (by decide +kernel)⟩
theorem lw_p40 : lw_okq (⟨"FoldedInHalf$Leaves", "closes", "(III)Z"⟩, 7) := ⟨⟨by decide +kernel, by decide +kernel⟩, List.mem_of_getElem? (i := 70) (by decide +kernel), List.mem_of_getElem? (i := 981) (by decide +kernel), List.mem_of_getElem? (i := 982) (by decide +kernel)⟩
theorem lw_p41 : lw_okq (⟨"FoldedInHalf$Leaves", "partner", "(II)I"⟩, 7) := ⟨⟨by decide +kernel, by decide +kernel⟩, List.mem_of_getElem? (i := 70) (by decide +kernel), List.mem_of_getElem? (i := 985) (by decide +kernel), List.mem_of_getElem? (i := 986) (by decide +kernel)⟩
theorem lw_p42 : lw_okq (⟨"FoldedInHalf$Leaves", "placeOfLeaf", "(I)I"⟩, 7) := ⟨⟨by decide +kernel, by decide +kernel⟩, List.mem_of_getElem? (i := 70) (by decide +kernel), List.mem_of_getElem? (i := 989) (by decide +kernel), List.mem_of_getElem? (i := 990) (by decide +kernel)⟩
theorem lw_p43 : lw_okq (⟨"FoldedInHalf$Leaves", "leafAtPlace", "(I)I"⟩, 7) := ⟨⟨by decide +kernel, by decide +kernel⟩, List.mem_of_getElem? (i := 70) (by decide +kernel), List.mem_of_getElem? (i := 993) (by decide +kernel), List.mem_of_getElem? (i := 994) (by decide +kernel)⟩
theorem lw_p44 : lw_okq (⟨"FoldedInHalf$Leaves", "lay", "(II)V"⟩, 7) := ⟨⟨by decide +kernel, by decide +kernel⟩, List.mem_of_getElem? (i := 70) (by decide +kernel), List.mem_of_getElem? (i := 997) (by decide +kernel), List.mem_of_getElem? (i := 998) (by decide +kernel)⟩
theorem lw_p45 : lw_okq (⟨"FoldedInHalf$Leaves", "countOf", "(I)I"⟩, 7) := ⟨⟨by decide +kernel, by decide +kernel⟩, List.mem_of_getElem? (i := 70) (by decide +kernel), List.mem_of_getElem? (i := 1005) (by decide +kernel), List.mem_of_getElem? (i := 1006) (by decide +kernel)⟩
theorem lw_p46 : lw_okq (⟨"FoldedInHalf$Leaves", "keep", "(I)V"⟩, 7) := ⟨⟨by decide +kernel, by decide +kernel⟩, List.mem_of_getElem? (i := 70) (by decide +kernel), List.mem_of_getElem? (i := 1013) (by decide +kernel), List.mem_of_getElem? (i := 1014) (by decide +kernel)⟩
theorem lw_p47 : lw_okq (⟨"FoldedInHalf$Leaves", "lift", "(I)V"⟩, 7) := ⟨⟨by decide +kernel, by decide +kernel⟩, List.mem_of_getElem? (i := 70) (by decide +kernel), List.mem_of_getElem? (i := 1019) (by decide +kernel), List.mem_of_getElem? (i := 1020) (by decide +kernel)⟩
def lw_privs_3 : List (MethodName × Nat) := [(⟨"FoldedInHalf", "tallyPlace", "(LFoldedInHalf$Walk;)I"⟩, 13), (⟨"FoldedInHalf", "tally", "(II)I"⟩, 13), (⟨"FoldedInHalf$Walk", "middleX", "()I"⟩, 6), (⟨"FoldedInHalf$Walk", "middleY", "()I"⟩, 6), (⟨"FoldedInHalf", "refuseTens", "(I)I"⟩, 13), (⟨"FoldedInHalf", "tallyFour", "(III)I"⟩, 13), (⟨"FoldedInHalf$Leaves", "clear", "(I)V"⟩, 7), (⟨"FoldedInHalf$Leaves", "fits", "(II)Z"⟩, 7), (⟨"FoldedInHalf$Leaves", "closes", "(III)Z"⟩, 7), (⟨"FoldedInHalf$Leaves", "partner", "(II)I"⟩, 7), (⟨"FoldedInHalf$Leaves", "placeOfLeaf", "(I)I"⟩, 7), (⟨"FoldedInHalf$Leaves", "leafAtPlace", "(I)I"⟩, 7), (⟨"FoldedInHalf$Leaves", "lay", "(II)V"⟩, 7), (⟨"FoldedInHalf$Leaves", "countOf", "(I)I"⟩, 7), (⟨"FoldedInHalf$Leaves", "keep", "(I)V"⟩, 7), (⟨"FoldedInHalf$Leaves", "lift", "(I)V"⟩, 7)]
theorem lw_r3 : ∀ q ∈ lw_privs_3, lw_okq q := List.forall_mem_cons.mpr ⟨lw_p32, List.forall_mem_cons.mpr ⟨lw_p33, List.forall_mem_cons.mpr ⟨lw_p34, List.forall_mem_cons.mpr ⟨lw_p35, List.forall_mem_cons.mpr ⟨lw_p36, List.forall_mem_cons.mpr ⟨lw_p37, List.forall_mem_cons.mpr ⟨lw_p38, List.forall_mem_cons.mpr ⟨lw_p39, List.forall_mem_cons.mpr ⟨lw_p40, List.forall_mem_cons.mpr ⟨lw_p41, List.forall_mem_cons.mpr ⟨lw_p42, List.forall_mem_cons.mpr ⟨lw_p43, List.forall_mem_cons.mpr ⟨lw_p44, List.forall_mem_cons.mpr ⟨lw_p45, List.forall_mem_cons.mpr ⟨lw_p46, List.forall_mem_cons.mpr ⟨lw_p47, fun _ h => absurd h List.not_mem_nil⟩⟩⟩⟩⟩⟩⟩⟩⟩⟩⟩⟩⟩⟩⟩⟩
theorem lw_p48 : lw_okq (⟨"FoldedInHalf$Leaves", "leafOf", "(III)I"⟩, 7) := ⟨⟨by decide +kernel, by decide +kernel⟩, List.mem_of_getElem? (i := 70) (by decide +kernel), List.mem_of_getElem? (i := 1027) (by decide +kernel), List.mem_of_getElem? (i := 1028) (by decide +kernel)⟩
theorem lw_p49 : lw_okq (⟨"FoldedInHalf", "began", "(I)V"⟩, 13) := ⟨⟨by decide +kernel, by decide +kernel⟩, List.mem_of_getElem? (i := 24) (by decide +kernel), List.mem_of_getElem? (i := 1047) (by decide +kernel), List.mem_of_getElem? (i := 1048) (by decide +kernel)⟩
theorem lw_p50 : lw_okq (⟨"FoldedInHalfModel", "isShelf", "(I)Z"⟩, 56) := ⟨⟨by decide +kernel, by decide +kernel⟩, List.mem_of_getElem? (i := 1130) (by decide +kernel), List.mem_of_getElem? (i := 1309) (by decide +kernel), List.mem_of_getElem? (i := 1310) (by decide +kernel)⟩
theorem lw_p51 : lw_okq (⟨"FoldedInHalfModel", "no", "(I)I"⟩, 56) := ⟨⟨by decide +kernel, by decide +kernel⟩, List.mem_of_getElem? (i := 1130) (by decide +kernel), List.mem_of_getElem? (i := 1313) (by decide +kernel), List.mem_of_getElem? (i := 1314) (by decide +kernel)⟩
theorem lw_p52 : lw_okq (⟨"FoldedInHalfModel", "isStrip", "(I)Z"⟩, 56) := ⟨⟨by decide +kernel, by decide +kernel⟩, List.mem_of_getElem? (i := 1130) (by decide +kernel), List.mem_of_getElem? (i := 1333) (by decide +kernel), List.mem_of_getElem? (i := 1334) (by decide +kernel)⟩
theorem lw_p53 : lw_okq (⟨"FoldedInHalfModel", "creasesOf", "(I)J"⟩, 56) := ⟨⟨by decide +kernel, by decide +kernel⟩, List.mem_of_getElem? (i := 1130) (by decide +kernel), List.mem_of_getElem? (i := 1345) (by decide +kernel), List.mem_of_getElem? (i := 1346) (by decide +kernel)⟩
theorem lw_p54 : lw_okq (⟨"FoldedInHalfModel", "whole", "(I)J"⟩, 56) := ⟨⟨by decide +kernel, by decide +kernel⟩, List.mem_of_getElem? (i := 1130) (by decide +kernel), List.mem_of_getElem? (i := 1349) (by decide +kernel), List.mem_of_getElem? (i := 1350) (by decide +kernel)⟩
theorem lw_p55 : lw_okq (⟨"FoldedInHalfModel", "power", "(II)J"⟩, 56) := ⟨⟨by decide +kernel, by decide +kernel⟩, List.mem_of_getElem? (i := 1130) (by decide +kernel), List.mem_of_getElem? (i := 1353) (by decide +kernel), List.mem_of_getElem? (i := 1354) (by decide +kernel)⟩
theorem lw_p56 : lw_okq (⟨"FoldedInHalfModel", "cutOf", "(I)J"⟩, 56) := ⟨⟨by decide +kernel, by decide +kernel⟩, List.mem_of_getElem? (i := 1130) (by decide +kernel), List.mem_of_getElem? (i := 1357) (by decide +kernel), List.mem_of_getElem? (i := 1358) (by decide +kernel)⟩
theorem lw_p57 : lw_okq (⟨"FoldedInHalfModel", "creaseOf", "(IJ)I"⟩, 56) := ⟨⟨by decide +kernel, by decide +kernel⟩, List.mem_of_getElem? (i := 1130) (by decide +kernel), List.mem_of_getElem? (i := 1362) (by decide +kernel), List.mem_of_getElem? (i := 1363) (by decide +kernel)⟩
theorem lw_p58 : lw_okq (⟨"FoldedInHalfModel", "plain", "(IJ)I"⟩, 56) := ⟨⟨by decide +kernel, by decide +kernel⟩, List.mem_of_getElem? (i := 1130) (by decide +kernel), List.mem_of_getElem? (i := 1366) (by decide +kernel), List.mem_of_getElem? (i := 1367) (by decide +kernel)⟩
theorem lw_p59 : lw_okq (⟨"FoldedInHalfModel", "counts", "(II)I"⟩, 56) := ⟨⟨by decide +kernel, by decide +kernel⟩, List.mem_of_getElem? (i := 1130) (by decide +kernel), List.mem_of_getElem? (i := 1370) (by decide +kernel), List.mem_of_getElem? (i := 1371) (by decide +kernel)⟩
theorem lw_p60 : lw_okq (⟨"FoldedInHalfModel", "letter", "(II)I"⟩, 56) := ⟨⟨by decide +kernel, by decide +kernel⟩, List.mem_of_getElem? (i := 1130) (by decide +kernel), List.mem_of_getElem? (i := 1374) (by decide +kernel), List.mem_of_getElem? (i := 1375) (by decide +kernel)⟩
theorem lw_p61 : lw_okq (⟨"FoldedInHalfModel", "bars", "(II)I"⟩, 56) := ⟨⟨by decide +kernel, by decide +kernel⟩, List.mem_of_getElem? (i := 1130) (by decide +kernel), List.mem_of_getElem? (i := 1384) (by decide +kernel), List.mem_of_getElem? (i := 1385) (by decide +kernel)⟩
theorem lw_p62 : lw_okq (⟨"FoldedInHalfModel", "wants", "(I)I"⟩, 56) := ⟨⟨by decide +kernel, by decide +kernel⟩, List.mem_of_getElem? (i := 1130) (by decide +kernel), List.mem_of_getElem? (i := 1388) (by decide +kernel), List.mem_of_getElem? (i := 1389) (by decide +kernel)⟩
theorem lw_p63 : lw_okq (⟨"FoldedInHalfModel", "adds", "(IIIJ)I"⟩, 56) := ⟨⟨by decide +kernel, by decide +kernel⟩, List.mem_of_getElem? (i := 1130) (by decide +kernel), List.mem_of_getElem? (i := 1393) (by decide +kernel), List.mem_of_getElem? (i := 1394) (by decide +kernel)⟩
def lw_privs_4 : List (MethodName × Nat) := [(⟨"FoldedInHalf$Leaves", "leafOf", "(III)I"⟩, 7), (⟨"FoldedInHalf", "began", "(I)V"⟩, 13), (⟨"FoldedInHalfModel", "isShelf", "(I)Z"⟩, 56), (⟨"FoldedInHalfModel", "no", "(I)I"⟩, 56), (⟨"FoldedInHalfModel", "isStrip", "(I)Z"⟩, 56), (⟨"FoldedInHalfModel", "creasesOf", "(I)J"⟩, 56), (⟨"FoldedInHalfModel", "whole", "(I)J"⟩, 56), (⟨"FoldedInHalfModel", "power", "(II)J"⟩, 56), (⟨"FoldedInHalfModel", "cutOf", "(I)J"⟩, 56), (⟨"FoldedInHalfModel", "creaseOf", "(IJ)I"⟩, 56), (⟨"FoldedInHalfModel", "plain", "(IJ)I"⟩, 56), (⟨"FoldedInHalfModel", "counts", "(II)I"⟩, 56), (⟨"FoldedInHalfModel", "letter", "(II)I"⟩, 56), (⟨"FoldedInHalfModel", "bars", "(II)I"⟩, 56), (⟨"FoldedInHalfModel", "wants", "(I)I"⟩, 56), (⟨"FoldedInHalfModel", "adds", "(IIIJ)I"⟩, 56)]
theorem lw_r4 : ∀ q ∈ lw_privs_4, lw_okq q := List.forall_mem_cons.mpr ⟨lw_p48, List.forall_mem_cons.mpr ⟨lw_p49, List.forall_mem_cons.mpr ⟨lw_p50, List.forall_mem_cons.mpr ⟨lw_p51, List.forall_mem_cons.mpr ⟨lw_p52, List.forall_mem_cons.mpr ⟨lw_p53, List.forall_mem_cons.mpr ⟨lw_p54, List.forall_mem_cons.mpr ⟨lw_p55, List.forall_mem_cons.mpr ⟨lw_p56, List.forall_mem_cons.mpr ⟨lw_p57, List.forall_mem_cons.mpr ⟨lw_p58, List.forall_mem_cons.mpr ⟨lw_p59, List.forall_mem_cons.mpr ⟨lw_p60, List.forall_mem_cons.mpr ⟨lw_p61, List.forall_mem_cons.mpr ⟨lw_p62, List.forall_mem_cons.mpr ⟨lw_p63, fun _ h => absurd h List.not_mem_nil⟩⟩⟩⟩⟩⟩⟩⟩⟩⟩⟩⟩⟩⟩⟩⟩
theorem lw_p64 : lw_okq (⟨"FoldedInHalfModel", "all", "([I[JZ)V"⟩, 56) := ⟨⟨by decide +kernel, by decide +kernel⟩, List.mem_of_getElem? (i := 1130) (by decide +kernel), List.mem_of_getElem? (i := 1409) (by decide +kernel), List.mem_of_getElem? (i := 1410) (by decide +kernel)⟩
theorem lw_p65 : lw_okq (⟨"FoldedInHalfModel", "item", "()Z"⟩, 56) := ⟨⟨by decide +kernel, by decide +kernel⟩, List.mem_of_getElem? (i := 1130) (by decide +kernel), List.mem_of_getElem? (i := 1413) (by decide +kernel), List.mem_of_getElem? (i := 1414) (by decide +kernel)⟩
theorem lw_p66 : lw_okq (⟨"FoldedInHalfModel", "isStrip", "()Z"⟩, 56) := ⟨⟨by decide +kernel, by decide +kernel⟩, List.mem_of_getElem? (i := 1130) (by decide +kernel), List.mem_of_getElem? (i := 1417) (by decide +kernel), List.mem_of_getElem? (i := 1418) (by decide +kernel)⟩
theorem lw_p67 : lw_okq (⟨"FoldedInHalfModel", "isWrong", "(I)Z"⟩, 56) := ⟨⟨by decide +kernel, by decide +kernel⟩, List.mem_of_getElem? (i := 1130) (by decide +kernel), List.mem_of_getElem? (i := 1421) (by decide +kernel), List.mem_of_getElem? (i := 1422) (by decide +kernel)⟩
theorem lw_p68 : lw_okq (⟨"FoldedInHalfModel", "wordOf", "()I"⟩, 56) := ⟨⟨by decide +kernel, by decide +kernel⟩, List.mem_of_getElem? (i := 1130) (by decide +kernel), List.mem_of_getElem? (i := 1425) (by decide +kernel), List.mem_of_getElem? (i := 1426) (by decide +kernel)⟩
theorem lw_p69 : lw_okq (⟨"FoldedInHalfModel", "number", "(I)Z"⟩, 56) := ⟨⟨by decide +kernel, by decide +kernel⟩, List.mem_of_getElem? (i := 1130) (by decide +kernel), List.mem_of_getElem? (i := 1429) (by decide +kernel), List.mem_of_getElem? (i := 1430) (by decide +kernel)⟩
theorem lw_p70 : lw_okq (⟨"FoldedInHalfModel", "isDigit", "()Z"⟩, 56) := ⟨⟨by decide +kernel, by decide +kernel⟩, List.mem_of_getElem? (i := 1130) (by decide +kernel), List.mem_of_getElem? (i := 1433) (by decide +kernel), List.mem_of_getElem? (i := 1434) (by decide +kernel)⟩
theorem lw_p71 : lw_okq (⟨"FoldedInHalfModel", "blank", "()Z"⟩, 56) := ⟨⟨by decide +kernel, by decide +kernel⟩, List.mem_of_getElem? (i := 1130) (by decide +kernel), List.mem_of_getElem? (i := 1437) (by decide +kernel), List.mem_of_getElem? (i := 1438) (by decide +kernel)⟩
theorem lw_p72 : lw_okq (⟨"FoldedInHalfModel", "letters", "(I)Z"⟩, 56) := ⟨⟨by decide +kernel, by decide +kernel⟩, List.mem_of_getElem? (i := 1130) (by decide +kernel), List.mem_of_getElem? (i := 1441) (by decide +kernel), List.mem_of_getElem? (i := 1442) (by decide +kernel)⟩
theorem lw_p73 : lw_okq (⟨"FoldedInHalfModel", "round", "(IJ)I"⟩, 56) := ⟨⟨by decide +kernel, by decide +kernel⟩, List.mem_of_getElem? (i := 1130) (by decide +kernel), List.mem_of_getElem? (i := 1461) (by decide +kernel), List.mem_of_getElem? (i := 1462) (by decide +kernel)⟩
theorem lw_p74 : lw_okq (⟨"FoldedInHalfModel", "turned", "(IJI)I"⟩, 56) := ⟨⟨by decide +kernel, by decide +kernel⟩, List.mem_of_getElem? (i := 1130) (by decide +kernel), List.mem_of_getElem? (i := 1465) (by decide +kernel), List.mem_of_getElem? (i := 1466) (by decide +kernel)⟩
theorem lw_p75 : lw_okq (⟨"FoldedInHalfModel", "placeOf", "(IJ)V"⟩, 56) := ⟨⟨by decide +kernel, by decide +kernel⟩, List.mem_of_getElem? (i := 1130) (by decide +kernel), List.mem_of_getElem? (i := 1476) (by decide +kernel), List.mem_of_getElem? (i := 1477) (by decide +kernel)⟩
theorem lw_p76 : lw_okq (⟨"FoldedInHalfModel", "turnX", "(JJI)J"⟩, 56) := ⟨⟨by decide +kernel, by decide +kernel⟩, List.mem_of_getElem? (i := 1130) (by decide +kernel), List.mem_of_getElem? (i := 1480) (by decide +kernel), List.mem_of_getElem? (i := 1481) (by decide +kernel)⟩
theorem lw_p77 : lw_okq (⟨"FoldedInHalfModel", "turnY", "(JJI)J"⟩, 56) := ⟨⟨by decide +kernel, by decide +kernel⟩, List.mem_of_getElem? (i := 1130) (by decide +kernel), List.mem_of_getElem? (i := 1484) (by decide +kernel), List.mem_of_getElem? (i := 1485) (by decide +kernel)⟩
theorem lw_p78 : lw_okq (⟨"FoldedInHalfModel", "plainPlace", "(IJ)V"⟩, 56) := ⟨⟨by decide +kernel, by decide +kernel⟩, List.mem_of_getElem? (i := 1130) (by decide +kernel), List.mem_of_getElem? (i := 1488) (by decide +kernel), List.mem_of_getElem? (i := 1489) (by decide +kernel)⟩
theorem lw_p79 : lw_okq (⟨"FoldedInHalfModel", "parts", "(I)V"⟩, 56) := ⟨⟨by decide +kernel, by decide +kernel⟩, List.mem_of_getElem? (i := 1130) (by decide +kernel), List.mem_of_getElem? (i := 1492) (by decide +kernel), List.mem_of_getElem? (i := 1493) (by decide +kernel)⟩
def lw_privs_5 : List (MethodName × Nat) := [(⟨"FoldedInHalfModel", "all", "([I[JZ)V"⟩, 56), (⟨"FoldedInHalfModel", "item", "()Z"⟩, 56), (⟨"FoldedInHalfModel", "isStrip", "()Z"⟩, 56), (⟨"FoldedInHalfModel", "isWrong", "(I)Z"⟩, 56), (⟨"FoldedInHalfModel", "wordOf", "()I"⟩, 56), (⟨"FoldedInHalfModel", "number", "(I)Z"⟩, 56), (⟨"FoldedInHalfModel", "isDigit", "()Z"⟩, 56), (⟨"FoldedInHalfModel", "blank", "()Z"⟩, 56), (⟨"FoldedInHalfModel", "letters", "(I)Z"⟩, 56), (⟨"FoldedInHalfModel", "round", "(IJ)I"⟩, 56), (⟨"FoldedInHalfModel", "turned", "(IJI)I"⟩, 56), (⟨"FoldedInHalfModel", "placeOf", "(IJ)V"⟩, 56), (⟨"FoldedInHalfModel", "turnX", "(JJI)J"⟩, 56), (⟨"FoldedInHalfModel", "turnY", "(JJI)J"⟩, 56), (⟨"FoldedInHalfModel", "plainPlace", "(IJ)V"⟩, 56), (⟨"FoldedInHalfModel", "parts", "(I)V"⟩, 56)]
theorem lw_r5 : ∀ q ∈ lw_privs_5, lw_okq q := List.forall_mem_cons.mpr ⟨lw_p64, List.forall_mem_cons.mpr ⟨lw_p65, List.forall_mem_cons.mpr ⟨lw_p66, List.forall_mem_cons.mpr ⟨lw_p67, List.forall_mem_cons.mpr ⟨lw_p68, List.forall_mem_cons.mpr ⟨lw_p69, List.forall_mem_cons.mpr ⟨lw_p70, List.forall_mem_cons.mpr ⟨lw_p71, List.forall_mem_cons.mpr ⟨lw_p72, List.forall_mem_cons.mpr ⟨lw_p73, List.forall_mem_cons.mpr ⟨lw_p74, List.forall_mem_cons.mpr ⟨lw_p75, List.forall_mem_cons.mpr ⟨lw_p76, List.forall_mem_cons.mpr ⟨lw_p77, List.forall_mem_cons.mpr ⟨lw_p78, List.forall_mem_cons.mpr ⟨lw_p79, fun _ h => absurd h List.not_mem_nil⟩⟩⟩⟩⟩⟩⟩⟩⟩⟩⟩⟩⟩⟩⟩⟩
theorem lw_p80 : lw_okq (⟨"FoldedInHalfModel", "walks", "(II)I"⟩, 56) := ⟨⟨by decide +kernel, by decide +kernel⟩, List.mem_of_getElem? (i := 1130) (by decide +kernel), List.mem_of_getElem? (i := 1500) (by decide +kernel), List.mem_of_getElem? (i := 1501) (by decide +kernel)⟩
theorem lw_p81 : lw_okq (⟨"FoldedInHalfModel", "walked", "(III[I[I)V"⟩, 56) := ⟨⟨by decide +kernel, by decide +kernel⟩, List.mem_of_getElem? (i := 1130) (by decide +kernel), List.mem_of_getElem? (i := 1504) (by decide +kernel), List.mem_of_getElem? (i := 1505) (by decide +kernel)⟩
theorem lw_p82 : lw_okq (⟨"FoldedInHalfModel", "clears", "()V"⟩, 56) := ⟨⟨by decide +kernel, by decide +kernel⟩, List.mem_of_getElem? (i := 1130) (by decide +kernel), List.mem_of_getElem? (i := 1512) (by decide +kernel), List.mem_of_getElem? (i := 1513) (by decide +kernel)⟩
theorem lw_p83 : lw_okq (⟨"FoldedInHalfModel", "meets", "(III)I"⟩, 56) := ⟨⟨by decide +kernel, by decide +kernel⟩, List.mem_of_getElem? (i := 1130) (by decide +kernel), List.mem_of_getElem? (i := 1516) (by decide +kernel), List.mem_of_getElem? (i := 1517) (by decide +kernel)⟩
theorem lw_p84 : lw_okq (⟨"FoldedInHalfModel", "noTen", "(I)I"⟩, 56) := ⟨⟨by decide +kernel, by decide +kernel⟩, List.mem_of_getElem? (i := 1130) (by decide +kernel), List.mem_of_getElem? (i := 1533) (by decide +kernel), List.mem_of_getElem? (i := 1534) (by decide +kernel)⟩
theorem lw_p85 : lw_okq (⟨"FoldedInHalfModel", "farthest", "(I)I"⟩, 56) := ⟨⟨by decide +kernel, by decide +kernel⟩, List.mem_of_getElem? (i := 1130) (by decide +kernel), List.mem_of_getElem? (i := 1537) (by decide +kernel), List.mem_of_getElem? (i := 1538) (by decide +kernel)⟩
theorem lw_p86 : lw_okq (⟨"FoldedInHalfModel", "isWithin", "(II)Z"⟩, 56) := ⟨⟨by decide +kernel, by decide +kernel⟩, List.mem_of_getElem? (i := 1130) (by decide +kernel), List.mem_of_getElem? (i := 1550) (by decide +kernel), List.mem_of_getElem? (i := 1551) (by decide +kernel)⟩
theorem lw_p87 : lw_okq (⟨"FoldedInHalfModel", "isOnce", "(I)Z"⟩, 56) := ⟨⟨by decide +kernel, by decide +kernel⟩, List.mem_of_getElem? (i := 1130) (by decide +kernel), List.mem_of_getElem? (i := 1554) (by decide +kernel), List.mem_of_getElem? (i := 1555) (by decide +kernel)⟩
theorem lw_p88 : lw_okq (⟨"FoldedInHalfModel", "seen", "(II)V"⟩, 56) := ⟨⟨by decide +kernel, by decide +kernel⟩, List.mem_of_getElem? (i := 1130) (by decide +kernel), List.mem_of_getElem? (i := 1562) (by decide +kernel), List.mem_of_getElem? (i := 1563) (by decide +kernel)⟩
theorem lw_p89 : lw_okq (⟨"FoldedInHalfModel", "intAt", "(II)I"⟩, 56) := ⟨⟨by decide +kernel, by decide +kernel⟩, List.mem_of_getElem? (i := 1130) (by decide +kernel), List.mem_of_getElem? (i := 1566) (by decide +kernel), List.mem_of_getElem? (i := 1567) (by decide +kernel)⟩
theorem lw_p90 : lw_okq (⟨"FoldedInHalfModel", "endOf", "(II)V"⟩, 56) := ⟨⟨by decide +kernel, by decide +kernel⟩, List.mem_of_getElem? (i := 1130) (by decide +kernel), List.mem_of_getElem? (i := 1586) (by decide +kernel), List.mem_of_getElem? (i := 1587) (by decide +kernel)⟩
theorem lw_p91 : lw_okq (⟨"FoldedInHalfModel", "isCrossed", "(I)Z"⟩, 56) := ⟨⟨by decide +kernel, by decide +kernel⟩, List.mem_of_getElem? (i := 1130) (by decide +kernel), List.mem_of_getElem? (i := 1598) (by decide +kernel), List.mem_of_getElem? (i := 1599) (by decide +kernel)⟩
theorem lw_p92 : lw_okq (⟨"FoldedInHalfModel", "finds", "(I)V"⟩, 56) := ⟨⟨by decide +kernel, by decide +kernel⟩, List.mem_of_getElem? (i := 1130) (by decide +kernel), List.mem_of_getElem? (i := 1606) (by decide +kernel), List.mem_of_getElem? (i := 1607) (by decide +kernel)⟩
theorem lw_p93 : lw_okq (⟨"FoldedInHalfModel", "goes", "(III)V"⟩, 56) := ⟨⟨by decide +kernel, by decide +kernel⟩, List.mem_of_getElem? (i := 1130) (by decide +kernel), List.mem_of_getElem? (i := 1610) (by decide +kernel), List.mem_of_getElem? (i := 1611) (by decide +kernel)⟩
theorem lw_p94 : lw_okq (⟨"FoldedInHalfModel", "folding", "(II)I"⟩, 56) := ⟨⟨by decide +kernel, by decide +kernel⟩, List.mem_of_getElem? (i := 1130) (by decide +kernel), List.mem_of_getElem? (i := 1630) (by decide +kernel), List.mem_of_getElem? (i := 1631) (by decide +kernel)⟩
theorem lw_p95 : lw_okq (⟨"FoldedInHalfModel", "body", "(I)V"⟩, 56) := ⟨⟨by decide +kernel, by decide +kernel⟩, List.mem_of_getElem? (i := 1130) (by decide +kernel), List.mem_of_getElem? (i := 1634) (by decide +kernel), List.mem_of_getElem? (i := 1635) (by decide +kernel)⟩
def lw_privs_6 : List (MethodName × Nat) := [(⟨"FoldedInHalfModel", "walks", "(II)I"⟩, 56), (⟨"FoldedInHalfModel", "walked", "(III[I[I)V"⟩, 56), (⟨"FoldedInHalfModel", "clears", "()V"⟩, 56), (⟨"FoldedInHalfModel", "meets", "(III)I"⟩, 56), (⟨"FoldedInHalfModel", "noTen", "(I)I"⟩, 56), (⟨"FoldedInHalfModel", "farthest", "(I)I"⟩, 56), (⟨"FoldedInHalfModel", "isWithin", "(II)Z"⟩, 56), (⟨"FoldedInHalfModel", "isOnce", "(I)Z"⟩, 56), (⟨"FoldedInHalfModel", "seen", "(II)V"⟩, 56), (⟨"FoldedInHalfModel", "intAt", "(II)I"⟩, 56), (⟨"FoldedInHalfModel", "endOf", "(II)V"⟩, 56), (⟨"FoldedInHalfModel", "isCrossed", "(I)Z"⟩, 56), (⟨"FoldedInHalfModel", "finds", "(I)V"⟩, 56), (⟨"FoldedInHalfModel", "goes", "(III)V"⟩, 56), (⟨"FoldedInHalfModel", "folding", "(II)I"⟩, 56), (⟨"FoldedInHalfModel", "body", "(I)V"⟩, 56)]
theorem lw_r6 : ∀ q ∈ lw_privs_6, lw_okq q := List.forall_mem_cons.mpr ⟨lw_p80, List.forall_mem_cons.mpr ⟨lw_p81, List.forall_mem_cons.mpr ⟨lw_p82, List.forall_mem_cons.mpr ⟨lw_p83, List.forall_mem_cons.mpr ⟨lw_p84, List.forall_mem_cons.mpr ⟨lw_p85, List.forall_mem_cons.mpr ⟨lw_p86, List.forall_mem_cons.mpr ⟨lw_p87, List.forall_mem_cons.mpr ⟨lw_p88, List.forall_mem_cons.mpr ⟨lw_p89, List.forall_mem_cons.mpr ⟨lw_p90, List.forall_mem_cons.mpr ⟨lw_p91, List.forall_mem_cons.mpr ⟨lw_p92, List.forall_mem_cons.mpr ⟨lw_p93, List.forall_mem_cons.mpr ⟨lw_p94, List.forall_mem_cons.mpr ⟨lw_p95, fun _ h => absurd h List.not_mem_nil⟩⟩⟩⟩⟩⟩⟩⟩⟩⟩⟩⟩⟩⟩⟩⟩
theorem lw_p96 : lw_okq (⟨"FoldedInHalfModel", "opening", "(II)I"⟩, 56) := ⟨⟨by decide +kernel, by decide +kernel⟩, List.mem_of_getElem? (i := 1130) (by decide +kernel), List.mem_of_getElem? (i := 1638) (by decide +kernel), List.mem_of_getElem? (i := 1639) (by decide +kernel)⟩
theorem lw_p97 : lw_okq (⟨"FoldedInHalfModel", "lying", "(II)I"⟩, 56) := ⟨⟨by decide +kernel, by decide +kernel⟩, List.mem_of_getElem? (i := 1130) (by decide +kernel), List.mem_of_getElem? (i := 1642) (by decide +kernel), List.mem_of_getElem? (i := 1643) (by decide +kernel)⟩
def lw_privs_7 : List (MethodName × Nat) := [(⟨"FoldedInHalfModel", "opening", "(II)I"⟩, 56), (⟨"FoldedInHalfModel", "lying", "(II)I"⟩, 56)]
theorem lw_r7 : ∀ q ∈ lw_privs_7, lw_okq q := List.forall_mem_cons.mpr ⟨lw_p96, List.forall_mem_cons.mpr ⟨lw_p97, fun _ h => absurd h List.not_mem_nil⟩⟩
def lw_privs : List (MethodName × Nat) := lw_privs_1 ++ (lw_privs_2 ++ (lw_privs_3 ++ (lw_privs_4 ++ (lw_privs_5 ++ (lw_privs_6 ++ (lw_privs_7))))))
def lw_tbl : List Cond := k2_sels lw_privs ++ tables_1
theorem lw_privs_ok : ∀ q ∈ lw_privs, lw_okq q := by
  show ∀ q ∈ lw_privs_1 ++ (lw_privs_2 ++ (lw_privs_3 ++ (lw_privs_4 ++ (lw_privs_5 ++ (lw_privs_6 ++ (lw_privs_7)))))), lw_okq q
  exact List.forall_mem_append.mpr ⟨lw_r1, List.forall_mem_append.mpr ⟨lw_r2, List.forall_mem_append.mpr ⟨lw_r3, List.forall_mem_append.mpr ⟨lw_r4, List.forall_mem_append.mpr ⟨lw_r5, List.forall_mem_append.mpr ⟨lw_r6, lw_r7⟩⟩⟩⟩⟩⟩
-- ===== end of PART A; then your names; then what follows =====
/-! ===== BEGIN printed: names, fields, word lists, decode rows ===== -/
def RX0 : String := "FoldedInHalf$Back"
def TX0 : u_T := fun k => match k with
  | 0 => ("FoldedInHalf$Strip", "number", "I", true)
  | 1 => ("FoldedInHalf$Strip", "a", "I", true)
  | 2 => ("FoldedInHalf$Strip", "foldCount", "I", true)
  | _ => ("FoldedInHalf$Strip", "word", "J", true)
def tyX0 : Nat → FieldType := fun k => match k with
  | 0 => .int
  | 1 => .int
  | 2 => .int
  | _ => .long
abbrev wsX00 : List Cond := u_ws RX0 TX0 4
theorem nmX0 : ∀ a, a < 4 → ∀ b, b < 4 → a ≠ b → (TX0 a).2.1 ≠ (TX0 b).2.1 := by decide +kernel
theorem tyX0_ok : ∀ k, k < 4 → parseFieldDescriptor (TX0 k).2.2.1 = some (tyX0 k) := by decide +kernel
abbrev cX0_init : ByteArray := prog_2_method_1_code
def yX0_init : MethodName := ⟨RX0, "<init>", "(IIIJ)V"⟩
abbrev cX0_kind : ByteArray := prog_2_method_2_code
def yX0_kind : MethodName := ⟨RX0, "kind", "()I"⟩
abbrev cX0_isOf : ByteArray := prog_2_method_3_code
def yX0_isOf : MethodName := ⟨RX0, "isOf", "(I)Z"⟩
abbrev cX0_creaseAt : ByteArray := prog_2_method_4_code
def yX0_creaseAt : MethodName := ⟨RX0, "creaseAt", "(J)I"⟩
abbrev cX0_walkTo : ByteArray := prog_2_method_5_code
def yX0_walkTo : MethodName := ⟨RX0, "walkTo", "(J)LFoldedInHalf$Walk;"⟩
abbrev cX0_backAlong : ByteArray := prog_2_method_6_code
def yX0_backAlong : MethodName := ⟨RX0, "backAlong", "(J)I"⟩
abbrev cX0_lies : ByteArray := prog_2_method_7_code
def yX0_lies : MethodName := ⟨RX0, "lies", "(ILFoldedInHalf;)I"⟩
abbrev cX0_folds : ByteArray := prog_2_method_8_code
def yX0_folds : MethodName := ⟨RX0, "folds", "(ILFoldedInHalf;)I"⟩
def RX1 : String := "FoldedInHalf$Cut"
def TX1 : u_T := fun k => match k with
  | 0 => ("FoldedInHalf$Strip", "number", "I", true)
  | 1 => ("FoldedInHalf$Strip", "a", "I", true)
  | 2 => ("FoldedInHalf$Strip", "foldCount", "I", true)
  | _ => ("FoldedInHalf$Strip", "word", "J", true)
def tyX1 : Nat → FieldType := fun k => match k with
  | 0 => .int
  | 1 => .int
  | 2 => .int
  | _ => .long
abbrev wsX10 : List Cond := u_ws RX1 TX1 4
theorem nmX1 : ∀ a, a < 4 → ∀ b, b < 4 → a ≠ b → (TX1 a).2.1 ≠ (TX1 b).2.1 := by decide +kernel
theorem tyX1_ok : ∀ k, k < 4 → parseFieldDescriptor (TX1 k).2.2.1 = some (tyX1 k) := by decide +kernel
abbrev cX1_init : ByteArray := prog_3_method_1_code
def yX1_init : MethodName := ⟨RX1, "<init>", "(IIIJ)V"⟩
abbrev cX1_kind : ByteArray := prog_3_method_2_code
def yX1_kind : MethodName := ⟨RX1, "kind", "()I"⟩
abbrev cX1_isOf : ByteArray := prog_3_method_3_code
def yX1_isOf : MethodName := ⟨RX1, "isOf", "(I)Z"⟩
abbrev cX1_behind : ByteArray := prog_3_method_4_code
def yX1_behind : MethodName := ⟨RX1, "behind", "()J"⟩
abbrev cX1_creaseAt : ByteArray := prog_3_method_5_code
def yX1_creaseAt : MethodName := ⟨RX1, "creaseAt", "(J)I"⟩
abbrev cX1_walkTo : ByteArray := prog_3_method_6_code
def yX1_walkTo : MethodName := ⟨RX1, "walkTo", "(J)LFoldedInHalf$Walk;"⟩
abbrev cX1_opens : ByteArray := prog_3_method_7_code
def yX1_opens : MethodName := ⟨RX1, "opens", "(ILFoldedInHalf;)I"⟩
def RX2 : String := "FoldedInHalf$Glass"
def TX2 : u_T := fun k => match k with
  | 0 => ("FoldedInHalf$Strip", "number", "I", true)
  | 1 => ("FoldedInHalf$Strip", "a", "I", true)
  | 2 => ("FoldedInHalf$Strip", "foldCount", "I", true)
  | _ => ("FoldedInHalf$Strip", "word", "J", true)
def tyX2 : Nat → FieldType := fun k => match k with
  | 0 => .int
  | 1 => .int
  | 2 => .int
  | _ => .long
abbrev wsX20 : List Cond := u_ws RX2 TX2 4
theorem nmX2 : ∀ a, a < 4 → ∀ b, b < 4 → a ≠ b → (TX2 a).2.1 ≠ (TX2 b).2.1 := by decide +kernel
theorem tyX2_ok : ∀ k, k < 4 → parseFieldDescriptor (TX2 k).2.2.1 = some (tyX2 k) := by decide +kernel
abbrev cX2_init : ByteArray := prog_4_method_1_code
def yX2_init : MethodName := ⟨RX2, "<init>", "(IIIJ)V"⟩
abbrev cX2_kind : ByteArray := prog_4_method_2_code
def yX2_kind : MethodName := ⟨RX2, "kind", "()I"⟩
abbrev cX2_isOf : ByteArray := prog_4_method_3_code
def yX2_isOf : MethodName := ⟨RX2, "isOf", "(I)Z"⟩
abbrev cX2_bend : ByteArray := prog_4_method_4_code
def yX2_bend : MethodName := ⟨RX2, "bend", "(I)I"⟩
abbrev cX2_lies : ByteArray := prog_4_method_5_code
def yX2_lies : MethodName := ⟨RX2, "lies", "(ILFoldedInHalf;)I"⟩
def RX3 : String := "FoldedInHalf$Leaves"
def TX3 : u_T := fun k => match k with
  | 0 => ("FoldedInHalf$Leaves", "codes", "[I", true)
  | 1 => ("FoldedInHalf$Leaves", "from", "[I", true)
  | 2 => ("FoldedInHalf$Leaves", "counts", "[I", true)
  | 3 => ("FoldedInHalf$Leaves", "placeOf", "[I", true)
  | 4 => ("FoldedInHalf$Leaves", "leafAt", "[I", true)
  | 5 => ("FoldedInHalf$Leaves", "codeCount", "I", false)
  | _ => ("FoldedInHalf$Leaves", "size", "I", false)
def tyX3 : Nat → FieldType := fun k => match k with
  | 0 => .array .int
  | 1 => .array .int
  | 2 => .array .int
  | 3 => .array .int
  | 4 => .array .int
  | 5 => .int
  | _ => .int
abbrev wsX30 : List Cond := u_ws RX3 TX3 7
theorem nmX3 : ∀ a, a < 7 → ∀ b, b < 7 → a ≠ b → (TX3 a).2.1 ≠ (TX3 b).2.1 := by decide +kernel
theorem tyX3_ok : ∀ k, k < 7 → parseFieldDescriptor (TX3 k).2.2.1 = some (tyX3 k) := by decide +kernel
abbrev cX3_init : ByteArray := prog_5_method_1_code
def yX3_init : MethodName := ⟨RX3, "<init>", "()V"⟩
abbrev cX3_clear : ByteArray := prog_5_method_2_code
def yX3_clear : MethodName := ⟨RX3, "clear", "(I)V"⟩
abbrev cX3_placeOfLeaf : ByteArray := prog_5_method_3_code
def yX3_placeOfLeaf : MethodName := ⟨RX3, "placeOfLeaf", "(I)I"⟩
abbrev cX3_leafAtPlace : ByteArray := prog_5_method_4_code
def yX3_leafAtPlace : MethodName := ⟨RX3, "leafAtPlace", "(I)I"⟩
abbrev cX3_lay : ByteArray := prog_5_method_5_code
def yX3_lay : MethodName := ⟨RX3, "lay", "(II)V"⟩
abbrev cX3_lift : ByteArray := prog_5_method_6_code
def yX3_lift : MethodName := ⟨RX3, "lift", "(I)V"⟩
abbrev cX3_partner : ByteArray := prog_5_method_7_code
def yX3_partner : MethodName := ⟨RX3, "partner", "(II)I"⟩
abbrev cX3_fits : ByteArray := prog_5_method_8_code
def yX3_fits : MethodName := ⟨RX3, "fits", "(II)Z"⟩
abbrev cX3_closes : ByteArray := prog_5_method_9_code
def yX3_closes : MethodName := ⟨RX3, "closes", "(III)Z"⟩
abbrev cX3_countOf : ByteArray := prog_5_method_10_code
def yX3_countOf : MethodName := ⟨RX3, "countOf", "(I)I"⟩
abbrev cX3_grow : ByteArray := prog_5_method_11_code
def yX3_grow : MethodName := ⟨RX3, "grow", "(LFoldedInHalf$Leaves;II)V"⟩
abbrev cX3_keep : ByteArray := prog_5_method_12_code
def yX3_keep : MethodName := ⟨RX3, "keep", "(I)V"⟩
abbrev cX3_leafOf : ByteArray := prog_5_method_13_code
def yX3_leafOf : MethodName := ⟨RX3, "leafOf", "(III)I"⟩
def RX4 : String := "FoldedInHalf$Left"
def TX4 : u_T := fun k => match k with
  | 0 => ("FoldedInHalf$Strip", "number", "I", true)
  | 1 => ("FoldedInHalf$Strip", "a", "I", true)
  | 2 => ("FoldedInHalf$Strip", "foldCount", "I", true)
  | _ => ("FoldedInHalf$Strip", "word", "J", true)
def tyX4 : Nat → FieldType := fun k => match k with
  | 0 => .int
  | 1 => .int
  | 2 => .int
  | _ => .long
abbrev wsX40 : List Cond := u_ws RX4 TX4 4
theorem nmX4 : ∀ a, a < 4 → ∀ b, b < 4 → a ≠ b → (TX4 a).2.1 ≠ (TX4 b).2.1 := by decide +kernel
theorem tyX4_ok : ∀ k, k < 4 → parseFieldDescriptor (TX4 k).2.2.1 = some (tyX4 k) := by decide +kernel
abbrev cX4_init : ByteArray := prog_6_method_1_code
def yX4_init : MethodName := ⟨RX4, "<init>", "(IIIJ)V"⟩
abbrev cX4_kind : ByteArray := prog_6_method_2_code
def yX4_kind : MethodName := ⟨RX4, "kind", "()I"⟩
abbrev cX4_isOf : ByteArray := prog_6_method_3_code
def yX4_isOf : MethodName := ⟨RX4, "isOf", "(I)Z"⟩
abbrev cX4_creaseAt : ByteArray := prog_6_method_4_code
def yX4_creaseAt : MethodName := ⟨RX4, "creaseAt", "(J)I"⟩
abbrev cX4_walkTo : ByteArray := prog_6_method_5_code
def yX4_walkTo : MethodName := ⟨RX4, "walkTo", "(J)LFoldedInHalf$Walk;"⟩
abbrev cX4_folds : ByteArray := prog_6_method_6_code
def yX4_folds : MethodName := ⟨RX4, "folds", "(ILFoldedInHalf;)I"⟩
abbrev cX4_opens : ByteArray := prog_6_method_7_code
def yX4_opens : MethodName := ⟨RX4, "opens", "(ILFoldedInHalf;)I"⟩
def RX5 : String := "FoldedInHalf$Reader"
def TX5 : u_T := fun k => match k with
  | 0 => ("FoldedInHalf$Reader", "draft", "[LFoldedInHalf$Strip;", true)
  | 1 => ("FoldedInHalf$Reader", "count", "I", false)
  | 2 => ("FoldedInHalf$Reader", "items", "I", false)
  | 3 => ("FoldedInHalf$Reader", "fault", "I", false)
  | 4 => ("FoldedInHalf$Reader", "text", "LFoldedInHalf$Shelf;", false)
  | 5 => ("FoldedInHalf$Reader", "at", "I", false)
  | _ => ("FoldedInHalf$Reader", "numberAt", "I", false)
def tyX5 : Nat → FieldType := fun k => match k with
  | 0 => .array (.object "FoldedInHalf$Strip")
  | 1 => .int
  | 2 => .int
  | 3 => .int
  | 4 => .object "FoldedInHalf$Shelf"
  | 5 => .int
  | _ => .int
abbrev wsX50 : List Cond := u_ws RX5 TX5 7
theorem nmX5 : ∀ a, a < 7 → ∀ b, b < 7 → a ≠ b → (TX5 a).2.1 ≠ (TX5 b).2.1 := by decide +kernel
theorem tyX5_ok : ∀ k, k < 7 → parseFieldDescriptor (TX5 k).2.2.1 = some (tyX5 k) := by decide +kernel
abbrev cX5_init : ByteArray := prog_7_method_1_code
def yX5_init : MethodName := ⟨RX5, "<init>", "()V"⟩
abbrev cX5_tell : ByteArray := prog_7_method_2_code
def yX5_tell : MethodName := ⟨RX5, "tell", "(LFoldedInHalf$Shelf;)V"⟩
abbrev cX5_stands : ByteArray := prog_7_method_3_code
def yX5_stands : MethodName := ⟨RX5, "stands", "(I)Z"⟩
abbrev cX5_expect : ByteArray := prog_7_method_4_code
def yX5_expect : MethodName := ⟨RX5, "expect", "(C)V"⟩
abbrev cX5_expectAll : ByteArray := prog_7_method_5_code
def yX5_expectAll : MethodName := ⟨RX5, "expectAll", "(Ljava/lang/String;)V"⟩
abbrev cX5_tellNumber : ByteArray := prog_7_method_6_code
def yX5_tellNumber : MethodName := ⟨RX5, "tellNumber", "(I)I"⟩
abbrev cX5_standsDigit : ByteArray := prog_7_method_7_code
def yX5_standsDigit : MethodName := ⟨RX5, "standsDigit", "()Z"⟩
abbrev cX5_tellBelow : ByteArray := prog_7_method_8_code
def yX5_tellBelow : MethodName := ⟨RX5, "tellBelow", "(I)I"⟩
abbrev cX5_draftAt : ByteArray := prog_7_method_9_code
def yX5_draftAt : MethodName := ⟨RX5, "draftAt", "(I)LFoldedInHalf$Strip;"⟩
abbrev cX5_putDraft : ByteArray := prog_7_method_10_code
def yX5_putDraft : MethodName := ⟨RX5, "putDraft", "(ILFoldedInHalf$Strip;)V"⟩
abbrev cX5_tellStrip : ByteArray := prog_7_method_11_code
def yX5_tellStrip : MethodName := ⟨RX5, "tellStrip", "()V"⟩
abbrev cX5_tellWord : ByteArray := prog_7_method_12_code
def yX5_tellWord : MethodName := ⟨RX5, "tellWord", "(I)J"⟩
abbrev cX5_tellTurn : ByteArray := prog_7_method_13_code
def yX5_tellTurn : MethodName := ⟨RX5, "tellTurn", "()V"⟩
abbrev cX5_tellLess : ByteArray := prog_7_method_14_code
def yX5_tellLess : MethodName := ⟨RX5, "tellLess", "()V"⟩
def RX6 : String := "FoldedInHalf$Same"
def TX6 : u_T := fun k => match k with
  | 0 => ("FoldedInHalf$Strip", "number", "I", true)
  | 1 => ("FoldedInHalf$Strip", "a", "I", true)
  | 2 => ("FoldedInHalf$Strip", "foldCount", "I", true)
  | _ => ("FoldedInHalf$Strip", "word", "J", true)
def tyX6 : Nat → FieldType := fun k => match k with
  | 0 => .int
  | 1 => .int
  | 2 => .int
  | _ => .long
abbrev wsX60 : List Cond := u_ws RX6 TX6 4
theorem nmX6 : ∀ a, a < 4 → ∀ b, b < 4 → a ≠ b → (TX6 a).2.1 ≠ (TX6 b).2.1 := by decide +kernel
theorem tyX6_ok : ∀ k, k < 4 → parseFieldDescriptor (TX6 k).2.2.1 = some (tyX6 k) := by decide +kernel
abbrev cX6_init : ByteArray := prog_8_method_1_code
def yX6_init : MethodName := ⟨RX6, "<init>", "(IIIJ)V"⟩
abbrev cX6_kind : ByteArray := prog_8_method_2_code
def yX6_kind : MethodName := ⟨RX6, "kind", "()I"⟩
abbrev cX6_isOf : ByteArray := prog_8_method_3_code
def yX6_isOf : MethodName := ⟨RX6, "isOf", "(I)Z"⟩
abbrev cX6_bend : ByteArray := prog_8_method_4_code
def yX6_bend : MethodName := ⟨RX6, "bend", "(I)I"⟩
abbrev cX6_folds : ByteArray := prog_8_method_5_code
def yX6_folds : MethodName := ⟨RX6, "folds", "(ILFoldedInHalf;)I"⟩
def RX7 : String := "FoldedInHalf$Shelf"
def TX7 : u_T := fun k => match k with
  | 0 => ("FoldedInHalf$Shelf", "cells", "[J", true)
  | 1 => ("FoldedInHalf$Shelf", "length", "I", false)
  | 2 => ("FoldedInHalf$Shelf", "sort", "I", false)
  | _ => ("FoldedInHalf$Shelf", "shown", "I", false)
def tyX7 : Nat → FieldType := fun k => match k with
  | 0 => .array .long
  | 1 => .int
  | 2 => .int
  | _ => .int
abbrev wsX70 : List Cond := u_ws RX7 TX7 4
theorem nmX7 : ∀ a, a < 4 → ∀ b, b < 4 → a ≠ b → (TX7 a).2.1 ≠ (TX7 b).2.1 := by decide +kernel
theorem tyX7_ok : ∀ k, k < 4 → parseFieldDescriptor (TX7 k).2.2.1 = some (tyX7 k) := by decide +kernel
abbrev cX7_init : ByteArray := prog_9_method_1_code
def yX7_init : MethodName := ⟨RX7, "<init>", "()V"⟩
abbrev cX7_holdRow : ByteArray := prog_9_method_2_code
def yX7_holdRow : MethodName := ⟨RX7, "holdRow", "(II)V"⟩
abbrev cX7_holdStrip : ByteArray := prog_9_method_3_code
def yX7_holdStrip : MethodName := ⟨RX7, "holdStrip", "(I)V"⟩
abbrev cX7_put : ByteArray := prog_9_method_4_code
def yX7_put : MethodName := ⟨RX7, "put", "(IJ)V"⟩
abbrev cX7_narrowed : ByteArray := prog_9_method_5_code
def yX7_narrowed : MethodName := ⟨RX7, "narrowed", "(J)J"⟩
abbrev cX7_at : ByteArray := prog_9_method_6_code
def yX7_at : MethodName := ⟨RX7, "at", "(I)J"⟩
abbrev cX7_number : ByteArray := prog_9_method_7_code
def yX7_number : MethodName := ⟨RX7, "number", "(I)I"⟩
abbrev cX7_hasPiece : ByteArray := prog_9_method_8_code
def yX7_hasPiece : MethodName := ⟨RX7, "hasPiece", "(II)Z"⟩
def RX8 : String := "FoldedInHalf$Strip"
def TX8 : u_T := fun k => match k with
  | 0 => ("FoldedInHalf$Strip", "number", "I", true)
  | 1 => ("FoldedInHalf$Strip", "a", "I", true)
  | 2 => ("FoldedInHalf$Strip", "foldCount", "I", true)
  | _ => ("FoldedInHalf$Strip", "word", "J", true)
def tyX8 : Nat → FieldType := fun k => match k with
  | 0 => .int
  | 1 => .int
  | 2 => .int
  | _ => .long
abbrev wsX80 : List Cond := u_ws RX8 TX8 4
theorem nmX8 : ∀ a, a < 4 → ∀ b, b < 4 → a ≠ b → (TX8 a).2.1 ≠ (TX8 b).2.1 := by decide +kernel
theorem tyX8_ok : ∀ k, k < 4 → parseFieldDescriptor (TX8 k).2.2.1 = some (tyX8 k) := by decide +kernel
abbrev cX8_init : ByteArray := prog_10_method_1_code
def yX8_init : MethodName := ⟨RX8, "<init>", "(IIIJ)V"⟩
abbrev cX8_kind : ByteArray := prog_10_method_2_code
def yX8_kind : MethodName := ⟨RX8, "kind", "()I"⟩
abbrev cX8_isOf : ByteArray := prog_10_method_3_code
def yX8_isOf : MethodName := ⟨RX8, "isOf", "(I)Z"⟩
abbrev cX8_hasLevel : ByteArray := prog_10_method_4_code
def yX8_hasLevel : MethodName := ⟨RX8, "hasLevel", "(I)Z"⟩
abbrev cX8_letter : ByteArray := prog_10_method_5_code
def yX8_letter : MethodName := ⟨RX8, "letter", "(I)I"⟩
abbrev cX8_bend : ByteArray := prog_10_method_6_code
def yX8_bend : MethodName := ⟨RX8, "bend", "(I)I"⟩
abbrev cX8_turnedWord : ByteArray := prog_10_method_7_code
def yX8_turnedWord : MethodName := ⟨RX8, "turnedWord", "(I)J"⟩
abbrev cX8_lessWord : ByteArray := prog_10_method_8_code
def yX8_lessWord : MethodName := ⟨RX8, "lessWord", "()J"⟩
abbrev cX8_wholeSides : ByteArray := prog_10_method_9_code
def yX8_wholeSides : MethodName := ⟨RX8, "wholeSides", "()J"⟩
abbrev cX8_behind : ByteArray := prog_10_method_10_code
def yX8_behind : MethodName := ⟨RX8, "behind", "()J"⟩
abbrev cX8_corners : ByteArray := prog_10_method_11_code
def yX8_corners : MethodName := ⟨RX8, "corners", "()J"⟩
abbrev cX8_sides : ByteArray := prog_10_method_12_code
def yX8_sides : MethodName := ⟨RX8, "sides", "()J"⟩
abbrev cX8_creaseAt : ByteArray := prog_10_method_13_code
def yX8_creaseAt : MethodName := ⟨RX8, "creaseAt", "(J)I"⟩
abbrev cX8_walkTo : ByteArray := prog_10_method_14_code
def yX8_walkTo : MethodName := ⟨RX8, "walkTo", "(J)LFoldedInHalf$Walk;"⟩
abbrev cX8_wholeWalkTo : ByteArray := prog_10_method_15_code
def yX8_wholeWalkTo : MethodName := ⟨RX8, "wholeWalkTo", "(J)LFoldedInHalf$Walk;"⟩
abbrev cX8_folds : ByteArray := prog_10_method_16_code
def yX8_folds : MethodName := ⟨RX8, "folds", "(ILFoldedInHalf;)I"⟩
abbrev cX8_opens : ByteArray := prog_10_method_17_code
def yX8_opens : MethodName := ⟨RX8, "opens", "(ILFoldedInHalf;)I"⟩
abbrev cX8_lies : ByteArray := prog_10_method_18_code
def yX8_lies : MethodName := ⟨RX8, "lies", "(ILFoldedInHalf;)I"⟩
def RX9 : String := "FoldedInHalf$Third"
def TX9 : u_T := fun k => match k with
  | 0 => ("FoldedInHalf$Strip", "number", "I", true)
  | 1 => ("FoldedInHalf$Strip", "a", "I", true)
  | 2 => ("FoldedInHalf$Strip", "foldCount", "I", true)
  | _ => ("FoldedInHalf$Strip", "word", "J", true)
def tyX9 : Nat → FieldType := fun k => match k with
  | 0 => .int
  | 1 => .int
  | 2 => .int
  | _ => .long
abbrev wsX90 : List Cond := u_ws RX9 TX9 4
theorem nmX9 : ∀ a, a < 4 → ∀ b, b < 4 → a ≠ b → (TX9 a).2.1 ≠ (TX9 b).2.1 := by decide +kernel
theorem tyX9_ok : ∀ k, k < 4 → parseFieldDescriptor (TX9 k).2.2.1 = some (tyX9 k) := by decide +kernel
abbrev cX9_init : ByteArray := prog_11_method_1_code
def yX9_init : MethodName := ⟨RX9, "<init>", "(IIIJ)V"⟩
abbrev cX9_kind : ByteArray := prog_11_method_2_code
def yX9_kind : MethodName := ⟨RX9, "kind", "()I"⟩
abbrev cX9_isOf : ByteArray := prog_11_method_3_code
def yX9_isOf : MethodName := ⟨RX9, "isOf", "(I)Z"⟩
abbrev cX9_wholeSides : ByteArray := prog_11_method_4_code
def yX9_wholeSides : MethodName := ⟨RX9, "wholeSides", "()J"⟩
abbrev cX9_creaseAt : ByteArray := prog_11_method_5_code
def yX9_creaseAt : MethodName := ⟨RX9, "creaseAt", "(J)I"⟩
abbrev cX9_walkTo : ByteArray := prog_11_method_6_code
def yX9_walkTo : MethodName := ⟨RX9, "walkTo", "(J)LFoldedInHalf$Walk;"⟩
abbrev cX9_opens : ByteArray := prog_11_method_7_code
def yX9_opens : MethodName := ⟨RX9, "opens", "(ILFoldedInHalf;)I"⟩
def RX10 : String := "FoldedInHalf$Walk"
def TX10 : u_T := fun k => match k with
  | 0 => ("FoldedInHalf$Walk", "strip", "LFoldedInHalf$Strip;", true)
  | 1 => ("FoldedInHalf$Walk", "corners", "J", true)
  | 2 => ("FoldedInHalf$Walk", "gone", "J", false)
  | 3 => ("FoldedInHalf$Walk", "x", "J", false)
  | 4 => ("FoldedInHalf$Walk", "y", "J", false)
  | _ => ("FoldedInHalf$Walk", "way", "I", false)
def tyX10 : Nat → FieldType := fun k => match k with
  | 0 => .object "FoldedInHalf$Strip"
  | 1 => .long
  | 2 => .long
  | 3 => .long
  | 4 => .long
  | _ => .int
abbrev wsX100 : List Cond := u_ws RX10 TX10 6
theorem nmX10 : ∀ a, a < 6 → ∀ b, b < 6 → a ≠ b → (TX10 a).2.1 ≠ (TX10 b).2.1 := by decide +kernel
theorem tyX10_ok : ∀ k, k < 6 → parseFieldDescriptor (TX10 k).2.2.1 = some (tyX10 k) := by decide +kernel
abbrev cX10_init : ByteArray := prog_12_method_1_code
def yX10_init : MethodName := ⟨RX10, "<init>", "(LFoldedInHalf$Strip;J)V"⟩
abbrev cX10_move : ByteArray := prog_12_method_2_code
def yX10_move : MethodName := ⟨RX10, "move", "()V"⟩
abbrev cX10_step : ByteArray := prog_12_method_3_code
def yX10_step : MethodName := ⟨RX10, "step", "()V"⟩
abbrev cX10_isAt : ByteArray := prog_12_method_4_code
def yX10_isAt : MethodName := ⟨RX10, "isAt", "(II)Z"⟩
abbrev cX10_middleX : ByteArray := prog_12_method_5_code
def yX10_middleX : MethodName := ⟨RX10, "middleX", "()I"⟩
abbrev cX10_middleY : ByteArray := prog_12_method_6_code
def yX10_middleY : MethodName := ⟨RX10, "middleY", "()I"⟩
abbrev cX10_spread : ByteArray := prog_12_method_7_code
def yX10_spread : MethodName := ⟨RX10, "spread", "(II)V"⟩
abbrev cX10_seeFrom : ByteArray := prog_12_method_8_code
def yX10_seeFrom : MethodName := ⟨RX10, "seeFrom", "(LFoldedInHalf$Walk;)V"⟩
def RX11 : String := "FoldedInHalf"
def TX11 : u_T := fun k => match k with
  | 0 => ("FoldedInHalf", "shelves", "[LFoldedInHalf$Shelf;", true)
  | 1 => ("FoldedInHalf", "strips", "[LFoldedInHalf$Strip;", true)
  | 2 => ("FoldedInHalf", "kept", "[LFoldedInHalf$Strip;", true)
  | 3 => ("FoldedInHalf", "refusals", "[I", true)
  | 4 => ("FoldedInHalf", "bodies", "[I", true)
  | 5 => ("FoldedInHalf", "keys", "[I", true)
  | 6 => ("FoldedInHalf", "times", "[I", true)
  | 7 => ("FoldedInHalf", "rings", "[I", true)
  | 8 => ("FoldedInHalf", "reader", "LFoldedInHalf$Reader;", true)
  | 9 => ("FoldedInHalf", "leaves", "LFoldedInHalf$Leaves;", true)
  | 10 => ("FoldedInHalf", "stripCount", "I", false)
  | 11 => ("FoldedInHalf", "keptCount", "I", false)
  | _ => ("FoldedInHalf", "bodyCount", "I", false)
def tyX11 : Nat → FieldType := fun k => match k with
  | 0 => .array (.object "FoldedInHalf$Shelf")
  | 1 => .array (.object "FoldedInHalf$Strip")
  | 2 => .array (.object "FoldedInHalf$Strip")
  | 3 => .array .int
  | 4 => .array .int
  | 5 => .array .int
  | 6 => .array .int
  | 7 => .array .int
  | 8 => .object "FoldedInHalf$Reader"
  | 9 => .object "FoldedInHalf$Leaves"
  | 10 => .int
  | 11 => .int
  | _ => .int
abbrev wsX110 : List Cond := u_ws RX11 TX11 13
theorem nmX11 : ∀ a, a < 13 → ∀ b, b < 13 → a ≠ b → (TX11 a).2.1 ≠ (TX11 b).2.1 := by decide +kernel
theorem tyX11_ok : ∀ k, k < 13 → parseFieldDescriptor (TX11 k).2.2.1 = some (tyX11 k) := by decide +kernel
abbrev cX11_init : ByteArray := prog_1_method_1_code
def yX11_init : MethodName := ⟨RX11, "<init>", "()V"⟩
abbrev cX11_refuse : ByteArray := prog_1_method_2_code
def yX11_refuse : MethodName := ⟨RX11, "refuse", "(I)I"⟩
abbrev cX11_refuseTens : ByteArray := prog_1_method_3_code
def yX11_refuseTens : MethodName := ⟨RX11, "refuseTens", "(I)I"⟩
abbrev cX11_shelfAt : ByteArray := prog_1_method_4_code
def yX11_shelfAt : MethodName := ⟨RX11, "shelfAt", "(I)LFoldedInHalf$Shelf;"⟩
abbrev cX11_stripAt : ByteArray := prog_1_method_5_code
def yX11_stripAt : MethodName := ⟨RX11, "stripAt", "(I)LFoldedInHalf$Strip;"⟩
abbrev cX11_putStrip : ByteArray := prog_1_method_6_code
def yX11_putStrip : MethodName := ⟨RX11, "putStrip", "(ILFoldedInHalf$Strip;)V"⟩
abbrev cX11_copyStrips : ByteArray := prog_1_method_7_code
def yX11_copyStrips : MethodName := ⟨RX11, "copyStrips", "([LFoldedInHalf$Strip;[LFoldedInHalf$Strip;)V"⟩
abbrev cX11_rowTrouble : ByteArray := prog_1_method_8_code
def yX11_rowTrouble : MethodName := ⟨RX11, "rowTrouble", "(LFoldedInHalf$Shelf;)I"⟩
abbrev cX11_toldTrouble : ByteArray := prog_1_method_9_code
def yX11_toldTrouble : MethodName := ⟨RX11, "toldTrouble", "(LFoldedInHalf$Shelf;I)I"⟩
abbrev cX11_walkTrouble : ByteArray := prog_1_method_10_code
def yX11_walkTrouble : MethodName := ⟨RX11, "walkTrouble", "(LFoldedInHalf$Strip;II)I"⟩
abbrev cX11_make : ByteArray := prog_1_method_11_code
def yX11_make : MethodName := ⟨RX11, "make", "(IIIIJ)LFoldedInHalf$Strip;"⟩
abbrev cX11_mostFolds : ByteArray := prog_1_method_12_code
def yX11_mostFolds : MethodName := ⟨RX11, "mostFolds", "(I)I"⟩
abbrev cX11_row : ByteArray := prog_1_method_13_code
def yX11_row : MethodName := ⟨RX11, "row", "(III)I"⟩
abbrev cX11_set : ByteArray := prog_1_method_14_code
def yX11_set : MethodName := ⟨RX11, "set", "(IIJ)I"⟩
abbrev cX11_copy : ByteArray := prog_1_method_15_code
def yX11_copy : MethodName := ⟨RX11, "copy", "(IIIII)I"⟩
abbrev cX11_element : ByteArray := prog_1_method_16_code
def yX11_element : MethodName := ⟨RX11, "element", "(II)J"⟩
abbrev cX11_show : ByteArray := prog_1_method_17_code
def yX11_show : MethodName := ⟨RX11, "show", "(II)I"⟩
abbrev cX11_holds : ByteArray := prog_1_method_18_code
def yX11_holds : MethodName := ⟨RX11, "holds", "(I)I"⟩
abbrev cX11_says : ByteArray := prog_1_method_19_code
def yX11_says : MethodName := ⟨RX11, "says", "(II)I"⟩
abbrev cX11_clearShelvesOfNobody : ByteArray := prog_1_method_20_code
def yX11_clearShelvesOfNobody : MethodName := ⟨RX11, "clearShelvesOfNobody", "()V"⟩
abbrev cX11_strip : ByteArray := prog_1_method_21_code
def yX11_strip : MethodName := ⟨RX11, "strip", "(IIII)I"⟩
abbrev cX11_stripOf : ByteArray := prog_1_method_22_code
def yX11_stripOf : MethodName := ⟨RX11, "stripOf", "(II)I"⟩
abbrev cX11_turn : ByteArray := prog_1_method_23_code
def yX11_turn : MethodName := ⟨RX11, "turn", "(II)I"⟩
abbrev cX11_read : ByteArray := prog_1_method_24_code
def yX11_read : MethodName := ⟨RX11, "read", "(I)I"⟩
abbrev cX11_fault : ByteArray := prog_1_method_25_code
def yX11_fault : MethodName := ⟨RX11, "fault", "()I"⟩
abbrev cX11_drop : ByteArray := prog_1_method_26_code
def yX11_drop : MethodName := ⟨RX11, "drop", "()I"⟩
abbrev cX11_image : ByteArray := prog_1_method_27_code
def yX11_image : MethodName := ⟨RX11, "image", "()I"⟩
abbrev cX11_restore : ByteArray := prog_1_method_28_code
def yX11_restore : MethodName := ⟨RX11, "restore", "()I"⟩
abbrev cX11_creases : ByteArray := prog_1_method_29_code
def yX11_creases : MethodName := ⟨RX11, "creases", "(I)J"⟩
abbrev cX11_crease : ByteArray := prog_1_method_30_code
def yX11_crease : MethodName := ⟨RX11, "crease", "(IJ)I"⟩
abbrev cX11_way : ByteArray := prog_1_method_31_code
def yX11_way : MethodName := ⟨RX11, "way", "(IJ)I"⟩
abbrev cX11_place : ByteArray := prog_1_method_32_code
def yX11_place : MethodName := ⟨RX11, "place", "(IJI)J"⟩
abbrev cX11_forget : ByteArray := prog_1_method_33_code
def yX11_forget : MethodName := ⟨RX11, "forget", "()V"⟩
abbrev cX11_tally : ByteArray := prog_1_method_34_code
def yX11_tally : MethodName := ⟨RX11, "tally", "(II)I"⟩
abbrev cX11_tallyPlace : ByteArray := prog_1_method_35_code
def yX11_tallyPlace : MethodName := ⟨RX11, "tallyPlace", "(LFoldedInHalf$Walk;)I"⟩
abbrev cX11_passed : ByteArray := prog_1_method_36_code
def yX11_passed : MethodName := ⟨RX11, "passed", "(IIII)I"⟩
abbrev cX11_most : ByteArray := prog_1_method_37_code
def yX11_most : MethodName := ⟨RX11, "most", "(II)I"⟩
abbrev cX11_twice : ByteArray := prog_1_method_38_code
def yX11_twice : MethodName := ⟨RX11, "twice", "(II)I"⟩
abbrev cX11_cover : ByteArray := prog_1_method_39_code
def yX11_cover : MethodName := ⟨RX11, "cover", "(II)I"⟩
abbrev cX11_when : ByteArray := prog_1_method_40_code
def yX11_when : MethodName := ⟨RX11, "when", "(IIII)I"⟩
abbrev cX11_near : ByteArray := prog_1_method_41_code
def yX11_near : MethodName := ⟨RX11, "near", "(IIIIII)I"⟩
abbrev cX11_isFarApart : ByteArray := prog_1_method_42_code
def yX11_isFarApart : MethodName := ⟨RX11, "isFarApart", "(I)Z"⟩
abbrev cX11_four : ByteArray := prog_1_method_43_code
def yX11_four : MethodName := ⟨RX11, "four", "(II)I"⟩
abbrev cX11_tallyFour : ByteArray := prog_1_method_44_code
def yX11_tallyFour : MethodName := ⟨RX11, "tallyFour", "(III)I"⟩
abbrev cX11_levelOf : ByteArray := prog_1_method_45_code
def yX11_levelOf : MethodName := ⟨RX11, "levelOf", "(I)I"⟩
abbrev cX11_levelsReached : ByteArray := prog_1_method_46_code
def yX11_levelsReached : MethodName := ⟨RX11, "levelsReached", "(I)I"⟩
abbrev cX11_votes : ByteArray := prog_1_method_47_code
def yX11_votes : MethodName := ⟨RX11, "votes", "(LFoldedInHalf$Shelf;III)I"⟩
abbrev cX11_anyWordFits : ByteArray := prog_1_method_48_code
def yX11_anyWordFits : MethodName := ⟨RX11, "anyWordFits", "(LFoldedInHalf$Shelf;I)Z"⟩
abbrev cX11_freeLevels : ByteArray := prog_1_method_49_code
def yX11_freeLevels : MethodName := ⟨RX11, "freeLevels", "(LFoldedInHalf$Shelf;I)I"⟩
abbrev cX11_toldTroubleTo63 : ByteArray := prog_1_method_50_code
def yX11_toldTroubleTo63 : MethodName := ⟨RX11, "toldTroubleTo63", "(LFoldedInHalf$Shelf;I)I"⟩
abbrev cX11_words : ByteArray := prog_1_method_51_code
def yX11_words : MethodName := ⟨RX11, "words", "(III)I"⟩
abbrev cX11_wrong : ByteArray := prog_1_method_52_code
def yX11_wrong : MethodName := ⟨RX11, "wrong", "(II)I"⟩
abbrev cX11_mend : ByteArray := prog_1_method_53_code
def yX11_mend : MethodName := ⟨RX11, "mend", "(II)I"⟩
abbrev cX11_judge : ByteArray := prog_1_method_54_code
def yX11_judge : MethodName := ⟨RX11, "judge", "(III)I"⟩
abbrev cX11_endsAt : ByteArray := prog_1_method_55_code
def yX11_endsAt : MethodName := ⟨RX11, "endsAt", "(IIII)Z"⟩
abbrev cX11_ends : ByteArray := prog_1_method_56_code
def yX11_ends : MethodName := ⟨RX11, "ends", "(IIII)I"⟩
abbrev cX11_toldBits : ByteArray := prog_1_method_57_code
def yX11_toldBits : MethodName := ⟨RX11, "toldBits", "(LFoldedInHalf$Shelf;II)J"⟩
abbrev cX11_piece : ByteArray := prog_1_method_58_code
def yX11_piece : MethodName := ⟨RX11, "piece", "(IIII)I"⟩
abbrev cX11_can : ByteArray := prog_1_method_59_code
def yX11_can : MethodName := ⟨RX11, "can", "(II)I"⟩
abbrev cX11_orders : ByteArray := prog_1_method_60_code
def yX11_orders : MethodName := ⟨RX11, "orders", "(I)I"⟩
abbrev cX11_order : ByteArray := prog_1_method_61_code
def yX11_order : MethodName := ⟨RX11, "order", "(III)I"⟩
abbrev cX11_page : ByteArray := prog_1_method_62_code
def yX11_page : MethodName := ⟨RX11, "page", "(II)I"⟩
abbrev cX11_began : ByteArray := prog_1_method_63_code
def yX11_began : MethodName := ⟨RX11, "began", "(I)V"⟩
abbrev cX11_act : ByteArray := prog_1_method_64_code
def yX11_act : MethodName := ⟨RX11, "act", "(III)I"⟩
abbrev cX11_trace : ByteArray := prog_1_method_65_code
def yX11_trace : MethodName := ⟨RX11, "trace", "(I)I"⟩
abbrev cX11_status : ByteArray := prog_1_method_66_code
def yX11_status : MethodName := ⟨RX11, "status", "(I)I"⟩
def RX12 : String := "FoldedInHalfModel"
def TX12 : u_T := fun k => match k with
  | 0 => ("FoldedInHalfModel", "strips", "I", false)
  | 1 => ("FoldedInHalfModel", "fault", "I", false)
  | 2 => ("FoldedInHalfModel", "refused", "[I", true)
  | 3 => ("FoldedInHalfModel", "kind", "[I", true)
  | 4 => ("FoldedInHalfModel", "part", "[I", true)
  | 5 => ("FoldedInHalfModel", "folds", "[I", true)
  | 6 => ("FoldedInHalfModel", "word", "[J", true)
  | 7 => ("FoldedInHalfModel", "held", "[I", true)
  | 8 => ("FoldedInHalfModel", "sort", "[I", true)
  | 9 => ("FoldedInHalfModel", "size", "[I", true)
  | 10 => ("FoldedInHalfModel", "shown", "[I", true)
  | 11 => ("FoldedInHalfModel", "cells", "[J", true)
  | 12 => ("FoldedInHalfModel", "carried", "[J", true)
  | 13 => ("FoldedInHalfModel", "words", "[I", true)
  | 14 => ("FoldedInHalfModel", "base", "I", false)
  | 15 => ("FoldedInHalfModel", "place", "I", false)
  | 16 => ("FoldedInHalfModel", "end", "I", false)
  | 17 => ("FoldedInHalfModel", "told", "I", false)
  | 18 => ("FoldedInHalfModel", "wrongAt", "I", false)
  | 19 => ("FoldedInHalfModel", "toldMany", "I", false)
  | 20 => ("FoldedInHalfModel", "toldWord", "J", false)
  | 21 => ("FoldedInHalfModel", "was", "[I", true)
  | 22 => ("FoldedInHalfModel", "kept", "[I", true)
  | 23 => ("FoldedInHalfModel", "wasWord", "[J", true)
  | 24 => ("FoldedInHalfModel", "keptWord", "[J", true)
  | 25 => ("FoldedInHalfModel", "evenX", "[J", true)
  | 26 => ("FoldedInHalfModel", "evenY", "[J", true)
  | 27 => ("FoldedInHalfModel", "oddX", "[J", true)
  | 28 => ("FoldedInHalfModel", "oddY", "[J", true)
  | 29 => ("FoldedInHalfModel", "evenRound", "[I", true)
  | 30 => ("FoldedInHalfModel", "oddRound", "[I", true)
  | 31 => ("FoldedInHalfModel", "atX", "J", false)
  | 32 => ("FoldedInHalfModel", "atY", "J", false)
  | 33 => ("FoldedInHalfModel", "xs", "[I", true)
  | 34 => ("FoldedInHalfModel", "ys", "[I", true)
  | 35 => ("FoldedInHalfModel", "xs2", "[I", true)
  | 36 => ("FoldedInHalfModel", "ys2", "[I", true)
  | 37 => ("FoldedInHalfModel", "mark", "[I", true)
  | 38 => ("FoldedInHalfModel", "often", "[I", true)
  | 39 => ("FoldedInHalfModel", "marks", "I", false)
  | 40 => ("FoldedInHalfModel", "along", "[I", true)
  | 41 => ("FoldedInHalfModel", "up", "[I", true)
  | 42 => ("FoldedInHalfModel", "want0", "[I", true)
  | 43 => ("FoldedInHalfModel", "want1", "[I", true)
  | 44 => ("FoldedInHalfModel", "levels", "I", false)
  | 45 => ("FoldedInHalfModel", "wrongCrease", "I", false)
  | 46 => ("FoldedInHalfModel", "leaf", "[I", true)
  | 47 => ("FoldedInHalfModel", "at", "[I", true)
  | 48 => ("FoldedInHalfModel", "found", "[I", true)
  | 49 => ("FoldedInHalfModel", "foundOf", "I", false)
  | 50 => ("FoldedInHalfModel", "foundMany", "I", false)
  | 51 => ("FoldedInHalfModel", "heap", "[I", true)
  | 52 => ("FoldedInHalfModel", "deep", "[I", true)
  | 53 => ("FoldedInHalfModel", "trace", "[I", true)
  | 54 => ("FoldedInHalfModel", "ran", "I", false)
  | _ => ("FoldedInHalfModel", "isKept", "Z", false)
def tyX12 : Nat → FieldType := fun k => match k with
  | 0 => .int
  | 1 => .int
  | 2 => .array .int
  | 3 => .array .int
  | 4 => .array .int
  | 5 => .array .int
  | 6 => .array .long
  | 7 => .array .int
  | 8 => .array .int
  | 9 => .array .int
  | 10 => .array .int
  | 11 => .array .long
  | 12 => .array .long
  | 13 => .array .int
  | 14 => .int
  | 15 => .int
  | 16 => .int
  | 17 => .int
  | 18 => .int
  | 19 => .int
  | 20 => .long
  | 21 => .array .int
  | 22 => .array .int
  | 23 => .array .long
  | 24 => .array .long
  | 25 => .array .long
  | 26 => .array .long
  | 27 => .array .long
  | 28 => .array .long
  | 29 => .array .int
  | 30 => .array .int
  | 31 => .long
  | 32 => .long
  | 33 => .array .int
  | 34 => .array .int
  | 35 => .array .int
  | 36 => .array .int
  | 37 => .array .int
  | 38 => .array .int
  | 39 => .int
  | 40 => .array .int
  | 41 => .array .int
  | 42 => .array .int
  | 43 => .array .int
  | 44 => .int
  | 45 => .int
  | 46 => .array .int
  | 47 => .array .int
  | 48 => .array .int
  | 49 => .int
  | 50 => .int
  | 51 => .array .int
  | 52 => .array .int
  | 53 => .array .int
  | 54 => .int
  | _ => .boolean
abbrev wsX120 : List Cond := u_ws RX12 TX12 56
theorem nmX12 : ∀ a, a < 56 → ∀ b, b < 56 → a ≠ b → (TX12 a).2.1 ≠ (TX12 b).2.1 := by decide +kernel
theorem tyX12_ok : ∀ k, k < 56 → parseFieldDescriptor (TX12 k).2.2.1 = some (tyX12 k) := by decide +kernel
abbrev cX12_init : ByteArray := prog_14_method_1_code
def yX12_init : MethodName := ⟨RX12, "<init>", "()V"⟩
abbrev cX12_no : ByteArray := prog_14_method_2_code
def yX12_no : MethodName := ⟨RX12, "no", "(I)I"⟩
abbrev cX12_noTen : ByteArray := prog_14_method_3_code
def yX12_noTen : MethodName := ⟨RX12, "noTen", "(I)I"⟩
abbrev cX12_isShelf : ByteArray := prog_14_method_4_code
def yX12_isShelf : MethodName := ⟨RX12, "isShelf", "(I)Z"⟩
abbrev cX12_isStrip : ByteArray := prog_14_method_5_code
def yX12_isStrip : MethodName := ⟨RX12, "isStrip", "(I)Z"⟩
abbrev cX12_row : ByteArray := prog_14_method_6_code
def yX12_row : MethodName := ⟨RX12, "row", "(III)I"⟩
abbrev cX12_set : ByteArray := prog_14_method_7_code
def yX12_set : MethodName := ⟨RX12, "set", "(IIJ)I"⟩
abbrev cX12_copy : ByteArray := prog_14_method_8_code
def yX12_copy : MethodName := ⟨RX12, "copy", "(IIIII)I"⟩
abbrev cX12_element : ByteArray := prog_14_method_9_code
def yX12_element : MethodName := ⟨RX12, "element", "(II)J"⟩
abbrev cX12_show : ByteArray := prog_14_method_10_code
def yX12_show : MethodName := ⟨RX12, "show", "(II)I"⟩
abbrev cX12_holds : ByteArray := prog_14_method_11_code
def yX12_holds : MethodName := ⟨RX12, "holds", "(I)I"⟩
abbrev cX12_says : ByteArray := prog_14_method_12_code
def yX12_says : MethodName := ⟨RX12, "says", "(II)I"⟩
abbrev cX12_wants : ByteArray := prog_14_method_13_code
def yX12_wants : MethodName := ⟨RX12, "wants", "(I)I"⟩
abbrev cX12_intAt : ByteArray := prog_14_method_14_code
def yX12_intAt : MethodName := ⟨RX12, "intAt", "(II)I"⟩
abbrev cX12_bars : ByteArray := prog_14_method_15_code
def yX12_bars : MethodName := ⟨RX12, "bars", "(II)I"⟩
abbrev cX12_adds : ByteArray := prog_14_method_16_code
def yX12_adds : MethodName := ⟨RX12, "adds", "(IIIJ)I"⟩
abbrev cX12_strip : ByteArray := prog_14_method_17_code
def yX12_strip : MethodName := ⟨RX12, "strip", "(IIII)I"⟩
abbrev cX12_letter : ByteArray := prog_14_method_18_code
def yX12_letter : MethodName := ⟨RX12, "letter", "(II)I"⟩
abbrev cX12_stripOf : ByteArray := prog_14_method_19_code
def yX12_stripOf : MethodName := ⟨RX12, "stripOf", "(II)I"⟩
abbrev cX12_turn : ByteArray := prog_14_method_20_code
def yX12_turn : MethodName := ⟨RX12, "turn", "(II)I"⟩
abbrev cX12_isWrong : ByteArray := prog_14_method_21_code
def yX12_isWrong : MethodName := ⟨RX12, "isWrong", "(I)Z"⟩
abbrev cX12_wordOf : ByteArray := prog_14_method_22_code
def yX12_wordOf : MethodName := ⟨RX12, "wordOf", "()I"⟩
abbrev cX12_isDigit : ByteArray := prog_14_method_23_code
def yX12_isDigit : MethodName := ⟨RX12, "isDigit", "()Z"⟩
abbrev cX12_number : ByteArray := prog_14_method_24_code
def yX12_number : MethodName := ⟨RX12, "number", "(I)Z"⟩
abbrev cX12_blank : ByteArray := prog_14_method_25_code
def yX12_blank : MethodName := ⟨RX12, "blank", "()Z"⟩
abbrev cX12_letters : ByteArray := prog_14_method_26_code
def yX12_letters : MethodName := ⟨RX12, "letters", "(I)Z"⟩
abbrev cX12_isStrip_ : ByteArray := prog_14_method_27_code
def yX12_isStrip_ : MethodName := ⟨RX12, "isStrip", "()Z"⟩
abbrev cX12_item : ByteArray := prog_14_method_28_code
def yX12_item : MethodName := ⟨RX12, "item", "()Z"⟩
abbrev cX12_all : ByteArray := prog_14_method_29_code
def yX12_all : MethodName := ⟨RX12, "all", "([I[JZ)V"⟩
abbrev cX12_read : ByteArray := prog_14_method_30_code
def yX12_read : MethodName := ⟨RX12, "read", "(I)I"⟩
abbrev cX12_fault : ByteArray := prog_14_method_31_code
def yX12_fault : MethodName := ⟨RX12, "fault", "()I"⟩
abbrev cX12_power : ByteArray := prog_14_method_32_code
def yX12_power : MethodName := ⟨RX12, "power", "(II)J"⟩
abbrev cX12_whole : ByteArray := prog_14_method_33_code
def yX12_whole : MethodName := ⟨RX12, "whole", "(I)J"⟩
abbrev cX12_cutOf : ByteArray := prog_14_method_34_code
def yX12_cutOf : MethodName := ⟨RX12, "cutOf", "(I)J"⟩
abbrev cX12_creasesOf : ByteArray := prog_14_method_35_code
def yX12_creasesOf : MethodName := ⟨RX12, "creasesOf", "(I)J"⟩
abbrev cX12_counts : ByteArray := prog_14_method_36_code
def yX12_counts : MethodName := ⟨RX12, "counts", "(II)I"⟩
abbrev cX12_plain : ByteArray := prog_14_method_37_code
def yX12_plain : MethodName := ⟨RX12, "plain", "(IJ)I"⟩
abbrev cX12_creaseOf : ByteArray := prog_14_method_38_code
def yX12_creaseOf : MethodName := ⟨RX12, "creaseOf", "(IJ)I"⟩
abbrev cX12_creases : ByteArray := prog_14_method_39_code
def yX12_creases : MethodName := ⟨RX12, "creases", "(I)J"⟩
abbrev cX12_crease : ByteArray := prog_14_method_40_code
def yX12_crease : MethodName := ⟨RX12, "crease", "(IJ)I"⟩
abbrev cX12_turned : ByteArray := prog_14_method_41_code
def yX12_turned : MethodName := ⟨RX12, "turned", "(IJI)I"⟩
abbrev cX12_round : ByteArray := prog_14_method_42_code
def yX12_round : MethodName := ⟨RX12, "round", "(IJ)I"⟩
abbrev cX12_way : ByteArray := prog_14_method_43_code
def yX12_way : MethodName := ⟨RX12, "way", "(IJ)I"⟩
abbrev cX12_turnX : ByteArray := prog_14_method_44_code
def yX12_turnX : MethodName := ⟨RX12, "turnX", "(JJI)J"⟩
abbrev cX12_turnY : ByteArray := prog_14_method_45_code
def yX12_turnY : MethodName := ⟨RX12, "turnY", "(JJI)J"⟩
abbrev cX12_parts : ByteArray := prog_14_method_46_code
def yX12_parts : MethodName := ⟨RX12, "parts", "(I)V"⟩
abbrev cX12_plainPlace : ByteArray := prog_14_method_47_code
def yX12_plainPlace : MethodName := ⟨RX12, "plainPlace", "(IJ)V"⟩
abbrev cX12_placeOf : ByteArray := prog_14_method_48_code
def yX12_placeOf : MethodName := ⟨RX12, "placeOf", "(IJ)V"⟩
abbrev cX12_place : ByteArray := prog_14_method_49_code
def yX12_place : MethodName := ⟨RX12, "place", "(IJI)J"⟩
abbrev cX12_walks : ByteArray := prog_14_method_50_code
def yX12_walks : MethodName := ⟨RX12, "walks", "(II)I"⟩
abbrev cX12_walked : ByteArray := prog_14_method_51_code
def yX12_walked : MethodName := ⟨RX12, "walked", "(III[I[I)V"⟩
abbrev cX12_clears : ByteArray := prog_14_method_52_code
def yX12_clears : MethodName := ⟨RX12, "clears", "()V"⟩
abbrev cX12_meets : ByteArray := prog_14_method_53_code
def yX12_meets : MethodName := ⟨RX12, "meets", "(III)I"⟩
abbrev cX12_passed : ByteArray := prog_14_method_54_code
def yX12_passed : MethodName := ⟨RX12, "passed", "(IIII)I"⟩
abbrev cX12_most : ByteArray := prog_14_method_55_code
def yX12_most : MethodName := ⟨RX12, "most", "(II)I"⟩
abbrev cX12_twice : ByteArray := prog_14_method_56_code
def yX12_twice : MethodName := ⟨RX12, "twice", "(II)I"⟩
abbrev cX12_cover : ByteArray := prog_14_method_57_code
def yX12_cover : MethodName := ⟨RX12, "cover", "(II)I"⟩
abbrev cX12_farthest : ByteArray := prog_14_method_58_code
def yX12_farthest : MethodName := ⟨RX12, "farthest", "(I)I"⟩
abbrev cX12_when : ByteArray := prog_14_method_59_code
def yX12_when : MethodName := ⟨RX12, "when", "(IIII)I"⟩
abbrev cX12_near : ByteArray := prog_14_method_60_code
def yX12_near : MethodName := ⟨RX12, "near", "(IIIIII)I"⟩
abbrev cX12_isWithin : ByteArray := prog_14_method_61_code
def yX12_isWithin : MethodName := ⟨RX12, "isWithin", "(II)Z"⟩
abbrev cX12_four : ByteArray := prog_14_method_62_code
def yX12_four : MethodName := ⟨RX12, "four", "(II)I"⟩
abbrev cX12_isOnce : ByteArray := prog_14_method_63_code
def yX12_isOnce : MethodName := ⟨RX12, "isOnce", "(I)Z"⟩
abbrev cX12_seen : ByteArray := prog_14_method_64_code
def yX12_seen : MethodName := ⟨RX12, "seen", "(II)V"⟩
abbrev cX12_words : ByteArray := prog_14_method_65_code
def yX12_words : MethodName := ⟨RX12, "words", "(III)I"⟩
abbrev cX12_wrong : ByteArray := prog_14_method_66_code
def yX12_wrong : MethodName := ⟨RX12, "wrong", "(II)I"⟩
abbrev cX12_mend : ByteArray := prog_14_method_67_code
def yX12_mend : MethodName := ⟨RX12, "mend", "(II)I"⟩
abbrev cX12_judge : ByteArray := prog_14_method_68_code
def yX12_judge : MethodName := ⟨RX12, "judge", "(III)I"⟩
abbrev cX12_endOf : ByteArray := prog_14_method_69_code
def yX12_endOf : MethodName := ⟨RX12, "endOf", "(II)V"⟩
abbrev cX12_ends : ByteArray := prog_14_method_70_code
def yX12_ends : MethodName := ⟨RX12, "ends", "(IIII)I"⟩
abbrev cX12_piece : ByteArray := prog_14_method_71_code
def yX12_piece : MethodName := ⟨RX12, "piece", "(IIII)I"⟩
abbrev cX12_isCrossed : ByteArray := prog_14_method_72_code
def yX12_isCrossed : MethodName := ⟨RX12, "isCrossed", "(I)Z"⟩
abbrev cX12_can : ByteArray := prog_14_method_73_code
def yX12_can : MethodName := ⟨RX12, "can", "(II)I"⟩
abbrev cX12_goes : ByteArray := prog_14_method_74_code
def yX12_goes : MethodName := ⟨RX12, "goes", "(III)V"⟩
abbrev cX12_finds : ByteArray := prog_14_method_75_code
def yX12_finds : MethodName := ⟨RX12, "finds", "(I)V"⟩
abbrev cX12_orders : ByteArray := prog_14_method_76_code
def yX12_orders : MethodName := ⟨RX12, "orders", "(I)I"⟩
abbrev cX12_order : ByteArray := prog_14_method_77_code
def yX12_order : MethodName := ⟨RX12, "order", "(III)I"⟩
abbrev cX12_page : ByteArray := prog_14_method_78_code
def yX12_page : MethodName := ⟨RX12, "page", "(II)I"⟩
abbrev cX12_drop : ByteArray := prog_14_method_79_code
def yX12_drop : MethodName := ⟨RX12, "drop", "()I"⟩
abbrev cX12_body : ByteArray := prog_14_method_80_code
def yX12_body : MethodName := ⟨RX12, "body", "(I)V"⟩
abbrev cX12_folding : ByteArray := prog_14_method_81_code
def yX12_folding : MethodName := ⟨RX12, "folding", "(II)I"⟩
abbrev cX12_opening : ByteArray := prog_14_method_82_code
def yX12_opening : MethodName := ⟨RX12, "opening", "(II)I"⟩
abbrev cX12_lying : ByteArray := prog_14_method_83_code
def yX12_lying : MethodName := ⟨RX12, "lying", "(II)I"⟩
abbrev cX12_act : ByteArray := prog_14_method_84_code
def yX12_act : MethodName := ⟨RX12, "act", "(III)I"⟩
abbrev cX12_trace : ByteArray := prog_14_method_85_code
def yX12_trace : MethodName := ⟨RX12, "trace", "(I)I"⟩
abbrev cX12_image : ByteArray := prog_14_method_86_code
def yX12_image : MethodName := ⟨RX12, "image", "()I"⟩
abbrev cX12_restore : ByteArray := prog_14_method_87_code
def yX12_restore : MethodName := ⟨RX12, "restore", "()I"⟩
abbrev cX12_status : ByteArray := prog_14_method_88_code
def yX12_status : MethodName := ⟨RX12, "status", "(I)I"⟩
def RJx145de : String := "java/io/Serializable"
def TJx145de : u_T := fun k => match k with
  | _ => ("", "", "", false)
def tyJx145de : Nat → FieldType := fun k => match k with
  | _ => .int
abbrev wsJx145de0 : List Cond := u_ws RJx145de TJx145de 0
theorem nmJx145de : ∀ a, a < 0 → ∀ b, b < 0 → a ≠ b → (TJx145de a).2.1 ≠ (TJx145de b).2.1 := by decide +kernel
theorem tyJx145de_ok : ∀ k, k < 0 → parseFieldDescriptor (TJx145de k).2.2.1 = some (tyJx145de k) := by decide +kernel
def RJx9f9b0 : String := "java/lang/CharSequence"
def TJx9f9b0 : u_T := fun k => match k with
  | _ => ("", "", "", false)
def tyJx9f9b0 : Nat → FieldType := fun k => match k with
  | _ => .int
abbrev wsJx9f9b00 : List Cond := u_ws RJx9f9b0 TJx9f9b0 0
theorem nmJx9f9b0 : ∀ a, a < 0 → ∀ b, b < 0 → a ≠ b → (TJx9f9b0 a).2.1 ≠ (TJx9f9b0 b).2.1 := by decide +kernel
theorem tyJx9f9b0_ok : ∀ k, k < 0 → parseFieldDescriptor (TJx9f9b0 k).2.2.1 = some (tyJx9f9b0 k) := by decide +kernel
def RJxb160c : String := "java/lang/Comparable"
def TJxb160c : u_T := fun k => match k with
  | _ => ("", "", "", false)
def tyJxb160c : Nat → FieldType := fun k => match k with
  | _ => .int
abbrev wsJxb160c0 : List Cond := u_ws RJxb160c TJxb160c 0
theorem nmJxb160c : ∀ a, a < 0 → ∀ b, b < 0 → a ≠ b → (TJxb160c a).2.1 ≠ (TJxb160c b).2.1 := by decide +kernel
theorem tyJxb160c_ok : ∀ k, k < 0 → parseFieldDescriptor (TJxb160c k).2.2.1 = some (tyJxb160c k) := by decide +kernel
def RJ6 : String := "java/lang/Integer"
def TJ6 : u_T := fun k => match k with
  | _ => ("", "", "", false)
def tyJ6 : Nat → FieldType := fun k => match k with
  | _ => .int
abbrev wsJ60 : List Cond := u_ws RJ6 TJ6 0
theorem nmJ6 : ∀ a, a < 0 → ∀ b, b < 0 → a ≠ b → (TJ6 a).2.1 ≠ (TJ6 b).2.1 := by decide +kernel
theorem tyJ6_ok : ∀ k, k < 0 → parseFieldDescriptor (TJ6 k).2.2.1 = some (tyJ6 k) := by decide +kernel
abbrev cJ6_bitCount_0f7a4 : ByteArray := prog_15_method_49_code
def yJ6_bitCount_0f7a4 : MethodName := ⟨RJ6, "bitCount", "(I)I"⟩
def RJ13 : String := "java/lang/Long"
def TJ13 : u_T := fun k => match k with
  | _ => ("", "", "", false)
def tyJ13 : Nat → FieldType := fun k => match k with
  | _ => .int
abbrev wsJ130 : List Cond := u_ws RJ13 TJ13 0
theorem nmJ13 : ∀ a, a < 0 → ∀ b, b < 0 → a ≠ b → (TJ13 a).2.1 ≠ (TJ13 b).2.1 := by decide +kernel
theorem tyJ13_ok : ∀ k, k < 0 → parseFieldDescriptor (TJ13 k).2.2.1 = some (tyJ13 k) := by decide +kernel
abbrev cJ13_bitCount_95d88 : ByteArray := prog_16_method_50_code
def yJ13_bitCount_95d88 : MethodName := ⟨RJ13, "bitCount", "(J)I"⟩
def RJ9 : String := "java/lang/Math"
def TJ9 : u_T := fun k => match k with
  | _ => ("", "", "", false)
def tyJ9 : Nat → FieldType := fun k => match k with
  | _ => .int
abbrev wsJ90 : List Cond := u_ws RJ9 TJ9 0
theorem nmJ9 : ∀ a, a < 0 → ∀ b, b < 0 → a ≠ b → (TJ9 a).2.1 ≠ (TJ9 b).2.1 := by decide +kernel
theorem tyJ9_ok : ∀ k, k < 0 → parseFieldDescriptor (TJ9 k).2.2.1 = some (tyJ9 k) := by decide +kernel
abbrev cJ9_abs_0f7a4 : ByteArray := prog_17_method_59_code
def yJ9_abs_0f7a4 : MethodName := ⟨RJ9, "abs", "(I)I"⟩
abbrev cJ9_max_7cf53 : ByteArray := prog_17_method_65_code
def yJ9_max_7cf53 : MethodName := ⟨RJ9, "max", "(II)I"⟩
abbrev cJ9_min_7cf53 : ByteArray := prog_17_method_69_code
def yJ9_min_7cf53 : MethodName := ⟨RJ9, "min", "(II)I"⟩
abbrev cJ9_min_f86c9 : ByteArray := prog_17_method_70_code
def yJ9_min_f86c9 : MethodName := ⟨RJ9, "min", "(JJ)J"⟩
def RJ0 : String := "java/lang/String"
def TJ0 : u_T := fun k => match k with
  | _ => ("", "", "", false)
def tyJ0 : Nat → FieldType := fun k => match k with
  | _ => .int
abbrev wsJ00 : List Cond := u_ws RJ0 TJ0 0
theorem nmJ0 : ∀ a, a < 0 → ∀ b, b < 0 → a ≠ b → (TJ0 a).2.1 ≠ (TJ0 b).2.1 := by decide +kernel
theorem tyJ0_ok : ∀ k, k < 0 → parseFieldDescriptor (TJ0 k).2.2.1 = some (tyJ0 k) := by decide +kernel
abbrev cJ0_length_8abf5 : ByteArray := prog_18_method_54_code
def yJ0_length_8abf5 : MethodName := ⟨RJ0, "length", "()I"⟩
abbrev cJ0_charAt_5068e : ByteArray := prog_18_method_56_code
def yJ0_charAt_5068e : MethodName := ⟨RJ0, "charAt", "(I)C"⟩
abbrev cJ0_coder_7d493 : ByteArray := prog_18_method_152_code
def yJ0_coder_7d493 : MethodName := ⟨RJ0, "coder", "()B"⟩
abbrev cJ0_isLatin1_aae02 : ByteArray := prog_18_method_154_code
def yJ0_isLatin1_aae02 : MethodName := ⟨RJ0, "isLatin1", "()Z"⟩
abbrev cJ0_checkIndex_df160 : ByteArray := prog_18_method_155_code
def yJ0_checkIndex_df160 : MethodName := ⟨RJ0, "checkIndex", "(II)V"⟩
def RJ1 : String := "java/lang/StringLatin1"
def TJ1 : u_T := fun k => match k with
  | _ => ("", "", "", false)
def tyJ1 : Nat → FieldType := fun k => match k with
  | _ => .int
abbrev wsJ10 : List Cond := u_ws RJ1 TJ1 0
theorem nmJ1 : ∀ a, a < 0 → ∀ b, b < 0 → a ≠ b → (TJ1 a).2.1 ≠ (TJ1 b).2.1 := by decide +kernel
theorem tyJ1_ok : ∀ k, k < 0 → parseFieldDescriptor (TJ1 k).2.2.1 = some (tyJ1 k) := by decide +kernel
abbrev cJ1_charAt_3b067 : ByteArray := prog_19_method_2_code
def yJ1_charAt_3b067 : MethodName := ⟨RJ1, "charAt", "([BI)C"⟩
def RJ2 : String := "java/lang/StringUTF16"
def TJ2 : u_T := fun k => match k with
  | _ => ("", "", "", false)
def tyJ2 : Nat → FieldType := fun k => match k with
  | _ => .int
abbrev wsJ20 : List Cond := u_ws RJ2 TJ2 0
theorem nmJ2 : ∀ a, a < 0 → ∀ b, b < 0 → a ≠ b → (TJ2 a).2.1 ≠ (TJ2 b).2.1 := by decide +kernel
theorem tyJ2_ok : ∀ k, k < 0 → parseFieldDescriptor (TJ2 k).2.2.1 = some (tyJ2 k) := by decide +kernel
abbrev cJ2_getChar_3b067 : ByteArray := prog_20_method_5_code
def yJ2_getChar_3b067 : MethodName := ⟨RJ2, "getChar", "([BI)C"⟩
abbrev cJ2_length_9d52b : ByteArray := prog_20_method_6_code
def yJ2_length_9d52b : MethodName := ⟨RJ2, "length", "([B)I"⟩
abbrev cJ2_charAt_3b067 : ByteArray := prog_20_method_83_code
def yJ2_charAt_3b067 : MethodName := ⟨RJ2, "charAt", "([BI)C"⟩
abbrev cJ2_checkIndex_2214a : ByteArray := prog_20_method_91_code
def yJ2_checkIndex_2214a : MethodName := ⟨RJ2, "checkIndex", "(I[B)V"⟩
def RJ10 : String := "java/lang/System"
def TJ10 : u_T := fun k => match k with
  | _ => ("", "", "", false)
def tyJ10 : Nat → FieldType := fun k => match k with
  | _ => .int
abbrev wsJ100 : List Cond := u_ws RJ10 TJ10 0
theorem nmJ10 : ∀ a, a < 0 → ∀ b, b < 0 → a ≠ b → (TJ10 a).2.1 ≠ (TJ10 b).2.1 := by decide +kernel
theorem tyJ10_ok : ∀ k, k < 0 → parseFieldDescriptor (TJ10 k).2.2.1 = some (tyJ10 k) := by decide +kernel
def RJxfd54e : String := "java/lang/constant/Constable"
def TJxfd54e : u_T := fun k => match k with
  | _ => ("", "", "", false)
def tyJxfd54e : Nat → FieldType := fun k => match k with
  | _ => .int
abbrev wsJxfd54e0 : List Cond := u_ws RJxfd54e TJxfd54e 0
theorem nmJxfd54e : ∀ a, a < 0 → ∀ b, b < 0 → a ≠ b → (TJxfd54e a).2.1 ≠ (TJxfd54e b).2.1 := by decide +kernel
theorem tyJxfd54e_ok : ∀ k, k < 0 → parseFieldDescriptor (TJxfd54e k).2.2.1 = some (tyJxfd54e k) := by decide +kernel
def RJx3cf43 : String := "java/lang/constant/ConstantDesc"
def TJx3cf43 : u_T := fun k => match k with
  | _ => ("", "", "", false)
def tyJx3cf43 : Nat → FieldType := fun k => match k with
  | _ => .int
abbrev wsJx3cf430 : List Cond := u_ws RJx3cf43 TJx3cf43 0
theorem nmJx3cf43 : ∀ a, a < 0 → ∀ b, b < 0 → a ≠ b → (TJx3cf43 a).2.1 ≠ (TJx3cf43 b).2.1 := by decide +kernel
theorem tyJx3cf43_ok : ∀ k, k < 0 → parseFieldDescriptor (TJx3cf43 k).2.2.1 = some (tyJx3cf43 k) := by decide +kernel
def RJ7 : String := "java/util/Arrays"
def TJ7 : u_T := fun k => match k with
  | _ => ("", "", "", false)
def tyJ7 : Nat → FieldType := fun k => match k with
  | _ => .int
abbrev wsJ70 : List Cond := u_ws RJ7 TJ7 0
theorem nmJ7 : ∀ a, a < 0 → ∀ b, b < 0 → a ≠ b → (TJ7 a).2.1 ≠ (TJ7 b).2.1 := by decide +kernel
theorem tyJ7_ok : ∀ k, k < 0 → parseFieldDescriptor (TJ7 k).2.2.1 = some (tyJ7 k) := by decide +kernel
abbrev cJ7_fill_d0a16 : ByteArray := prog_22_method_101_code
def yJ7_fill_d0a16 : MethodName := ⟨RJ7, "fill", "([JJ)V"⟩
abbrev cJ7_fill_53178 : ByteArray := prog_22_method_103_code
def yJ7_fill_53178 : MethodName := ⟨RJ7, "fill", "([II)V"⟩
def RJ3 : String := "jdk/internal/util/Preconditions"
def TJ3 : u_T := fun k => match k with
  | _ => ("", "", "", false)
def tyJ3 : Nat → FieldType := fun k => match k with
  | _ => .int
abbrev wsJ30 : List Cond := u_ws RJ3 TJ3 0
theorem nmJ3 : ∀ a, a < 0 → ∀ b, b < 0 → a ≠ b → (TJ3 a).2.1 ≠ (TJ3 b).2.1 := by decide +kernel
theorem tyJ3_ok : ∀ k, k < 0 → parseFieldDescriptor (TJ3 k).2.2.1 = some (tyJ3 k) := by decide +kernel
abbrev cJ3_checkIndex_8e157 : ByteArray := prog_23_method_11_code
def yJ3_checkIndex_8e157 : MethodName := ⟨RJ3, "checkIndex", "(IILjava/util/function/BiFunction;)I"⟩
def RL : String := "FoldedInHalfLaw"
abbrev cL_law : ByteArray := code
def yL_law : MethodName := ⟨RL, "law", "([I)Z"⟩
abbrev vwCl : List vw_C := [(RX0, TX0, 4), (RX1, TX1, 4), (RX2, TX2, 4), (RX3, TX3, 7), (RX4, TX4, 4), (RX5, TX5, 7), (RX6, TX6, 4), (RX7, TX7, 4), (RX8, TX8, 4), (RX9, TX9, 4), (RX10, TX10, 6), (RX11, TX11, 13), (RX12, TX12, 56)]
/-! the words that the tables hold and that stay, by their places -/
def TB : List Cond := lw_tbl.filter goodWord
theorem TB_good : ∀ w ∈ TB, (w.onTables && w.keeps) = true ∨ ∃ ty, w = .arrayClass ty := fun w h => good_of_word (List.mem_filter.mp h).2
theorem TB_of {w : Cond} (h : w ∈ tables_1) (g : goodWord w = true) : w ∈ TB := List.mem_filter.mpr ⟨List.mem_append_right _ h, g⟩
theorem TB_s {w : Cond} (i : Nat) (h : (k2_sels lw_privs)[i]? = some w) (g : goodWord w = true) : w ∈ TB := List.mem_filter.mpr ⟨List.mem_append_left _ (List.mem_of_getElem? h), g⟩
theorem tm_1 {w : Cond} (i : Nat) (h : tables_1_1[i]? = some w) : w ∈ tables_1 := List.mem_append_left _ (List.mem_of_getElem? h)
theorem tb_1 {w : Cond} (i : Nat) (h : tables_1_1[i]? = some w) (g : goodWord w = true) : w ∈ TB := TB_of (tm_1 i h) g
theorem tm_2 {w : Cond} (i : Nat) (h : tables_1_2[i]? = some w) : w ∈ tables_1 := List.mem_append_right _ (List.mem_append_left _ (List.mem_of_getElem? h))
theorem tb_2 {w : Cond} (i : Nat) (h : tables_1_2[i]? = some w) (g : goodWord w = true) : w ∈ TB := TB_of (tm_2 i h) g
theorem tm_3 {w : Cond} (i : Nat) (h : tables_1_3[i]? = some w) : w ∈ tables_1 := List.mem_append_right _ (List.mem_append_right _ (List.mem_append_left _ (List.mem_of_getElem? h)))
theorem tb_3 {w : Cond} (i : Nat) (h : tables_1_3[i]? = some w) (g : goodWord w = true) : w ∈ TB := TB_of (tm_3 i h) g
theorem tm_4 {w : Cond} (i : Nat) (h : tables_1_4[i]? = some w) : w ∈ tables_1 := List.mem_append_right _ (List.mem_append_right _ (List.mem_append_right _ (List.mem_append_left _ (List.mem_of_getElem? h))))
theorem tb_4 {w : Cond} (i : Nat) (h : tables_1_4[i]? = some w) (g : goodWord w = true) : w ∈ TB := TB_of (tm_4 i h) g
theorem tm_5 {w : Cond} (i : Nat) (h : tables_1_5[i]? = some w) : w ∈ tables_1 := List.mem_append_right _ (List.mem_append_right _ (List.mem_append_right _ (List.mem_append_right _ (List.mem_append_left _ (List.mem_of_getElem? h)))))
theorem tb_5 {w : Cond} (i : Nat) (h : tables_1_5[i]? = some w) (g : goodWord w = true) : w ∈ TB := TB_of (tm_5 i h) g
theorem tm_6 {w : Cond} (i : Nat) (h : tables_1_6[i]? = some w) : w ∈ tables_1 := List.mem_append_right _ (List.mem_append_right _ (List.mem_append_right _ (List.mem_append_right _ (List.mem_append_right _ (List.mem_append_left _ (List.mem_of_getElem? h))))))
theorem tb_6 {w : Cond} (i : Nat) (h : tables_1_6[i]? = some w) (g : goodWord w = true) : w ∈ TB := TB_of (tm_6 i h) g
theorem tm_7 {w : Cond} (i : Nat) (h : tables_1_7[i]? = some w) : w ∈ tables_1 := List.mem_append_right _ (List.mem_append_right _ (List.mem_append_right _ (List.mem_append_right _ (List.mem_append_right _ (List.mem_append_right _ (List.mem_append_left _ (List.mem_of_getElem? h)))))))
theorem tb_7 {w : Cond} (i : Nat) (h : tables_1_7[i]? = some w) (g : goodWord w = true) : w ∈ TB := TB_of (tm_7 i h) g
theorem tm_8 {w : Cond} (i : Nat) (h : tables_1_8[i]? = some w) : w ∈ tables_1 := List.mem_append_right _ (List.mem_append_right _ (List.mem_append_right _ (List.mem_append_right _ (List.mem_append_right _ (List.mem_append_right _ (List.mem_append_right _ (List.mem_of_getElem? h)))))))
theorem tb_8 {w : Cond} (i : Nat) (h : tables_1_8[i]? = some w) (g : goodWord w = true) : w ∈ TB := TB_of (tm_8 i h) g
